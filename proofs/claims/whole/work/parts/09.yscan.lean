/-! N: the reference's scans -/
section AYA
variable {ky lf th tg nw st sp sg du fo sl ab ap : Int32} {pr S L : Nat} {up lo av er sn an ao sr un tx rc ak xp lg fa : ac_A}
theorem ac_128 {j : Nat} (h : j < 128) : ¬ (128 : Int32) ≤ nI j := nI_ge (b := 128) h (by decide)
theorem ay_rankl {post : Int32 → Prop} {m : Nat} (hm : m < 128) (h : post (nI (ac_rk sr un m))) : ∀ (n j r : Nat), j + n = m → r = ac_ct (ac_od sr un (sr m)) j → ∀ fu, n < fu → wY_rankOf_4 post (nI m) ky lf th tg st sp sg (nI pr) nw (nI S) (nI L) du fo sl ab ap up lo av er sn an ao sr un tx rc ak fa lg fu (nI r) (nI j) := by
  intro n
  induction n with
  | zero =>
    intro j r hn er fu hf
    obtain ⟨f, rfl⟩ : ∃ f, fu = f + 1 := ⟨fu - 1, by omega⟩
    obtain rfl : j = m := by omega
    subst er
    exact br_t (nI_le (by omega) (by omega)) h
  | succ n ih =>
    intro j r hn er fu hf
    obtain ⟨f, rfl⟩ : ∃ f, fu = f + 1 := ⟨fu - 1, by omega⟩
    have vj : vp_in (nI j) 128 := vp_in_nI (by omega) (by omega)
    have vm : vp_in (nI m) 128 := vp_in_nI (by omega) (by omega)
    refine br_f (nI_ge (by omega) (by omega)) (br_f (ac_128 (by omega)) ⟨vj, vm, ?_⟩)
    rw [nI_clamp (show j < 2 ^ 31 by omega), nI_clamp (show m < 2 ^ 31 by omega)]
    refine br_c (fun a => ⟨vj, br_c (fun b => nm_r (nI_1 r) (nm_r (nI_1 j) (ih (j + 1) (r + 1) (by omega) ?_ f (by omega)))) (fun b => nm_r (nI_1 j) (ih (j + 1) r (by omega) ?_ f (by omega)))⟩) (fun a => nm_r (nI_1 j) (ih (j + 1) r (by omega) ?_ f (by omega)))
    · rw [ac_ct_t (ac_od_t.mpr ⟨a, b⟩), er]
    · rw [ac_ct_f (ac_od_f.mpr (fun z => b z.2)), er]
    · rw [ac_ct_f (ac_od_f.mpr (fun z => a z.1)), er]
theorem ay_rank {post : Int32 → Prop} {m : Nat} (hm : m < 128) (h : post (nI (ac_rk sr un m))) : wpY_rankOf post (ky, lf, th, tg, st, sp, sg, (nI pr), nw, (nI S), (nI L), du, fo, sl, ab, ap, up, lo, av, er, sn, an, ao, sr, un, tx, rc, ak, fa, lg) (nI m) :=
  ⟨m + 1, ay_rankl hm h m 0 0 (by omega) rfl (m + 1) (by omega)⟩
theorem ay_inlogl {post : Int32 → Prop} {x : Int32} (hL : L ≤ 128) (h1 : (∃ i, i < L ∧ lg i = x) → post 1) (h0 : (¬ ∃ i, i < L ∧ lg i = x) → post 0) : ∀ (n i : Nat), i + n = L → (∀ k, k < i → ¬ lg k = x) → ∀ fu, n < fu → wY_inLog_2 post x ky lf th tg st sp sg (nI pr) nw (nI S) (nI L) du fo sl ab ap up lo av er sn an ao sr un tx rc ak fa lg fu (nI i) := by
  intro n
  induction n with
  | zero =>
    intro i hn hk fu hf
    obtain ⟨f, rfl⟩ : ∃ f, fu = f + 1 := ⟨fu - 1, by omega⟩
    refine br_t (nI_le (by omega) (by omega)) (h0 ?_)
    intro z
    obtain ⟨k, kl, ek⟩ := z
    exact hk k (by omega) ek
  | succ n ih =>
    intro i hn hk fu hf
    obtain ⟨f, rfl⟩ : ∃ f, fu = f + 1 := ⟨fu - 1, by omega⟩
    refine br_f (nI_ge (by omega) (by omega)) (br_f (ac_128 (by omega)) ⟨vp_in_nI (by omega) (by omega), ?_⟩)
    rw [nI_clamp (show i < 2 ^ 31 by omega)]
    refine br_c (fun a => h1 ⟨i, by omega, a⟩) (fun a => nm_r (nI_1 i) (ih (i + 1) (by omega) (fun k kl => ?_) f (by omega)))
    by_cases e : k = i
    · rw [e]; exact a
    · exact hk k (by omega)
theorem ay_inlog {post : Int32 → Prop} {x : Int32} (hL : L ≤ 128) (h1 : (∃ i, i < L ∧ lg i = x) → post 1) (h0 : (¬ ∃ i, i < L ∧ lg i = x) → post 0) : wpY_inLog post (ky, lf, th, tg, st, sp, sg, (nI pr), nw, (nI S), (nI L), du, fo, sl, ab, ap, up, lo, av, er, sn, an, ao, sr, un, tx, rc, ak, fa, lg) x :=
  ⟨L + 1, ay_inlogl hL h1 h0 L 0 (by omega) (fun k kl => absurd kl (by omega)) (L + 1) (by omega)⟩
theorem ay_expl {post : Int32 → Prop} {t : Int32} (hL : L ≤ 128) (hl : ∀ i, i < L → ∃ j, j < 128 ∧ lg i = nI j) (h : post (nI (ac_lc sr un lg t L))) : ∀ (n i r : Nat), i + n = L → r = ac_lc sr un lg t i → ∀ fu, n < fu → wY_expectOf_4 post t ky lf th tg st sp sg (nI pr) nw (nI S) (nI L) du fo sl ab ap up lo av er sn an ao sr un tx rc ak fa lg fu (nI r) (nI i) := by
  intro n
  induction n with
  | zero =>
    intro i r hn er fu hf
    obtain ⟨f, rfl⟩ : ∃ f, fu = f + 1 := ⟨fu - 1, by omega⟩
    obtain rfl : i = L := by omega
    subst er
    exact br_t (nI_le (by omega) (by omega)) h
  | succ n ih =>
    intro i r hn er fu hf
    obtain ⟨f, rfl⟩ : ∃ f, fu = f + 1 := ⟨fu - 1, by omega⟩
    obtain ⟨j, hj, ej⟩ := hl i (by omega)
    have vj : vp_in (nI j) 128 := vp_in_nI (by omega) (by omega)
    have ec : (lg i).toNatClampNeg = j := by rw [ej]; exact nI_clamp (by omega)
    refine br_f (nI_ge (by omega) (by omega)) (br_f (ac_128 (by omega)) ⟨vp_in_nI (by omega) (by omega), nm_r (show lg (nI i).toNatClampNeg = nI j by rw [nI_clamp (by omega)]; exact ej) ?_⟩)
    refine br_f (nI_pos (by omega)) (br_f (ac_128 hj) ⟨vj, ?_⟩)
    rw [nI_clamp (show j < 2 ^ 31 by omega)]
    refine br_c (fun a => ⟨vj, br_c (fun b => nm_r (nI_1 r) (nm_r (nI_1 i) (ih (i + 1) (r + 1) (by omega) ?_ f (by omega)))) (fun b => nm_r (nI_1 i) (ih (i + 1) r (by omega) ?_ f (by omega)))⟩) (fun a => nm_r (nI_1 i) (ih (i + 1) r (by omega) ?_ f (by omega)))
    · unfold ac_lc at er ⊢
      rw [ac_ct_t (by rw [ec]; exact ac_od_t.mpr ⟨a, b⟩), er]
    · unfold ac_lc at er ⊢
      rw [ac_ct_f (by rw [ec]; exact ac_od_f.mpr (fun z => b z.2)), er]
    · unfold ac_lc at er ⊢
      rw [ac_ct_f (by rw [ec]; exact ac_od_f.mpr (fun z => a z.1)), er]
theorem ay_exp {post : Int32 → Prop} {t : Int32} (I : ac_Inv S sr un rc xp lg L) (h : post (nI (ac_lc sr un lg t L))) : wpY_expectOf post (ky, lf, th, tg, st, sp, sg, (nI pr), nw, (nI S), (nI L), du, fo, sl, ab, ap, up, lo, av, er, sn, an, ao, sr, un, tx, rc, ak, fa, lg) t := by
  have hL := ac_Inv_L I
  have hS := I.1
  refine ⟨L + 1, ay_expl (by omega) (fun i hi => ?_) h L 0 0 (by omega) rfl (L + 1) (by omega)⟩
  obtain ⟨j, hj, e, _⟩ := I.2.2.2.1 i hi
  exact ⟨j, by omega, e⟩
theorem ay_held {post : Int32 → Prop} {m : Nat} (I : ac_Inv S sr un rc xp lg L) (hm : m < S) (h1 : ac_hl sr un rc lg L m = true → post 1) (h0 : ac_hl sr un rc lg L m = false → post 0) : wpY_isHeld post (ky, lf, th, tg, st, sp, sg, (nI pr), nw, (nI S), (nI L), du, fo, sl, ab, ap, up, lo, av, er, sn, an, ao, sr, un, tx, rc, ak, fa, lg) (nI m) := by
  have hL := ac_Inv_L I
  have hS := I.1
  have vm : vp_in (nI m) 128 := vp_in_nI (by omega) (by omega)
  unfold wpY_isHeld
  dsimp only
  rw [nI_clamp (show m < 2 ^ 31 by omega)]
  refine ⟨vm, br_c (fun a => h0 ?_) (fun a => ⟨vm, br_c (fun b => ?_) (fun b => h0 ?_)⟩)⟩
  · exact ac_bf (fun z => (ac_hl_t.mp z).1.1 a)
  · refine ay_inlog (by omega) (fun z => ?_) (fun z => ?_)
    · refine br_f (by decide) (h0 (ac_bf (fun q => ?_)))
      have d := (ac_inlog I hm).mp z
      rw [(ac_hl_t.mp q).2] at d
      exact Bool.noConfusion d
    · refine br_t rfl (h1 (ac_hl_t.mpr ⟨⟨a, b⟩, ac_bf (fun d => z ((ac_inlog I hm).mpr d))⟩))
  · exact ac_bf (fun z => b (ac_hl_t.mp z).1.2)
theorem ay_findl {post : Int32 → Prop} {s : Nat} (I : ac_Inv S sr un rc xp lg L) (h1 : ∀ k, k < S → ac_fh sr un rc lg L s k → post (nI k)) (h0 : (∀ k, k < S → ¬ ac_fh sr un rc lg L s k) → post (-1)) : ∀ (n id : Nat), id + n = S → (∀ k, k < id → ¬ ac_fh sr un rc lg L s k) → ∀ fu, n < fu → wY_findHeld_2 post (nI s) (nI (ac_lc sr un lg (nI s) L)) ky lf th tg st sp sg (nI pr) nw (nI S) (nI L) du fo sl ab ap up lo av er sn an ao sr un tx rc ak fa lg fu (nI id) := by
  have hS := I.1
  intro n
  induction n with
  | zero =>
    intro id hn hk fu hf
    obtain ⟨f, rfl⟩ : ∃ f, fu = f + 1 := ⟨fu - 1, by omega⟩
    exact br_t (nI_le (by omega) (by omega)) (h0 (fun k kl => hk k (by omega)))
  | succ n ih =>
    intro id hn hk fu hf
    obtain ⟨f, rfl⟩ : ∃ f, fu = f + 1 := ⟨fu - 1, by omega⟩
    have hid : id < S := by omega
    have nx : ¬ ac_fh sr un rc lg L s id → wY_findHeld_2 post (nI s) (nI (ac_lc sr un lg (nI s) L)) ky lf th tg st sp sg (nI pr) nw (nI S) (nI L) du fo sl ab ap up lo av er sn an ao sr un tx rc ak fa lg f (nI (id + 1)) := by
      intro z
      refine ih (id + 1) (by omega) (fun k kl => ?_) f (by omega)
      by_cases e : k = id
      · rw [e]; exact z
      · exact hk k (by omega)
    refine br_f (nI_ge (by omega) (by omega)) (br_f (ac_128 (by omega)) ⟨vp_in_nI (by omega) (by omega), ?_⟩)
    rw [nI_clamp (show id < 2 ^ 31 by omega)]
    refine br_c (fun a => ?_) (fun a => nm_r (nI_1 id) (nx (fun z => a z.1)))
    refine ay_held I hid (fun q => ?_) (fun q => ?_)
    · refine br_f (by decide) (ay_rank (by omega) ?_)
      refine br_c (fun b => h1 id hid ⟨a, q, ac_inj b (ac_bnd (t := 0) I hid).1 (ac_bnd I hid).2⟩) (fun b => nm_r (nI_1 id) (nx (fun z => b (by rw [z.2.2]))))
    · refine br_t rfl (nm_r (nI_1 id) (nx (fun z => ?_)))
      rw [z.2.1] at q
      exact Bool.noConfusion q
theorem ay_find {post : Int32 → Prop} {s : Nat} (I : ac_Inv S sr un rc xp lg L) (h1 : ∀ k, k < S → ac_fh sr un rc lg L s k → post (nI k)) (h0 : (∀ k, k < S → ¬ ac_fh sr un rc lg L s k) → post (-1)) : wpY_findHeld post (ky, lf, th, tg, st, sp, sg, (nI pr), nw, (nI S), (nI L), du, fo, sl, ab, ap, up, lo, av, er, sn, an, ao, sr, un, tx, rc, ak, fa, lg) (nI s) (nI (ac_lc sr un lg (nI s) L)) :=
  ⟨S + 1, ay_findl I h1 h0 S 0 (by omega) (fun k kl => absurd kl (by omega)) (S + 1) (by omega)⟩
theorem ay_app {post : SY → Prop} {x : Int32} (hL : L < 128) (h : post (ky, lf, th, tg, st, sp, sg, (nI pr), nw, (nI S), (nI (L + 1)), du, fo, sl, ab, (ap + 1), up, lo, av, er, sn, an, ao, sr, un, tx, rc, ak, fa, (upd lg L x))) : wpY_append post (ky, lf, th, tg, st, sp, sg, (nI pr), nw, (nI S), (nI L), du, fo, sl, ab, ap, up, lo, av, er, sn, an, ao, sr, un, tx, rc, ak, fa, lg) x := by
  unfold wpY_append
  simp only [nI_clamp (show L < 2 ^ 31 by omega), forall_eq, nI_1]
  exact br_f (ac_128 hL) ⟨vp_in_nI hL (by omega), h⟩
theorem ac_apn {a0 : Int32} : nI L - a0 + 1 = nI (L + 1) - a0 := by
  rw [← nI_1, Int32.sub_eq_add_neg, Int32.sub_eq_add_neg, Int32.add_assoc, Int32.add_assoc, Int32.add_comm (-a0)]
theorem ay_app' {post : SY → Prop} {x a0 : Int32} (hL : L < 128) (h : post (ky, lf, th, tg, st, sp, sg, (nI pr), nw, (nI S), (nI (L + 1)), du, fo, sl, ab, (nI (L + 1) - a0), up, lo, av, er, sn, an, ao, sr, un, tx, rc, ak, fa, (upd lg L x))) : wpY_append post (ky, lf, th, tg, st, sp, sg, (nI pr), nw, (nI S), (nI L), du, fo, sl, ab, (nI L - a0), up, lo, av, er, sn, an, ao, sr, un, tx, rc, ak, fa, lg) x := by
  refine ay_app hL ?_
  rw [ac_apn]
  exact h
theorem ay_p77 {post : SY → Prop} {s : Nat} {a0 : Int32} (hs : s < 8) : ∀ (n id : Nat) (xp lg : ac_A) (L k : Nat), id + n = S → ac_Inv S sr un rc xp lg L → ac_lc sr un lg (nI s) L = ac_ct (ac_od sr un (nI s)) id → k + 1 ≤ L → ∀ fu, 128 - k < fu → post (ky, lf, th, tg, st, sp, sg, (nI pr), nw, (nI S), (nI (ac_dv sr un rc s n id (xp, lg, L)).2.2), du, fo, sl, ab, (nI (ac_dv sr un rc s n id (xp, lg, L)).2.2 - a0), up, lo, av, er, sn, an, ao, sr, un, tx, rc, ak, fa, ((ac_dv sr un rc s n id (xp, lg, L)).2.1)) → wY_process_77 post (nI s) fu (nI k) ky lf th tg st sp sg (nI pr) nw (nI S) (nI L) du fo sl ab (nI L - a0) up lo av er sn an ao sr un tx rc ak fa lg := by
  intro n
  induction n with
  | zero =>
    intro id xp lg L k hn I e hk fu hf h
    have hL := ac_Inv_L I
    have hS := I.1
    obtain ⟨f, rfl⟩ : ∃ f, fu = f + 1 := ⟨fu - 1, by omega⟩
    obtain rfl : id = S := by omega
    refine br_f (ac_128 (by omega)) ?_
    refine ay_exp I ?_
    refine ay_find I (fun j hj z => absurd z (ac_fh_end (rc := rc) (xp := xp) e j hj)) (fun _ => ?_)
    exact br_f (by decide) h
  | succ n ih =>
    intro id xp lg L k hn I e hk fu hf h
    have hL := ac_Inv_L I
    have hS := I.1
    rw [ac_dv_s] at h
    by_cases o : ac_od sr un (nI s) id = true
    · rw [if_pos o] at h
      obtain ⟨f, rfl⟩ : ∃ f, fu = f + 1 := ⟨fu - 1, by omega⟩
      refine br_f (ac_128 (by omega)) ?_
      refine ay_exp I ?_
      by_cases r : rc id = 0
      · rw [if_pos r] at h
        refine ay_find I (fun j hj z => absurd z (ac_fh_no o r e j)) (fun _ => ?_)
        exact br_f (by decide) h
      · rw [if_neg r] at h
        have y := (ac_fh_yes o r e).1
        have d := (ac_hl_t.mp y.2.1).2
        have hLS := ac_L_lt I (show id < S by omega) d
        have w := ac_dv_step hs I (by omega) o r e
        have o' := ac_od_t.mp o
        refine ay_find I (fun j hj z => ?_) (fun z => absurd y (z id (by omega)))
        obtain rfl : j = id := ac_fh_uq z o'.1 o'.2 y.2.2
        refine br_t (nI_pos' (by omega)) (ay_app' (by omega) ?_)
        dsimp only
        exact nm_r (nI_1 k) (ih (j + 1) _ _ _ (k + 1) (by omega) w.1 w.2 (by omega) f (by omega) h)
    · rw [if_neg o] at h
      exact ih (id + 1) xp lg L k (by omega) I (by rw [e, ac_ct_f (ac_bf o)]) hk fu hf h
theorem ay_pc {post : SY → Prop} {m : Nat} {a0 : Int32} (hm : m < S) (I : ac_PI S sr un (rc, xp, lg, L, du)) (h : post (ky, lf, th, tg, st, sp, sg, (nI pr), nw, (nI S), (nI (ac_pc S sr un m (rc, xp, lg, L, du)).2.2.2.1), ((ac_pc S sr un m (rc, xp, lg, L, du)).2.2.2.2), fo, sl, ab, (nI (ac_pc S sr un m (rc, xp, lg, L, du)).2.2.2.1 - a0), up, lo, av, er, sn, an, ao, sr, un, tx, ((ac_pc S sr un m (rc, xp, lg, L, du)).1), ak, fa, ((ac_pc S sr un m (rc, xp, lg, L, du)).2.2.1))) : wpY_process post (ky, lf, th, tg, st, sp, sg, (nI pr), nw, (nI S), (nI L), du, fo, sl, ab, (nI L - a0), up, lo, av, er, sn, an, ao, sr, un, tx, rc, ak, fa, lg) (nI m) := by
  have J : ac_Inv S sr un rc xp lg L := I.1
  have hS := J.1
  have hm' : vp_in (nI m) 128 := vp_in_nI (by omega) (by omega)
  have e1 : (nI m).toNatClampNeg = m := nI_clamp (by omega)
  obtain ⟨s, hs, es, ec, ex⟩ := ac_xpe J hm
  have bb := ac_bnd (t := sr m) J hm
  unfold wpY_process
  simp only [e1, ac_vb1, forall_eq]
  refine ⟨hm', br_c (fun a => ⟨hm', hm', hm', br_c (fun b => ?_) (fun b => ?_)⟩) (fun a => ?_)⟩
  · refine ay_rank (by omega) ?_
    refine ay_exp (ac_rcv J hm b) ?_
    refine br_c (fun d => ?_) (fun d => ?_)
    · have e : ac_rk sr un m = ac_lc sr un lg (sr m) L := ac_inj d bb.1 bb.2
      simp only [ac_pc, if_pos a, if_pos b, if_pos e, ec] at h
      have e2 : ac_lc sr un lg (nI s) L = ac_ct (ac_od sr un (nI s)) m := by
        rw [es] at e
        rw [← e]
        unfold ac_rk
        rw [es]
      have o : ac_od sr un (nI s) m = true := ac_od_t.mpr ⟨es, b⟩
      have r1 : ¬ upd rc m 1 m = 0 := by rw [pk_us]; decide
      have d2 := (ac_hl_t.mp (ac_fh_yes (rc := upd rc m 1) o r1 e2).1.2.1).2
      have hLS := ac_L_lt (ac_rcv J hm b) hm d2
      have w := ac_dv_step hs (ac_rcv J hm b) hm o r1 e2
      obtain ⟨q, hq⟩ : ∃ q, S - m = q + 1 := ⟨S - m - 1, by omega⟩
      rw [hq, ac_dv_s, if_pos o, if_neg r1] at h
      refine ay_app' (by omega) ?_
      rw [es]
      exact ⟨129, ay_p77 hs q (m + 1) _ _ _ 0 (by omega) w.1 w.2 (by omega) 129 (by omega) h⟩
    · have e : ¬ ac_rk sr un m = ac_lc sr un lg (sr m) L := fun e => d (by rw [e])
      simp only [ac_pc, if_pos a, if_pos b, if_neg e] at h
      exact h
  · simp only [ac_pc, if_pos a, if_neg b] at h
    have := ac_L_lt J hm (ac_bf (fun z => (ac_dl_u b).mp z a))
    exact ay_app' (by omega) h
  · simp only [ac_pc, if_neg a] at h
    exact h
end AYA
