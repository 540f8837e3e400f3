/-! T: the law's check of one state -/
section ATA
variable {ky lf th tg nw st sp sg du fo sl ab : Int32} {pr S L c : Nat} {up lo av er sn an ao sr un rk tx rc ak nr xp lg xa : ac_A} {R : Nat} {a b : Int32}
variable {post : Int32 → Prop}
theorem ax_c0 (h : post nw) : wpX_counter post (ky, lf, th, tg, nw, st, sp, sg, (nI pr), (nI S), (nI L), (nI c), du, fo, sl, ab, up, lo, av, er, sn, an, ao, sr, un, rk, tx, rc, ak, nr, xp, lg, xa) 0 := br_f (by decide) (br_f (by decide) (br_t rfl h))
theorem ax_c1 (h : post (nI S)) : wpX_counter post (ky, lf, th, tg, nw, st, sp, sg, (nI pr), (nI S), (nI L), (nI c), du, fo, sl, ab, up, lo, av, er, sn, an, ao, sr, un, rk, tx, rc, ak, nr, xp, lg, xa) 1 := br_f (by decide) (br_f (by decide) (br_f (by decide) (br_t rfl h)))
theorem ax_c2 (hS : S ≤ 128) (h : post (nI (ac_ct (ac_ua ak) S))) : wpX_counter post (ky, lf, th, tg, nw, st, sp, sg, (nI pr), (nI S), (nI L), (nI c), du, fo, sl, ab, up, lo, av, er, sn, an, ao, sr, un, rk, tx, rc, ak, nr, xp, lg, xa) 2 := br_f (by decide) (br_f (by decide) (br_f (by decide) (br_f (by decide) (br_t rfl (ax_cu hS h)))))
theorem ax_c3 (h : post (nI L)) : wpX_counter post (ky, lf, th, tg, nw, st, sp, sg, (nI pr), (nI S), (nI L), (nI c), du, fo, sl, ab, up, lo, av, er, sn, an, ao, sr, un, rk, tx, rc, ak, nr, xp, lg, xa) 3 := br_f (by decide) (br_f (by decide) (br_f (by decide) (br_f (by decide) (br_f (by decide) (br_t rfl h)))))
theorem ax_c4 (I : ac_Inv S sr un rc xp lg L) (hrk : ac_RK S sr un rk) (h : post (nI (ac_ct (ac_hl sr un rc lg L) S))) : wpX_counter post (ky, lf, th, tg, nw, st, sp, sg, (nI pr), (nI S), (nI L), (nI c), du, fo, sl, ab, up, lo, av, er, sn, an, ao, sr, un, rk, tx, rc, ak, nr, xp, lg, xa) 4 := br_f (by decide) (br_f (by decide) (br_f (by decide) (br_f (by decide) (br_f (by decide) (br_f (by decide) (br_t rfl (ax_chd I hrk h)))))))
theorem ax_del {i : Nat} (hi : i < L) (hL : L ≤ 128) (h : post (lg i)) : wpX_deliveredAt post (ky, lf, th, tg, nw, st, sp, sg, (nI pr), (nI S), (nI L), (nI c), du, fo, sl, ab, up, lo, av, er, sn, an, ao, sr, un, rk, tx, rc, ak, nr, xp, lg, xa) (nI i) := by
  refine br_f (nI_pos (by omega)) (br_f (nI_ge hi (by omega)) ⟨vp_in_nI (by omega) (by omega), ?_⟩)
  rw [nI_clamp (show i < 2 ^ 31 by omega)]
  exact h
theorem ax_txs {j : Nat} (hj : j < S) (hS : S ≤ 128) (h : post (tx j)) : wpX_transmissions post (ky, lf, th, tg, nw, st, sp, sg, (nI pr), (nI S), (nI L), (nI c), du, fo, sl, ab, up, lo, av, er, sn, an, ao, sr, un, rk, tx, rc, ak, nr, xp, lg, xa) (nI j) := by
  unfold wpX_transmissions
  dsimp only
  refine ax_msg hS (fun _ _ _ => br_f (by decide) ⟨vp_in_nI (by omega) (by omega), ?_⟩) (fun z => ?_)
  · rw [nI_clamp (show j < 2 ^ 31 by omega)]
    exact h
  · cases z with
    | inl z => exact absurd z (nI_pos (by omega))
    | inr z => exact absurd z.2 (nI_ge hj (by omega))
theorem ax_isk {j : Nat} (hj : j < S) (hS : S ≤ 128) (h0 : ak j = 0 → post 0) (h1 : ¬ ak j = 0 → post 1) : wpX_isAcked post (ky, lf, th, tg, nw, st, sp, sg, (nI pr), (nI S), (nI L), (nI c), du, fo, sl, ab, up, lo, av, er, sn, an, ao, sr, un, rk, tx, rc, ak, nr, xp, lg, xa) (nI j) := by
  unfold wpX_isAcked
  dsimp only
  refine ax_msg hS (fun _ _ _ => br_f (by decide) ⟨vp_in_nI (by omega) (by omega), ?_⟩) (fun z => ?_)
  · rw [nI_clamp (show j < 2 ^ 31 by omega)]
    exact br_c h0 h1
  · cases z with
    | inl z => exact absurd z (nI_pos (by omega))
    | inr z => exact absurd z.2 (nI_ge hj (by omega))
theorem al_89 {J : Int32 → Prop} {x1 x2 x3 x4 x5 x6 y : Int32} {i : Nat} (hL : L ≤ 128) (hi : i < L) (hd : ∀ k, k < i → ¬ lg k = y) (h : J (nI (i + 1))) : ∀ (n k : Nat), k + n = i → ∀ fu, n < fu → wL_ok_89 post J x1 x2 x3 x4 x5 x6 (nI i) y ky lf th tg nw st sp sg (nI pr) (nI S) (nI L) (nI c) du fo sl ab up lo av er sn an ao sr un rk tx rc ak nr xp lg xa fu (nI k) := by
  intro n
  induction n with
  | zero =>
    intro k hn fu hf
    obtain ⟨f, rfl⟩ : ∃ f, fu = f + 1 := ⟨fu - 1, by omega⟩
    exact br_t (nI_le (by omega) (by omega)) (nm_r (nI_1 i) h)
  | succ n ih =>
    intro k hn fu hf
    obtain ⟨f, rfl⟩ : ∃ f, fu = f + 1 := ⟨fu - 1, by omega⟩
    refine br_f (nI_ge (by omega) (by omega)) (ax_del (show k < L by omega) hL ?_)
    exact br_f (hd k (by omega)) (nm_r (nI_1 k) (ih (k + 1) (by omega) f (by omega)))
theorem al_46 {x6 : Int32} (F : ac_F R a b S sr un rk nr (nw, st, sp, sg, pr, sl, ab, lo, av, er, tx, ak, rc, xp, lg, L, du) sn an ao) (hR : R < 1000) (hH : L + ac_ct (ac_hl sr un rc lg L) S ≤ S) (h : ∃ q, wL_ok_138 post a b (nI S) (nI L) (nI (ac_ct (ac_hl sr un rc lg L) S)) x6 ky lf th tg nw st sp sg (nI pr) (nI S) (nI L) (nI c) du fo sl ab up lo av er sn an ao sr un rk tx rc ak nr xp lg xa q 0 0) : ∀ (n i : Nat), i + n = L → ∀ fu, n < fu → wL_ok_46 post a b (nI S) (nI L) (nI (ac_ct (ac_hl sr un rc lg L) S)) x6 ky lf th tg nw st sp sg (nI pr) (nI S) (nI L) (nI c) du fo sl ab up lo av er sn an ao sr un rk tx rc ak nr xp lg xa fu (nI i) := by
  have I : ac_Inv S sr un rc xp lg L := F.1.2.2.1.1
  have H : ac_H2 R (nw, st, sp, sg, pr, sl, ab, lo, av, er, tx, ak, rc, xp, lg, L, du) := F.2.2.2.2.1
  have hS := I.1
  have hL := ac_Inv_L I
  intro n
  induction n with
  | zero =>
    intro i hn fu hf
    obtain ⟨f, rfl⟩ : ∃ f, fu = f + 1 := ⟨fu - 1, by omega⟩
    refine br_t (nI_le (by omega) (by omega)) (br_t ?_ h)
    rw [nI_add]
    exact nI_le hH (by omega)
  | succ n ih =>
    intro i hn fu hf
    obtain ⟨f, rfl⟩ : ∃ f, fu = f + 1 := ⟨fu - 1, by omega⟩
    obtain ⟨j, hj, ej, dj⟩ := I.2.2.2.1 i (by omega)
    refine br_f (nI_ge (by omega) (by omega)) (ax_del (show i < L by omega) (by omega) ?_)
    rw [ej]
    refine br_f (nI_pos (by omega)) (br_t (nI_lt hj (by omega)) (ax_txs hj hS (br_t ?_ ⟨i + 1, ?_⟩)))
    · obtain ⟨t, t1, t2, t3⟩ := H.2 j
      rw [t2]
      exact nI_le (a := 1) (t3 (I.2.2.2.2.2.2.2.2.1 j hj dj)) (by omega)
    · refine al_89 (by omega) (show i < L by omega) (fun k hk z => ?_) (ih (i + 1) (by omega) f (by omega)) i 0 (by omega) (i + 1) (by omega)
      have := I.2.2.2.2.2.2.2.2.2.2 k i (by omega) (by omega) (z.trans ej.symm)
      omega
theorem al_138 (hS : S ≤ 128) {H : Nat} (hL : L ≤ 128) (hH : H ≤ 128) (hA : ac_ct (ac_fl ak) S ≤ L + H) (h : ∃ q, wL_ok_188 post a b (nI S) (nI L) ky lf th tg nw st sp sg (nI pr) (nI S) (nI L) (nI c) du fo sl ab up lo av er sn an ao sr un rk tx rc ak nr xp lg xa q 0) : ∀ (n id r : Nat), id + n = S → r = ac_ct (ac_fl ak) id → ∀ fu, n < fu → wL_ok_138 post a b (nI S) (nI L) (nI H) (nI (ac_ct (ac_ua ak) S)) ky lf th tg nw st sp sg (nI pr) (nI S) (nI L) (nI c) du fo sl ab up lo av er sn an ao sr un rk tx rc ak nr xp lg xa fu (nI r) (nI id) := by
  have e : ac_ct (ac_fl ak) S + ac_ct (ac_ua ak) S = S := ac_ct_not S (fun j _ => ⟨fun z f => ac_fl_t.mp f (ac_ua_t.mp z), fun z => ac_ua_t.mpr (by
    by_cases q : ak j = 0
    · exact q
    · exact absurd (ac_fl_t.mpr q) z)⟩)
  intro n
  induction n with
  | zero =>
    intro id r hn eq fu hf
    obtain ⟨f, rfl⟩ : ∃ f, fu = f + 1 := ⟨fu - 1, by omega⟩
    obtain rfl : id = S := by omega
    subst eq
    refine br_t (nI_le (by omega) (by omega)) (br_t ?_ (br_t ?_ h))
    · rw [nI_add]
      exact nI_le hA (by omega)
    · rw [pk_sub (by omega)]
      exact congrArg nI (by omega)
  | succ n ih =>
    intro id r hn eq fu hf
    obtain ⟨f, rfl⟩ : ∃ f, fu = f + 1 := ⟨fu - 1, by omega⟩
    refine br_f (nI_ge (by omega) (by omega)) (ax_isk (show id < S by omega) hS (fun z => br_t rfl (nm_r (nI_1 id) (ih (id + 1) r (by omega) ?_ f (by omega)))) (fun z => br_f (by decide) (nm_r (nI_1 r) (nm_r (nI_1 id) (ih (id + 1) (r + 1) (by omega) ?_ f (by omega))))))
    · rw [ac_ct_f (ac_fl_z z), eq]
    · rw [ac_ct_t (ac_fl_t.mpr z), eq]
theorem al_244 {J : Int32 → Prop} {K : Int32 → Int32 → Prop} {x4 : Int32} {i j s : Nat} (hS : S ≤ 128) (B : ∀ j, j < S → sr j = ac_hS a b (nI j) ∧ un j = ac_hU a b (nI j)) (hj : j < S) (sj : sr j = nI s) (uj : un j = 0) (h : K (nI j) (nI (i + 1))) : ∀ (n q : Nat), q + n = j → ac_ct (ac_od sr un (nI s)) q = ac_ct (ac_od sr un (nI s)) j → ∀ fu, n < fu → wL_ok_244 post J K a b (nI S) x4 (nI s) (nI i) (nI j) ky lf th tg nw st sp sg (nI pr) (nI S) (nI L) (nI c) du fo sl ab up lo av er sn an ao sr un rk tx rc ak nr xp lg xa fu (nI q) := by
  intro n
  induction n with
  | zero =>
    intro q hn eq fu hf
    obtain ⟨f, rfl⟩ : ∃ f, fu = f + 1 := ⟨fu - 1, by omega⟩
    obtain rfl : q = j := by omega
    refine br_f (nI_ge hj (by omega)) (al_un (br_t ((B q hj).2.symm.trans uj) (al_st (br_t ((B q hj).1.symm.trans sj) (br_t rfl (nm_r (nI_1 i) h))))))
  | succ n ih =>
    intro q hn eq fu hf
    obtain ⟨f, rfl⟩ : ∃ f, fu = f + 1 := ⟨fu - 1, by omega⟩
    have hq : q < S := by omega
    have no : ac_od sr un (nI s) q = false := by
      apply ac_bf
      intro z
      have := ac_ct_lt (ac_od sr un (nI s)) (show q < j by omega) z
      omega
    have nx := ih (q + 1) (by omega) (by rw [ac_ct_f no]; exact eq) f (by omega)
    refine br_f (nI_ge hq (by omega)) (al_un (br_c (fun z => al_st (br_c (fun w => ?_) (fun w => nm_r (nI_1 q) nx))) (fun z => nm_r (nI_1 q) nx)))
    exfalso
    rw [ac_od_t.mpr ⟨(B q hq).1.trans w, (B q hq).2.trans z⟩] at no
    exact Bool.noConfusion no
theorem al_201 {J : Int32 → Prop} {s : Nat} (F : ac_F R a b S sr un rk nr (nw, st, sp, sg, pr, sl, ab, lo, av, er, tx, ak, rc, xp, lg, L, du) sn an ao) (h : J (nI (s + 1))) : ∀ (n i q : Nat) (x9 : Int32), i + n = L → x9 + 1 = nI q → ac_ct (ac_od sr un (nI s)) q = ac_lc sr un lg (nI s) i → ∀ fu, n < fu → wL_ok_201 post J a b (nI S) (nI L) (nI s) ky lf th tg nw st sp sg (nI pr) (nI S) (nI L) (nI c) du fo sl ab up lo av er sn an ao sr un rk tx rc ak nr xp lg xa fu x9 (nI i) := by
  have I : ac_Inv S sr un rc xp lg L := F.1.2.2.1.1
  have B : ∀ j, j < S → sr j = ac_hS a b (nI j) ∧ un j = ac_hU a b (nI j) := F.2.2.2.2.2
  have hS := I.1
  have hL := ac_Inv_L I
  intro n
  induction n with
  | zero =>
    intro i q x9 hn e9 eq fu hf
    obtain ⟨f, rfl⟩ : ∃ f, fu = f + 1 := ⟨fu - 1, by omega⟩
    exact br_t (nI_le (by omega) (by omega)) (nm_r (nI_1 s) h)
  | succ n ih =>
    intro i q x9 hn e9 eq fu hf
    obtain ⟨f, rfl⟩ : ∃ f, fu = f + 1 := ⟨fu - 1, by omega⟩
    obtain ⟨j, hj, ej, dj⟩ := I.2.2.2.1 i (by omega)
    have ec : (lg i).toNatClampNeg = j := by rw [ej]; exact nI_clamp (by omega)
    have skip : ¬ (sr j = nI s ∧ un j = 0) → wL_ok_201 post J a b (nI S) (nI L) (nI s) ky lf th tg nw st sp sg (nI pr) (nI S) (nI L) (nI c) du fo sl ab up lo av er sn an ao sr un rk tx rc ak nr xp lg xa f x9 (nI (i + 1)) := by
      intro z
      refine ih (i + 1) q x9 (by omega) e9 ?_ f (by omega)
      rw [eq]
      unfold ac_lc
      rw [ac_ct_f (by rw [ec]; exact ac_od_f.mpr z)]
    refine br_f (nI_ge (by omega) (by omega)) (ax_del (show i < L by omega) (by omega) ?_)
    rw [ej]
    refine al_un (br_c (fun z => al_st (br_c (fun w => ?_) (fun w => nm_r (nI_1 i) (skip (fun y => w ((B j hj).1.symm.trans y.1)))))) (fun z => nm_r (nI_1 i) (skip (fun y => z ((B j hj).2.symm.trans y.2)))))
    have sj : sr j = nI s := (B j hj).1.trans w
    have uj : un j = 0 := (B j hj).2.trans z
    have oj := ac_od_t.mpr ⟨sj, uj⟩
    have rj := I.2.2.2.2.2.2.2.2.2.1 i j (by omega) ej hj uj
    unfold ac_rk at rj
    rw [sj] at rj
    have qj : q ≤ j := by
      by_cases z2 : j < q
      · have := ac_ct_lt (ac_od sr un (nI s)) z2 oj
        omega
      · omega
    refine nm_r e9 ⟨j - q + 1, al_244 hS B hj sj uj ?_ (j - q) q (by omega) (by rw [eq, rj]) (j - q + 1) (by omega)⟩
    refine ih (i + 1) (j + 1) (nI j) (by omega) (nI_1 j) ?_ f (by omega)
    rw [ac_ct_t oj, rj]
    unfold ac_lc
    rw [ac_ct_t (by rw [ec]; exact oj)]
theorem al_188 (F : ac_F R a b S sr un rk nr (nw, st, sp, sg, pr, sl, ab, lo, av, er, tx, ak, rc, xp, lg, L, du) sn an ao) (h : post 1) : ∀ (n s : Nat), s + n = 8 → ∀ fu, n < fu → wL_ok_188 post a b (nI S) (nI L) ky lf th tg nw st sp sg (nI pr) (nI S) (nI L) (nI c) du fo sl ab up lo av er sn an ao sr un rk tx rc ak nr xp lg xa fu (nI s) := by
  intro n
  induction n with
  | zero =>
    intro s hn fu hf
    obtain ⟨f, rfl⟩ : ∃ f, fu = f + 1 := ⟨fu - 1, by omega⟩
    exact br_t (nI_le (a := 8) (by omega) (by omega)) h
  | succ n ih =>
    intro s hn fu hf
    obtain ⟨f, rfl⟩ : ∃ f, fu = f + 1 := ⟨fu - 1, by omega⟩
    exact br_f (nI_ge (b := 8) (by omega) (by omega)) ⟨L + 1, al_201 F (ih (s + 1) (by omega) f (by omega)) L 0 0 (-1) (by omega) (by decide) rfl (L + 1) (by omega)⟩
theorem al_ok (F : ac_F R a b S sr un rk nr (nw, st, sp, sg, pr, sl, ab, lo, av, er, tx, ak, rc, xp, lg, L, du) sn an ao) (hR : R < 1000) (h : post 1) : wpL_ok post (ky, lf, th, tg, nw, st, sp, sg, (nI pr), (nI S), (nI L), (nI c), du, fo, sl, ab, up, lo, av, er, sn, an, ao, sr, un, rk, tx, rc, ak, nr, xp, lg, xa) a b := by
  have I : ac_Inv S sr un rc xp lg L := F.1.2.2.1.1
  have H : ac_H2 R (nw, st, sp, sg, pr, sl, ab, lo, av, er, tx, ak, rc, xp, lg, L, du) := F.2.2.2.2.1
  have hS := I.1
  have hL := ac_Inv_L I
  have hd : ac_ct (ac_dl sr un rc lg L) S + ac_ct (ac_hl sr un rc lg L) S ≤ S := ac_ct_dis S (fun j _ d q => by
    rw [(ac_hl_t.mp q).2] at d
    exact Bool.noConfusion d)
  have ha : ac_ct (ac_fl ak) S ≤ ac_ct (ac_dl sr un rc lg L) S + ac_ct (ac_hl sr un rc lg L) S := ac_ct_or S (fun j _ z => by
    have r := H.1 j (ac_fl_t.mp z)
    by_cases d : ac_dl sr un rc lg L j = true
    · exact Or.inl d
    · by_cases u : un j = 0
      · exact Or.inr (ac_hl_t.mpr ⟨⟨r, u⟩, ac_bf d⟩)
      · exact absurd ((ac_dl_u u).mpr r) d)
  rw [← I.2.2.2.2.2.1] at hd ha
  unfold wpL_ok
  dsimp only
  refine ax_c1 ?_
  refine ax_c3 ?_
  refine ax_c4 I F.2.1 ?_
  refine ax_c2 hS ?_
  refine br_f (nI_pos (by omega)) (br_f (nI_pos (by omega)) (br_t (nI_pos' (by omega)) ⟨L + 1, al_46 F hR hd ⟨S + 1, al_138 hS (by omega) (by omega) ha ⟨9, al_188 F h 8 0 (by omega) 9 (by omega)⟩ S 0 0 (by omega) rfl (S + 1) (by omega)⟩ L 0 (by omega) (L + 1) (by omega)⟩))
end ATA
