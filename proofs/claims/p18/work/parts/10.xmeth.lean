/-! S: the class's other methods -/
section ASA
variable {ky lf th tg nw st sp sg du fo sl ab : Int32} {pr S L c : Nat} {up lo av er sn an ao sr un rk tx rc ak nr xp lg xa : ac_A} {R : Nat} {a b : Int32}
theorem ax_path {post : Int32 → Prop} {v : Int32} (h1 : ∀ j, j < 2 → v = nI j → post 1) (h0 : ¬ v = 0 → ¬ v = 1 → post 0) : wpX_isPath post () v := by
  rcases pk_ix v (n := 2) (by omega) with h | h | ⟨j, hj, e⟩
  · refine br_t h (h0 (fun e => ?_) (fun e => ?_))
    · rw [e] at h; exact absurd h (by decide)
    · rw [e] at h; exact absurd h (by decide)
  · refine br_f (fun z => ?_) (br_t h (h0 (fun e => ?_) (fun e => ?_)))
    · exact absurd (Int32.lt_of_lt_of_le z (Int32.le_trans (by decide) h)) Int32.lt_irrefl
    · rw [e] at h; exact absurd h (by decide)
    · rw [e] at h; exact absurd h (by decide)
  · rw [e]
    exact br_f (nI_pos (by omega)) (br_f (ac_p2n hj) (h1 j hj e))
theorem ax_msg {post : Int32 → Prop} {v : Int32} (hS : S ≤ 128) (h1 : ∀ j, j < S → v = nI j → post 1) (h0 : v < 0 ∨ (¬ v < 0 ∧ nI S ≤ v) → post 0) : wpX_isMessage post (ky, lf, th, tg, nw, st, sp, sg, (nI pr), (nI S), (nI L), (nI c), du, fo, sl, ab, up, lo, av, er, sn, an, ao, sr, un, rk, tx, rc, ak, nr, xp, lg, xa) v := by
  rcases pk_ix v (n := S) (by omega) with h | h | ⟨j, hj, e⟩
  · exact br_t h (h0 (Or.inl h))
  · have hn : ¬ v < 0 := fun z => absurd (Int32.lt_of_lt_of_le z (Int32.le_trans (nI_pos' (by omega)) h)) Int32.lt_irrefl
    exact br_f hn (br_t h (h0 (Or.inr ⟨hn, h⟩)))
  · rw [e]
    exact br_f (nI_pos (by omega)) (br_f (nI_ge hj (by omega)) (h1 j hj e))
theorem ac_lt128 {j : Nat} (h : j < 128) : nI j < (128 : Int32) := nI_lt (b := 128) h (by decide)
def ac_ua (ak : ac_A) (j : Nat) : Bool := decide (ak j = 0)
theorem ac_ua_t {j : Nat} : ac_ua ak j = true ↔ ak j = 0 := decide_eq_true_iff
theorem ax_cul {post : Int32 → Prop} (hS : S ≤ 128) (h : post (nI (ac_ct (ac_ua ak) S))) : ∀ (n id r : Nat), id + n = S → r = ac_ct (ac_ua ak) id → ∀ fu, n < fu → wX_countUnacked_4 post ky lf th tg nw st sp sg (nI pr) (nI S) (nI L) (nI c) du fo sl ab up lo av er sn an ao sr un rk tx rc ak nr xp lg xa fu (nI r) (nI id) := by
  intro n
  induction n with
  | zero =>
    intro id r hn eq fu hf
    obtain ⟨f, rfl⟩ : ∃ f, fu = f + 1 := ⟨fu - 1, by omega⟩
    obtain rfl : id = S := by omega
    subst eq
    exact br_t (nI_le (by omega) (by omega)) h
  | succ n ih =>
    intro id r hn eq fu hf
    obtain ⟨f, rfl⟩ : ∃ f, fu = f + 1 := ⟨fu - 1, by omega⟩
    refine br_f (nI_ge (by omega) (by omega)) ⟨vp_in_nI (by omega) (by omega), ?_⟩
    rw [nI_clamp (show id < 2 ^ 31 by omega)]
    refine br_c (fun a => nm_r (nI_1 r) (nm_r (nI_1 id) (ih (id + 1) (r + 1) (by omega) ?_ f (by omega)))) (fun a => nm_r (nI_1 id) (ih (id + 1) r (by omega) ?_ f (by omega)))
    · rw [ac_ct_t (ac_ua_t.mpr a), eq]
    · rw [ac_ct_f (ac_bf (fun z => a (ac_ua_t.mp z))), eq]
theorem ax_cu {post : Int32 → Prop} (hS : S ≤ 128) (h : post (nI (ac_ct (ac_ua ak) S))) : wpX_countUnacked post (ky, lf, th, tg, nw, st, sp, sg, (nI pr), (nI S), (nI L), (nI c), du, fo, sl, ab, up, lo, av, er, sn, an, ao, sr, un, rk, tx, rc, ak, nr, xp, lg, xa) :=
  ⟨S + 1, ax_cul hS h S 0 0 (by omega) rfl (S + 1) (by omega)⟩
theorem ax_chl {post : Int32 → Prop} (I : ac_Inv S sr un rc xp lg L) (hrk : ac_RK S sr un rk) (h : post (nI (ac_ct (ac_hl sr un rc lg L) S))) : ∀ (n id r : Nat), id + n = S → r = ac_ct (ac_hl sr un rc lg L) id → ∀ fu, n < fu → wX_countHeld_4 post ky lf th tg nw st sp sg (nI pr) (nI S) (nI L) (nI c) du fo sl ab up lo av er sn an ao sr un rk tx rc ak nr xp lg xa fu (nI r) (nI id) := by
  have hS := I.1
  intro n
  induction n with
  | zero =>
    intro id r hn eq fu hf
    obtain ⟨f, rfl⟩ : ∃ f, fu = f + 1 := ⟨fu - 1, by omega⟩
    obtain rfl : id = S := by omega
    subst eq
    exact br_t (nI_le (by omega) (by omega)) h
  | succ n ih =>
    intro id r hn eq fu hf
    obtain ⟨f, rfl⟩ : ∃ f, fu = f + 1 := ⟨fu - 1, by omega⟩
    have hid : id < S := by omega
    have hv : vp_in (nI id) 128 := vp_in_nI (by omega) (by omega)
    obtain ⟨s, hs, es, ec, ex⟩ := ac_xpe I hid
    have hsv : vp_in (sr id) 8 := by rw [es]; exact vp_in_nI hs (by omega)
    have bb := ac_bnd (t := sr id) I hid
    refine br_f (nI_ge (by omega) (by omega)) ⟨hv, ?_⟩
    rw [nI_clamp (show id < 2 ^ 31 by omega)]
    have no : ac_hl sr un rc lg L id = false → wX_countHeld_4 post ky lf th tg nw st sp sg (nI pr) (nI S) (nI L) (nI c) du fo sl ab up lo av er sn an ao sr un rk tx rc ak nr xp lg xa f (nI r) (nI (id + 1)) := fun z => ih (id + 1) r (by omega) (by rw [ac_ct_f z, eq]) f (by omega)
    refine br_c (fun a => nm_r (nI_1 id) (no (ac_bf (fun z => (ac_hl_t.mp z).1.1 a)))) (fun a => ⟨hv, br_c (fun b => ⟨hv, hv, hsv, ?_⟩) (fun b => nm_r (nI_1 id) (no (ac_bf (fun z => b (ac_hl_t.mp z).1.2))))⟩)
    rw [hrk id hid b, ec, ex, nI_ltI bb.1 bb.2]
    refine br_c (fun d => nm_r (nI_1 id) (no (ac_bf (fun z => ?_)))) (fun d => nm_r (nI_1 r) (nm_r (nI_1 id) (ih (id + 1) (r + 1) (by omega) ?_ f (by omega))))
    · have q := (ac_hl_t.mp z).2
      rw [(ac_dl_o b).mpr d] at q
      exact Bool.noConfusion q
    · rw [ac_ct_t (ac_hl_t.mpr ⟨⟨a, b⟩, ac_bf (fun z => d ((ac_dl_o b).mp z))⟩), eq]
theorem ax_chd {post : Int32 → Prop} (I : ac_Inv S sr un rc xp lg L) (hrk : ac_RK S sr un rk) (h : post (nI (ac_ct (ac_hl sr un rc lg L) S))) : wpX_countHeld post (ky, lf, th, tg, nw, st, sp, sg, (nI pr), (nI S), (nI L), (nI c), du, fo, sl, ab, up, lo, av, er, sn, an, ao, sr, un, rk, tx, rc, ak, nr, xp, lg, xa) :=
  ⟨S + 1, ax_chl I hrk h S 0 0 (by omega) rfl (S + 1) (by omega)⟩
theorem ac_w16 {x : Nat} (hS : S ≤ 128) (hx : x ≤ 128) : (nI S - 16 < nI x) ↔ S < x + 16 := by
  have e : nI S - 16 = nI S - nI 16 := rfl
  rw [e, Int32.lt_iff_toInt_lt, pk_sub_toInt (by omega) (by omega), nI_toInt (by omega)]
  omega
theorem ax_winl {post : Int32 → Prop} (hS : S ≤ 128) (h1 : (∃ j, j + 16 ≤ S ∧ ak j = 0) → post 1) (h0 : (¬ ∃ j, j + 16 ≤ S ∧ ak j = 0) → post 0) : ∀ (n x : Nat), x + n = S - 15 → (∀ k, k < x → ¬ ak k = 0) → ∀ fu, n < fu → wX_windowIsFull_2 post ky lf th tg nw st sp sg (nI pr) (nI S) (nI L) (nI c) du fo sl ab up lo av er sn an ao sr un rk tx rc ak nr xp lg xa fu (nI x) := by
  intro n
  induction n with
  | zero =>
    intro x hn hk fu hf
    obtain ⟨f, rfl⟩ : ∃ f, fu = f + 1 := ⟨fu - 1, by omega⟩
    refine br_t ((ac_w16 hS (by omega)).mpr (by omega)) (h0 (fun z => ?_))
    obtain ⟨j, hj, e⟩ := z
    exact hk j (by omega) e
  | succ n ih =>
    intro x hn hk fu hf
    obtain ⟨f, rfl⟩ : ∃ f, fu = f + 1 := ⟨fu - 1, by omega⟩
    have nb : ¬ nI S - 16 < nI x := fun z => by
      have := (ac_w16 hS (by omega)).mp z
      omega
    refine br_f nb ⟨vp_in_nI (by omega) (by omega), ?_⟩
    rw [nI_clamp (show x < 2 ^ 31 by omega)]
    refine br_c (fun a => h1 ⟨x, by omega, a⟩) (fun a => nm_r (nI_1 x) (ih (x + 1) (by omega) (fun k kx => ?_) f (by omega)))
    by_cases e : k = x
    · rw [e]; exact a
    · exact hk k (by omega)
theorem ax_win {post : Int32 → Prop} (hS : S ≤ 128) (h1 : (∃ j, j + 16 ≤ S ∧ ak j = 0) → post 1) (h0 : (¬ ∃ j, j + 16 ≤ S ∧ ak j = 0) → post 0) : wpX_windowIsFull post (ky, lf, th, tg, nw, st, sp, sg, (nI pr), (nI S), (nI L), (nI c), du, fo, sl, ab, up, lo, av, er, sn, an, ao, sr, un, rk, tx, rc, ak, nr, xp, lg, xa) :=
  ⟨S - 15 + 1, ax_winl hS h1 h0 (S - 15) 0 (by omega) (fun k kx => absurd kx (by omega)) (S - 15 + 1) (by omega)⟩
theorem ac_od_snd {x b : Int32} {t : Int32} {n : Nat} (hn : n ≤ S) : ac_ct (ac_od (upd sr S x) (upd un S b) t) n = ac_ct (ac_od sr un t) n := by
  refine ac_ct_cg n (fun j hj => ?_)
  unfold ac_od
  rw [pk_un (show j ≠ S by omega), pk_un (show j ≠ S by omega)]
theorem ac_128n {n : Nat} (h : ¬ n < 128) (hS : n ≤ 128) : ¬ nI n < 128 := nI_nlt (a := n) (b := 128) (by omega) (by omega)
theorem ax_initl {post : St2 → Prop} {mc ms kc ks n p : Nat} (hp : p < 2) (h : wX_init_250 post mc ms kc ks ky lf th tg nw st sp sg (nI pr) (nI S) (nI L) (nI c) du fo sl ab n (nI (p + 1)) (upd up p 1) lo (upd av p 1) er sn an ao sr un rk tx rc ak nr xp lg xa) : wX_init_250 post mc ms kc ks ky lf th tg nw st sp sg (nI pr) (nI S) (nI L) (nI c) du fo sl ab (n + 1) (nI p) up lo av er sn an ao sr un rk tx rc ak nr xp lg xa := by
  simp only [wX_init_250, ac_p2c hp, forall_eq, nI_1]
  exact br_f (ac_p2n hp) ⟨ac_p2v hp, ac_p2v hp, h⟩
theorem ax_new {post : St2 → Prop} {mc ms : Nat} {u : St1} {p0 p1 p2 p3 : Int32} (hc : 17 ≤ mc) (hs : 1054 ≤ ms) (h : post ((ac_cl p0 1 65535), (ac_cl p1 1 16), (ac_cl p2 1 8), (ac_cl p3 1 255), 0, 0, 0, 0, (nI 0), (nI 0), (nI 0), (nI 0), 0, 0, 0, 0, (upd (upd (fun _ => 0) 0 1) 1 1), (fun _ => 0), (upd (upd (fun _ => 0) 0 1) 1 1), (fun _ => 0), (fun _ => 0), (fun _ => 0), (fun _ => 0), (fun _ => 0), (fun _ => 0), (fun _ => 0), (fun _ => 0), (fun _ => 0), (fun _ => 0), (fun _ => 0), (fun _ => 0), (fun _ => 0), (fun _ => 0))) : wpX_init post mc ms u p0 p1 p2 p3 := by
  obtain ⟨u0, u1, u2, u3, u4, u5, u6, u7, u8, u9, u10, u11, u12, u13, u14, u15⟩ := u
  unfold wpX_init
  refine ⟨by omega, by omega, by omega, by omega, by omega, by omega, by omega, by omega, by omega, by omega, by omega, by omega, by omega, by omega, by omega, by omega, by omega, by omega, by omega, by omega, by omega, by omega, by omega, by omega, by omega, by omega, by omega, by omega, by omega, by omega, by omega, by omega, by omega, by omega, ?_⟩
  refine ax_clamp ?_
  refine ax_clamp ?_
  refine ax_clamp ?_
  refine ax_clamp ?_
  exact ⟨3, ax_initl (p := 0) (pr := 0) (S := 0) (L := 0) (c := 0) (by omega) (ax_initl (p := 1) (pr := 0) (S := 0) (L := 0) (c := 0) (by omega) (br_t (by decide) h))⟩
/-- the law's hash: stream and flag of an id -/
def ac_hS (a b x : Int32) : Int32 := ((x * ((2 * (a &&& 255)) + 1)) + (b &&& 255)) &&& 7
def ac_hU (a b x : Int32) : Int32 := if (((((x * ((2 * (a &&& 255)) + 1)) + (b &&& 255)).toUInt32 >>> ((3 : Int32).toUInt32 &&& Int32.toUInt32 31)).toInt32) &&& 3) = 0 then 1 else 0
theorem ac_hU_01 {x : Int32} : ac_hU a b x = 0 ∨ ac_hU a b x = 1 := by
  unfold ac_hU
  split
  · exact Or.inr rfl
  · exact Or.inl rfl
theorem al_un {post : Int32 → Prop} {x : Int32} (h : post (ac_hU a b x)) : wpL_unorderedOf post () x a b := by
  unfold ac_hU at h
  exact br_c (fun e => by rw [if_pos e] at h; exact h) (fun e => by rw [if_neg e] at h; exact h)
theorem al_st {post : Int32 → Prop} {x : Int32} (h : post (ac_hS a b x)) : wpL_streamOf post () x a b := h
def ac_F (R : Nat) (a b : Int32) (S : Nat) (sr un rk nr : ac_A) (g : ac_G) (sn an ao : ac_A) : Prop := ac_GI S sr un g ∧ ac_RK S sr un rk ∧ (∀ s, s < 8 → nr s = nI (ac_ct (ac_od sr un (nI s)) S)) ∧ (ac_TZ sn ∧ ac_TZ an ∧ ac_TZ ao) ∧ ac_H2 R g ∧ (∀ j, j < S → sr j = ac_hS a b (nI j) ∧ un j = ac_hU a b (nI j))
def ac_Q (R : Nat) (a b : Int32) (u : St2) : Prop := ∃ (ky lf th tg fo : Int32) (S : Nat) (up sr un rk nr : ac_A) (g : ac_G) (sn an ao xa : ac_A) (c : Nat), u = ac_XS ky lf th tg fo S up sr un rk nr g sn an ao xa c ∧ ac_F R a b S sr un rk nr g sn an ao
theorem ac_mk (F : ac_F R a b S sr un rk nr (nw, st, sp, sg, pr, sl, ab, lo, av, er, tx, ak, rc, xp, lg, L, du) sn an ao) : ac_Q R a b (ky, lf, th, tg, nw, st, sp, sg, (nI pr), (nI S), (nI L), (nI c), du, fo, sl, ab, up, lo, av, er, sn, an, ao, sr, un, rk, tx, rc, ak, nr, xp, lg, xa) :=
  ⟨ky, lf, th, tg, fo, S, up, sr, un, rk, nr, (nw, st, sp, sg, pr, sl, ab, lo, av, er, tx, ak, rc, xp, lg, L, du), sn, an, ao, xa, c, rfl, F⟩
theorem ac_Fh {nw' st' sp' sg' sl' ab' : Int32} {lo' er' : ac_A} (F : ac_F R a b S sr un rk nr (nw, st, sp, sg, pr, sl, ab, lo, av, er, tx, ak, rc, xp, lg, L, du) sn an ao) : ac_F R a b S sr un rk nr (nw', st', sp', sg', pr, sl', ab', lo', av, er', tx, ak, rc, xp, lg, L, du) sn an ao := F
theorem ac_F0 : ac_F 0 a b 0 (fun _ => 0) (fun _ => 0) (fun _ => 0) (fun _ => 0) (0, 0, 0, 0, 0, 0, 0, fun _ => 0, upd (upd (fun _ => 0) 0 1) 1 1, fun _ => 0, fun _ => 0, fun _ => 0, fun _ => 0, fun _ => 0, fun _ => 0, 0, 0) (fun _ => 0) (fun _ => 0) (fun _ => 0) := by
  refine ⟨⟨by omega, ?_, ⟨ac_Inv0, fun _ => Or.inl rfl⟩, fun _ => Or.inl rfl, fun _ _ => rfl, fun _ _ => rfl⟩, fun j hj => absurd hj (by omega), fun s _ => nI_0.symm, ⟨ac_TZ_0, ac_TZ_0, ac_TZ_0⟩, ⟨fun j z => absurd rfl z, fun j => ⟨0, by omega, nI_0.symm, fun z => absurd rfl z⟩⟩, fun j hj => absurd hj (by omega)⟩
  exact ac_01u (ac_01u (fun _ => Or.inl rfl) (Or.inr rfl)) (Or.inr rfl)
theorem ac_Qup {R' : Nat} {u : St2} (hR : R ≤ R') (Q : ac_Q R a b u) : ac_Q R' a b u := by
  obtain ⟨ky, lf, th, tg, fo, S, up, sr, un, rk, nr, g, sn, an, ao, xa, c, e, f1, f2, f3, f4, f5, f6⟩ := Q
  exact ⟨ky, lf, th, tg, fo, S, up, sr, un, rk, nr, g, sn, an, ao, xa, c, e, f1, f2, f3, f4, ac_H2_up hR f5, f6⟩
theorem ax_mconn {post : Int32 → St2 → Prop} {u : St2} (Q : ac_Q R a b u) (h : ∀ r u', ac_Q R a b u' → post r u') : wpX_connect post u := by
  obtain ⟨ky, lf, th, tg, fo, S, up, sr, un, rk, nr, ⟨nw, st, sp, sg, pr, sl, ab, lo, av, er, tx, ak, rc, xp, lg, L, du⟩, sn, an, ao, xa, c, rfl, F⟩ := Q
  unfold ac_XS
  dsimp only
  exact br_c (fun _ => h _ _ (ac_mk (ac_Fh F))) (fun _ => h _ _ (ac_mk F))
theorem ax_mpath {post : Int32 → St2 → Prop} {u : St2} {v x : Int32} (Q : ac_Q R a b u) (h : ∀ r u', ac_Q R a b u' → post r u') : wpX_setPath post u v x := by
  obtain ⟨ky, lf, th, tg, fo, S, up, sr, un, rk, nr, ⟨nw, st, sp, sg, pr, sl, ab, lo, av, er, tx, ak, rc, xp, lg, L, du⟩, sn, an, ao, xa, c, rfl, F⟩ := Q
  unfold ac_XS wpX_setPath
  dsimp only
  refine ax_path (fun j hj e => ?_) (fun n0 n1 => ?_)
  · rw [e]
    exact br_f (by decide) ⟨ac_p2v hj, nm_e (h _ _ (ac_mk F))⟩
  · exact br_t rfl (h _ _ (ac_mk F))
theorem ax_mlose {post : Int32 → St2 → Prop} {u : St2} {v x : Int32} (Q : ac_Q R a b u) (h : ∀ r u', ac_Q R a b u' → post r u') : wpX_loseNext post u v x := by
  obtain ⟨ky, lf, th, tg, fo, S, up, sr, un, rk, nr, ⟨nw, st, sp, sg, pr, sl, ab, lo, av, er, tx, ak, rc, xp, lg, L, du⟩, sn, an, ao, xa, c, rfl, F⟩ := Q
  unfold ac_XS wpX_loseNext
  dsimp only
  refine ax_path (fun j hj e => ?_) (fun n0 n1 => ?_)
  · rw [e]
    refine br_f (by decide) (ax_clamp ?_)
    exact ⟨ac_p2v hj, nm_e (h _ _ (ac_mk (ac_Fh F)))⟩
  · exact br_t rfl (h _ _ (ac_mk F))
theorem ax_mecho {post : Int32 → St2 → Prop} {u : St2} {v1 v2 v3 : Int32} (Q : ac_Q R a b u) (h : ∀ r u', ac_Q R a b u' → post r u') : wpX_injectEcho post u v1 v2 v3 := by
  obtain ⟨ky, lf, th, tg, fo, S, up, sr, un, rk, nr, ⟨nw, st, sp, sg, pr, sl, ab, lo, av, er, tx, ak, rc, xp, lg, L, du⟩, sn, an, ao, xa, c, rfl, F⟩ := Q
  unfold ac_XS wpX_injectEcho wpX_cookieCheck wX_injectEcho_34
  simp only [forall_eq]
  exact br_c (fun _ => br_c (fun _ => h _ _ (ac_mk F)) (fun _ => br_c (fun _ => h _ _ (ac_mk F)) (fun _ => br_c (fun _ => h _ _ (ac_mk F)) (fun _ => br_c (fun _ => br_c (fun _ => br_c (fun _ => h _ _ (ac_mk (ac_Fh F))) (fun _ => br_c (fun _ => h _ _ (ac_mk F)) (fun _ => h _ _ (ac_mk F)))) (fun _ => h _ _ (ac_mk (ac_Fh F)))) (fun _ => h _ _ (ac_mk F)))))) (fun _ => h _ _ (ac_mk F))
theorem ax_mrun {post : Int32 → St2 → Prop} {u : St2} {v m : Int32} {N : Nat} (hN : N ≤ 4) (eN : ac_cl v 1 16 = nI N) (Q : ac_Q R a b u) (h : ∀ r u', ac_Q (R + 4) a b u' → post r u') : wpX_run post u v m := by
  obtain ⟨ky, lf, th, tg, fo, S, up, sr, un, rk, nr, ⟨nw, st, sp, sg, pr, sl, ab, lo, av, er, tx, ak, rc, xp, lg, L, du⟩, sn, an, ao, xa, c, rfl, F⟩ := Q
  obtain ⟨G, K, N', T, H, B⟩ := F
  refine ax_run (show N ≤ 16 by omega) eN K G T.1 T.2.1 T.2.2 (fun sn' an' ao' xa' c' hs ha ho g' eg => ?_)
  refine h _ _ ⟨ky, lf, th, tg, fo, S, up, sr, un, rk, nr, g', sn', an', ao', xa', c', rfl, ?_, K, N', ⟨hs, ha, ho⟩, ?_, B⟩
  · rw [eg]; exact ac_rds_inv N _ G
  · rw [eg]; exact ac_H2_up (by omega) (ac_rds_H2 N R _ H)
theorem ax_mbad {post : Int32 → St2 → Prop} {u : St2} {v x : Int32} (hv : v < 0 ∨ (¬ v < 0 ∧ ¬ v < 8)) (Q : ac_Q R a b u) (h : ∀ r u', ac_Q R a b u' → post r u') : wpX_send post u v x := by
  obtain ⟨ky, lf, th, tg, fo, S, up, sr, un, rk, nr, ⟨nw, st, sp, sg, pr, sl, ab, lo, av, er, tx, ak, rc, xp, lg, L, du⟩, sn, an, ao, xa, c, rfl, F⟩ := Q
  unfold ac_XS
  dsimp only
  cases hv with
  | inl z => exact br_t z (h _ _ (ac_mk F))
  | inr z => exact br_f z.1 (br_f z.2 (h _ _ (ac_mk F)))
theorem ac_Fs {s : Nat} {rk' nr' : ac_A} (F : ac_F R a b S sr un rk nr (nw, st, sp, sg, pr, sl, ab, lo, av, er, tx, ak, rc, xp, lg, L, du) sn an ao) (hS : S < 128) (hs : s < 8) (es : ac_hS a b (nI S) = nI s) (hrk : ∀ j, j < S → rk' j = rk j) (hrS : ac_hU a b (nI S) = 0 → rk' S = nr s) (hy : ac_hU a b (nI S) = 0 → nr' = upd nr s (nr s + 1)) (hn : ¬ ac_hU a b (nI S) = 0 → nr' = nr) : ac_F R a b (S + 1) (upd sr S (nI s)) (upd un S (ac_hU a b (nI S))) rk' nr' (nw, st, sp, sg, pr, sl, ab, lo, av, er, tx, ak, rc, xp, lg, L, du) sn an ao := by
  obtain ⟨⟨g1, g2, g3, g4, g5, g6⟩, K, N, T, H, B⟩ := F
  refine ⟨⟨g1, g2, ⟨ac_snd g3.1 hS hs, g3.2⟩, g4, fun j hj => g5 j (by omega), fun j hj => g6 j (by omega)⟩, ?_, ?_, T, H, ?_⟩
  · intro j hj u
    by_cases e : j = S
    · subst e
      rw [pk_us] at u
      rw [hrS u, N s hs]
      unfold ac_rk
      rw [pk_us, ac_od_snd (Nat.le_refl j)]
    · rw [pk_un e] at u
      rw [hrk j (by omega), K j (by omega) u]
      unfold ac_rk
      rw [pk_un e, ac_od_snd (by omega)]
  · intro t ht
    by_cases z : ac_hU a b (nI S) = 0
    · rw [hy z]
      by_cases e : t = s
      · rw [e, pk_us, N s hs, nI_1, ac_ct_t (ac_od_t.mpr ⟨pk_us, by rw [pk_us]; exact z⟩), ac_od_snd (Nat.le_refl S)]
      · rw [pk_un e, N t ht, ac_ct_f (ac_od_f.mpr (fun q => e (ac_inj (pk_us.symm.trans q.1) (by omega) (by omega)).symm)), ac_od_snd (Nat.le_refl S)]
    · rw [hn z, N t ht, ac_ct_f (ac_od_f.mpr (fun q => z (pk_us.symm.trans q.2))), ac_od_snd (Nat.le_refl S)]
  · intro j hj
    by_cases e : j = S
    · subst e
      rw [pk_us, pk_us]
      exact ⟨es.symm, rfl⟩
    · rw [pk_un e, pk_un e]
      exact B j (by omega)
theorem ax_msend {post : Int32 → St2 → Prop} (F : ac_F R a b S sr un rk nr (nw, st, sp, sg, pr, sl, ab, lo, av, er, tx, ak, rc, xp, lg, L, du) sn an ao) (h : ∀ r u', ac_Q R a b u' → post r u') : wpX_send post (ky, lf, th, tg, nw, st, sp, sg, (nI pr), (nI S), (nI L), (nI c), du, fo, sl, ab, up, lo, av, er, sn, an, ao, sr, un, rk, tx, rc, ak, nr, xp, lg, xa) (ac_hS a b (nI S)) (ac_hU a b (nI S)) := by
  have hI : ac_Inv S sr un rc xp lg L := F.1.2.2.1.1
  have hS := hI.1
  have vb : vp_nar .boolean (ac_hU a b (nI S)) = ac_hU a b (nI S) := ac_vb ac_hU_01
  obtain ⟨s, hs, es⟩ : ∃ s, s < 8 ∧ ac_hS a b (nI S) = nI s := pk_andE _ (m := 7) 3 (by decide)
  rw [es]
  have hn : ¬ nI s < 0 := nI_pos (by omega)
  have h8 : nI s < 8 := nI_lt (b := 8) hs (by decide)
  have sv : vp_in (nI s) 8 := vp_in_nI hs (by omega)
  by_cases h128 : S < 128
  · have lt : nI S < 128 := ac_lt128 h128
    have Sv : vp_in (nI S) 128 := vp_in_nI h128 (by omega)
    have cS : (nI S).toNatClampNeg = S := nI_clamp (by omega)
    have cs : (nI s).toNatClampNeg = s := nI_clamp (by omega)
    refine br_f hn (br_t h8 (br_t lt (ax_win hS (fun full => br_f (by decide) (h _ _ (ac_mk F))) (fun nf => br_t rfl ?_))))
    rw [cS, cs]
    refine ⟨Sv, nm_e ⟨Sv, nm_r (congrArg (upd un S) vb) (br_c (fun z => ⟨sv, Sv, nm_e ⟨sv, sv, nm_e (nm_r (nI_1 S) ?_)⟩⟩) (fun z => nm_r (nI_1 S) ?_))⟩⟩
    · exact h _ _ (ac_mk (ac_Fs F h128 hs es (fun j hj => pk_un (by omega)) (fun _ => pk_us) (fun _ => rfl) (fun w => absurd z w)))
    · exact h _ _ (ac_mk (ac_Fs F h128 hs es (fun j hj => rfl) (fun w => absurd w z) (fun w => absurd w z) (fun _ => rfl)))
  · have nl : ¬ nI S < 128 := ac_128n h128 hS
    exact br_f hn (br_t h8 (br_f nl (h _ _ (ac_mk F))))
end ASA
