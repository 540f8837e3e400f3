/-! U: the law -/
section AUA
variable {ky lf th tg nw st sp sg du fo sl ab : Int32} {pr S L c : Nat} {up lo av er sn an ao sr un rk tx rc ak nr xp lg xa : ac_A} {R N k kc ks : Nat} {a b x3 x6 : Int32} {xs : Nat → Int32} {post : Int32 → Prop}
variable {J : Int32 → Int32 → Int32 → Int32 → Int32 → Int32 → Int32 → Int32 → Int32 → Int32 → Int32 → Int32 → Int32 → Int32 → Int32 → Int32 → Int32 → ac_A → ac_A → ac_A → ac_A → ac_A → ac_A → ac_A → ac_A → ac_A → ac_A → ac_A → ac_A → ac_A → ac_A → ac_A → ac_A → ac_A → Prop}
/-- from every state that keeps the facts, what comes next at x -/
def ac_NX (J : Int32 → Int32 → Int32 → Int32 → Int32 → Int32 → Int32 → Int32 → Int32 → Int32 → Int32 → Int32 → Int32 → Int32 → Int32 → Int32 → Int32 → ac_A → ac_A → ac_A → ac_A → ac_A → ac_A → ac_A → ac_A → ac_A → ac_A → ac_A → ac_A → ac_A → ac_A → ac_A → ac_A → ac_A → Prop) (R : Nat) (a b x : Int32) : Prop := ∀ (ky lf th tg fo : Int32) (S : Nat) (up sr un rk nr : ac_A) (g : ac_G) (sn an ao xa : ac_A) (c : Nat), ac_F R a b S sr un rk nr g sn an ao → J x ky lf th tg g.1 g.2.1 g.2.2.1 g.2.2.2.1 (nI g.2.2.2.2.1) (nI S) (nI g.2.2.2.2.2.2.2.2.2.2.2.2.2.2.2.1) (nI c) g.2.2.2.2.2.2.2.2.2.2.2.2.2.2.2.2 fo g.2.2.2.2.2.1 g.2.2.2.2.2.2.1 up g.2.2.2.2.2.2.2.1 g.2.2.2.2.2.2.2.2.1 g.2.2.2.2.2.2.2.2.2.1 sn an ao sr un rk g.2.2.2.2.2.2.2.2.2.2.1 g.2.2.2.2.2.2.2.2.2.2.2.2.1 g.2.2.2.2.2.2.2.2.2.2.2.1 nr g.2.2.2.2.2.2.2.2.2.2.2.2.2.1 g.2.2.2.2.2.2.2.2.2.2.2.2.2.2.1 xa
theorem al_cell {post : Int32 → Prop} {p : Int32} {q : Nat} (e : p = nI q) (hN : N < 1000) (hq : q < 1000) (h : ∀ x, post x) : wpL_cell post N xs () p := by
  rw [e]
  refine br_c (fun _ => h 0) (fun z => ⟨?_, h _⟩)
  refine vp_in_nI ?_ (by omega)
  by_cases w : q < N
  · exact w
  · exact absurd (nI_le (show N ≤ q by omega) (by omega)) z
theorem al_412 (F : ac_F R a b S sr un rk nr (nw, st, sp, sg, pr, sl, ab, lo, av, er, tx, ak, rc, xp, lg, L, du) sn an ao) (hR : R < 1000) (h : J (nI (k + 3)) ky lf th tg nw st sp sg (nI pr) (nI S) (nI L) (nI c) du fo sl ab up lo av er sn an ao sr un rk tx rc ak nr xp lg xa) : wL_law_412 post N xs J a b x3 x6 (nI k) kc ks ky lf th tg nw st sp sg (nI pr) (nI S) (nI L) (nI c) du fo sl ab up lo av er sn an ao sr un rk tx rc ak nr xp lg xa := by
  unfold wL_law_412
  exact al_ok F hR (br_f (by decide) (nm_r (nI_add k 3) h))
theorem al_221 {z : Int32} (hz : z < 0 ∨ (¬ z < 0 ∧ ¬ z < 8)) (F : ac_F R a b S sr un rk nr (nw, st, sp, sg, pr, sl, ab, lo, av, er, tx, ak, rc, xp, lg, L, du) sn an ao) (hR : R < 1000) (hJ : ac_NX J R a b (nI (k + 3))) : wL_law_221 post N xs J a b x3 x6 (nI k) z kc ks ky lf th tg nw st sp sg (nI pr) (nI S) (nI L) (nI c) du fo sl ab up lo av er sn an ao sr un rk tx rc ak nr xp lg xa := by
  unfold wL_law_221
  refine ax_mbad hz (ac_mk F) (fun r u' Q' => ?_)
  obtain ⟨ky, lf, th, tg, fo, S, up, sr, un, rk, nr, ⟨nw, st, sp, sg, pr, sl, ab, lo, av, er, tx, ak, rc, xp, lg, L, du⟩, sn, an, ao, xa, c, rfl, F'⟩ := Q'
  unfold ac_XS
  dsimp only
  exact al_412 F' hR (hJ _ _ _ _ _ _ _ _ _ _ _ _ _ _ _ _ _ F')
theorem al_288 {z w : Int32} (F : ac_F R a b S sr un rk nr (nw, st, sp, sg, pr, sl, ab, lo, av, er, tx, ak, rc, xp, lg, L, du) sn an ao) (hR : R < 1000) (hJ : ac_NX J R a b (nI (k + 3))) : wL_law_288 post N xs J a b x3 x6 (nI k) z w kc ks ky lf th tg nw st sp sg (nI pr) (nI S) (nI L) (nI c) du fo sl ab up lo av er sn an ao sr un rk tx rc ak nr xp lg xa := by
  unfold wL_law_288
  refine ax_mpath (ac_mk F) (fun r u' Q' => ?_)
  obtain ⟨ky, lf, th, tg, fo, S, up, sr, un, rk, nr, ⟨nw, st, sp, sg, pr, sl, ab, lo, av, er, tx, ak, rc, xp, lg, L, du⟩, sn, an, ao, xa, c, rfl, F'⟩ := Q'
  unfold ac_XS
  dsimp only
  exact al_412 F' hR (hJ _ _ _ _ _ _ _ _ _ _ _ _ _ _ _ _ _ F')
theorem al_391 {x y z : Int32} (F : ac_F R a b S sr un rk nr (nw, st, sp, sg, pr, sl, ab, lo, av, er, tx, ak, rc, xp, lg, L, du) sn an ao) (hR : R < 1000) (hJ : ac_NX J R a b (nI (k + 3))) : wL_law_391 post N xs J a b x3 x6 (nI k) x y z kc ks ky lf th tg nw st sp sg (nI pr) (nI S) (nI L) (nI c) du fo sl ab up lo av er sn an ao sr un rk tx rc ak nr xp lg xa := by
  unfold wL_law_391
  refine ax_mecho (ac_mk F) (fun r u' Q' => ?_)
  obtain ⟨ky, lf, th, tg, fo, S, up, sr, un, rk, nr, ⟨nw, st, sp, sg, pr, sl, ab, lo, av, er, tx, ak, rc, xp, lg, L, du⟩, sn, an, ao, xa, c, rfl, F'⟩ := Q'
  unfold ac_XS
  dsimp only
  exact al_412 F' hR (hJ _ _ _ _ _ _ _ _ _ _ _ _ _ _ _ _ _ F')
theorem al_348 {y z : Int32} (F : ac_F R a b S sr un rk nr (nw, st, sp, sg, pr, sl, ab, lo, av, er, tx, ak, rc, xp, lg, L, du) sn an ao) (hR : R < 1000) (hJ : ac_NX J R a b (nI (k + 3))) : wL_law_348 post N xs J a b x3 x6 (nI k) y z kc ks ky lf th tg nw st sp sg (nI pr) (nI S) (nI L) (nI c) du fo sl ab up lo av er sn an ao sr un rk tx rc ak nr xp lg xa := by
  unfold wL_law_348
  refine ax_c0 (nm_e ?_)
  refine nm_e (nm_e ?_)
  exact br_c (fun _ => al_391 F hR hJ) (fun _ => nm_e (al_391 F hR hJ))
theorem ac_n4 (x : Int32) : ∃ M, M ≤ 4 ∧ ac_cl ((x &&& 3) + 1) 1 16 = nI M := by
  obtain ⟨j, hj, e⟩ : ∃ j, j < 4 ∧ x &&& 3 = nI j := pk_andE x (m := 3) 2 (by decide)
  refine ⟨j + 1, by omega, ?_⟩
  rw [e, nI_1]
  unfold ac_cl
  have h1 : (1 : Int32) ≤ nI (j + 1) := nI_le (a := 1) (by omega) (by omega)
  have h2 : nI (j + 1) ≤ (16 : Int32) := nI_le (b := 16) (by omega) (by omega)
  rw [if_pos h1, if_pos h2]
theorem ac_bad1 (x : Int32) : (8 + (x &&& 7)) < 0 ∨ (¬ (8 + (x &&& 7)) < 0 ∧ ¬ (8 + (x &&& 7)) < 8) := by
  obtain ⟨j, hj, e⟩ : ∃ j, j < 8 ∧ x &&& 7 = nI j := pk_andE x (m := 7) 3 (by decide)
  rw [e, show (8 : Int32) + nI j = nI (8 + j) from nI_add 8 j]
  exact Or.inr ⟨nI_pos (by omega), nI_nlt (b := 8) (by omega) (by omega)⟩
theorem ac_bad2 (x : Int32) : ((-1) - (x &&& 7)) < 0 ∨ (¬ ((-1) - (x &&& 7)) < 0 ∧ ¬ ((-1) - (x &&& 7)) < 8) := by
  obtain ⟨j, hj, e⟩ : ∃ j, j < 8 ∧ x &&& 7 = nI j := pk_andE x (m := 7) 3 (by decide)
  rw [e]
  left
  have e8 : j = 0 ∨ j = 1 ∨ j = 2 ∨ j = 3 ∨ j = 4 ∨ j = 5 ∨ j = 6 ∨ j = 7 := by omega
  rcases e8 with q | q | q | q | q | q | q | q <;> (rw [q]; decide)
theorem al_243 {x y : Int32} (F : ac_F R a b S sr un rk nr (nw, st, sp, sg, pr, sl, ab, lo, av, er, tx, ak, rc, xp, lg, L, du) sn an ao) (hR : R + 4 < 1000) (hJ : ac_NX J (R + 4) a b (nI (k + 3))) : wL_law_243 post N xs J a b x3 x6 (nI k) x y kc ks ky lf th tg nw st sp sg (nI pr) (nI S) (nI L) (nI c) du fo sl ab up lo av er sn an ao sr un rk tx rc ak nr xp lg xa := by
  unfold wL_law_243
  obtain ⟨M, hM, eM⟩ := ac_n4 x
  refine ax_mrun hM eM (ac_mk F) (fun r u' Q' => ?_)
  obtain ⟨ky, lf, th, tg, fo, S, up, sr, un, rk, nr, ⟨nw, st, sp, sg, pr, sl, ab, lo, av, er, tx, ak, rc, xp, lg, L, du⟩, sn, an, ao, xa, c, rfl, F'⟩ := Q'
  unfold ac_XS
  dsimp only
  exact al_412 F' hR (hJ _ _ _ _ _ _ _ _ _ _ _ _ _ _ _ _ _ F')
theorem ac_Fup {R' : Nat} {g : ac_G} (hR : R ≤ R') (F : ac_F R a b S sr un rk nr g sn an ao) : ac_F R' a b S sr un rk nr g sn an ao := ⟨F.1, F.2.1, F.2.2.1, F.2.2.2.1, ac_H2_up hR F.2.2.2.2.1, F.2.2.2.2.2⟩
end AUA
section AUB
variable {R N kc ks : Nat} {a b x3 x6 : Int32} {xs : Nat → Int32}
theorem al_113 (hN : N ≤ 260) : ∀ (n k : Nat), N ≤ k + n → k ≤ 262 → ∀ fu, n < fu → ac_NX (wL_law_113 (fun r => r = 1) N xs a b x3 x6 kc ks fu) (2 * k) a b (nI k) := by
  intro n
  induction n with
  | zero =>
    intro k hn hk fu hf ky lf th tg fo S up sr un rk nr g sn an ao xa c F
    obtain ⟨f, rfl⟩ : ∃ f, fu = f + 1 := ⟨fu - 1, by omega⟩
    exact br_t (nI_le (by omega) (by omega)) rfl
  | succ n ih =>
    intro k hn hk fu hf ky lf th tg fo S up sr un rk nr g sn an ao xa c F
    obtain ⟨f, rfl⟩ : ∃ f, fu = f + 1 := ⟨fu - 1, by omega⟩
    by_cases hNk : N ≤ k
    · exact br_t (nI_le hNk (by omega)) rfl
    · obtain ⟨nw, st, sp, sg, pr, sl, ab, lo, av, er, tx, ak, rc, xp, lg, L, du⟩ := g
      have F4 := ac_Fup (show 2 * k ≤ 2 * k + 4 by omega) F
      have hR : 2 * k + 4 < 1000 := by omega
      have hJ : ac_NX (wL_law_113 (fun r => r = 1) N xs a b x3 x6 kc ks f) (2 * k + 4) a b (nI (k + 3)) := by
        intro ky lf th tg fo S up sr un rk nr g sn an ao xa c F'
        exact ih (k + 3) (by omega) (by omega) f (by omega) ky lf th tg fo S up sr un rk nr g sn an ao xa c (ac_Fup (by omega) F')
      refine br_f (nI_ge (by omega) (by omega)) (al_cell (q := k) rfl (by omega) (by omega) (fun r1 => nm_e (al_cell (q := k + 1) (nI_1 k) (by omega) (by omega) (fun r2 => al_cell (q := k + 2) (nI_add k 2) (by omega) (by omega) (fun r3 => ?_)))))
      refine br_c (fun _ => br_c (fun _ => br_c (fun _ => al_221 (ac_bad1 r3) F4 hR hJ) (fun _ => al_221 (ac_bad2 r3) F4 hR hJ)) (fun _ => br_c (fun _ => al_243 F hR hJ) (fun _ => br_c (fun _ => br_c (fun _ => br_c (fun _ => al_288 F4 hR hJ) (fun _ => al_288 F4 hR hJ)) (fun _ => br_c (fun _ => ?_) (fun _ => br_c (fun _ => br_c (fun _ => al_348 F4 hR hJ) (fun _ => al_348 F4 hR hJ)) (fun _ => ?_)))) (fun _ => al_243 F hR hJ)))) (fun _ => ?_)
      · refine ax_mlose (ac_mk F4) (fun r u' Q' => ?_)
        obtain ⟨ky, lf, th, tg, fo, S, up, sr, un, rk, nr, ⟨nw, st, sp, sg, pr, sl, ab, lo, av, er, tx, ak, rc, xp, lg, L, du⟩, sn, an, ao, xa, c, rfl, F'⟩ := Q'
        unfold ac_XS
        dsimp only
        exact al_412 F' hR (hJ _ _ _ _ _ _ _ _ _ _ _ _ _ _ _ _ _ F')
      · refine ax_mconn (ac_mk F4) (fun r u' Q' => ?_)
        obtain ⟨ky, lf, th, tg, fo, S, up, sr, un, rk, nr, ⟨nw, st, sp, sg, pr, sl, ab, lo, av, er, tx, ak, rc, xp, lg, L, du⟩, sn, an, ao, xa, c, rfl, F'⟩ := Q'
        unfold ac_XS
        dsimp only
        exact al_412 F' hR (hJ _ _ _ _ _ _ _ _ _ _ _ _ _ _ _ _ _ F')
      · refine ax_c1 ?_
        refine al_st ?_
        refine al_un ?_
        refine ax_msend F4 (fun r u' Q' => ?_)
        obtain ⟨ky, lf, th, tg, fo, S, up, sr, un, rk, nr, ⟨nw, st, sp, sg, pr, sl, ab, lo, av, er, tx, ak, rc, xp, lg, L, du⟩, sn, an, ao, xa, c, rfl, F'⟩ := Q'
        unfold ac_XS
        dsimp only
        exact al_412 F' hR (hJ _ _ _ _ _ _ _ _ _ _ _ _ _ _ _ _ _ F')
theorem al_27 (hN : N ≤ 260) : wL_law_27 (fun r => r = 1) N xs a b x3 0 0 := by
  unfold wL_law_27
  refine al_cell (q := 3) rfl (by omega) (by omega) (fun r1 => nm_e (al_cell (q := 4) rfl (by omega) (by omega) (fun r2 => nm_e (al_cell (q := 5) rfl (by omega) (by omega) (fun r3 => nm_e ⟨by omega, by omega, 17, 1054, by omega, by omega, ?_⟩)))))
  refine ax_new (by omega) (by omega) ?_
  dsimp only
  refine al_ok (ac_F0 (a := a) (b := b)) (by omega) (br_f (by decide) ?_)
  refine ax_mconn (ac_mk (ac_F0 (a := a) (b := b))) (fun r u' Q' => ?_)
  obtain ⟨ky, lf, th, tg, fo, S, up, sr, un, rk, nr, ⟨nw, st, sp, sg, pr, sl, ab, lo, av, er, tx, ak, rc, xp, lg, L, du⟩, sn, an, ao, xa, c, rfl, F'⟩ := Q'
  unfold ac_XS
  dsimp only
  exact al_ok F' (by omega) (br_f (by decide) ⟨N + 1, al_113 hN N 6 (by omega) (by omega) (N + 1) (by omega) _ _ _ _ _ _ _ _ _ _ _ _ _ _ _ _ _ (ac_Fup (show 0 ≤ 2 * 6 by omega) F')⟩)
end AUB
