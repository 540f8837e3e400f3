/-! P: the reference's round and run -/
section AYC
variable {ky lf th tg nw st sp sg du fo sl ab ap : Int32} {pr S L : Nat} {up lo av er sn an ao sr un tx rc ak xp lg fa : ac_A}
variable {post : Int32 → SY → Prop} {x3 x4 x5 z : Int32}
variable {J : Int32 → Int32 → Int32 → Int32 → Int32 → Int32 → Int32 → Int32 → Int32 → Int32 → Int32 → Int32 → Int32 → Int32 → Int32 → Int32 → Int32 → ac_A → ac_A → ac_A → ac_A → ac_A → ac_A → ac_A → ac_A → ac_A → ac_A → ac_A → ac_A → ac_A → ac_A → Prop}
theorem ay_92 {i : Nat} {m a0 : Int32} (I : ac_GI S sr un (nw, st, sp, sg, pr, sl, ab, lo, av, er, tx, ak, rc, xp, lg, L, du)) (ho : ac_TZ ao) (hfa : ∀ j, 128 ≤ j → fa j = 0) (h : ∀ sn an ao fa, ac_TZ sn → ac_TZ an → ac_TZ ao → (∀ j, 128 ≤ j → fa j = 0) → ∀ g', g' = ac_rd lf th tg up S sr un z (ac_mr m) (ac_md m) (nw, st, sp, sg, pr, sl, ab, lo, av, er, tx, ak, rc, xp, lg, L, du) → J (nI (i + 1)) ky lf th tg g'.2.1 g'.2.2.1 g'.2.2.2.1 (nI g'.2.2.2.2.1) g'.1 (nI S) (nI g'.2.2.2.2.2.2.2.2.2.2.2.2.2.2.2.1) g'.2.2.2.2.2.2.2.2.2.2.2.2.2.2.2.2 fo g'.2.2.2.2.2.1 g'.2.2.2.2.2.2.1 (nI g'.2.2.2.2.2.2.2.2.2.2.2.2.2.2.2.1 - a0) up g'.2.2.2.2.2.2.2.1 g'.2.2.2.2.2.2.2.2.1 g'.2.2.2.2.2.2.2.2.2.1 sn an ao sr un g'.2.2.2.2.2.2.2.2.2.2.1 g'.2.2.2.2.2.2.2.2.2.2.2.2.1 g'.2.2.2.2.2.2.2.2.2.2.2.1 fa g'.2.2.2.2.2.2.2.2.2.2.2.2.2.2.1) : wY_run_92 post J x3 (m &&& 7) (nI i) z ky lf th tg st sp sg (nI pr) (nw + 1) (nI S) (nI L) du fo sl ab (nI L - a0) up lo av er (fun _ => 0) (fun _ => 0) ao sr un tx rc ak fa lg := by
  obtain ⟨hp, i2, i3, i4, i5, i6⟩ := I
  have hS : S ≤ 128 := i3.1.1
  have hv := ac_p2v hp
  have t := ac_hb2_TZ (up := up) (av := av) (z := z) (q := ((ac_hs lf tg up z pr (nw + 1) st sp sg sl ab).2.2.2.2.2.1, (ac_hs lf tg up z pr (nw + 1) st sp sg sl ab).2.2.2.2.2.2)) (ac_hs_TZ hp)
  unfold wY_run_92 wY_run_260
  simp only [ac_alt hp, ac_p2c hp, ac_vb1, ac_vb0, forall_eq]
  by_cases e1 : st = 1
  · have e3 : ¬ st = 3 := by rw [e1]; decide
    have h' := h _ _ ao fa t.1 t.2 ho hfa _ (ac_rd_H e3).symm
    refine br_t e1 ⟨hv, hv, br_c (fun h1 => ay_tail hp ?_) (fun h1 => br_c (fun h2 => ay_tail hp ?_) (fun h2 => ⟨hv, ay_tail hp ?_⟩))⟩
    · simp only [ac_hs, if_pos e1, if_pos h1] at h'
      exact h'
    · simp only [ac_hs, if_pos e1, if_neg h1, if_pos h2] at h'
      exact h'
    · simp only [ac_hs, if_pos e1, if_neg h1, if_neg h2] at h'
      exact h'
  · refine br_f e1 ?_
    by_cases e : st = 2
    · have e3 : ¬ st = 3 := by rw [e]; decide
      have h' := h _ _ ao fa t.1 t.2 ho hfa _ (ac_rd_H e3).symm
      refine br_t e ⟨hv, hv, br_c (fun h1 => ay_tail hp ?_) (fun h1 => br_c (fun h2 => br_c (fun h3 => br_c (fun h4 => ay_tail hp ?_) (fun h4 => ⟨hv, br_f (by decide) (br_t (by trivial) (ay_tail hp ?_))⟩)) (fun h3 => br_c (fun h5 => br_c (fun h4 => ay_tail hp ?_) (fun h4 => ⟨hv, br_f (by decide) (br_t (by trivial) (ay_tail hp ?_))⟩)) (fun h5 => br_c (fun h4 => ay_tail hp ?_) (fun h4 => ⟨hv, br_f (by decide) (br_f (by decide) (ay_tail hp ?_))⟩)))) (fun h2 => br_c (fun h4 => ay_tail hp ?_) (fun h4 => ⟨hv, br_t (by trivial) (ay_tail hp ?_)⟩)))⟩
      · simp only [ac_hs, if_neg e1, if_pos e, if_pos h1] at h'
        exact h'
      · simp only [ac_hs, if_neg e1, if_pos e, if_neg h1, if_pos h2, if_pos h3, if_pos h4] at h'
        exact h'
      · simp only [ac_hs, if_neg e1, if_pos e, if_neg h1, if_pos h2, if_pos h3, if_neg h4] at h'
        exact h'
      · simp only [ac_hs, if_neg e1, if_pos e, if_neg h1, if_pos h2, if_neg h3, if_pos h5, if_pos h4] at h'
        exact h'
      · simp only [ac_hs, if_neg e1, if_pos e, if_neg h1, if_pos h2, if_neg h3, if_pos h5, if_neg h4] at h'
        exact h'
      · simp only [ac_hs, if_neg e1, if_pos e, if_neg h1, if_pos h2, if_neg h3, if_neg h5, if_pos h4] at h'
        exact h'
      · simp only [ac_hs, if_neg e1, if_pos e, if_neg h1, if_pos h2, if_neg h3, if_neg h5, if_neg h4] at h'
        exact h'
      · simp only [ac_hs, if_neg e1, if_pos e, if_neg h1, if_neg h2, if_pos h4] at h'
        exact h'
      · simp only [ac_hs, if_neg e1, if_pos e, if_neg h1, if_neg h2, if_neg h4] at h'
        exact h'
    · refine br_f e ?_
      by_cases e3 : st = 3
      · refine br_t e3 ?_
        rw [ac_TZ_clr ho]
        refine ⟨129, ay_346 128 0 fa (by omega) (fun j hj => absurd hj (by omega)) hfa 129 (by omega) ⟨S + 1, ay_371 hS hp S 0 tx (fun _ => 0) lo (fun _ => 0) (fun _ => 0) 0 (by omega) (fun _ _ => rfl) (Or.inl ⟨rfl, rfl⟩) (S + 1) (by omega) (fun x9' hy => ?_)⟩⟩
        refine ay_510 i3 ?_
        refine ay_628 hS hy ?_
        have w := ac_T_TZ (S := S) (up := up) (av := av) (lo := lo) (tx := tx) (ak := ak) hp
        have t2 := ac_hb2_TZ (up := up) (av := av) (z := z) (q := ((ac_T S up av pr lo tx ak).2.1, ac_da S z (ac_T S up av pr lo tx ak).2.2.2.2 (ac_T S up av pr lo tx ak).2.2.2.1)) ⟨w.1, ac_da_TZ⟩
        have fz : ac_FZ (0 + S) (ac_T S up av pr lo tx ak).2.2.2.2 := ac_tm_FZ S 0 (tx, fun _ => 0, lo, fun _ => 0, fun _ => 0) (fun _ _ => rfl)
        exact ay_tail hp (h _ _ (ac_T S up av pr lo tx ak).2.2.2.1 (ac_T S up av pr lo tx ak).2.2.2.2 t2.1 t2.2 w.2 (fun j hj => fz j (by omega)) _ (ac_rd_E e3).symm)
      · have h' := h _ _ ao fa t.1 t.2 ho hfa _ (ac_rd_H e3).symm
        rw [ac_hs_n e1 e] at h'
        exact br_f e3 (ay_tail hp h')
/-- the reference's state, from what a round changes and what it leaves -/
def ac_YS (ky lf th tg fo : Int32) (S : Nat) (up sr un : ac_A) (g : ac_G) (sn an ao fa : ac_A) (ap : Int32) : SY := (ky, lf, th, tg, g.2.1, g.2.2.1, g.2.2.2.1, (nI g.2.2.2.2.1), g.1, (nI S), (nI g.2.2.2.2.2.2.2.2.2.2.2.2.2.2.2.1), g.2.2.2.2.2.2.2.2.2.2.2.2.2.2.2.2, fo, g.2.2.2.2.2.1, g.2.2.2.2.2.2.1, ap, up, g.2.2.2.2.2.2.2.1, g.2.2.2.2.2.2.2.2.1, g.2.2.2.2.2.2.2.2.2.1, sn, an, ao, sr, un, g.2.2.2.2.2.2.2.2.2.2.1, g.2.2.2.2.2.2.2.2.2.2.2.2.1, g.2.2.2.2.2.2.2.2.2.2.2.1, fa, g.2.2.2.2.2.2.2.2.2.2.2.2.2.2.1)
theorem ay_runl {m a0 : Int32} {N : Nat} (hN : N ≤ 16) : ∀ (n i : Nat) (g : ac_G) (sn an ao fa : ac_A) (ap : Int32), i + n = N → ap = nI g.2.2.2.2.2.2.2.2.2.2.2.2.2.2.2.1 - a0 → ac_GI S sr un g → ac_TZ sn → ac_TZ an → ac_TZ ao → (∀ j, 128 ≤ j → fa j = 0) → ∀ fu, n < fu → (∀ sn an ao fa, ac_TZ sn → ac_TZ an → ac_TZ ao → (∀ j, 128 ≤ j → fa j = 0) → ∀ g', g' = ac_rds lf th tg up S sr un (ac_mz m) (ac_mr m) (ac_md m) n g → post (nI g'.2.2.2.2.2.2.2.2.2.2.2.2.2.2.2.1 - a0) (ac_YS ky lf th tg fo S up sr un g' sn an ao fa (nI g'.2.2.2.2.2.2.2.2.2.2.2.2.2.2.2.1 - a0))) → wY_run_36 post (nI N) (m &&& 7) fu (nI i) ky lf th tg g.2.1 g.2.2.1 g.2.2.2.1 (nI g.2.2.2.2.1) g.1 (nI S) (nI g.2.2.2.2.2.2.2.2.2.2.2.2.2.2.2.1) g.2.2.2.2.2.2.2.2.2.2.2.2.2.2.2.2 fo g.2.2.2.2.2.1 g.2.2.2.2.2.2.1 ap up g.2.2.2.2.2.2.2.1 g.2.2.2.2.2.2.2.2.1 g.2.2.2.2.2.2.2.2.2.1 sn an ao sr un g.2.2.2.2.2.2.2.2.2.2.1 g.2.2.2.2.2.2.2.2.2.2.2.2.1 g.2.2.2.2.2.2.2.2.2.2.2.1 fa g.2.2.2.2.2.2.2.2.2.2.2.2.2.2.1 := by
  intro n
  induction n with
  | zero =>
    intro i g sn an ao fa ap hn ea I hs ha ho hfa fu hf h
    obtain ⟨f, rfl⟩ : ∃ f, fu = f + 1 := ⟨fu - 1, by omega⟩
    subst ea
    exact br_t (nI_le (by omega) (by omega)) (h sn an ao fa hs ha ho hfa g rfl)
  | succ n ih =>
    intro i g sn an ao fa ap hn ea I hs ha ho hfa fu hf h
    obtain ⟨f, rfl⟩ : ∃ f, fu = f + 1 := ⟨fu - 1, by omega⟩
    subst ea
    have I' := ac_rd_inv (life := lf) (th := th) (tag := tg) (up := up) (rp := ac_mz m) (rev := ac_mr m) (dup := ac_md m) I
    have nx : ∀ sn an ao fa, ac_TZ sn → ac_TZ an → ac_TZ ao → (∀ j, 128 ≤ j → fa j = 0) → ∀ g', g' = ac_rd lf th tg up S sr un (ac_mz m) (ac_mr m) (ac_md m) g → wY_run_36 post (nI N) (m &&& 7) f (nI (i + 1)) ky lf th tg g'.2.1 g'.2.2.1 g'.2.2.2.1 (nI g'.2.2.2.2.1) g'.1 (nI S) (nI g'.2.2.2.2.2.2.2.2.2.2.2.2.2.2.2.1) g'.2.2.2.2.2.2.2.2.2.2.2.2.2.2.2.2 fo g'.2.2.2.2.2.1 g'.2.2.2.2.2.2.1 (nI g'.2.2.2.2.2.2.2.2.2.2.2.2.2.2.2.1 - a0) up g'.2.2.2.2.2.2.2.1 g'.2.2.2.2.2.2.2.2.1 g'.2.2.2.2.2.2.2.2.2.1 sn an ao sr un g'.2.2.2.2.2.2.2.2.2.2.1 g'.2.2.2.2.2.2.2.2.2.2.2.2.1 g'.2.2.2.2.2.2.2.2.2.2.2.1 fa g'.2.2.2.2.2.2.2.2.2.2.2.2.2.2.1 := by
      intro sn an ao fa hs ha ho hfa g' eg
      refine ih (i + 1) g' sn an ao fa _ (by omega) rfl (by rw [eg]; exact I') hs ha ho hfa f (by omega) (fun sn an ao fa hs ha ho hfa g2 e2 => ?_)
      rw [eg] at e2
      exact h sn an ao fa hs ha ho hfa g2 e2
    refine br_f (nI_ge (by omega) (by omega)) (nm_e (nm_r (congrArg (upd sn 0) ac_vb0) (nm_r (show upd (upd sn 0 0) 1 (vp_nar .boolean 0) = fun _ => 0 by rw [ac_vb0]; exact ac_TZ_clr hs) (nm_r (congrArg (upd an 0) ac_vb0) (nm_r (show upd (upd an 0 0) 1 (vp_nar .boolean 0) = fun _ => 0 by rw [ac_vb0]; exact ac_TZ_clr ha) ?_)))))
    rw [ac_m4]
    refine br_c (fun a => ?_) (fun a => ?_)
    · rw [show ac_mz m = 1 from if_pos a] at nx
      exact ay_92 I ho hfa nx
    · rw [show ac_mz m = 0 from if_neg a] at nx
      exact ay_92 I ho hfa nx
theorem ay_run {v m : Int32} {N : Nat} (hN : N ≤ 16) (eN : ac_cl v 1 16 = nI N) (I : ac_GI S sr un (nw, st, sp, sg, pr, sl, ab, lo, av, er, tx, ak, rc, xp, lg, L, du)) (hs : ac_TZ sn) (ha : ac_TZ an) (ho : ac_TZ ao) (hfa : ∀ j, 128 ≤ j → fa j = 0) (h : ∀ sn an ao fa, ac_TZ sn → ac_TZ an → ac_TZ ao → (∀ j, 128 ≤ j → fa j = 0) → ∀ g', g' = ac_rds lf th tg up S sr un (ac_mz m) (ac_mr m) (ac_md m) N (nw, st, sp, sg, pr, sl, ab, lo, av, er, tx, ak, rc, xp, lg, L, du) → post (nI g'.2.2.2.2.2.2.2.2.2.2.2.2.2.2.2.1 - nI L) (ac_YS ky lf th tg fo S up sr un g' sn an ao fa (nI g'.2.2.2.2.2.2.2.2.2.2.2.2.2.2.2.1 - nI L))) : wpY_run post (ky, lf, th, tg, st, sp, sg, (nI pr), nw, (nI S), (nI L), du, fo, sl, ab, ap, up, lo, av, er, sn, an, ao, sr, un, tx, rc, ak, fa, lg) v m := by
  have key : wY_run_21 post m (nI N) ky lf th tg st sp sg (nI pr) nw (nI S) (nI L) du fo sl ab ap up lo av er sn an ao sr un tx rc ak fa lg := by
    refine nm_e ⟨N + 1, ?_⟩
    exact ay_runl hN N 0 (nw, st, sp, sg, pr, sl, ab, lo, av, er, tx, ak, rc, xp, lg, L, du) sn an ao fa 0 (by omega) (Int32.sub_self _).symm I hs ha ho hfa (N + 1) (by omega) h
  rw [← eN] at key
  exact ax_clamp (post := fun r => wY_run_21 post m r ky lf th tg st sp sg (nI pr) nw (nI S) (nI L) du fo sl ab ap up lo av er sn an ao sr un tx rc ak fa lg) key
end AYC
