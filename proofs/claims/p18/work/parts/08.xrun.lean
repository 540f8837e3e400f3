/-! M: the component's round and run -/
section AXC
variable {ky lf th tg nw st sp sg du fo sl ab : Int32} {pr S L c : Nat} {up lo av er sn an ao sr un rk tx rc ak nr xp lg xa fa : ac_A}
theorem ac_TZ_0 : ac_TZ (fun _ => 0) := fun _ _ => rfl
theorem ac_hb_TZ {z : Int32} {p : Nat} {q : ac_A × ac_A} (hp : p < 2) (h : ac_TZ q.1 ∧ ac_TZ q.2) : ac_TZ (ac_hb up av z p q).1 ∧ ac_TZ (ac_hb up av z p q).2 := by
  unfold ac_hb
  split
  · refine ⟨ac_TZ_put h.1 hp, ?_⟩
    dsimp only
    split
    · exact h.2
    · split
      · exact h.2
      · exact ac_TZ_put h.2 hp
  · exact h
theorem ac_hb2_TZ {z : Int32} {q : ac_A × ac_A} (h : ac_TZ q.1 ∧ ac_TZ q.2) : ac_TZ (ac_hb2 up av z q).1 ∧ ac_TZ (ac_hb2 up av z q).2 := by
  unfold ac_hb2
  exact ac_hb_TZ (by omega) (ac_hb_TZ (by omega) h)
theorem ac_hs_TZ {z : Int32} (hp : pr < 2) : ac_TZ (ac_hs lf tg up z pr nw st sp sg sl ab).2.2.2.2.2.1 ∧ ac_TZ (ac_hs lf tg up z pr nw st sp sg sl ab).2.2.2.2.2.2 := by
  have h0 := ac_TZ_0
  have h1 : ac_TZ (upd (fun _ => 0) pr 1) := ac_TZ_put ac_TZ_0 hp
  unfold ac_hs
  repeat' split
  all_goals first | exact ⟨h1, h1⟩ | exact ⟨h1, h0⟩ | exact ⟨h0, h0⟩
theorem ac_an_TZ {a : ac_A} (h : ac_TZ a) : ac_TZ (ac_an ao a) := by
  unfold ac_an
  repeat' split
  · exact h
  · exact ac_TZ_put h (by omega)
  · exact ac_TZ_put h (by omega)
  · exact ac_TZ_put (ac_TZ_put h (by omega)) (by omega)
theorem ac_da_TZ {z : Int32} : ac_TZ (ac_da S z fa ao) := by
  unfold ac_da
  repeat' split
  · exact ac_TZ_0
  · exact ac_TZ_0
  · exact ac_an_TZ ac_TZ_0
theorem ac_hs_n {z : Int32} (e1 : ¬ st = 1) (e2 : ¬ st = 2) : ac_hs lf tg up z pr nw st sp sg sl ab = (st, sp, sg, sl, ab, fun _ => 0, fun _ => 0) := by
  unfold ac_hs
  rw [if_neg e1, if_neg e2]
theorem ac_rt_2 (hp : pr < 2) : ac_rt av pr < 2 := by
  unfold ac_rt
  split
  · exact hp
  · omega
theorem ac_T_TZ (hp : pr < 2) : ac_TZ (ac_T S up av pr lo tx ak).2.1 ∧ ac_TZ (ac_T S up av pr lo tx ak).2.2.2.1 := by
  unfold ac_T
  exact ac_tm_TZ hp (ac_rt_2 hp) S 0 _ ⟨ac_TZ_0, ac_TZ_0⟩
/-- the component's state, from what a round changes and what it leaves -/
def ac_XS (ky lf th tg fo : Int32) (S : Nat) (up sr un rk nr : ac_A) (g : ac_G) (sn an ao xa : ac_A) (c : Nat) : St2 := (ky, lf, th, tg, g.1, g.2.1, g.2.2.1, g.2.2.2.1, (nI g.2.2.2.2.1), (nI S), (nI g.2.2.2.2.2.2.2.2.2.2.2.2.2.2.2.1), (nI c), g.2.2.2.2.2.2.2.2.2.2.2.2.2.2.2.2, fo, g.2.2.2.2.2.1, g.2.2.2.2.2.2.1, up, g.2.2.2.2.2.2.2.1, g.2.2.2.2.2.2.2.2.1, g.2.2.2.2.2.2.2.2.2.1, sn, an, ao, sr, un, rk, g.2.2.2.2.2.2.2.2.2.2.1, g.2.2.2.2.2.2.2.2.2.2.2.2.1, g.2.2.2.2.2.2.2.2.2.2.2.1, nr, g.2.2.2.2.2.2.2.2.2.2.2.2.2.1, g.2.2.2.2.2.2.2.2.2.2.2.2.2.2.1, xa)
theorem ax_round11 {post : St2 → Prop} {m z rv dp : Int32} (ev : rv = (if m &&& 1 = 0 then 0 else 1)) (ed : dp = (if m &&& 2 = 0 then 0 else 1)) (I : ac_GI S sr un (nw, st, sp, sg, pr, sl, ab, lo, av, er, tx, ak, rc, xp, lg, L, du)) (hrk : ac_RK S sr un rk) (hs : ac_TZ sn) (ha : ac_TZ an) (ho : ac_TZ ao) (h : ∀ sn an ao xa c, ac_TZ sn → ac_TZ an → ac_TZ ao → post (ac_XS ky lf th tg fo S up sr un rk nr (ac_rd lf th tg up S sr un z rv dp (nw, st, sp, sg, pr, sl, ab, lo, av, er, tx, ak, rc, xp, lg, L, du)) sn an ao xa c)) : wX_playRound_11 post m z ky lf th tg nw st sp sg (nI pr) (nI S) (nI L) (nI c) du fo sl ab up lo av er sn an ao sr un rk tx rc ak nr xp lg xa := by
  obtain ⟨hp, i2, i3, i4, i5, i6⟩ := I
  have hS : S ≤ 128 := i3.1.1
  unfold wX_playRound_11
  refine ax_start hs ha ho ?_
  dsimp only
  by_cases e1 : st = 1
  · have e3 : ¬ st = 3 := by rw [e1]; decide
    rw [ac_rd_H e3] at h
    refine br_t e1 (ax_init hp e1 ?_)
    dsimp only
    have t := ac_hb2_TZ (up := up) (av := av) (z := z) (q := ((ac_hs lf tg up z pr (nw + 1) st sp sg sl ab).2.2.2.2.2.1, (ac_hs lf tg up z pr (nw + 1) st sp sg sl ab).2.2.2.2.2.2)) (ac_hs_TZ hp)
    exact ax_tail hp (h _ _ _ xa 0 t.1 t.2 ac_TZ_0)
  · refine br_f e1 ?_
    by_cases e2 : st = 2
    · have e3 : ¬ st = 3 := by rw [e2]; decide
      rw [ac_rd_H e3] at h
      refine br_t e2 (ax_echo hp e1 e2 ?_)
      dsimp only
      have t := ac_hb2_TZ (up := up) (av := av) (z := z) (q := ((ac_hs lf tg up z pr (nw + 1) st sp sg sl ab).2.2.2.2.2.1, (ac_hs lf tg up z pr (nw + 1) st sp sg sl ab).2.2.2.2.2.2)) (ac_hs_TZ hp)
      exact ax_tail hp (h _ _ _ xa 0 t.1 t.2 ac_TZ_0)
    · refine br_f e2 ?_
      by_cases e3 : st = 3
      · rw [ac_rd_E e3] at h
        refine br_t e3 (ax_tua hS hp (fun xa' c' hx => ?_))
        dsimp only
        refine ax_paa hx hrk i3 (fun rv' dp' ev' ed' => ?_)
        obtain rfl : rv' = rv := ev'.trans ev.symm
        obtain rfl : dp' = dp := ed'.trans ed.symm
        dsimp only
        have hc : c' ≤ S := by
          have := hx.1
          have := ac_ct_le (ac_fl (ac_T S up av pr lo tx ak).2.2.2.2) S
          omega
        have w := ac_T_TZ (S := S) (up := up) (av := av) (lo := lo) (tx := tx) (ak := ak) hp
        have t := ac_hb2_TZ (up := up) (av := av) (z := z) (q := ((ac_T S up av pr lo tx ak).2.1, ac_da S z (ac_T S up av pr lo tx ak).2.2.2.2 (ac_T S up av pr lo tx ak).2.2.2.1)) ⟨w.1, ac_da_TZ⟩
        have h' := h _ _ (ac_T S up av pr lo tx ak).2.2.2.1 xa' c' t.1 t.2 w.2
        refine br_c (fun z0 => ?_) (fun z0 => br_c (fun c0 => ?_) (fun c0 => ?_))
        · refine ax_tail hp ?_
          unfold ac_rdE ac_da ac_dk at h'
          simp only [if_pos z0] at h'
          exact h'
        · have cz : ac_ct (ac_fl (ac_T S up av pr lo tx ak).2.2.2.2) S = 0 := by
            rw [← hx.1]
            rw [← nI_0, nI_leI (by omega) (by omega)] at c0
            omega
          refine ax_tail hp ?_
          unfold ac_rdE ac_da ac_dk at h'
          simp only [if_neg z0, if_pos cz] at h'
          exact h'
        · have cz : ¬ ac_ct (ac_fl (ac_T S up av pr lo tx ak).2.2.2.2) S = 0 := by
            rw [← hx.1]
            rw [← nI_0, nI_leI (by omega) (by omega)] at c0
            omega
          refine ax_ack hS ?_
          dsimp only
          refine ax_tail hp ?_
          unfold ac_rdE ac_da ac_dk at h'
          simp only [if_neg z0, if_neg cz] at h'
          exact h'
      · rw [ac_rd_H e3, ac_hs_n e1 e2] at h
        have t := ac_hb2_TZ (up := up) (av := av) (z := z) (q := (fun _ => 0, fun _ => 0)) ⟨ac_TZ_0, ac_TZ_0⟩
        exact br_f e3 (ax_tail hp (h _ _ _ xa 0 t.1 t.2 ac_TZ_0))
/-- the mode's three bits, as both sides read them -/
def ac_mz (m : Int32) : Int32 := if m &&& 4 = 0 then 1 else 0
def ac_mr (m : Int32) : Int32 := if m &&& 1 = 0 then 0 else 1
def ac_md (m : Int32) : Int32 := if m &&& 2 = 0 then 0 else 1
theorem ax_round {post : St2 → Prop} {m : Int32} (I : ac_GI S sr un (nw, st, sp, sg, pr, sl, ab, lo, av, er, tx, ak, rc, xp, lg, L, du)) (hrk : ac_RK S sr un rk) (hs : ac_TZ sn) (ha : ac_TZ an) (ho : ac_TZ ao) (h : ∀ sn an ao xa c, ac_TZ sn → ac_TZ an → ac_TZ ao → post (ac_XS ky lf th tg fo S up sr un rk nr (ac_rd lf th tg up S sr un (ac_mz m) (ac_mr m) (ac_md m) (nw, st, sp, sg, pr, sl, ab, lo, av, er, tx, ak, rc, xp, lg, L, du)) sn an ao xa c)) : wpX_playRound post (ky, lf, th, tg, nw, st, sp, sg, (nI pr), (nI S), (nI L), (nI c), du, fo, sl, ab, up, lo, av, er, sn, an, ao, sr, un, rk, tx, rc, ak, nr, xp, lg, xa) m := by
  refine br_c (fun a => ?_) (fun a => ?_)
  · rw [show ac_mz m = 1 from if_pos a] at h
    exact ax_round11 (rv := ac_mr m) (dp := ac_md m) rfl rfl I hrk hs ha ho h
  · rw [show ac_mz m = 0 from if_neg a] at h
    exact ax_round11 (rv := ac_mr m) (dp := ac_md m) rfl rfl I hrk hs ha ho h
theorem ax_runl {post : Int32 → St2 → Prop} {m x3 : Int32} {N : Nat} (hN : N ≤ 16) (hrk : ac_RK S sr un rk) : ∀ (n i : Nat) (g : ac_G) (sn an ao xa : ac_A) (c : Nat), i + n = N → ac_GI S sr un g → ac_TZ sn → ac_TZ an → ac_TZ ao → ∀ fu, n < fu → (∀ sn an ao xa c, ac_TZ sn → ac_TZ an → ac_TZ ao → ∀ g', g' = ac_rds lf th tg up S sr un (ac_mz m) (ac_mr m) (ac_md m) n g → post (nI g'.2.2.2.2.2.2.2.2.2.2.2.2.2.2.2.1 - x3) (ac_XS ky lf th tg fo S up sr un rk nr g' sn an ao xa c)) → wX_run_17 post m x3 (nI N) fu (nI i) ky lf th tg g.1 g.2.1 g.2.2.1 g.2.2.2.1 (nI g.2.2.2.2.1) (nI S) (nI g.2.2.2.2.2.2.2.2.2.2.2.2.2.2.2.1) (nI c) g.2.2.2.2.2.2.2.2.2.2.2.2.2.2.2.2 fo g.2.2.2.2.2.1 g.2.2.2.2.2.2.1 up g.2.2.2.2.2.2.2.1 g.2.2.2.2.2.2.2.2.1 g.2.2.2.2.2.2.2.2.2.1 sn an ao sr un rk g.2.2.2.2.2.2.2.2.2.2.1 g.2.2.2.2.2.2.2.2.2.2.2.2.1 g.2.2.2.2.2.2.2.2.2.2.2.1 nr g.2.2.2.2.2.2.2.2.2.2.2.2.2.1 g.2.2.2.2.2.2.2.2.2.2.2.2.2.2.1 xa := by
  intro n
  induction n with
  | zero =>
    intro i g sn an ao xa c hn I hs ha ho fu hf h
    obtain ⟨f, rfl⟩ : ∃ f, fu = f + 1 := ⟨fu - 1, by omega⟩
    exact br_t (nI_le (by omega) (by omega)) (h sn an ao xa c hs ha ho g rfl)
  | succ n ih =>
    intro i g sn an ao xa c hn I hs ha ho fu hf h
    obtain ⟨f, rfl⟩ : ∃ f, fu = f + 1 := ⟨fu - 1, by omega⟩
    have I' := ac_rd_inv (life := lf) (th := th) (tag := tg) (up := up) (rp := ac_mz m) (rev := ac_mr m) (dup := ac_md m) I
    refine br_f (nI_ge (by omega) (by omega)) (ax_round I hrk hs ha ho (fun sn' an' ao' xa' c' hs' ha' ho' => ?_))
    unfold ac_XS
    dsimp only
    exact nm_r (nI_1 i) (ih (i + 1) _ sn' an' ao' xa' c' (by omega) I' hs' ha' ho' f (by omega) h)
theorem ac_cl16 (v : Int32) : ∃ N, N ≤ 16 ∧ ac_cl v 1 16 = nI N := by
  unfold ac_cl
  split
  · split
    · rename_i h1 h2
      obtain ⟨j, hj, e⟩ := nI_of2 (x := v) (M := 16) (n := 16) (by decide) (fun z => absurd (Int32.lt_of_lt_of_le z (Int32.le_trans (by decide) h1)) Int32.lt_irrefl) h2
      exact ⟨j, hj, e⟩
    · exact ⟨16, by omega, rfl⟩
  · exact ⟨1, by omega, rfl⟩
theorem ax_run {post : Int32 → St2 → Prop} {v m : Int32} {N : Nat} (hN : N ≤ 16) (eN : ac_cl v 1 16 = nI N) (hrk : ac_RK S sr un rk) (I : ac_GI S sr un (nw, st, sp, sg, pr, sl, ab, lo, av, er, tx, ak, rc, xp, lg, L, du)) (hs : ac_TZ sn) (ha : ac_TZ an) (ho : ac_TZ ao) (h : ∀ sn an ao xa c, ac_TZ sn → ac_TZ an → ac_TZ ao → ∀ g', g' = ac_rds lf th tg up S sr un (ac_mz m) (ac_mr m) (ac_md m) N (nw, st, sp, sg, pr, sl, ab, lo, av, er, tx, ak, rc, xp, lg, L, du) → post (nI g'.2.2.2.2.2.2.2.2.2.2.2.2.2.2.2.1 - nI L) (ac_XS ky lf th tg fo S up sr un rk nr g' sn an ao xa c)) : wpX_run post (ky, lf, th, tg, nw, st, sp, sg, (nI pr), (nI S), (nI L), (nI c), du, fo, sl, ab, up, lo, av, er, sn, an, ao, sr, un, rk, tx, rc, ak, nr, xp, lg, xa) v m := by
  unfold wpX_run
  dsimp only
  refine ax_clamp ?_
  rw [eN]
  exact ⟨N + 1, ax_runl hN hrk N 0 (nw, st, sp, sg, pr, sl, ab, lo, av, er, tx, ak, rc, xp, lg, L, du) sn an ao xa c (by omega) I hs ha ho (N + 1) (by omega) h⟩
end AXC
