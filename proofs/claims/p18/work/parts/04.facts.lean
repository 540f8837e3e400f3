/-! G: what a scan of the log says; held ids; the id that is due -/
theorem ac_inlog {S : Nat} {str uno rc xp lg : ac_A} {L j : Nat} (I : ac_Inv S str uno rc xp lg L) (hj : j < S) : (∃ i, i < L ∧ lg i = nI j) ↔ ac_dl str uno rc lg L j = true := by
  constructor
  · intro h
    obtain ⟨i, hi, e⟩ := h
    obtain ⟨k, hk, ek, d⟩ := I.2.2.2.1 i hi
    have := I.1
    have ejk : j = k := ac_inj (e.symm.trans ek) (by omega) (by omega)
    rw [ejk]
    exact d
  · intro d
    exact I.2.2.2.2.1 j hj d
def ac_hl (str uno rc lg : ac_A) (L : Nat) (j : Nat) : Bool := decide ((¬ rc j = 0 ∧ uno j = 0) ∧ ac_dl str uno rc lg L j = false)
theorem ac_hl_t {str uno rc lg : ac_A} {L j : Nat} : ac_hl str uno rc lg L j = true ↔ (¬ rc j = 0 ∧ uno j = 0) ∧ ac_dl str uno rc lg L j = false := decide_eq_true_iff
/-- j is held, in stream s, and next -/
def ac_fh (str uno rc lg : ac_A) (L s : Nat) (j : Nat) : Prop := str j = nI s ∧ ac_hl str uno rc lg L j = true ∧ ac_rk str uno j = ac_lc str uno lg (nI s) L
theorem ac_fh_uq {str uno rc lg : ac_A} {L s i j : Nat} (h : ac_fh str uno rc lg L s i) (ej : str j = nI s) (uj : uno j = 0) (rj : ac_rk str uno j = ac_lc str uno lg (nI s) L) : i = j :=
  ac_rk_inj (ac_hl_t.mp h.2.1).1.2 uj (h.1.trans ej.symm) (h.2.2.trans rj.symm)
theorem ac_fh_end {S : Nat} {str uno rc xp lg : ac_A} {L s : Nat} (e : ac_lc str uno lg (nI s) L = ac_ct (ac_od str uno (nI s)) S) : ∀ j, j < S → ¬ ac_fh str uno rc lg L s j := by
  intro j hj h
  have h2 := h.2.2
  unfold ac_rk at h2
  rw [h.1] at h2
  have := ac_ct_lt (ac_od str uno (nI s)) hj (ac_od_t.mpr ⟨h.1, (ac_hl_t.mp h.2.1).1.2⟩)
  omega
theorem ac_fh_no {str uno rc lg : ac_A} {L s id : Nat} (o : ac_od str uno (nI s) id = true) (r : rc id = 0) (e : ac_lc str uno lg (nI s) L = ac_ct (ac_od str uno (nI s)) id) : ∀ j, ¬ ac_fh str uno rc lg L s j := by
  intro j h
  have o' := ac_od_t.mp o
  have ej : j = id := ac_fh_uq h o'.1 o'.2 (by unfold ac_rk; rw [o'.1, e])
  rw [ej] at h
  exact (ac_hl_t.mp h.2.1).1.1 r
theorem ac_fh_yes {str uno rc lg : ac_A} {L s id : Nat} (o : ac_od str uno (nI s) id = true) (r : ¬ rc id = 0) (e : ac_lc str uno lg (nI s) L = ac_ct (ac_od str uno (nI s)) id) : ac_fh str uno rc lg L s id ∧ ∀ j, j < id → ¬ ac_fh str uno rc lg L s j := by
  have o' := ac_od_t.mp o
  have k : ac_rk str uno id = ac_lc str uno lg (nI s) L := by unfold ac_rk; rw [o'.1, e]
  have d : ac_dl str uno rc lg L id = false := by
    apply ac_bf
    intro z
    rw [ac_dl_o o'.2, o'.1] at z
    omega
  have h : ac_fh str uno rc lg L s id := ⟨o'.1, ac_hl_t.mpr ⟨⟨r, o'.2⟩, d⟩, k⟩
  refine ⟨h, fun j hj h2 => ?_⟩
  have := ac_fh_uq h2 o'.1 o'.2 k
  omega
theorem ac_L_lt {S : Nat} {str uno rc xp lg : ac_A} {L j : Nat} (I : ac_Inv S str uno rc xp lg L) (hj : j < S) (d : ac_dl str uno rc lg L j = false) : L < S := by
  have e := I.2.2.2.2.2.1
  have h := ac_ct_put (p := ac_dl str uno rc lg L) (q := fun k => if k = j then true else ac_dl str uno rc lg L k) (m := j) d (if_pos rfl) (fun k hk => if_neg hk) S
  rw [if_pos hj, ← e] at h
  have := ac_ct_le (fun k => if k = j then true else ac_dl str uno rc lg L k) S
  omega
/-! H: heartbeats, judgement, the primary -/
def ac_hb (up act : ac_A) (rp : Int32) (p : Nat) (q : ac_A × ac_A) : ac_A × ac_A := if act p = 0 then (upd q.1 p 1, if up p = 0 then q.2 else if rp = 0 then q.2 else upd q.2 p 1) else q
def ac_jd (th : Int32) (sn an : ac_A) (p : Nat) (q : ac_A × ac_A) : ac_A × ac_A := if an p = 0 then (if sn p = 0 then q else (upd q.1 p (q.1 p + 1), if q.1 p + 1 ≤ th then q.2 else upd q.2 p 0)) else (upd q.1 p 0, upd q.2 p 1)
def ac_ch (act : ac_A) (p : Nat) : Nat := if act p = 0 then (if act (1 - p) = 0 then p else 1 - p) else p
theorem ac_ch_2 {act : ac_A} {p : Nat} (h : p < 2) : ac_ch act p < 2 := by
  unfold ac_ch
  split
  · split
    · exact h
    · omega
  · exact h
theorem ac_jd_01 {th : Int32} {sn an : ac_A} {p : Nat} {q : ac_A × ac_A} (h : ∀ j, q.2 j = 0 ∨ q.2 j = 1) : ∀ j, (ac_jd th sn an p q).2 j = 0 ∨ (ac_jd th sn an p q).2 j = 1 := by
  unfold ac_jd
  split
  · split
    · exact h
    · split
      · exact h
      · exact ac_01u h (Or.inl rfl)
  · exact ac_01u h (Or.inr rfl)
/-! I: bits of the mode -/
theorem ac_m4 (m : Int32) : (m &&& 7) &&& 4 = m &&& 4 := by rw [Int32.and_assoc]; exact congrArg (m &&& ·) (by decide)
theorem ac_m1 (m : Int32) : (m &&& 7) &&& 1 = m &&& 1 := by rw [Int32.and_assoc]; exact congrArg (m &&& ·) (by decide)
theorem ac_m2 (m : Int32) : (m &&& 7) &&& 2 = m &&& 2 := by rw [Int32.and_assoc]; exact congrArg (m &&& ·) (by decide)
theorem ac_vb0 : vp_nar .boolean 0 = 0 := by decide
theorem ac_vb1 : vp_nar .boolean 1 = 1 := by decide
theorem ac_nb {x : Int32} (h : x = 0 ∨ x = 1) : narrow .boolean (.int x) = .int x := by
  cases h with
  | inl h => rw [h]; rfl
  | inr h => rw [h]; rfl
theorem ac_vb {x : Int32} (h : x = 0 ∨ x = 1) : vp_nar .boolean x = x := by
  cases h with
  | inl h => rw [h]; exact ac_vb0
  | inr h => rw [h]; exact ac_vb1
