/-! A: numbers and stores (these pk_ rows are pasted from kit/rows/PURE-ROWS) -/
theorem ac_inj {a b : Nat} (h : nI a = nI b) (ha : a < 2 ^ 31) (hb : b < 2 ^ 31) : a = b := (nI_eq ha hb).mp h
theorem ac_same {f : Nat → Int32} {k : Nat} {x : Int32} (h : f k = x) : upd f k x = f := by
  funext j
  by_cases e : j = k
  · rw [e, pk_us, h]
  · rw [pk_un e]
theorem ac_upd0 {f : Nat → Int32} {k j : Nat} {x : Int32} (h : f j = 0) (hj : j ≠ k) : upd f k x j = 0 := by rw [pk_un hj, h]
theorem ac_01u {f : Nat → Int32} {k : Nat} {x : Int32} (h : ∀ j, f j = 0 ∨ f j = 1) (hx : x = 0 ∨ x = 1) : ∀ j, upd f k x j = 0 ∨ upd f k x j = 1 := by
  intro j
  by_cases e : j = k
  · rw [e, pk_us]; exact hx
  · rw [pk_un e]; exact h j
/-! B: counts -/
def ac_ct (p : Nat → Bool) : Nat → Nat
  | 0 => 0
  | n + 1 => ac_ct p n + (if p n = true then 1 else 0)
theorem ac_ct_t {p : Nat → Bool} {n : Nat} (h : p n = true) : ac_ct p (n + 1) = ac_ct p n + 1 := by
  show ac_ct p n + (if p n = true then 1 else 0) = _
  rw [if_pos h]
theorem ac_ct_f {p : Nat → Bool} {n : Nat} (h : p n = false) : ac_ct p (n + 1) = ac_ct p n := by
  show ac_ct p n + (if p n = true then 1 else 0) = _
  rw [if_neg (by rw [h]; decide), Nat.add_zero]
theorem ac_ct_le (p : Nat → Bool) : ∀ n, ac_ct p n ≤ n := by
  intro n
  induction n with
  | zero => exact Nat.le_refl 0
  | succ n ih =>
    cases h : p n with
    | true => rw [ac_ct_t h]; omega
    | false => rw [ac_ct_f h]; omega
theorem ac_ct_mono (p : Nat → Bool) {a : Nat} : ∀ {b : Nat}, a ≤ b → ac_ct p a ≤ ac_ct p b := by
  intro b
  induction b with
  | zero =>
    intro h
    obtain rfl : a = 0 := by omega
    exact Nat.le_refl _
  | succ n ih =>
    intro h
    by_cases e : a = n + 1
    · rw [e]; exact Nat.le_refl _
    · have := ih (by omega)
      cases h : p n with
      | true => rw [ac_ct_t h]; omega
      | false => rw [ac_ct_f h]; omega
theorem ac_ct_lt (p : Nat → Bool) {a b : Nat} (h : a < b) (hp : p a = true) : ac_ct p a < ac_ct p b := by
  have := ac_ct_mono p (show a + 1 ≤ b from h)
  rw [ac_ct_t hp] at this
  omega
theorem ac_ct_cg {p q : Nat → Bool} : ∀ n, (∀ j, j < n → p j = q j) → ac_ct p n = ac_ct q n := by
  intro n
  induction n with
  | zero => intro _; rfl
  | succ n ih =>
    intro h
    have e := ih (fun j hj => h j (by omega))
    have e2 := h n (by omega)
    cases hp : p n with
    | true => rw [ac_ct_t hp, ac_ct_t (e2.symm.trans hp), e]
    | false => rw [ac_ct_f hp, ac_ct_f (e2.symm.trans hp), e]
theorem ac_ct_put {p q : Nat → Bool} {m : Nat} (hp : p m = false) (hq : q m = true) (ho : ∀ j, j ≠ m → q j = p j) : ∀ n, ac_ct q n = ac_ct p n + (if m < n then 1 else 0) := by
  intro n
  induction n with
  | zero => rfl
  | succ n ih =>
    by_cases e : n = m
    · subst e
      rw [ac_ct_t hq, ac_ct_f hp, ih, if_neg (by omega), if_pos (by omega)]
    · have e2 := ho n e
      have e3 : (if m < n + 1 then 1 else 0 : Nat) = (if m < n then 1 else 0) := by
        by_cases z : m < n
        · rw [if_pos z, if_pos (by omega)]
        · rw [if_neg z, if_neg (by omega)]
      rw [e3]
      cases hp' : p n with
      | true => rw [ac_ct_t hp', ac_ct_t (e2.trans hp'), ih]; omega
      | false => rw [ac_ct_f hp', ac_ct_f (e2.trans hp'), ih]
theorem ac_ct_ge {p q : Nat → Bool} (h : ∀ j, p j = true → q j = true) : ∀ n, ac_ct p n ≤ ac_ct q n := by
  intro n
  induction n with
  | zero => exact Nat.le_refl _
  | succ n ih =>
    cases hp : p n with
    | true => rw [ac_ct_t hp, ac_ct_t (h n hp)]; omega
    | false =>
      rw [ac_ct_f hp]
      exact Nat.le_trans ih (ac_ct_mono q (Nat.le_succ n))
/-! C: ordered ids, ranks, the log's counts, what is delivered -/
def ac_od (str uno : Nat → Int32) (s : Int32) (j : Nat) : Bool := decide (str j = s ∧ uno j = 0)
theorem ac_od_t {str uno : Nat → Int32} {s : Int32} {j : Nat} : ac_od str uno s j = true ↔ str j = s ∧ uno j = 0 := decide_eq_true_iff
theorem ac_od_f {str uno : Nat → Int32} {s : Int32} {j : Nat} : ac_od str uno s j = false ↔ ¬ (str j = s ∧ uno j = 0) := decide_eq_false_iff_not
def ac_rk (str uno : Nat → Int32) (j : Nat) : Nat := ac_ct (ac_od str uno (str j)) j
def ac_lc (str uno lg : Nat → Int32) (s : Int32) (L : Nat) : Nat := ac_ct (fun i => ac_od str uno s (lg i).toNatClampNeg) L
def ac_dl (str uno rc lg : Nat → Int32) (L : Nat) (j : Nat) : Bool := if uno j = 0 then decide (ac_rk str uno j < ac_lc str uno lg (str j) L) else decide (¬ rc j = 0)
theorem ac_dl_o {str uno rc lg : Nat → Int32} {L j : Nat} (h : uno j = 0) : ac_dl str uno rc lg L j = true ↔ ac_rk str uno j < ac_lc str uno lg (str j) L := by
  unfold ac_dl
  rw [if_pos h]
  exact decide_eq_true_iff
theorem ac_dl_u {str uno rc lg : Nat → Int32} {L j : Nat} (h : ¬ uno j = 0) : ac_dl str uno rc lg L j = true ↔ ¬ rc j = 0 := by
  unfold ac_dl
  rw [if_neg h]
  exact decide_eq_true_iff
theorem ac_bf {b : Bool} (h : ¬ b = true) : b = false := by cases b with
  | true => exact absurd rfl h
  | false => rfl
theorem ac_be {a b : Bool} (h : a = true ↔ b = true) : a = b := by
  cases a with
  | true => exact (h.mp rfl).symm
  | false => exact (ac_bf (fun z => Bool.noConfusion (h.mpr z))).symm
theorem ac_rk_inj {str uno : Nat → Int32} {i j : Nat} (ei : uno i = 0) (ej : uno j = 0) (es : str i = str j) (h : ac_rk str uno i = ac_rk str uno j) : i = j := by
  unfold ac_rk at h
  rw [es] at h
  by_cases h1 : i < j
  · have := ac_ct_lt (ac_od str uno (str j)) h1 (ac_od_t.mpr ⟨es, ei⟩)
    omega
  · by_cases h2 : j < i
    · have := ac_ct_lt (ac_od str uno (str j)) h2 (ac_od_t.mpr ⟨rfl, ej⟩)
      omega
    · omega
theorem ac_lc_keep {str uno lg : Nat → Int32} {s x : Int32} {L : Nat} {n : Nat} (hn : n ≤ L) : ac_lc str uno (upd lg L x) s n = ac_lc str uno lg s n := by
  unfold ac_lc
  exact ac_ct_cg n (fun i hi => by rw [pk_un (show i ≠ L by omega)])
theorem ac_lc_new {str uno lg : Nat → Int32} {s : Int32} {L j : Nat} (hj : j < 2 ^ 31) : ac_lc str uno (upd lg L (nI j)) s (L + 1) = ac_lc str uno lg s L + (if ac_od str uno s j = true then 1 else 0) := by
  show ac_ct _ L + (if ac_od str uno s (upd lg L (nI j) L).toNatClampNeg = true then 1 else 0) = _
  rw [pk_us, nI_clamp hj]
  exact congrArg (· + _) (ac_lc_keep (Nat.le_refl L))
theorem ac_lc_new_t {str uno lg : Nat → Int32} {s : Int32} {L j : Nat} (hj : j < 2 ^ 31) (h : str j = s) (hu : uno j = 0) : ac_lc str uno (upd lg L (nI j)) s (L + 1) = ac_lc str uno lg s L + 1 := by
  rw [ac_lc_new hj, if_pos (ac_od_t.mpr ⟨h, hu⟩)]
theorem ac_lc_new_f {str uno lg : Nat → Int32} {s : Int32} {L j : Nat} (hj : j < 2 ^ 31) (h : ¬ (str j = s ∧ uno j = 0)) : ac_lc str uno (upd lg L (nI j)) s (L + 1) = ac_lc str uno lg s L := by
  rw [ac_lc_new hj, if_neg (fun z => h (ac_od_t.mp z)), Nat.add_zero]
