section
/-! A: numbers and stores (these pk_ rows are pasted from kit/rows/PURE-ROWS) -/
theorem ac_inj {a b : Nat} (h : nI a = nI b) (ha : a < 2 ^ 31) (hb : b < 2 ^ 31) : a = b := (nI_eq ha hb).mp h
theorem ac_same {f : Nat → Int32} {k : Nat} {x : Int32} (h : f k = x) : upd f k x = f := by
  funext j
  by_cases e : j = k
  · rw [e, pk_us, h]
  · rw [pk_un e]
theorem ac_upd0 {f : Nat → Int32} {k j : Nat} {x : Int32} (h : f j = 0) (hj : j ≠ k) : upd f k x j = 0 := by rw [pk_un hj, h]
theorem ac_01u {f : Nat → Int32} {k : Nat} {x : Int32} (h : ∀ j, f j = 0 ∨ f j = 1) (hx : x = 0 ∨ x = 1) : ∀ j, upd f k x j = 0 ∨ upd f k x j = 1 := by
  intro j
  by_cases e : j = k
  · rw [e, pk_us]; exact hx
  · rw [pk_un e]; exact h j
/-! B: counts -/
def ac_ct (p : Nat → Bool) : Nat → Nat
  | 0 => 0
  | n + 1 => ac_ct p n + (if p n = true then 1 else 0)
theorem ac_ct_t {p : Nat → Bool} {n : Nat} (h : p n = true) : ac_ct p (n + 1) = ac_ct p n + 1 := by
  show ac_ct p n + (if p n = true then 1 else 0) = _
  rw [if_pos h]
theorem ac_ct_f {p : Nat → Bool} {n : Nat} (h : p n = false) : ac_ct p (n + 1) = ac_ct p n := by
  show ac_ct p n + (if p n = true then 1 else 0) = _
  rw [if_neg (by rw [h]; decide), Nat.add_zero]
theorem ac_ct_le (p : Nat → Bool) : ∀ n, ac_ct p n ≤ n := by
  intro n
  induction n with
  | zero => exact Nat.le_refl 0
  | succ n ih =>
    cases h : p n with
    | true => rw [ac_ct_t h]; omega
    | false => rw [ac_ct_f h]; omega
theorem ac_ct_mono (p : Nat → Bool) {a : Nat} : ∀ {b : Nat}, a ≤ b → ac_ct p a ≤ ac_ct p b := by
  intro b
  induction b with
  | zero =>
    intro h
    obtain rfl : a = 0 := by omega
    exact Nat.le_refl _
  | succ n ih =>
    intro h
    by_cases e : a = n + 1
    · rw [e]; exact Nat.le_refl _
    · have := ih (by omega)
      cases h : p n with
      | true => rw [ac_ct_t h]; omega
      | false => rw [ac_ct_f h]; omega
theorem ac_ct_lt (p : Nat → Bool) {a b : Nat} (h : a < b) (hp : p a = true) : ac_ct p a < ac_ct p b := by
  have := ac_ct_mono p (show a + 1 ≤ b from h)
  rw [ac_ct_t hp] at this
  omega
theorem ac_ct_cg {p q : Nat → Bool} : ∀ n, (∀ j, j < n → p j = q j) → ac_ct p n = ac_ct q n := by
  intro n
  induction n with
  | zero => intro _; rfl
  | succ n ih =>
    intro h
    have e := ih (fun j hj => h j (by omega))
    have e2 := h n (by omega)
    cases hp : p n with
    | true => rw [ac_ct_t hp, ac_ct_t (e2.symm.trans hp), e]
    | false => rw [ac_ct_f hp, ac_ct_f (e2.symm.trans hp), e]
theorem ac_ct_put {p q : Nat → Bool} {m : Nat} (hp : p m = false) (hq : q m = true) (ho : ∀ j, j ≠ m → q j = p j) : ∀ n, ac_ct q n = ac_ct p n + (if m < n then 1 else 0) := by
  intro n
  induction n with
  | zero => rfl
  | succ n ih =>
    by_cases e : n = m
    · subst e
      rw [ac_ct_t hq, ac_ct_f hp, ih, if_neg (by omega), if_pos (by omega)]
    · have e2 := ho n e
      have e3 : (if m < n + 1 then 1 else 0 : Nat) = (if m < n then 1 else 0) := by
        by_cases z : m < n
        · rw [if_pos z, if_pos (by omega)]
        · rw [if_neg z, if_neg (by omega)]
      rw [e3]
      cases hp' : p n with
      | true => rw [ac_ct_t hp', ac_ct_t (e2.trans hp'), ih]; omega
      | false => rw [ac_ct_f hp', ac_ct_f (e2.trans hp'), ih]
theorem ac_ct_ge {p q : Nat → Bool} (h : ∀ j, p j = true → q j = true) : ∀ n, ac_ct p n ≤ ac_ct q n := by
  intro n
  induction n with
  | zero => exact Nat.le_refl _
  | succ n ih =>
    cases hp : p n with
    | true => rw [ac_ct_t hp, ac_ct_t (h n hp)]; omega
    | false =>
      rw [ac_ct_f hp]
      exact Nat.le_trans ih (ac_ct_mono q (Nat.le_succ n))
/-! C: ordered ids, ranks, the log's counts, what is delivered -/
def ac_od (str uno : Nat → Int32) (s : Int32) (j : Nat) : Bool := decide (str j = s ∧ uno j = 0)
theorem ac_od_t {str uno : Nat → Int32} {s : Int32} {j : Nat} : ac_od str uno s j = true ↔ str j = s ∧ uno j = 0 := decide_eq_true_iff
theorem ac_od_f {str uno : Nat → Int32} {s : Int32} {j : Nat} : ac_od str uno s j = false ↔ ¬ (str j = s ∧ uno j = 0) := decide_eq_false_iff_not
def ac_rk (str uno : Nat → Int32) (j : Nat) : Nat := ac_ct (ac_od str uno (str j)) j
def ac_lc (str uno lg : Nat → Int32) (s : Int32) (L : Nat) : Nat := ac_ct (fun i => ac_od str uno s (lg i).toNatClampNeg) L
def ac_dl (str uno rc lg : Nat → Int32) (L : Nat) (j : Nat) : Bool := if uno j = 0 then decide (ac_rk str uno j < ac_lc str uno lg (str j) L) else decide (¬ rc j = 0)
theorem ac_dl_o {str uno rc lg : Nat → Int32} {L j : Nat} (h : uno j = 0) : ac_dl str uno rc lg L j = true ↔ ac_rk str uno j < ac_lc str uno lg (str j) L := by
  unfold ac_dl
  rw [if_pos h]
  exact decide_eq_true_iff
theorem ac_dl_u {str uno rc lg : Nat → Int32} {L j : Nat} (h : ¬ uno j = 0) : ac_dl str uno rc lg L j = true ↔ ¬ rc j = 0 := by
  unfold ac_dl
  rw [if_neg h]
  exact decide_eq_true_iff
theorem ac_bf {b : Bool} (h : ¬ b = true) : b = false := by cases b with
  | true => exact absurd rfl h
  | false => rfl
theorem ac_be {a b : Bool} (h : a = true ↔ b = true) : a = b := by
  cases a with
  | true => exact (h.mp rfl).symm
  | false => exact (ac_bf (fun z => Bool.noConfusion (h.mpr z))).symm
theorem ac_rk_inj {str uno : Nat → Int32} {i j : Nat} (ei : uno i = 0) (ej : uno j = 0) (es : str i = str j) (h : ac_rk str uno i = ac_rk str uno j) : i = j := by
  unfold ac_rk at h
  rw [es] at h
  by_cases h1 : i < j
  · have := ac_ct_lt (ac_od str uno (str j)) h1 (ac_od_t.mpr ⟨es, ei⟩)
    omega
  · by_cases h2 : j < i
    · have := ac_ct_lt (ac_od str uno (str j)) h2 (ac_od_t.mpr ⟨rfl, ej⟩)
      omega
    · omega
theorem ac_lc_keep {str uno lg : Nat → Int32} {s x : Int32} {L : Nat} {n : Nat} (hn : n ≤ L) : ac_lc str uno (upd lg L x) s n = ac_lc str uno lg s n := by
  unfold ac_lc
  exact ac_ct_cg n (fun i hi => by rw [pk_un (show i ≠ L by omega)])
theorem ac_lc_new {str uno lg : Nat → Int32} {s : Int32} {L j : Nat} (hj : j < 2 ^ 31) : ac_lc str uno (upd lg L (nI j)) s (L + 1) = ac_lc str uno lg s L + (if ac_od str uno s j = true then 1 else 0) := by
  show ac_ct _ L + (if ac_od str uno s (upd lg L (nI j) L).toNatClampNeg = true then 1 else 0) = _
  rw [pk_us, nI_clamp hj]
  exact congrArg (· + _) (ac_lc_keep (Nat.le_refl L))
theorem ac_lc_new_t {str uno lg : Nat → Int32} {s : Int32} {L j : Nat} (hj : j < 2 ^ 31) (h : str j = s) (hu : uno j = 0) : ac_lc str uno (upd lg L (nI j)) s (L + 1) = ac_lc str uno lg s L + 1 := by
  rw [ac_lc_new hj, if_pos (ac_od_t.mpr ⟨h, hu⟩)]
theorem ac_lc_new_f {str uno lg : Nat → Int32} {s : Int32} {L j : Nat} (hj : j < 2 ^ 31) (h : ¬ (str j = s ∧ uno j = 0)) : ac_lc str uno (upd lg L (nI j)) s (L + 1) = ac_lc str uno lg s L := by
  rw [ac_lc_new hj, if_neg (fun z => h (ac_od_t.mp z)), Nat.add_zero]
end
section
/-! D: the invariant of messages and log -/
def ac_Inv (S : Nat) (str uno rc xp lg : Nat → Int32) (L : Nat) : Prop :=
  S ≤ 128 ∧ (∀ j, j < S → ∃ s, s < 8 ∧ str j = nI s) ∧ (∀ j, S ≤ j → rc j = 0)
  ∧ (∀ i, i < L → ∃ j, j < S ∧ lg i = nI j ∧ ac_dl str uno rc lg L j = true)
  ∧ (∀ j, j < S → ac_dl str uno rc lg L j = true → ∃ i, i < L ∧ lg i = nI j)
  ∧ L = ac_ct (ac_dl str uno rc lg L) S
  ∧ (∀ s, ac_lc str uno lg s L ≤ ac_ct (ac_od str uno s) S)
  ∧ (∀ s, s < 8 → xp s = nI (ac_lc str uno lg (nI s) L))
  ∧ (∀ j, j < S → ac_dl str uno rc lg L j = true → ¬ rc j = 0)
  ∧ (∀ i j, i < L → lg i = nI j → j < S → uno j = 0 → ac_rk str uno j = ac_lc str uno lg (str j) i)
  ∧ (∀ i i', i < L → i' < L → lg i = lg i' → i = i')
theorem ac_Inv_L {S : Nat} {str uno rc xp lg : Nat → Int32} {L : Nat} (I : ac_Inv S str uno rc xp lg L) : L ≤ S := by
  have h := I.2.2.2.2.2.1
  rw [h]
  exact ac_ct_le _ _
theorem ac_Inv0 : ac_Inv 0 (fun _ => 0) (fun _ => 0) (fun _ => 0) (fun _ => 0) (fun _ => 0) 0 := by
  refine ⟨by omega, fun j h => absurd h (by omega), fun _ _ => rfl, fun i h => absurd h (by omega), fun j h => absurd h (by omega), rfl, fun _ => Nat.le_refl _, fun _ _ => nI_0.symm, fun j h => absurd h (by omega), fun i j h => absurd h (by omega), fun i i' h => absurd h (by omega)⟩
theorem ac_app {S : Nat} {str uno rc xp lg rc' xp' : Nat → Int32} {L j : Nat} (I : ac_Inv S str uno rc xp lg L) (hj : j < S) (hd : ac_dl str uno rc lg L j = false) (hr : uno j = 0 → ac_rk str uno j = ac_lc str uno lg (str j) L) (hr1 : ¬ rc' j = 0) (hr2 : ∀ k, k ≠ j → rc' k = rc k) (hx : ∀ s, s < 8 → xp' s = nI (ac_lc str uno (upd lg L (nI j)) (nI s) (L + 1))) : ac_Inv S str uno rc' xp' (upd lg L (nI j)) (L + 1) := by
  obtain ⟨h1, h2, h3, h4, h5, h6, h7, h8, h9, h10, h11⟩ := I
  have jb : j < 2 ^ 31 := by omega
  have dj : ac_dl str uno rc' (upd lg L (nI j)) (L + 1) j = true := by
    by_cases u : uno j = 0
    · rw [ac_dl_o u, ac_lc_new_t jb rfl u, hr u]
      omega
    · rw [ac_dl_u u]
      exact hr1
  have dk : ∀ k, k ≠ j → ac_dl str uno rc' (upd lg L (nI j)) (L + 1) k = ac_dl str uno rc lg L k := by
    intro k hk
    apply ac_be
    by_cases u : uno k = 0
    · rw [ac_dl_o u, ac_dl_o u]
      by_cases z : str j = str k ∧ uno j = 0
      · rw [ac_lc_new_t jb z.1 z.2]
        have e := hr z.2
        rw [z.1] at e
        have ne : ac_rk str uno k ≠ ac_rk str uno j := fun q => hk (ac_rk_inj u z.2 z.1.symm q)
        omega
      · rw [ac_lc_new_f jb z]
    · rw [ac_dl_u u, ac_dl_u u, hr2 k hk]
  refine ⟨h1, h2, ?_, ?_, ?_, ?_, ?_, hx, ?_, ?_, ?_⟩
  · intro k hk
    rw [hr2 k (by omega)]
    exact h3 k hk
  · intro i hi
    by_cases e : i = L
    · subst e
      exact ⟨j, hj, pk_us, dj⟩
    · obtain ⟨k, hk, ek, dk'⟩ := h4 i (by omega)
      refine ⟨k, hk, by rw [pk_un e, ek], ?_⟩
      by_cases kj : k = j
      · rw [kj]; exact dj
      · rw [dk k kj]; exact dk'
  · intro k hk d
    by_cases kj : k = j
    · exact ⟨L, by omega, by rw [pk_us, kj]⟩
    · rw [dk k kj] at d
      obtain ⟨i, hi, ei⟩ := h5 k hk d
      exact ⟨i, by omega, by rw [pk_un (show i ≠ L by omega), ei]⟩
  · rw [ac_ct_put hd dj dk, if_pos hj, ← h6]
  · intro t
    by_cases z : str j = t ∧ uno j = 0
    · rw [ac_lc_new_t jb z.1 z.2]
      have e := hr z.2
      have := ac_ct_lt (ac_od str uno t) hj (ac_od_t.mpr z)
      unfold ac_rk at e
      rw [z.1] at e
      omega
    · rw [ac_lc_new_f jb z]
      exact h7 t
  · intro k hk d
    by_cases kj : k = j
    · rw [kj]; exact hr1
    · rw [dk k kj] at d
      rw [hr2 k kj]
      exact h9 k hk d
  · intro i k hi e hk u
    by_cases il : i = L
    · subst il
      rw [pk_us] at e
      have ejk : j = k := ac_inj e jb (by omega)
      subst ejk
      rw [ac_lc_keep (Nat.le_refl i)]
      exact hr u
    · rw [pk_un il] at e
      rw [ac_lc_keep (show i ≤ L by omega)]
      exact h10 i k (by omega) e hk u
  · have no : ∀ i, i < L → lg i = nI j → False := by
      intro i hi e
      obtain ⟨k, hk, ek, d⟩ := h4 i hi
      have ejk : j = k := ac_inj (e.symm.trans ek) jb (by omega)
      subst ejk
      rw [hd] at d
      exact Bool.noConfusion d
    intro i i' hi hi' e
    by_cases il : i = L
    · by_cases il' : i' = L
      · rw [il, il']
      · exfalso
        rw [il, pk_us, pk_un il'] at e
        exact no i' (by omega) e.symm
    · by_cases il' : i' = L
      · exfalso
        rw [il', pk_us, pk_un il] at e
        exact no i (by omega) e
      · rw [pk_un il, pk_un il'] at e
        exact h11 i i' (by omega) (by omega) e
theorem ac_rcv {S : Nat} {str uno rc xp lg : Nat → Int32} {L j : Nat} (I : ac_Inv S str uno rc xp lg L) (hj : j < S) (u : uno j = 0) : ac_Inv S str uno (upd rc j 1) xp lg L := by
  obtain ⟨h1, h2, h3, h4, h5, h6, h7, h8, h9, h10, h11⟩ := I
  have e : ac_dl str uno (upd rc j 1) lg L = ac_dl str uno rc lg L := by
    funext k
    apply ac_be
    by_cases uk : uno k = 0
    · rw [ac_dl_o uk, ac_dl_o uk]
    · rw [ac_dl_u uk, ac_dl_u uk, pk_un (fun z => uk (by rw [z]; exact u))]
  refine ⟨h1, h2, ?_, ?_, ?_, ?_, h7, h8, ?_, h10, h11⟩
  · intro k hk
    exact ac_upd0 (h3 k hk) (by omega)
  · rw [e]; exact h4
  · rw [e]; exact h5
  · rw [e]; exact h6
  · rw [e]
    intro k hk d
    by_cases kj : k = j
    · rw [kj, pk_us]; decide
    · rw [pk_un kj]; exact h9 k hk d
theorem ac_appU {S : Nat} {str uno rc xp lg : Nat → Int32} {L j : Nat} (I : ac_Inv S str uno rc xp lg L) (hj : j < S) (u : ¬ uno j = 0) (r : rc j = 0) : ac_Inv S str uno (upd rc j 1) xp (upd lg L (nI j)) (L + 1) := by
  refine ac_app I hj (ac_bf (fun z => (ac_dl_u u).mp z r)) (fun z => absurd z u) (by rw [pk_us]; decide) (fun k hk => pk_un hk) ?_
  intro s hs
  rw [ac_lc_new_f (by have := I.1; omega) (fun z => u z.2)]
  exact I.2.2.2.2.2.2.2.1 s hs
theorem ac_appO {S : Nat} {str uno rc xp lg : Nat → Int32} {L j s : Nat} (I : ac_Inv S str uno rc xp lg L) (hj : j < S) (u : uno j = 0) (r : ¬ rc j = 0) (hs : s < 8) (es : str j = nI s) (ek : ac_rk str uno j = ac_lc str uno lg (nI s) L) : ac_Inv S str uno rc (upd xp s (xp s + 1)) (upd lg L (nI j)) (L + 1) := by
  have jb : j < 2 ^ 31 := by have := I.1; omega
  refine ac_app I hj (ac_bf (fun z => ?_)) (fun _ => by rw [es]; exact ek) r (fun k _ => rfl) ?_
  · rw [ac_dl_o u, es] at z
    omega
  · intro t ht
    by_cases e : t = s
    · subst e
      rw [pk_us, ac_lc_new_t jb es u, I.2.2.2.2.2.2.2.1 t ht, nI_1]
    · rw [pk_un e, ac_lc_new_f jb (fun z => e (ac_inj (es.symm.trans z.1) (by omega) (by omega)).symm)]
      exact I.2.2.2.2.2.2.2.1 t ht
theorem ac_snd {S : Nat} {str uno rc xp lg : Nat → Int32} {L s : Nat} {b : Int32} (I : ac_Inv S str uno rc xp lg L) (hS : S < 128) (hs : s < 8) : ac_Inv (S + 1) (upd str S (nI s)) (upd uno S b) rc xp lg L := by
  obtain ⟨h1, h2, h3, h4, h5, h6, h7, h8, h9, h10, h11⟩ := I
  have eo : ∀ t j, j < S → ac_od (upd str S (nI s)) (upd uno S b) t j = ac_od str uno t j := by
    intro t j hj
    unfold ac_od
    rw [pk_un (show j ≠ S by omega), pk_un (show j ≠ S by omega)]
  have ec : ∀ t n, n ≤ S → ac_ct (ac_od (upd str S (nI s)) (upd uno S b) t) n = ac_ct (ac_od str uno t) n := fun t n hn => ac_ct_cg n (fun j hj => eo t j (by omega))
  have el : ∀ t n, n ≤ L → ac_lc (upd str S (nI s)) (upd uno S b) lg t n = ac_lc str uno lg t n := by
    intro t n hn
    unfold ac_lc
    refine ac_ct_cg n (fun i hi => ?_)
    obtain ⟨k, hk, ek, _⟩ := h4 i (by omega)
    rw [ek, nI_clamp (by omega)]
    exact eo t k hk
  have er : ∀ j, j < S → ac_rk (upd str S (nI s)) (upd uno S b) j = ac_rk str uno j := by
    intro j hj
    unfold ac_rk
    rw [pk_un (show j ≠ S by omega)]
    exact ec _ j (by omega)
  have ed : ∀ j, j < S → ac_dl (upd str S (nI s)) (upd uno S b) rc lg L j = ac_dl str uno rc lg L j := by
    intro j hj
    unfold ac_dl
    rw [pk_un (show j ≠ S by omega), pk_un (show j ≠ S by omega), er j hj, el _ L (Nat.le_refl L)]
  have eS : ac_dl (upd str S (nI s)) (upd uno S b) rc lg L S = false := by
    apply ac_bf
    intro z
    by_cases u : upd uno S b S = 0
    · rw [ac_dl_o u] at z
      unfold ac_rk at z
      rw [pk_us, ec _ S (Nat.le_refl S), el _ L (Nat.le_refl L)] at z
      have := h7 (nI s)
      omega
    · rw [ac_dl_u u] at z
      exact z (h3 S (Nat.le_refl S))
  refine ⟨by omega, ?_, ?_, ?_, ?_, ?_, ?_, ?_, ?_, ?_, h11⟩
  · intro j hj
    by_cases e : j = S
    · exact ⟨s, hs, by rw [e, pk_us]⟩
    · rw [pk_un e]; exact h2 j (by omega)
  · intro j hj
    exact h3 j (by omega)
  · intro i hi
    obtain ⟨k, hk, ek, d⟩ := h4 i hi
    exact ⟨k, by omega, ek, by rw [ed k hk]; exact d⟩
  · intro j hj d
    by_cases e : j = S
    · rw [e, eS] at d
      exact Bool.noConfusion d
    · rw [ed j (by omega)] at d
      exact h5 j (by omega) d
  · rw [ac_ct_f eS, ac_ct_cg S ed]
    exact h6
  · intro t
    rw [el t L (Nat.le_refl L)]
    refine Nat.le_trans (h7 t) ?_
    rw [← ec t S (Nat.le_refl S)]
    exact ac_ct_mono _ (Nat.le_succ S)
  · intro t ht
    rw [el _ L (Nat.le_refl L)]
    exact h8 t ht
  · intro j hj d
    by_cases e : j = S
    · rw [e, eS] at d
      exact Bool.noConfusion d
    · rw [ed j (by omega)] at d
      exact h9 j (by omega) d
  · intro i j hi e hj u
    by_cases ej : j = S
    · exfalso
      obtain ⟨k, hk, ek, _⟩ := h4 i hi
      have := ac_inj (e.symm.trans ek) (by omega) (by omega)
      omega
    · rw [pk_un ej] at u
      rw [er j (by omega), pk_un ej, el _ i (by omega)]
      exact h10 i j hi e (by omega) u
/-! E: the upward pass, a chunk, the chunks of a round -/
abbrev ac_A : Type := Nat → Int32
def ac_dv (str uno rc : ac_A) (s : Nat) : Nat → Nat → ac_A × ac_A × Nat → ac_A × ac_A × Nat
  | 0, _, q => q
  | n + 1, id, q => if ac_od str uno (nI s) id = true then (if rc id = 0 then q else ac_dv str uno rc s n (id + 1) (upd q.1 s (q.1 s + 1), upd q.2.1 q.2.2 (nI id), q.2.2 + 1)) else ac_dv str uno rc s n (id + 1) q
theorem ac_dv_s {str uno rc : ac_A} {s n id : Nat} {q : ac_A × ac_A × Nat} : ac_dv str uno rc s (n + 1) id q = if ac_od str uno (nI s) id = true then (if rc id = 0 then q else ac_dv str uno rc s n (id + 1) (upd q.1 s (q.1 s + 1), upd q.2.1 q.2.2 (nI id), q.2.2 + 1)) else ac_dv str uno rc s n (id + 1) q := rfl
theorem ac_dv_step {S : Nat} {str uno rc xp lg : ac_A} {L s id : Nat} (hs : s < 8) (I : ac_Inv S str uno rc xp lg L) (hid : id < S) (o : ac_od str uno (nI s) id = true) (r : ¬ rc id = 0) (e : ac_lc str uno lg (nI s) L = ac_ct (ac_od str uno (nI s)) id) : ac_Inv S str uno rc (upd xp s (xp s + 1)) (upd lg L (nI id)) (L + 1) ∧ ac_lc str uno (upd lg L (nI id)) (nI s) (L + 1) = ac_ct (ac_od str uno (nI s)) (id + 1) := by
  have o' := ac_od_t.mp o
  have jb : id < 2 ^ 31 := by have := I.1; omega
  refine ⟨ac_appO I hid o'.2 r hs o'.1 ?_, ?_⟩
  · unfold ac_rk
    rw [o'.1, e]
  · rw [ac_lc_new_t jb o'.1 o'.2, e, ac_ct_t o]
theorem ac_dv_inv {S : Nat} {str uno rc : ac_A} {s : Nat} (hs : s < 8) : ∀ (n id : Nat) (q : ac_A × ac_A × Nat), id + n = S → ac_Inv S str uno rc q.1 q.2.1 q.2.2 → ac_lc str uno q.2.1 (nI s) q.2.2 = ac_ct (ac_od str uno (nI s)) id → ac_Inv S str uno rc (ac_dv str uno rc s n id q).1 (ac_dv str uno rc s n id q).2.1 (ac_dv str uno rc s n id q).2.2 := by
  intro n
  induction n with
  | zero => intro id q _ I _; exact I
  | succ n ih =>
    intro id q hn I e
    rw [ac_dv_s]
    by_cases o : ac_od str uno (nI s) id = true
    · rw [if_pos o]
      by_cases r : rc id = 0
      · rw [if_pos r]; exact I
      · rw [if_neg r]
        have w := ac_dv_step hs I (by omega) o r e
        exact ih (id + 1) _ (by omega) w.1 w.2
    · rw [if_neg o]
      exact ih (id + 1) q (by omega) I (by rw [e, ac_ct_f (ac_bf o)])
abbrev ac_PS : Type := ac_A × ac_A × ac_A × Nat × Int32
def ac_pc (S : Nat) (str uno : ac_A) (m : Nat) (q : ac_PS) : ac_PS :=
  if q.1 m = 0 then
    (if uno m = 0 then
      (if ac_rk str uno m = ac_lc str uno q.2.2.1 (str m) q.2.2.2.1 then
        (upd q.1 m 1, (ac_dv str uno (upd q.1 m 1) (str m).toNatClampNeg (S - m) m (q.2.1, q.2.2.1, q.2.2.2.1)).1, (ac_dv str uno (upd q.1 m 1) (str m).toNatClampNeg (S - m) m (q.2.1, q.2.2.1, q.2.2.2.1)).2.1, (ac_dv str uno (upd q.1 m 1) (str m).toNatClampNeg (S - m) m (q.2.1, q.2.2.1, q.2.2.2.1)).2.2, q.2.2.2.2)
      else (upd q.1 m 1, q.2.1, q.2.2.1, q.2.2.2.1, q.2.2.2.2))
    else (upd q.1 m 1, q.2.1, upd q.2.2.1 q.2.2.2.1 (nI m), q.2.2.2.1 + 1, q.2.2.2.2))
  else (q.1, q.2.1, q.2.2.1, q.2.2.2.1, q.2.2.2.2 + 1)
def ac_PI (S : Nat) (str uno : ac_A) (q : ac_PS) : Prop := ac_Inv S str uno q.1 q.2.1 q.2.2.1 q.2.2.2.1 ∧ (∀ j, q.1 j = 0 ∨ q.1 j = 1)
theorem ac_pc_inv {S : Nat} {str uno : ac_A} {m : Nat} {q : ac_PS} (hm : m < S) (I : ac_PI S str uno q) : ac_PI S str uno (ac_pc S str uno m q) := by
  obtain ⟨I, B⟩ := I
  unfold ac_pc
  by_cases r : q.1 m = 0
  · rw [if_pos r]
    by_cases u : uno m = 0
    · rw [if_pos u]
      by_cases e : ac_rk str uno m = ac_lc str uno q.2.2.1 (str m) q.2.2.2.1
      · rw [if_pos e]
        obtain ⟨s, hs, es⟩ := I.2.1 m hm
        have ec : (str m).toNatClampNeg = s := by rw [es]; exact nI_clamp (by omega)
        refine ⟨?_, ac_01u B (Or.inr rfl)⟩
        dsimp only
        rw [ec]
        refine ac_dv_inv hs (S - m) m (q.2.1, q.2.2.1, q.2.2.2.1) (by omega) (ac_rcv I hm u) ?_
        dsimp only
        rw [es] at e
        rw [← e]
        unfold ac_rk
        rw [es]
      · rw [if_neg e]
        exact ⟨ac_rcv I hm u, ac_01u B (Or.inr rfl)⟩
    · rw [if_neg u]
      exact ⟨ac_appU I hm u r, ac_01u B (Or.inr rfl)⟩
  · rw [if_neg r]
    exact ⟨I, B⟩
def ac_p2 (S : Nat) (str uno : ac_A) (dup : Int32) (m : Nat) (q : ac_PS) : ac_PS := if dup = 0 then ac_pc S str uno m q else ac_pc S str uno m (ac_pc S str uno m q)
theorem ac_p2_inv {S : Nat} {str uno : ac_A} {dup : Int32} {m : Nat} {q : ac_PS} (hm : m < S) (I : ac_PI S str uno q) : ac_PI S str uno (ac_p2 S str uno dup m q) := by
  unfold ac_p2
  split
  · exact ac_pc_inv hm I
  · exact ac_pc_inv hm (ac_pc_inv hm I)
def ac_ix (S : Nat) (rev : Int32) (t : Nat) : Nat := if rev = 0 then t else S - 1 - t
def ac_pp (S : Nat) (str uno fa : ac_A) (rev dup : Int32) : Nat → Nat → ac_PS → ac_PS
  | 0, _, q => q
  | n + 1, t, q => ac_pp S str uno fa rev dup n (t + 1) (if fa (ac_ix S rev t) = 0 then q else ac_p2 S str uno dup (ac_ix S rev t) q)
theorem ac_pp_s {S : Nat} {str uno fa : ac_A} {rev dup : Int32} {n t : Nat} {q : ac_PS} : ac_pp S str uno fa rev dup (n + 1) t q = ac_pp S str uno fa rev dup n (t + 1) (if fa (ac_ix S rev t) = 0 then q else ac_p2 S str uno dup (ac_ix S rev t) q) := rfl
theorem ac_ix_lt {S t : Nat} {rev : Int32} (h : t < S) : ac_ix S rev t < S := by
  unfold ac_ix
  split
  · exact h
  · omega
theorem ac_pp_inv {S : Nat} {str uno fa : ac_A} {rev dup : Int32} : ∀ (n t : Nat) (q : ac_PS), t + n = S → ac_PI S str uno q → ac_PI S str uno (ac_pp S str uno fa rev dup n t q) := by
  intro n
  induction n with
  | zero => intro t q _ I; exact I
  | succ n ih =>
    intro t q h I
    rw [ac_pp_s]
    refine ih (t + 1) _ (by omega) ?_
    by_cases z : fa (ac_ix S rev t) = 0
    · rw [if_pos z]; exact I
    · rw [if_neg z]; exact ac_p2_inv (ac_ix_lt (by omega)) I
end
section
/-! F: transmission, acknowledgement, the places of the arrived -/
/-- sent times, sent on, losses, arrived on, arrived -/
abbrev ac_TS : Type := ac_A × ac_A × ac_A × ac_A × ac_A
def ac_t1 (up : ac_A) (p id : Nat) (q : ac_TS) : ac_TS :=
  if up p = 0 then (upd q.1 id (q.1 id + 1), upd q.2.1 p 1, q.2.2.1, q.2.2.2.1, q.2.2.2.2)
  else if q.2.2.1 p ≤ 0 then (upd q.1 id (q.1 id + 1), upd q.2.1 p 1, q.2.2.1, upd q.2.2.2.1 p 1, upd q.2.2.2.2 id 1)
  else (upd q.1 id (q.1 id + 1), upd q.2.1 p 1, upd q.2.2.1 p (q.2.2.1 p - 1), q.2.2.2.1, q.2.2.2.2)
def ac_tp (p r : Nat) (x : Int32) : Nat := if x = 0 then p else r
def ac_tm (ak up : ac_A) (p r : Nat) : Nat → Nat → ac_TS → ac_TS
  | 0, _, q => q
  | n + 1, id, q => ac_tm ak up p r n (id + 1) (if ak id = 0 then ac_t1 up (ac_tp p r (q.1 id)) id q else q)
theorem ac_tm_s {ak up : ac_A} {p r n id : Nat} {q : ac_TS} : ac_tm ak up p r (n + 1) id q = ac_tm ak up p r n (id + 1) (if ak id = 0 then ac_t1 up (ac_tp p r (q.1 id)) id q else q) := rfl
theorem ac_tm_n {ak up : ac_A} {p r n id : Nat} {q : ac_TS} (a : ¬ ak id = 0) : ac_tm ak up p r (n + 1) id q = ac_tm ak up p r n (id + 1) q := by
  rw [ac_tm_s, if_neg a]
theorem ac_tm_y {ak up : ac_A} {p r n id : Nat} {q : ac_TS} (a : ak id = 0) : ac_tm ak up p r (n + 1) id q = ac_tm ak up p r n (id + 1) (ac_t1 up (ac_tp p r (q.1 id)) id q) := by
  rw [ac_tm_s, if_pos a]
def ac_fl (fa : ac_A) (j : Nat) : Bool := decide (¬ fa j = 0)
theorem ac_fl_t {fa : ac_A} {j : Nat} : ac_fl fa j = true ↔ ¬ fa j = 0 := decide_eq_true_iff
theorem ac_fl_z {fa : ac_A} {j : Nat} (h : fa j = 0) : ac_fl fa j = false := ac_bf (fun f => ac_fl_t.mp f h)
/-- nothing arrived at or above id -/
def ac_FZ (id : Nat) (fa : ac_A) : Prop := ∀ j, id ≤ j → fa j = 0
/-- the list of the c arrived below id -/
def ac_XL (id : Nat) (fa xa : ac_A) (c : Nat) : Prop := c = ac_ct (ac_fl fa) id ∧ ∀ j, j < id → ¬ fa j = 0 → xa (ac_ct (ac_fl fa) j) = nI j
theorem ac_FZ_skip {id : Nat} {fa : ac_A} (h : ac_FZ id fa) : ac_FZ (id + 1) fa := fun j hj => h j (by omega)
theorem ac_FZ_put {id : Nat} {fa : ac_A} (h : ac_FZ id fa) : ac_FZ (id + 1) (upd fa id 1) := fun j hj => ac_upd0 (h j (by omega)) (by omega)
theorem ac_ct_fl0 {id : Nat} {fa : ac_A} (h : ac_FZ id fa) : ac_ct (ac_fl fa) (id + 1) = ac_ct (ac_fl fa) id := ac_ct_f (ac_fl_z (h id (Nat.le_refl id)))
theorem ac_ct_flu {id : Nat} {fa : ac_A} {n : Nat} (hn : n ≤ id) : ac_ct (ac_fl (upd fa id 1)) n = ac_ct (ac_fl fa) n := by
  refine ac_ct_cg n (fun j hj => ?_)
  unfold ac_fl
  rw [pk_un (show j ≠ id by omega)]
theorem ac_ct_fl1 {id : Nat} {fa : ac_A} : ac_ct (ac_fl (upd fa id 1)) (id + 1) = ac_ct (ac_fl fa) id + 1 := by
  rw [ac_ct_t (ac_fl_t.mpr (by rw [pk_us]; decide)), ac_ct_flu (Nat.le_refl id)]
theorem ac_XL_skip {id c : Nat} {fa xa : ac_A} (z : ac_FZ id fa) (h : ac_XL id fa xa c) : ac_XL (id + 1) fa xa c := by
  refine ⟨by rw [ac_ct_fl0 z]; exact h.1, fun j hj f => ?_⟩
  by_cases e : j = id
  · rw [e] at f; exact absurd (z id (Nat.le_refl id)) f
  · exact h.2 j (by omega) f
theorem ac_XL_put {id c : Nat} {fa xa : ac_A} (h : ac_XL id fa xa c) : ac_XL (id + 1) (upd fa id 1) (upd xa c (nI id)) (c + 1) := by
  refine ⟨by rw [ac_ct_fl1, h.1], fun j hj f => ?_⟩
  rw [ac_ct_flu (show j ≤ id by omega)]
  by_cases ej : j = id
  · rw [ej, ← h.1, pk_us]
  · rw [pk_un ej] at f
    have := ac_ct_lt (ac_fl fa) (show j < id by omega) (ac_fl_t.mpr f)
    have := h.1
    rw [pk_un (by omega)]
    exact h.2 j (by omega) f
theorem ac_t1_FZ {up : ac_A} {p id : Nat} {q : ac_TS} (h : ac_FZ id q.2.2.2.2) : ac_FZ (id + 1) (ac_t1 up p id q).2.2.2.2 := by
  unfold ac_t1
  split
  · exact ac_FZ_skip h
  · split
    · exact ac_FZ_put h
    · exact ac_FZ_skip h
theorem ac_tm_FZ {ak up : ac_A} {p r : Nat} : ∀ (n id : Nat) (q : ac_TS), ac_FZ id q.2.2.2.2 → ac_FZ (id + n) (ac_tm ak up p r n id q).2.2.2.2 := by
  intro n
  induction n with
  | zero => intro id q I; exact I
  | succ n ih =>
    intro id q I
    rw [show id + (n + 1) = id + 1 + n by omega]
    by_cases a : ak id = 0
    · rw [ac_tm_y a]; exact ih (id + 1) _ (ac_t1_FZ I)
    · rw [ac_tm_n a]; exact ih (id + 1) _ (ac_FZ_skip I)
theorem ac_t1_tx {up : ac_A} {p id : Nat} {q : ac_TS} : (ac_t1 up p id q).1 = upd q.1 id (q.1 id + 1) := by
  unfold ac_t1
  split
  · rfl
  · split
    · rfl
    · rfl
theorem ac_tm_tx {ak up : ac_A} {p r : Nat} : ∀ (n id : Nat) (q : ac_TS) (j : Nat), id + n ≤ j → (ac_tm ak up p r n id q).1 j = q.1 j := by
  intro n
  induction n with
  | zero => intro id q j _; rfl
  | succ n ih =>
    intro id q j hj
    by_cases a : ak id = 0
    · rw [ac_tm_y a, ih (id + 1) _ j (by omega), ac_t1_tx, pk_un (by omega)]
    · rw [ac_tm_n a, ih (id + 1) _ j (by omega)]
/-- nothing stands beyond the two paths -/
def ac_TZ (a : ac_A) : Prop := ∀ j, 2 ≤ j → a j = 0
theorem ac_TZ_put {a : ac_A} {p : Nat} {x : Int32} (h : ac_TZ a) (hp : p < 2) : ac_TZ (upd a p x) := fun j hj => ac_upd0 (h j hj) (by omega)
theorem ac_TZ_clr {a : ac_A} (h : ac_TZ a) : upd (upd a 0 0) 1 0 = fun _ => 0 := by
  funext j
  by_cases e : j = 1
  · rw [e, pk_us]
  · rw [pk_un e]
    by_cases e0 : j = 0
    · rw [e0, pk_us]
    · rw [pk_un e0]
      exact h j (by omega)
theorem ac_tp_2 {p r : Nat} {x : Int32} (hp : p < 2) (hr : r < 2) : ac_tp p r x < 2 := by
  unfold ac_tp
  split
  · exact hp
  · exact hr
theorem ac_t1_TZ {up : ac_A} {p id : Nat} {q : ac_TS} (hp : p < 2) (h : ac_TZ q.2.1 ∧ ac_TZ q.2.2.2.1) : ac_TZ (ac_t1 up p id q).2.1 ∧ ac_TZ (ac_t1 up p id q).2.2.2.1 := by
  unfold ac_t1
  split
  · exact ⟨ac_TZ_put h.1 hp, h.2⟩
  · split
    · exact ⟨ac_TZ_put h.1 hp, ac_TZ_put h.2 hp⟩
    · exact ⟨ac_TZ_put h.1 hp, h.2⟩
theorem ac_tm_TZ {ak up : ac_A} {p r : Nat} (hp : p < 2) (hr : r < 2) : ∀ (n id : Nat) (q : ac_TS), ac_TZ q.2.1 ∧ ac_TZ q.2.2.2.1 → ac_TZ (ac_tm ak up p r n id q).2.1 ∧ ac_TZ (ac_tm ak up p r n id q).2.2.2.1 := by
  intro n
  induction n with
  | zero => intro id q h; exact h
  | succ n ih =>
    intro id q h
    by_cases a : ak id = 0
    · rw [ac_tm_y a]; exact ih (id + 1) _ (ac_t1_TZ (ac_tp_2 hp hr) h)
    · rw [ac_tm_n a]; exact ih (id + 1) _ h
def ac_ack (rc : ac_A) : Nat → Nat → ac_A → ac_A
  | 0, _, a => a
  | n + 1, id, a => ac_ack rc n (id + 1) (if rc id = 0 then a else upd a id 1)
theorem ac_ack_s {rc a : ac_A} {n id : Nat} : ac_ack rc (n + 1) id a = ac_ack rc n (id + 1) (if rc id = 0 then a else upd a id 1) := rfl
theorem ac_ack_hi {rc : ac_A} : ∀ (n id : Nat) (a : ac_A) (j : Nat), id + n ≤ j → ac_ack rc n id a j = a j := by
  intro n
  induction n with
  | zero => intro id a j _; rfl
  | succ n ih =>
    intro id a j hj
    rw [ac_ack_s, ih (id + 1) _ j (by omega)]
    by_cases r : rc id = 0
    · rw [if_pos r]
    · rw [if_neg r, pk_un (by omega)]
theorem ac_ack_01 {rc : ac_A} : ∀ (n id : Nat) (a : ac_A), (∀ j, a j = 0 ∨ a j = 1) → ∀ j, ac_ack rc n id a j = 0 ∨ ac_ack rc n id a j = 1 := by
  intro n
  induction n with
  | zero => intro id a h; exact h
  | succ n ih =>
    intro id a h
    rw [ac_ack_s]
    refine ih (id + 1) _ ?_
    by_cases r : rc id = 0
    · rw [if_pos r]; exact h
    · rw [if_neg r]; exact ac_01u h (Or.inr rfl)
/-- where the list stands when the flags' scan is at t -/
def ac_pl (S : Nat) (fa : ac_A) (rev : Int32) (t : Nat) : Nat := if rev = 0 then ac_ct (ac_fl fa) t else ac_ct (ac_fl fa) S - ac_ct (ac_fl fa) (S - t)
def ac_px (c : Nat) (rev : Int32) (i : Nat) : Nat := if rev = 0 then i else c - 1 - i
theorem ac_pl_0 {S : Nat} {fa : ac_A} {rev : Int32} : ac_pl S fa rev 0 = 0 := by
  unfold ac_pl
  split
  · rfl
  · rw [Nat.sub_zero, Nat.sub_self]
theorem ac_pl_S {S : Nat} {fa : ac_A} {rev : Int32} : ac_pl S fa rev S = ac_ct (ac_fl fa) S := by
  unfold ac_pl
  split
  · rfl
  · rw [Nat.sub_self]
    show _ - 0 = _
    rw [Nat.sub_zero]
theorem ac_pl_no {S t : Nat} {fa : ac_A} {rev : Int32} (ht : t < S) (h : fa (ac_ix S rev t) = 0) : ac_pl S fa rev (t + 1) = ac_pl S fa rev t := by
  unfold ac_pl
  unfold ac_ix at h
  by_cases z : rev = 0
  · rw [if_pos z] at h
    rw [if_pos z, if_pos z, ac_ct_f (ac_fl_z h)]
  · rw [if_neg z] at h
    rw [if_neg z, if_neg z]
    have e : S - t = (S - 1 - t) + 1 := by omega
    have e2 : S - (t + 1) = S - 1 - t := by omega
    rw [e, e2, ac_ct_f (ac_fl_z h)]
theorem ac_pl_hit {S t : Nat} {fa : ac_A} {rev : Int32} (ht : t < S) (h : ¬ fa (ac_ix S rev t) = 0) : ac_pl S fa rev (t + 1) = ac_pl S fa rev t + 1 ∧ ac_pl S fa rev t < ac_ct (ac_fl fa) S ∧ ac_px (ac_ct (ac_fl fa) S) rev (ac_pl S fa rev t) = ac_ct (ac_fl fa) (ac_ix S rev t) := by
  unfold ac_pl ac_px ac_ix
  unfold ac_ix at h
  by_cases z : rev = 0
  · rw [if_pos z] at h
    rw [if_pos z, if_pos z, if_pos z, if_pos z, ac_ct_t (ac_fl_t.mpr h)]
    exact ⟨rfl, ac_ct_lt _ ht (ac_fl_t.mpr h), rfl⟩
  · rw [if_neg z] at h
    rw [if_neg z, if_neg z, if_neg z, if_neg z]
    have e : S - t = (S - 1 - t) + 1 := by omega
    have e2 : S - (t + 1) = S - 1 - t := by omega
    have m := ac_ct_mono (ac_fl fa) (show S - 1 - t + 1 ≤ S by omega)
    rw [e, e2]
    rw [ac_ct_t (ac_fl_t.mpr h)] at m ⊢
    omega
end
section
/-! G: what a scan of the log says; held ids; the id that is due -/
theorem ac_inlog {S : Nat} {str uno rc xp lg : ac_A} {L j : Nat} (I : ac_Inv S str uno rc xp lg L) (hj : j < S) : (∃ i, i < L ∧ lg i = nI j) ↔ ac_dl str uno rc lg L j = true := by
  constructor
  · intro h
    obtain ⟨i, hi, e⟩ := h
    obtain ⟨k, hk, ek, d⟩ := I.2.2.2.1 i hi
    have := I.1
    have ejk : j = k := ac_inj (e.symm.trans ek) (by omega) (by omega)
    rw [ejk]
    exact d
  · intro d
    exact I.2.2.2.2.1 j hj d
def ac_hl (str uno rc lg : ac_A) (L : Nat) (j : Nat) : Bool := decide ((¬ rc j = 0 ∧ uno j = 0) ∧ ac_dl str uno rc lg L j = false)
theorem ac_hl_t {str uno rc lg : ac_A} {L j : Nat} : ac_hl str uno rc lg L j = true ↔ (¬ rc j = 0 ∧ uno j = 0) ∧ ac_dl str uno rc lg L j = false := decide_eq_true_iff
/-- j is held, in stream s, and next -/
def ac_fh (str uno rc lg : ac_A) (L s : Nat) (j : Nat) : Prop := str j = nI s ∧ ac_hl str uno rc lg L j = true ∧ ac_rk str uno j = ac_lc str uno lg (nI s) L
theorem ac_fh_uq {str uno rc lg : ac_A} {L s i j : Nat} (h : ac_fh str uno rc lg L s i) (ej : str j = nI s) (uj : uno j = 0) (rj : ac_rk str uno j = ac_lc str uno lg (nI s) L) : i = j :=
  ac_rk_inj (ac_hl_t.mp h.2.1).1.2 uj (h.1.trans ej.symm) (h.2.2.trans rj.symm)
theorem ac_fh_end {S : Nat} {str uno rc xp lg : ac_A} {L s : Nat} (e : ac_lc str uno lg (nI s) L = ac_ct (ac_od str uno (nI s)) S) : ∀ j, j < S → ¬ ac_fh str uno rc lg L s j := by
  intro j hj h
  have h2 := h.2.2
  unfold ac_rk at h2
  rw [h.1] at h2
  have := ac_ct_lt (ac_od str uno (nI s)) hj (ac_od_t.mpr ⟨h.1, (ac_hl_t.mp h.2.1).1.2⟩)
  omega
theorem ac_fh_no {str uno rc lg : ac_A} {L s id : Nat} (o : ac_od str uno (nI s) id = true) (r : rc id = 0) (e : ac_lc str uno lg (nI s) L = ac_ct (ac_od str uno (nI s)) id) : ∀ j, ¬ ac_fh str uno rc lg L s j := by
  intro j h
  have o' := ac_od_t.mp o
  have ej : j = id := ac_fh_uq h o'.1 o'.2 (by unfold ac_rk; rw [o'.1, e])
  rw [ej] at h
  exact (ac_hl_t.mp h.2.1).1.1 r
theorem ac_fh_yes {str uno rc lg : ac_A} {L s id : Nat} (o : ac_od str uno (nI s) id = true) (r : ¬ rc id = 0) (e : ac_lc str uno lg (nI s) L = ac_ct (ac_od str uno (nI s)) id) : ac_fh str uno rc lg L s id ∧ ∀ j, j < id → ¬ ac_fh str uno rc lg L s j := by
  have o' := ac_od_t.mp o
  have k : ac_rk str uno id = ac_lc str uno lg (nI s) L := by unfold ac_rk; rw [o'.1, e]
  have d : ac_dl str uno rc lg L id = false := by
    apply ac_bf
    intro z
    rw [ac_dl_o o'.2, o'.1] at z
    omega
  have h : ac_fh str uno rc lg L s id := ⟨o'.1, ac_hl_t.mpr ⟨⟨r, o'.2⟩, d⟩, k⟩
  refine ⟨h, fun j hj h2 => ?_⟩
  have := ac_fh_uq h2 o'.1 o'.2 k
  omega
theorem ac_L_lt {S : Nat} {str uno rc xp lg : ac_A} {L j : Nat} (I : ac_Inv S str uno rc xp lg L) (hj : j < S) (d : ac_dl str uno rc lg L j = false) : L < S := by
  have e := I.2.2.2.2.2.1
  have h := ac_ct_put (p := ac_dl str uno rc lg L) (q := fun k => if k = j then true else ac_dl str uno rc lg L k) (m := j) d (if_pos rfl) (fun k hk => if_neg hk) S
  rw [if_pos hj, ← e] at h
  have := ac_ct_le (fun k => if k = j then true else ac_dl str uno rc lg L k) S
  omega
/-! H: heartbeats, judgement, the primary -/
def ac_hb (up act : ac_A) (rp : Int32) (p : Nat) (q : ac_A × ac_A) : ac_A × ac_A := if act p = 0 then (upd q.1 p 1, if up p = 0 then q.2 else if rp = 0 then q.2 else upd q.2 p 1) else q
def ac_jd (th : Int32) (sn an : ac_A) (p : Nat) (q : ac_A × ac_A) : ac_A × ac_A := if an p = 0 then (if sn p = 0 then q else (upd q.1 p (q.1 p + 1), if q.1 p + 1 ≤ th then q.2 else upd q.2 p 0)) else (upd q.1 p 0, upd q.2 p 1)
def ac_ch (act : ac_A) (p : Nat) : Nat := if act p = 0 then (if act (1 - p) = 0 then p else 1 - p) else p
theorem ac_ch_2 {act : ac_A} {p : Nat} (h : p < 2) : ac_ch act p < 2 := by
  unfold ac_ch
  split
  · split
    · exact h
    · omega
  · exact h
theorem ac_jd_01 {th : Int32} {sn an : ac_A} {p : Nat} {q : ac_A × ac_A} (h : ∀ j, q.2 j = 0 ∨ q.2 j = 1) : ∀ j, (ac_jd th sn an p q).2 j = 0 ∨ (ac_jd th sn an p q).2 j = 1 := by
  unfold ac_jd
  split
  · split
    · exact h
    · split
      · exact h
      · exact ac_01u h (Or.inl rfl)
  · exact ac_01u h (Or.inr rfl)
/-! I: bits of the mode -/
theorem ac_m4 (m : Int32) : (m &&& 7) &&& 4 = m &&& 4 := by rw [Int32.and_assoc]; exact congrArg (m &&& ·) (by decide)
theorem ac_m1 (m : Int32) : (m &&& 7) &&& 1 = m &&& 1 := by rw [Int32.and_assoc]; exact congrArg (m &&& ·) (by decide)
theorem ac_m2 (m : Int32) : (m &&& 7) &&& 2 = m &&& 2 := by rw [Int32.and_assoc]; exact congrArg (m &&& ·) (by decide)
theorem ac_vb0 : vp_nar .boolean 0 = 0 := by decide
theorem ac_vb1 : vp_nar .boolean 1 = 1 := by decide
theorem ac_nb {x : Int32} (h : x = 0 ∨ x = 1) : narrow .boolean (.int x) = .int x := by
  cases h with
  | inl h => rw [h]; rfl
  | inr h => rw [h]; rfl
theorem ac_vb {x : Int32} (h : x = 0 ∨ x = 1) : vp_nar .boolean x = x := by
  cases h with
  | inl h => rw [h]; exact ac_vb0
  | inr h => rw [h]; exact ac_vb1
end
section
/-! J: a round, pure -/
def ac_an (ao an : ac_A) : ac_A := if ao 1 = 0 then (if ao 0 = 0 then an else upd an 0 1) else upd (if ao 0 = 0 then an else upd an 0 1) 1 1
abbrev ac_H : Type := Int32 × Int32 × Int32 × Int32 × Int32 × ac_A × ac_A
/-- the handshake's exchange: state, stamp, accepted tag, stale, aborts, sent, answered -/
def ac_hs (life tag : Int32) (up : ac_A) (rp : Int32) (pr : Nat) (now st stamp sg stale ab : Int32) : ac_H :=
  if st = 1 then
    (if up pr = 0 then (st, stamp, sg, stale, ab, upd (fun _ => 0) pr 1, fun _ => 0)
    else if rp = 0 then (st, stamp, sg, stale, ab, upd (fun _ => 0) pr 1, fun _ => 0) else (2, now, sg, stale, ab, upd (fun _ => 0) pr 1, upd (fun _ => 0) pr 1))
  else if st = 2 then
    (if up pr = 0 then (st, stamp, sg, stale, ab, upd (fun _ => 0) pr 1, fun _ => 0)
    else if now - stamp ≤ life then
      (if sg = 0 then (if rp = 0 then (st, stamp, tag, stale, ab, upd (fun _ => 0) pr 1, fun _ => 0) else (3, stamp, tag, stale, ab, upd (fun _ => 0) pr 1, upd (fun _ => 0) pr 1))
      else if sg = tag then (if rp = 0 then (st, stamp, sg, stale, ab, upd (fun _ => 0) pr 1, fun _ => 0) else (3, stamp, sg, stale, ab, upd (fun _ => 0) pr 1, upd (fun _ => 0) pr 1))
      else (if rp = 0 then (st, stamp, sg, stale, ab, upd (fun _ => 0) pr 1, fun _ => 0) else (0, stamp, sg, stale, ab + 1, upd (fun _ => 0) pr 1, upd (fun _ => 0) pr 1)))
    else (if rp = 0 then (st, stamp, sg, stale + 1, ab, upd (fun _ => 0) pr 1, fun _ => 0) else (1, stamp, sg, stale + 1, ab, upd (fun _ => 0) pr 1, upd (fun _ => 0) pr 1)))
  else (st, stamp, sg, stale, ab, fun _ => 0, fun _ => 0)
/-- the data exchange: transmission, processing, acknowledgement -/
def ac_rt (act : ac_A) (pr : Nat) : Nat := if act (1 - pr) = 0 then pr else 1 - pr
def ac_T (S : Nat) (up act : ac_A) (pr : Nat) (lose tx ak : ac_A) : ac_TS := ac_tm ak up pr (ac_rt act pr) S 0 (tx, fun _ => 0, lose, fun _ => 0, fun _ => 0)
def ac_P (S : Nat) (str uno fa : ac_A) (rev dup : Int32) (q : ac_PS) : ac_PS := ac_pp S str uno fa rev dup S 0 q
def ac_dk (S : Nat) (rp : Int32) (fa rc ak : ac_A) : ac_A := if rp = 0 then ak else (if ac_ct (ac_fl fa) S = 0 then ak else ac_ack rc S 0 ak)
def ac_da (S : Nat) (rp : Int32) (fa ao : ac_A) : ac_A := if rp = 0 then (fun _ => 0) else (if ac_ct (ac_fl fa) S = 0 then (fun _ => 0) else ac_an ao (fun _ => 0))
def ac_hb2 (up act : ac_A) (rp : Int32) (q : ac_A × ac_A) : ac_A × ac_A := ac_hb up act rp 1 (ac_hb up act rp 0 q)
def ac_jd2 (th : Int32) (w q : ac_A × ac_A) : ac_A × ac_A := ac_jd th w.1 w.2 1 (ac_jd th w.1 w.2 0 q)
/-- errors, active after the round, from sent and answered -/
def ac_tl (th : Int32) (up act err : ac_A) (rp : Int32) (sn an : ac_A) : ac_A × ac_A := ac_jd2 th (ac_hb2 up act rp (sn, an)) (err, act)
/-- now st stamp sg pr stale ab lose act err tx ak rc xp lg L dups -/
abbrev ac_G : Type := Int32 × Int32 × Int32 × Int32 × Nat × Int32 × Int32 × ac_A × ac_A × ac_A × ac_A × ac_A × ac_A × ac_A × ac_A × Nat × Int32
def ac_rdE (th : Int32) (up : ac_A) (S : Nat) (str uno : ac_A) (rp rev dup : Int32) (now st stamp sg : Int32) (pr : Nat) (stale ab : Int32) (lose act err tx ak rc xp lg : ac_A) (L : Nat) (dups : Int32) : ac_G :=
  (now + 1, st, stamp, sg, ac_ch (ac_tl th up act err rp (ac_T S up act pr lose tx ak).2.1 (ac_da S rp (ac_T S up act pr lose tx ak).2.2.2.2 (ac_T S up act pr lose tx ak).2.2.2.1)).2 pr, stale, ab,
    (ac_T S up act pr lose tx ak).2.2.1,
    (ac_tl th up act err rp (ac_T S up act pr lose tx ak).2.1 (ac_da S rp (ac_T S up act pr lose tx ak).2.2.2.2 (ac_T S up act pr lose tx ak).2.2.2.1)).2,
    (ac_tl th up act err rp (ac_T S up act pr lose tx ak).2.1 (ac_da S rp (ac_T S up act pr lose tx ak).2.2.2.2 (ac_T S up act pr lose tx ak).2.2.2.1)).1,
    (ac_T S up act pr lose tx ak).1,
    ac_dk S rp (ac_T S up act pr lose tx ak).2.2.2.2 (ac_P S str uno (ac_T S up act pr lose tx ak).2.2.2.2 rev dup (rc, xp, lg, L, dups)).1 ak,
    (ac_P S str uno (ac_T S up act pr lose tx ak).2.2.2.2 rev dup (rc, xp, lg, L, dups)).1,
    (ac_P S str uno (ac_T S up act pr lose tx ak).2.2.2.2 rev dup (rc, xp, lg, L, dups)).2.1,
    (ac_P S str uno (ac_T S up act pr lose tx ak).2.2.2.2 rev dup (rc, xp, lg, L, dups)).2.2.1,
    (ac_P S str uno (ac_T S up act pr lose tx ak).2.2.2.2 rev dup (rc, xp, lg, L, dups)).2.2.2.1,
    (ac_P S str uno (ac_T S up act pr lose tx ak).2.2.2.2 rev dup (rc, xp, lg, L, dups)).2.2.2.2)
/-- the round's end, when the exchange gave h -/
def ac_rdH (th : Int32) (up : ac_A) (rp : Int32) (now : Int32) (h : ac_H) (pr : Nat) (lose act err tx ak rc xp lg : ac_A) (L : Nat) (dups : Int32) : ac_G :=
  (now + 1, h.1, h.2.1, h.2.2.1, ac_ch (ac_tl th up act err rp h.2.2.2.2.2.1 h.2.2.2.2.2.2).2 pr, h.2.2.2.1, h.2.2.2.2.1, lose, (ac_tl th up act err rp h.2.2.2.2.2.1 h.2.2.2.2.2.2).2, (ac_tl th up act err rp h.2.2.2.2.2.1 h.2.2.2.2.2.2).1, tx, ak, rc, xp, lg, L, dups)
def ac_rd (life th tag : Int32) (up : ac_A) (S : Nat) (str uno : ac_A) (rp rev dup : Int32) : ac_G → ac_G
  | (now, st, stamp, sg, pr, stale, ab, lose, act, err, tx, ak, rc, xp, lg, L, dups) =>
    if st = 3 then ac_rdE th up S str uno rp rev dup now st stamp sg pr stale ab lose act err tx ak rc xp lg L dups
    else ac_rdH th up rp now (ac_hs life tag up rp pr (now + 1) st stamp sg stale ab) pr lose act err tx ak rc xp lg L dups
def ac_GI (S : Nat) (str uno : ac_A) : ac_G → Prop
  | (_, _, _, _, pr, _, _, _, act, _, tx, ak, rc, xp, lg, L, dups) => pr < 2 ∧ (∀ j, act j = 0 ∨ act j = 1) ∧ ac_PI S str uno (rc, xp, lg, L, dups) ∧ (∀ j, ak j = 0 ∨ ak j = 1) ∧ (∀ j, S ≤ j → tx j = 0) ∧ (∀ j, S ≤ j → ak j = 0)
theorem ac_tl_01 {th : Int32} {up act err : ac_A} {rp : Int32} {sn an : ac_A} (h : ∀ j, act j = 0 ∨ act j = 1) : ∀ j, (ac_tl th up act err rp sn an).2 j = 0 ∨ (ac_tl th up act err rp sn an).2 j = 1 := by
  unfold ac_tl ac_jd2
  exact ac_jd_01 (ac_jd_01 h)
theorem ac_rd_E {life th tag : Int32} {up : ac_A} {S : Nat} {str uno : ac_A} {rp rev dup now st stamp sg : Int32} {pr : Nat} {stale ab : Int32} {lose act err tx ak rc xp lg : ac_A} {L : Nat} {dups : Int32} (e : st = 3) : ac_rd life th tag up S str uno rp rev dup (now, st, stamp, sg, pr, stale, ab, lose, act, err, tx, ak, rc, xp, lg, L, dups) = ac_rdE th up S str uno rp rev dup now st stamp sg pr stale ab lose act err tx ak rc xp lg L dups := if_pos e
theorem ac_rd_H {life th tag : Int32} {up : ac_A} {S : Nat} {str uno : ac_A} {rp rev dup now st stamp sg : Int32} {pr : Nat} {stale ab : Int32} {lose act err tx ak rc xp lg : ac_A} {L : Nat} {dups : Int32} (e : ¬ st = 3) : ac_rd life th tag up S str uno rp rev dup (now, st, stamp, sg, pr, stale, ab, lose, act, err, tx, ak, rc, xp, lg, L, dups) = ac_rdH th up rp now (ac_hs life tag up rp pr (now + 1) st stamp sg stale ab) pr lose act err tx ak rc xp lg L dups := if_neg e
theorem ac_rd_inv {life th tag : Int32} {up : ac_A} {S : Nat} {str uno : ac_A} {rp rev dup : Int32} {g : ac_G} (h : ac_GI S str uno g) : ac_GI S str uno (ac_rd life th tag up S str uno rp rev dup g) := by
  obtain ⟨now, st, stamp, sg, pr, stale, ab, lose, act, err, tx, ak, rc, xp, lg, L, dups⟩ := g
  obtain ⟨h1, h2, h3, h4, h5, h6⟩ := h
  by_cases e : st = 3
  · rw [ac_rd_E e]
    refine ⟨ac_ch_2 h1, ac_tl_01 h2, ac_pp_inv S 0 _ (by omega) h3, ?_, ?_, ?_⟩
    · unfold ac_dk
      split
      · exact h4
      · split
        · exact h4
        · exact ac_ack_01 S 0 ak h4
    · intro j hj
      unfold ac_T
      rw [ac_tm_tx S 0 _ j (by omega)]
      exact h5 j hj
    · intro j hj
      unfold ac_dk
      split
      · exact h6 j hj
      · split
        · exact h6 j hj
        · rw [ac_ack_hi S 0 ak j (by omega)]
          exact h6 j hj
  · rw [ac_rd_H e]
    exact ⟨ac_ch_2 h1, ac_tl_01 h2, h3, h4, h5, h6⟩
/-- n rounds -/
def ac_rds (life th tag : Int32) (up : ac_A) (S : Nat) (str uno : ac_A) (rp rev dup : Int32) : Nat → ac_G → ac_G
  | 0, g => g
  | n + 1, g => ac_rds life th tag up S str uno rp rev dup n (ac_rd life th tag up S str uno rp rev dup g)
theorem ac_rds_inv {life th tag : Int32} {up : ac_A} {S : Nat} {str uno : ac_A} {rp rev dup : Int32} : ∀ (n : Nat) (g : ac_G), ac_GI S str uno g → ac_GI S str uno (ac_rds life th tag up S str uno rp rev dup n g) := by
  intro n
  induction n with
  | zero => intro g h; exact h
  | succ n ih => intro g h; exact ih _ (ac_rd_inv h)
end
section
/-! K: the component's walks: what keeps to the two paths -/
section AXA
variable {ky lf th tg nw st sp sg du fo sl ab : Int32} {pr S L c : Nat} {up lo av er sn an ao sr un rk tx rc ak nr xp lg xa : ac_A}
def ac_cl (v a b : Int32) : Int32 := if a ≤ v then (if v ≤ b then v else b) else a
theorem ax_clamp {post : Int32 → Prop} {v a b : Int32} (h : post (ac_cl v a b)) : wpX_clamp post () v a b := by
  unfold ac_cl at h
  refine br_c (fun h1 => ?_) (fun h1 => ?_)
  · rw [if_pos h1] at h
    exact br_c (fun h2 => by rw [if_pos h2] at h; exact h) (fun h2 => by rw [if_neg h2] at h; exact h)
  · rw [if_neg h1] at h
    exact h
theorem ac_alt (h : pr < 2) : 1 - nI pr = nI (1 - pr) := pk_sub (a := 1) (b := pr) (by omega)
theorem ac_p2v {p : Nat} (h : p < 2) : vp_in (nI p) 2 := vp_in_nI h (by omega)
theorem ac_p2c {p : Nat} (h : p < 2) : (nI p).toNatClampNeg = p := nI_clamp (by omega)
theorem ac_p2n {p : Nat} (h : p < 2) : ¬ (2 : Int32) ≤ nI p := nI_ge (b := 2) h (by decide)
theorem ax_start_b {post : St2 → Prop} {n p : Nat} (hp : p < 2) (h : wX_startRound_17 post ky lf th tg nw st sp sg (nI pr) (nI S) (nI L) (nI c) du fo sl ab n (nI (p + 1)) up lo av er (upd sn p 0) (upd an p 0) (upd ao p 0) sr un rk tx rc ak nr xp lg xa) : wX_startRound_17 post ky lf th tg nw st sp sg (nI pr) (nI S) (nI L) (nI c) du fo sl ab (n + 1) (nI p) up lo av er sn an ao sr un rk tx rc ak nr xp lg xa := by
  simp only [wX_startRound_17, ac_p2c hp, ac_vb0, forall_eq, nI_1]
  exact br_f (ac_p2n hp) ⟨ac_p2v hp, ac_p2v hp, ac_p2v hp, h⟩
theorem ax_start {post : St2 → Prop} (hs : ac_TZ sn) (ha : ac_TZ an) (ho : ac_TZ ao) (h : post (ky, lf, th, tg, (nw + 1), st, sp, sg, (nI pr), (nI S), (nI L), (nI 0), du, fo, sl, ab, up, lo, av, er, (fun _ => 0), (fun _ => 0), (fun _ => 0), sr, un, rk, tx, rc, ak, nr, xp, lg, xa)) : wpX_startRound post (ky, lf, th, tg, nw, st, sp, sg, (nI pr), (nI S), (nI L), (nI c), du, fo, sl, ab, up, lo, av, er, sn, an, ao, sr, un, rk, tx, rc, ak, nr, xp, lg, xa) := by
  refine nm_e ⟨3, ax_start_b (p := 0) (c := 0) (by omega) (ax_start_b (p := 1) (c := 0) (by omega) (br_t (by decide) ?_))⟩
  rw [ac_TZ_clr hs, ac_TZ_clr ha, ac_TZ_clr ho]
  exact h
theorem ax_hb_b {post : St2 → Prop} {z : Int32} {n p : Nat} (hp : p < 2) (h : wX_sendHeartbeats_2 post z ky lf th tg nw st sp sg (nI pr) (nI S) (nI L) (nI c) du fo sl ab n (nI (p + 1)) up lo av er ((ac_hb up av z p (sn, an)).1) ((ac_hb up av z p (sn, an)).2) ao sr un rk tx rc ak nr xp lg xa) : wX_sendHeartbeats_2 post z ky lf th tg nw st sp sg (nI pr) (nI S) (nI L) (nI c) du fo sl ab (n + 1) (nI p) up lo av er sn an ao sr un rk tx rc ak nr xp lg xa := by
  have hv := ac_p2v hp
  simp only [wX_sendHeartbeats_2, ac_p2c hp, ac_vb1, forall_eq, nI_1]
  refine br_f (ac_p2n hp) ⟨hv, br_c (fun h1 => ⟨hv, hv, br_c (fun h2 => ?_) (fun h2 => br_c (fun h3 => ?_) (fun h3 => ⟨hv, ?_⟩))⟩) (fun h1 => ?_)⟩
  · simp only [ac_hb, if_pos h1, if_pos h2] at h
    exact h
  · simp only [ac_hb, if_pos h1, if_neg h2, if_pos h3] at h
    exact h
  · simp only [ac_hb, if_pos h1, if_neg h2, if_neg h3] at h
    exact h
  · simp only [ac_hb, if_neg h1] at h
    exact h
theorem ax_hb {post : St2 → Prop} {z : Int32} (h : post (ky, lf, th, tg, nw, st, sp, sg, (nI pr), (nI S), (nI L), (nI c), du, fo, sl, ab, up, lo, av, er, ((ac_hb2 up av z (sn, an)).1), ((ac_hb2 up av z (sn, an)).2), ao, sr, un, rk, tx, rc, ak, nr, xp, lg, xa)) : wpX_sendHeartbeats post (ky, lf, th, tg, nw, st, sp, sg, (nI pr), (nI S), (nI L), (nI c), du, fo, sl, ab, up, lo, av, er, sn, an, ao, sr, un, rk, tx, rc, ak, nr, xp, lg, xa) z :=
  ⟨3, ax_hb_b (p := 0) (by omega) (ax_hb_b (p := 1) (by omega) (br_t (by decide) h))⟩
theorem ax_jd_b {post : St2 → Prop} {n p : Nat} (hp : p < 2) (h : wX_judgePaths_2 post ky lf th tg nw st sp sg (nI pr) (nI S) (nI L) (nI c) du fo sl ab n (nI (p + 1)) up lo ((ac_jd th sn an p (er, av)).2) ((ac_jd th sn an p (er, av)).1) sn an ao sr un rk tx rc ak nr xp lg xa) : wX_judgePaths_2 post ky lf th tg nw st sp sg (nI pr) (nI S) (nI L) (nI c) du fo sl ab (n + 1) (nI p) up lo av er sn an ao sr un rk tx rc ak nr xp lg xa := by
  have hv := ac_p2v hp
  simp only [wX_judgePaths_2, ac_p2c hp, ac_vb0, ac_vb1, forall_eq, nI_1, pk_us]
  refine br_f (ac_p2n hp) ⟨hv, br_c (fun h1 => ⟨hv, br_c (fun h2 => ?_) (fun h2 => ⟨hv, hv, hv, br_c (fun h3 => ?_) (fun h3 => ⟨hv, ?_⟩)⟩)⟩) (fun h1 => ⟨hv, hv, ?_⟩)⟩
  · simp only [ac_jd, if_pos h1, if_pos h2] at h
    exact h
  · simp only [ac_jd, if_pos h1, if_neg h2, if_pos h3] at h
    exact h
  · simp only [ac_jd, if_pos h1, if_neg h2, if_neg h3] at h
    exact h
  · simp only [ac_jd, if_neg h1] at h
    exact h
theorem ax_jd {post : St2 → Prop} (h : post (ky, lf, th, tg, nw, st, sp, sg, (nI pr), (nI S), (nI L), (nI c), du, fo, sl, ab, up, lo, ((ac_jd2 th (sn, an) (er, av)).2), ((ac_jd2 th (sn, an) (er, av)).1), sn, an, ao, sr, un, rk, tx, rc, ak, nr, xp, lg, xa)) : wpX_judgePaths post (ky, lf, th, tg, nw, st, sp, sg, (nI pr), (nI S), (nI L), (nI c), du, fo, sl, ab, up, lo, av, er, sn, an, ao, sr, un, rk, tx, rc, ak, nr, xp, lg, xa) :=
  ⟨3, ax_jd_b (p := 0) (by omega) (ax_jd_b (p := 1) (by omega) (br_t (by decide) h))⟩
theorem ax_ch {post : St2 → Prop} (hp : pr < 2) (h : post (ky, lf, th, tg, nw, st, sp, sg, (nI (ac_ch av pr)), (nI S), (nI L), (nI c), du, fo, sl, ab, up, lo, av, er, sn, an, ao, sr, un, rk, tx, rc, ak, nr, xp, lg, xa)) : wpX_choosePrimary post (ky, lf, th, tg, nw, st, sp, sg, (nI pr), (nI S), (nI L), (nI c), du, fo, sl, ab, up, lo, av, er, sn, an, ao, sr, un, rk, tx, rc, ak, nr, xp, lg, xa) := by
  have hv := ac_p2v hp
  have hq : 1 - pr < 2 := by omega
  unfold wpX_choosePrimary
  simp only [ac_alt hp, ac_p2c hp, ac_p2c hq, forall_eq]
  refine ⟨hv, br_c (fun h1 => ⟨ac_p2v hq, br_c (fun h2 => ?_) (fun h2 => ?_)⟩) (fun h1 => ?_)⟩
  · rw [ac_ch, if_pos h1, if_pos h2] at h
    exact h
  · rw [ac_ch, if_pos h1, if_neg h2] at h
    exact h
  · rw [ac_ch, if_neg h1] at h
    exact h
theorem ax_tail {post : St2 → Prop} {z : Int32} (hp : pr < 2) (h : post (ky, lf, th, tg, nw, st, sp, sg, (nI (ac_ch (ac_tl th up av er z sn an).2 pr)), (nI S), (nI L), (nI c), du, fo, sl, ab, up, lo, ((ac_tl th up av er z sn an).2), ((ac_tl th up av er z sn an).1), ((ac_hb2 up av z (sn, an)).1), ((ac_hb2 up av z (sn, an)).2), ao, sr, un, rk, tx, rc, ak, nr, xp, lg, xa)) : wX_playRound_80 post z ky lf th tg nw st sp sg (nI pr) (nI S) (nI L) (nI c) du fo sl ab up lo av er sn an ao sr un rk tx rc ak nr xp lg xa := by
  unfold wX_playRound_80
  refine ax_hb ?_
  dsimp only
  refine ax_jd ?_
  dsimp only
  exact ax_ch hp h
theorem ax_init {post : St2 → Prop} {z : Int32} (hp : pr < 2) (e : st = 1) (h : post (ky, lf, th, tg, nw, ((ac_hs lf tg up z pr nw st sp sg sl ab).1), ((ac_hs lf tg up z pr nw st sp sg sl ab).2.1), ((ac_hs lf tg up z pr nw st sp sg sl ab).2.2.1), (nI pr), (nI S), (nI L), (nI c), du, fo, ((ac_hs lf tg up z pr nw st sp sg sl ab).2.2.2.1), ((ac_hs lf tg up z pr nw st sp sg sl ab).2.2.2.2.1), up, lo, av, er, ((ac_hs lf tg up z pr nw st sp sg sl ab).2.2.2.2.2.1), ((ac_hs lf tg up z pr nw st sp sg sl ab).2.2.2.2.2.2), ao, sr, un, rk, tx, rc, ak, nr, xp, lg, xa)) : wpX_sendInit post (ky, lf, th, tg, nw, st, sp, sg, (nI pr), (nI S), (nI L), (nI c), du, fo, sl, ab, up, lo, av, er, (fun _ => 0), (fun _ => 0), ao, sr, un, rk, tx, rc, ak, nr, xp, lg, xa) z := by
  have hv := ac_p2v hp
  unfold wpX_sendInit
  simp only [ac_p2c hp, ac_vb1, forall_eq]
  refine ⟨hv, hv, br_c (fun h1 => ?_) (fun h1 => br_c (fun h2 => ?_) (fun h2 => ⟨hv, ?_⟩))⟩
  · simp only [ac_hs, if_pos e, if_pos h1] at h
    exact h
  · simp only [ac_hs, if_pos e, if_neg h1, if_pos h2] at h
    exact h
  · simp only [ac_hs, if_pos e, if_neg h1, if_neg h2] at h
    exact h
theorem ax_echo {post : St2 → Prop} {z : Int32} (hp : pr < 2) (e1 : ¬ st = 1) (e : st = 2) (h : post (ky, lf, th, tg, nw, ((ac_hs lf tg up z pr nw st sp sg sl ab).1), ((ac_hs lf tg up z pr nw st sp sg sl ab).2.1), ((ac_hs lf tg up z pr nw st sp sg sl ab).2.2.1), (nI pr), (nI S), (nI L), (nI c), du, fo, ((ac_hs lf tg up z pr nw st sp sg sl ab).2.2.2.1), ((ac_hs lf tg up z pr nw st sp sg sl ab).2.2.2.2.1), up, lo, av, er, ((ac_hs lf tg up z pr nw st sp sg sl ab).2.2.2.2.2.1), ((ac_hs lf tg up z pr nw st sp sg sl ab).2.2.2.2.2.2), ao, sr, un, rk, tx, rc, ak, nr, xp, lg, xa)) : wpX_echoCookie post (ky, lf, th, tg, nw, st, sp, sg, (nI pr), (nI S), (nI L), (nI c), du, fo, sl, ab, up, lo, av, er, (fun _ => 0), (fun _ => 0), ao, sr, un, rk, tx, rc, ak, nr, xp, lg, xa) z := by
  have hv := ac_p2v hp
  unfold wpX_echoCookie wpX_judgeClientCookie wX_judgeClientCookie_43
  simp only [ac_p2c hp, ac_vb1, forall_eq]
  refine ⟨hv, hv, br_c (fun h1 => ?_) (fun h1 => br_c (fun h2 => br_c (fun h3 => br_t (by trivial) (br_c (fun h4 => ?_) (fun h4 => ⟨hv, br_f (by decide) (br_t (by trivial) ?_)⟩))) (fun h3 => br_c (fun h5 => br_c (fun h4 => ?_) (fun h4 => ⟨hv, br_f (by decide) (br_t (by trivial) ?_)⟩)) (fun h5 => br_c (fun h4 => ?_) (fun h4 => ⟨hv, br_f (by decide) (br_f (by decide) ?_)⟩)))) (fun h2 => br_c (fun h4 => ?_) (fun h4 => ⟨hv, br_t (by trivial) ?_⟩)))⟩
  · simp only [ac_hs, if_neg e1, if_pos e, if_pos h1] at h
    exact h
  · simp only [ac_hs, if_neg e1, if_pos e, if_neg h1, if_pos h2, if_pos h3, if_pos h4] at h
    exact h
  · simp only [ac_hs, if_neg e1, if_pos e, if_neg h1, if_pos h2, if_pos h3, if_neg h4] at h
    exact h
  · simp only [ac_hs, if_neg e1, if_pos e, if_neg h1, if_pos h2, if_neg h3, if_pos h5, if_pos h4] at h
    exact h
  · simp only [ac_hs, if_neg e1, if_pos e, if_neg h1, if_pos h2, if_neg h3, if_pos h5, if_neg h4] at h
    exact h
  · simp only [ac_hs, if_neg e1, if_pos e, if_neg h1, if_pos h2, if_neg h3, if_neg h5, if_pos h4] at h
    exact h
  · simp only [ac_hs, if_neg e1, if_pos e, if_neg h1, if_pos h2, if_neg h3, if_neg h5, if_neg h4] at h
    exact h
  · simp only [ac_hs, if_neg e1, if_pos e, if_neg h1, if_neg h2, if_pos h4] at h
    exact h
  · simp only [ac_hs, if_neg e1, if_pos e, if_neg h1, if_neg h2, if_neg h4] at h
    exact h
end AXA
end
section
/-! L: the component's walks: the data exchange -/
section AXB
variable {ky lf th tg nw st sp sg du fo sl ab : Int32} {pr S L c : Nat} {up lo av er sn an ao sr un rk tx rc ak nr xp lg xa fa : ac_A}
theorem ax_tr {post : St2 → Prop} {id p : Nat} (hi : id < 128) (hp : p < 2) (hz : ac_FZ id fa) (hx : ac_XL id fa xa c) (h : ∀ xa' c', ac_XL (id + 1) (ac_t1 up p id (tx, sn, lo, ao, fa)).2.2.2.2 xa' c' → post (ky, lf, th, tg, nw, st, sp, sg, (nI pr), (nI S), (nI L), (nI c'), du, fo, sl, ab, up, ((ac_t1 up p id (tx, sn, lo, ao, fa)).2.2.1), av, er, ((ac_t1 up p id (tx, sn, lo, ao, fa)).2.1), an, ((ac_t1 up p id (tx, sn, lo, ao, fa)).2.2.2.1), sr, un, rk, ((ac_t1 up p id (tx, sn, lo, ao, fa)).1), rc, ak, nr, xp, lg, xa')) : wpX_transmit post (ky, lf, th, tg, nw, st, sp, sg, (nI pr), (nI S), (nI L), (nI c), du, fo, sl, ab, up, lo, av, er, sn, an, ao, sr, un, rk, tx, rc, ak, nr, xp, lg, xa) (nI id) (nI p) := by
  have hv := ac_p2v hp
  have hi' : vp_in (nI id) 128 := vp_in_nI hi (by omega)
  have hc : c < 128 := by
    have := hx.1
    have := ac_ct_le (ac_fl fa) id
    omega
  have hcv : vp_in (nI c) 128 := vp_in_nI hc (by omega)
  unfold wpX_transmit
  simp only [ac_p2c hp, nI_clamp (show id < 2 ^ 31 by omega), nI_clamp (show c < 2 ^ 31 by omega), ac_vb1, forall_eq, nI_1]
  refine ⟨hi', hi', hv, hv, br_c (fun h1 => ?_) (fun h1 => ⟨hv, br_c (fun h2 => ⟨hv, hcv, ?_⟩) (fun h2 => ⟨hv, hv, ?_⟩)⟩)⟩
  · simp only [ac_t1, if_pos h1] at h
    exact h xa c (ac_XL_skip hz hx)
  · simp only [ac_t1, if_neg h1, if_pos h2] at h
    exact h _ _ (ac_XL_put hx)
  · simp only [ac_t1, if_neg h1, if_neg h2] at h
    exact h xa c (ac_XL_skip hz hx)
theorem ax_tu {post : St2 → Prop} {r : Nat} (hS : S ≤ 128) (hp : pr < 2) (hr : r < 2) : ∀ (n id : Nat) (tx sn lo ao fa xa : ac_A) (c : Nat), id + n = S → ac_FZ id fa → ac_XL id fa xa c → ∀ fu, n < fu → (∀ xa' c', ac_XL S (ac_tm ak up pr r n id (tx, sn, lo, ao, fa)).2.2.2.2 xa' c' → post (ky, lf, th, tg, nw, st, sp, sg, (nI pr), (nI S), (nI L), (nI c'), du, fo, sl, ab, up, ((ac_tm ak up pr r n id (tx, sn, lo, ao, fa)).2.2.1), av, er, ((ac_tm ak up pr r n id (tx, sn, lo, ao, fa)).2.1), an, ((ac_tm ak up pr r n id (tx, sn, lo, ao, fa)).2.2.2.1), sr, un, rk, ((ac_tm ak up pr r n id (tx, sn, lo, ao, fa)).1), rc, ak, nr, xp, lg, xa')) → wX_transmitUnacked_27 post (nI r) fu (nI id) ky lf th tg nw st sp sg (nI pr) (nI S) (nI L) (nI c) du fo sl ab up lo av er sn an ao sr un rk tx rc ak nr xp lg xa := by
  intro n
  induction n with
  | zero =>
    intro id tx sn lo ao fa xa c hn hz hx fu hf h
    obtain ⟨f, rfl⟩ : ∃ f, fu = f + 1 := ⟨fu - 1, by omega⟩
    exact br_t (nI_le (by omega) (by omega)) (h xa c (by rw [← hn]; exact hx))
  | succ n ih =>
    intro id tx sn lo ao fa xa c hn hz hx fu hf h
    obtain ⟨f, rfl⟩ : ∃ f, fu = f + 1 := ⟨fu - 1, by omega⟩
    have hi : id < 128 := by omega
    have hi' : vp_in (nI id) 128 := vp_in_nI hi (by omega)
    have e1 : (nI id).toNatClampNeg = id := nI_clamp (by omega)
    refine br_f (nI_ge (by omega) (by omega)) ⟨hi', ?_⟩
    rw [e1]
    refine br_c (fun a => ⟨hi', ?_⟩) (fun a => ?_)
    · rw [ac_tm_y a] at h
      have key : ∀ z : Int32, z = nI (ac_tp pr r (tx id)) → wX_transmitUnacked_63 post (wX_transmitUnacked_27 post (nI r) f) (nI r) (nI id) z (nI id) ky lf th tg nw st sp sg (nI pr) (nI S) (nI L) (nI c) du fo sl ab up lo av er sn an ao sr un rk tx rc ak nr xp lg xa := by
        intro z ez
        rw [ez]
        unfold wX_transmitUnacked_63
        refine ax_tr (fa := fa) hi (ac_tp_2 hp hr) hz hx (fun xa' c' hx' => ?_)
        dsimp only
        refine nm_r (nI_1 id) ?_
        exact ih (id + 1) _ _ _ _ _ xa' c' (by omega) (ac_t1_FZ (q := (tx, sn, lo, ao, fa)) hz) hx' f (by omega) h
      exact br_c (fun t => key _ (by rw [ac_tp, if_pos t])) (fun t => key _ (by rw [ac_tp, if_neg t]))
    · rw [ac_tm_n a] at h
      exact nm_r (nI_1 id) (ih (id + 1) tx sn lo ao fa xa c (by omega) (ac_FZ_skip hz) (ac_XL_skip hz hx) f (by omega) h)
theorem ax_tua {post : St2 → Prop} (hS : S ≤ 128) (hp : pr < 2) (h : ∀ xa' c', ac_XL S (ac_T S up av pr lo tx ak).2.2.2.2 xa' c' → post (ky, lf, th, tg, nw, st, sp, sg, (nI pr), (nI S), (nI L), (nI c'), du, fo, sl, ab, up, ((ac_T S up av pr lo tx ak).2.2.1), av, er, ((ac_T S up av pr lo tx ak).2.1), an, ((ac_T S up av pr lo tx ak).2.2.2.1), sr, un, rk, ((ac_T S up av pr lo tx ak).1), rc, ak, nr, xp, lg, xa')) : wpX_transmitUnacked post (ky, lf, th, tg, nw, st, sp, sg, (nI pr), (nI S), (nI L), (nI 0), du, fo, sl, ab, up, lo, av, er, (fun _ => 0), an, (fun _ => 0), sr, un, rk, tx, rc, ak, nr, xp, lg, xa) := by
  have hq : 1 - pr < 2 := by omega
  have z0 : ac_FZ 0 (fun _ => 0) := fun _ _ => rfl
  have x0 : ac_XL 0 (fun _ => 0) xa 0 := ⟨rfl, fun j hj => absurd hj (by omega)⟩
  unfold ac_T at h
  refine nm_r (ac_alt hp) ⟨ac_p2v hq, ?_⟩
  rw [ac_p2c hq]
  refine br_c (fun a => ?_) (fun a => ?_)
  · rw [ac_rt, if_pos a] at h
    exact ⟨S + 1, ax_tu hS hp hp S 0 tx (fun _ => 0) lo (fun _ => 0) (fun _ => 0) xa 0 (by omega) z0 x0 (S + 1) (by omega) h⟩
  · rw [ac_rt, if_neg a] at h
    exact ⟨S + 1, ax_tu hS hp hq S 0 tx (fun _ => 0) lo (fun _ => 0) (fun _ => 0) xa 0 (by omega) z0 x0 (S + 1) (by omega) h⟩
theorem ax_app {post : St2 → Prop} {m : Nat} (hL : L < 128) (h : post (ky, lf, th, tg, nw, st, sp, sg, (nI pr), (nI S), (nI (L + 1)), (nI c), du, fo, sl, ab, up, lo, av, er, sn, an, ao, sr, un, rk, tx, rc, ak, nr, xp, (upd lg L (nI m)), xa)) : wpX_appendToLog post (ky, lf, th, tg, nw, st, sp, sg, (nI pr), (nI S), (nI L), (nI c), du, fo, sl, ab, up, lo, av, er, sn, an, ao, sr, un, rk, tx, rc, ak, nr, xp, lg, xa) (nI m) := by
  unfold wpX_appendToLog
  simp only [nI_clamp (show L < 2 ^ 31 by omega), forall_eq, nI_1]
  exact ⟨vp_in_nI hL (by omega), h⟩
theorem ax_dio {post : St2 → Prop} {s : Nat} (hs : s < 8) : ∀ (n id : Nat) (xp lg : ac_A) (L : Nat), id + n = S → ac_Inv S sr un rc xp lg L → ac_lc sr un lg (nI s) L = ac_ct (ac_od sr un (nI s)) id → ∀ fu, n < fu → post (ky, lf, th, tg, nw, st, sp, sg, (nI pr), (nI S), (nI (ac_dv sr un rc s n id (xp, lg, L)).2.2), (nI c), du, fo, sl, ab, up, lo, av, er, sn, an, ao, sr, un, rk, tx, rc, ak, nr, ((ac_dv sr un rc s n id (xp, lg, L)).1), ((ac_dv sr un rc s n id (xp, lg, L)).2.1), xa) → wX_deliverInOrder_9 post (nI s) fu (nI id) ky lf th tg nw st sp sg (nI pr) (nI S) (nI L) (nI c) du fo sl ab up lo av er sn an ao sr un rk tx rc ak nr xp lg xa := by
  intro n
  induction n with
  | zero =>
    intro id xp lg L hn I e fu hf h
    have := I.1
    obtain ⟨f, rfl⟩ : ∃ f, fu = f + 1 := ⟨fu - 1, by omega⟩
    exact br_t (nI_le (by omega) (by omega)) h
  | succ n ih =>
    intro id xp lg L hn I e fu hf h
    have hS := I.1
    obtain ⟨f, rfl⟩ : ∃ f, fu = f + 1 := ⟨fu - 1, by omega⟩
    have hi' : vp_in (nI id) 128 := vp_in_nI (by omega) (by omega)
    have e1 : (nI id).toNatClampNeg = id := nI_clamp (by omega)
    refine br_f (nI_ge (by omega) (by omega)) ⟨hi', ?_⟩
    rw [e1]
    rw [ac_dv_s] at h
    refine br_c (fun a => ⟨hi', br_c (fun b => ⟨hi', br_c (fun r => ?_) (fun r => ?_)⟩) (fun b => ?_)⟩) (fun a => ?_)
    · rw [if_pos (ac_od_t.mpr ⟨a, b⟩), if_pos r] at h
      exact h
    · have o := ac_od_t.mpr ⟨a, b⟩
      rw [if_pos o, if_neg r] at h
      have d := (ac_hl_t.mp (ac_fh_yes o r e).1.2.1).2
      have hL := ac_L_lt I (show id < S by omega) d
      have w := ac_dv_step hs I (by omega) o r e
      have hsv : vp_in (nI s) 8 := vp_in_nI hs (by omega)
      refine ax_app (by omega) ?_
      dsimp only
      refine ⟨hsv, hsv, nm_r (by rw [nI_clamp (show s < 2 ^ 31 by omega)]) (nm_r (nI_1 id) ?_)⟩
      exact ih (id + 1) _ _ _ (by omega) w.1 w.2 f (by omega) h
    · have o : ¬ ac_od sr un (nI s) id = true := fun z => b (ac_od_t.mp z).2
      rw [if_neg o] at h
      exact nm_r (nI_1 id) (ih (id + 1) xp lg L (by omega) I (by rw [e, ac_ct_f (ac_bf o)]) f (by omega) h)
    · have o : ¬ ac_od sr un (nI s) id = true := fun z => a (ac_od_t.mp z).1
      rw [if_neg o] at h
      exact nm_r (nI_1 id) (ih (id + 1) xp lg L (by omega) I (by rw [e, ac_ct_f (ac_bf o)]) f (by omega) h)
/-- the ranks that send wrote -/
def ac_RK (S : Nat) (sr un rk : ac_A) : Prop := ∀ j, j < S → un j = 0 → rk j = nI (ac_rk sr un j)
theorem ac_xpe {j : Nat} (I : ac_Inv S sr un rc xp lg L) (hj : j < S) : ∃ s, s < 8 ∧ sr j = nI s ∧ (sr j).toNatClampNeg = s ∧ xp s = nI (ac_lc sr un lg (sr j) L) := by
  obtain ⟨s, hs, es⟩ := I.2.1 j hj
  exact ⟨s, hs, es, by rw [es]; exact nI_clamp (by omega), by rw [es]; exact I.2.2.2.2.2.2.2.1 s hs⟩
theorem ac_bnd {j : Nat} {t : Int32} (I : ac_Inv S sr un rc xp lg L) (hj : j < S) : ac_rk sr un j < 2 ^ 31 ∧ ac_lc sr un lg t L < 2 ^ 31 := by
  have h1 : ac_rk sr un j ≤ j := ac_ct_le _ _
  have h2 : ac_lc sr un lg t L ≤ L := ac_ct_le _ _
  have := ac_Inv_L I
  have := I.1
  omega
theorem ax_pc {post : St2 → Prop} {m : Nat} (hm : m < S) (I : ac_PI S sr un (rc, xp, lg, L, du)) (hrk : ac_RK S sr un rk) (h : post (ky, lf, th, tg, nw, st, sp, sg, (nI pr), (nI S), (nI (ac_pc S sr un m (rc, xp, lg, L, du)).2.2.2.1), (nI c), ((ac_pc S sr un m (rc, xp, lg, L, du)).2.2.2.2), fo, sl, ab, up, lo, av, er, sn, an, ao, sr, un, rk, tx, ((ac_pc S sr un m (rc, xp, lg, L, du)).1), ak, nr, ((ac_pc S sr un m (rc, xp, lg, L, du)).2.1), ((ac_pc S sr un m (rc, xp, lg, L, du)).2.2.1), xa)) : wpX_processChunk post (ky, lf, th, tg, nw, st, sp, sg, (nI pr), (nI S), (nI L), (nI c), du, fo, sl, ab, up, lo, av, er, sn, an, ao, sr, un, rk, tx, rc, ak, nr, xp, lg, xa) (nI m) := by
  have J : ac_Inv S sr un rc xp lg L := I.1
  have hS := J.1
  have hm' : vp_in (nI m) 128 := vp_in_nI (by omega) (by omega)
  have e1 : (nI m).toNatClampNeg = m := nI_clamp (by omega)
  obtain ⟨s, hs, es, ec, ex⟩ := ac_xpe J hm
  have hsv : vp_in (sr m) 8 := by rw [es]; exact vp_in_nI hs (by omega)
  have bb := ac_bnd (t := sr m) J hm
  unfold wpX_processChunk
  simp only [e1, ac_vb1, forall_eq]
  refine ⟨hm', br_c (fun a => ⟨hm', hm', br_c (fun b => ⟨hm', hm', hsv, br_c (fun d => ?_) (fun d => ?_)⟩) (fun b => ?_)⟩) (fun a => ?_)⟩
  · have e : ac_rk sr un m = ac_lc sr un lg (sr m) L := by
      rw [hrk m hm b, ec, ex] at d
      exact ac_inj d bb.1 bb.2
    simp only [ac_pc, if_pos a, if_pos b, if_pos e, ec] at h
    unfold wpX_deliverInOrder
    refine ⟨hm', nm_r (show sr (nI m).toNatClampNeg = nI s by rw [e1]; exact es) ⟨S - m + 1, ?_⟩⟩
    refine ax_dio hs (S - m) m xp lg L (by omega) (ac_rcv J hm b) ?_ (S - m + 1) (by omega) h
    rw [es] at e
    rw [← e]
    unfold ac_rk
    rw [es]
  · have e : ¬ ac_rk sr un m = ac_lc sr un lg (sr m) L := by
      intro e
      apply d
      rw [hrk m hm b, ec, ex, e]
    simp only [ac_pc, if_pos a, if_pos b, if_neg e] at h
    exact h
  · simp only [ac_pc, if_pos a, if_neg b] at h
    have := ac_L_lt J hm (ac_bf (fun z => (ac_dl_u b).mp z a))
    exact ax_app (by omega) h
  · simp only [ac_pc, if_neg a] at h
    exact h
theorem ax_pa {post : St2 → Prop} {rv dp : Int32} (hx : ac_XL S fa xa c) (hrk : ac_RK S sr un rk) : ∀ (n t : Nat) (rc xp lg : ac_A) (L : Nat) (du : Int32), t + n = S → ac_PI S sr un (rc, xp, lg, L, du) → ∀ fu, n < fu → post (ky, lf, th, tg, nw, st, sp, sg, (nI pr), (nI S), (nI (ac_pp S sr un fa rv dp n t (rc, xp, lg, L, du)).2.2.2.1), (nI c), ((ac_pp S sr un fa rv dp n t (rc, xp, lg, L, du)).2.2.2.2), fo, sl, ab, up, lo, av, er, sn, an, ao, sr, un, rk, tx, ((ac_pp S sr un fa rv dp n t (rc, xp, lg, L, du)).1), ak, nr, ((ac_pp S sr un fa rv dp n t (rc, xp, lg, L, du)).2.1), ((ac_pp S sr un fa rv dp n t (rc, xp, lg, L, du)).2.2.1), xa) → wX_processArrived_27 post rv dp fu (nI (ac_pl S fa rv t)) ky lf th tg nw st sp sg (nI pr) (nI S) (nI L) (nI c) du fo sl ab up lo av er sn an ao sr un rk tx rc ak nr xp lg xa := by
  have hcS : c ≤ S := by
    have := hx.1
    have := ac_ct_le (ac_fl fa) S
    omega
  intro n
  induction n with
  | zero =>
    intro t rc xp lg L du hn I fu hf h
    have hS := I.1.1
    obtain ⟨f, rfl⟩ : ∃ f, fu = f + 1 := ⟨fu - 1, by omega⟩
    obtain rfl : t = S := by omega
    rw [ac_pl_S, ← hx.1]
    exact br_t (nI_le (Nat.le_refl c) (by omega)) h
  | succ n ih =>
    intro t rc xp lg L du hn I fu hf h
    have hS := I.1.1
    rw [ac_pp_s] at h
    by_cases hit : fa (ac_ix S rv t) = 0
    · rw [if_pos hit] at h
      have w := ih (t + 1) rc xp lg L du (by omega) I fu (by omega) h
      rw [ac_pl_no (by omega) hit] at w
      exact w
    · rw [if_neg hit] at h
      obtain ⟨p1, p2, p3⟩ := ac_pl_hit (rev := rv) (show t < S by omega) hit
      rw [← hx.1] at p2 p3
      have hix : ac_ix S rv t < S := ac_ix_lt (by omega)
      obtain ⟨f, rfl⟩ : ∃ f, fu = f + 1 := ⟨fu - 1, by omega⟩
      have key : ∀ z : Int32, z = nI (ac_px c rv (ac_pl S fa rv t)) → wX_processArrived_58 post (wX_processArrived_27 post rv dp f) rv dp (nI (ac_pl S fa rv t)) z ky lf th tg nw st sp sg (nI pr) (nI S) (nI L) (nI c) du fo sl ab up lo av er sn an ao sr un rk tx rc ak nr xp lg xa := by
        intro z ez
        rw [ez, p3]
        have hb : ac_ct (ac_fl fa) (ac_ix S rv t) < 128 := by
          have := ac_ct_le (ac_fl fa) (ac_ix S rv t)
          omega
        unfold wX_processArrived_58
        refine ⟨vp_in_nI hb (by omega), nm_r (show xa (nI (ac_ct (ac_fl fa) (ac_ix S rv t))).toNatClampNeg = nI (ac_ix S rv t) by rw [nI_clamp (by omega)]; exact hx.2 _ hix hit) ?_⟩
        refine ax_pc hix I hrk ?_
        dsimp only
        refine br_c (fun d => nm_r (nI_1 _) ?_) (fun d => ?_)
        · rw [ac_p2, if_pos d] at h
          have w := ih (t + 1) _ _ _ _ _ (by omega) (ac_pc_inv hix I) f (by omega) h
          rw [p1] at w
          exact w
        · rw [ac_p2, if_neg d] at h
          refine ax_pc hix (ac_pc_inv hix I) hrk ?_
          dsimp only
          refine nm_r (nI_1 _) ?_
          have w := ih (t + 1) _ _ _ _ _ (by omega) (ac_pc_inv hix (ac_pc_inv hix I)) f (by omega) h
          rw [p1] at w
          exact w
      refine br_f (nI_ge p2 (by omega)) (br_c (fun d => key _ (by rw [ac_px, if_pos d])) (fun d => key _ ?_))
      rw [ac_px, if_neg d, show nI c - 1 = nI (c - 1) from pk_sub (a := c) (b := 1) (by omega), pk_sub (by omega)]
theorem ax_paa {post : St2 → Prop} {m : Int32} (hx : ac_XL S fa xa c) (hrk : ac_RK S sr un rk) (I : ac_PI S sr un (rc, xp, lg, L, du)) (h : ∀ rv dp : Int32, rv = (if m &&& 1 = 0 then 0 else 1) → dp = (if m &&& 2 = 0 then 0 else 1) → post (ky, lf, th, tg, nw, st, sp, sg, (nI pr), (nI S), (nI (ac_P S sr un fa rv dp (rc, xp, lg, L, du)).2.2.2.1), (nI c), ((ac_P S sr un fa rv dp (rc, xp, lg, L, du)).2.2.2.2), fo, sl, ab, up, lo, av, er, sn, an, ao, sr, un, rk, tx, ((ac_P S sr un fa rv dp (rc, xp, lg, L, du)).1), ak, nr, ((ac_P S sr un fa rv dp (rc, xp, lg, L, du)).2.1), ((ac_P S sr un fa rv dp (rc, xp, lg, L, du)).2.2.1), xa)) : wpX_processArrived post (ky, lf, th, tg, nw, st, sp, sg, (nI pr), (nI S), (nI L), (nI c), du, fo, sl, ab, up, lo, av, er, sn, an, ao, sr, un, rk, tx, rc, ak, nr, xp, lg, xa) m := by
  have key : ∀ rv dp : Int32, rv = (if m &&& 1 = 0 then 0 else 1) → dp = (if m &&& 2 = 0 then 0 else 1) → ∃ n, wX_processArrived_27 post rv dp n 0 ky lf th tg nw st sp sg (nI pr) (nI S) (nI L) (nI c) du fo sl ab up lo av er sn an ao sr un rk tx rc ak nr xp lg xa := by
    intro rv dp e1 e2
    have w := ax_pa (post := post) (rv := rv) (dp := dp) hx hrk S 0 rc xp lg L du (by omega) I (S + 1) (by omega) (h rv dp e1 e2)
    rw [ac_pl_0] at w
    exact ⟨S + 1, w⟩
  refine br_c (fun a => br_c (fun b => ?_) (fun b => ?_)) (fun a => br_c (fun b => ?_) (fun b => ?_))
  · exact key 0 0 (by rw [if_pos a]) (by rw [if_pos b])
  · exact key 0 1 (by rw [if_pos a]) (by rw [if_neg b])
  · exact key 1 0 (by rw [if_neg a]) (by rw [if_pos b])
  · exact key 1 1 (by rw [if_neg a]) (by rw [if_neg b])
theorem ax_ak {post : St2 → Prop} (hS : S ≤ 128) : ∀ (n id : Nat) (ak : ac_A), id + n = S → ∀ fu, n < fu → post (ky, lf, th, tg, nw, st, sp, sg, (nI pr), (nI S), (nI L), (nI c), du, fo, sl, ab, up, lo, av, er, sn, an, ao, sr, un, rk, tx, rc, (ac_ack rc n id ak), nr, xp, lg, xa) → wX_acknowledge_31 post ky lf th tg nw st sp sg (nI pr) (nI S) (nI L) (nI c) du fo sl ab fu (nI id) up lo av er sn an ao sr un rk tx rc ak nr xp lg xa := by
  intro n
  induction n with
  | zero =>
    intro id ak hn fu hf h
    obtain ⟨f, rfl⟩ : ∃ f, fu = f + 1 := ⟨fu - 1, by omega⟩
    exact br_t (nI_le (by omega) (by omega)) h
  | succ n ih =>
    intro id ak hn fu hf h
    obtain ⟨f, rfl⟩ : ∃ f, fu = f + 1 := ⟨fu - 1, by omega⟩
    have hi' : vp_in (nI id) 128 := vp_in_nI (by omega) (by omega)
    have e1 : (nI id).toNatClampNeg = id := nI_clamp (by omega)
    rw [ac_ack_s] at h
    refine br_f (nI_ge (by omega) (by omega)) ⟨hi', ?_⟩
    rw [e1]
    refine br_c (fun a => ?_) (fun a => ⟨hi', ?_⟩)
    · rw [if_pos a] at h
      exact nm_r (nI_1 id) (ih (id + 1) ak (by omega) f (by omega) h)
    · rw [if_neg a] at h
      exact nm_e (nm_r (nI_1 id) (ih (id + 1) _ (by omega) f (by omega) h))
theorem ax_ak_b {post : St2 → Prop} {n p : Nat} (hp : p < 2) (h : wX_acknowledge_2 post ky lf th tg nw st sp sg (nI pr) (nI S) (nI L) (nI c) du fo sl ab n (nI (p + 1)) up lo av er sn (if ao p = 0 then an else upd an p 1) ao sr un rk tx rc ak nr xp lg xa) : wX_acknowledge_2 post ky lf th tg nw st sp sg (nI pr) (nI S) (nI L) (nI c) du fo sl ab (n + 1) (nI p) up lo av er sn an ao sr un rk tx rc ak nr xp lg xa := by
  have hv := ac_p2v hp
  simp only [wX_acknowledge_2, ac_p2c hp, ac_vb1, forall_eq, nI_1]
  refine br_f (ac_p2n hp) ⟨hv, br_c (fun h1 => ?_) (fun h1 => ⟨hv, ?_⟩)⟩
  · rw [if_pos h1] at h
    exact h
  · rw [if_neg h1] at h
    exact h
theorem ax_ack {post : St2 → Prop} (hS : S ≤ 128) (h : post (ky, lf, th, tg, nw, st, sp, sg, (nI pr), (nI S), (nI L), (nI c), du, fo, sl, ab, up, lo, av, er, sn, (ac_an ao an), ao, sr, un, rk, tx, rc, (ac_ack rc S 0 ak), nr, xp, lg, xa)) : wpX_acknowledge post (ky, lf, th, tg, nw, st, sp, sg, (nI pr), (nI S), (nI L), (nI c), du, fo, sl, ab, up, lo, av, er, sn, an, ao, sr, un, rk, tx, rc, ak, nr, xp, lg, xa) := by
  refine ⟨3, ax_ak_b (p := 0) (by omega) (ax_ak_b (p := 1) (by omega) (br_t (by decide) ⟨S + 1, ax_ak hS S 0 ak (by omega) (S + 1) (by omega) ?_⟩))⟩
  have e : ac_an ao an = if ao 1 = 0 then (if ao 0 = 0 then an else upd an 0 1) else upd (if ao 0 = 0 then an else upd an 0 1) 1 1 := rfl
  rw [e] at h
  exact h
end AXB
end
section
/-! M: the component's round and run -/
section AXC
variable {ky lf th tg nw st sp sg du fo sl ab : Int32} {pr S L c : Nat} {up lo av er sn an ao sr un rk tx rc ak nr xp lg xa fa : ac_A}
theorem ac_TZ_0 : ac_TZ (fun _ => 0) := fun _ _ => rfl
theorem ac_hb_TZ {z : Int32} {p : Nat} {q : ac_A × ac_A} (hp : p < 2) (h : ac_TZ q.1 ∧ ac_TZ q.2) : ac_TZ (ac_hb up av z p q).1 ∧ ac_TZ (ac_hb up av z p q).2 := by
  unfold ac_hb
  split
  · refine ⟨ac_TZ_put h.1 hp, ?_⟩
    dsimp only
    split
    · exact h.2
    · split
      · exact h.2
      · exact ac_TZ_put h.2 hp
  · exact h
theorem ac_hb2_TZ {z : Int32} {q : ac_A × ac_A} (h : ac_TZ q.1 ∧ ac_TZ q.2) : ac_TZ (ac_hb2 up av z q).1 ∧ ac_TZ (ac_hb2 up av z q).2 := by
  unfold ac_hb2
  exact ac_hb_TZ (by omega) (ac_hb_TZ (by omega) h)
theorem ac_hs_TZ {z : Int32} (hp : pr < 2) : ac_TZ (ac_hs lf tg up z pr nw st sp sg sl ab).2.2.2.2.2.1 ∧ ac_TZ (ac_hs lf tg up z pr nw st sp sg sl ab).2.2.2.2.2.2 := by
  have h0 := ac_TZ_0
  have h1 : ac_TZ (upd (fun _ => 0) pr 1) := ac_TZ_put ac_TZ_0 hp
  unfold ac_hs
  repeat' split
  all_goals first | exact ⟨h1, h1⟩ | exact ⟨h1, h0⟩ | exact ⟨h0, h0⟩
theorem ac_an_TZ {a : ac_A} (h : ac_TZ a) : ac_TZ (ac_an ao a) := by
  unfold ac_an
  repeat' split
  · exact h
  · exact ac_TZ_put h (by omega)
  · exact ac_TZ_put h (by omega)
  · exact ac_TZ_put (ac_TZ_put h (by omega)) (by omega)
theorem ac_da_TZ {z : Int32} : ac_TZ (ac_da S z fa ao) := by
  unfold ac_da
  repeat' split
  · exact ac_TZ_0
  · exact ac_TZ_0
  · exact ac_an_TZ ac_TZ_0
theorem ac_hs_n {z : Int32} (e1 : ¬ st = 1) (e2 : ¬ st = 2) : ac_hs lf tg up z pr nw st sp sg sl ab = (st, sp, sg, sl, ab, fun _ => 0, fun _ => 0) := by
  unfold ac_hs
  rw [if_neg e1, if_neg e2]
theorem ac_rt_2 (hp : pr < 2) : ac_rt av pr < 2 := by
  unfold ac_rt
  split
  · exact hp
  · omega
theorem ac_T_TZ (hp : pr < 2) : ac_TZ (ac_T S up av pr lo tx ak).2.1 ∧ ac_TZ (ac_T S up av pr lo tx ak).2.2.2.1 := by
  unfold ac_T
  exact ac_tm_TZ hp (ac_rt_2 hp) S 0 _ ⟨ac_TZ_0, ac_TZ_0⟩
/-- the component's state, from what a round changes and what it leaves -/
def ac_XS (ky lf th tg fo : Int32) (S : Nat) (up sr un rk nr : ac_A) (g : ac_G) (sn an ao xa : ac_A) (c : Nat) : St2 := (ky, lf, th, tg, g.1, g.2.1, g.2.2.1, g.2.2.2.1, (nI g.2.2.2.2.1), (nI S), (nI g.2.2.2.2.2.2.2.2.2.2.2.2.2.2.2.1), (nI c), g.2.2.2.2.2.2.2.2.2.2.2.2.2.2.2.2, fo, g.2.2.2.2.2.1, g.2.2.2.2.2.2.1, up, g.2.2.2.2.2.2.2.1, g.2.2.2.2.2.2.2.2.1, g.2.2.2.2.2.2.2.2.2.1, sn, an, ao, sr, un, rk, g.2.2.2.2.2.2.2.2.2.2.1, g.2.2.2.2.2.2.2.2.2.2.2.2.1, g.2.2.2.2.2.2.2.2.2.2.2.1, nr, g.2.2.2.2.2.2.2.2.2.2.2.2.2.1, g.2.2.2.2.2.2.2.2.2.2.2.2.2.2.1, xa)
theorem ax_round11 {post : St2 → Prop} {m z rv dp : Int32} (ev : rv = (if m &&& 1 = 0 then 0 else 1)) (ed : dp = (if m &&& 2 = 0 then 0 else 1)) (I : ac_GI S sr un (nw, st, sp, sg, pr, sl, ab, lo, av, er, tx, ak, rc, xp, lg, L, du)) (hrk : ac_RK S sr un rk) (hs : ac_TZ sn) (ha : ac_TZ an) (ho : ac_TZ ao) (h : ∀ sn an ao xa c, ac_TZ sn → ac_TZ an → ac_TZ ao → post (ac_XS ky lf th tg fo S up sr un rk nr (ac_rd lf th tg up S sr un z rv dp (nw, st, sp, sg, pr, sl, ab, lo, av, er, tx, ak, rc, xp, lg, L, du)) sn an ao xa c)) : wX_playRound_11 post m z ky lf th tg nw st sp sg (nI pr) (nI S) (nI L) (nI c) du fo sl ab up lo av er sn an ao sr un rk tx rc ak nr xp lg xa := by
  obtain ⟨hp, i2, i3, i4, i5, i6⟩ := I
  have hS : S ≤ 128 := i3.1.1
  unfold wX_playRound_11
  refine ax_start hs ha ho ?_
  dsimp only
  by_cases e1 : st = 1
  · have e3 : ¬ st = 3 := by rw [e1]; decide
    rw [ac_rd_H e3] at h
    refine br_t e1 (ax_init hp e1 ?_)
    dsimp only
    have t := ac_hb2_TZ (up := up) (av := av) (z := z) (q := ((ac_hs lf tg up z pr (nw + 1) st sp sg sl ab).2.2.2.2.2.1, (ac_hs lf tg up z pr (nw + 1) st sp sg sl ab).2.2.2.2.2.2)) (ac_hs_TZ hp)
    exact ax_tail hp (h _ _ _ xa 0 t.1 t.2 ac_TZ_0)
  · refine br_f e1 ?_
    by_cases e2 : st = 2
    · have e3 : ¬ st = 3 := by rw [e2]; decide
      rw [ac_rd_H e3] at h
      refine br_t e2 (ax_echo hp e1 e2 ?_)
      dsimp only
      have t := ac_hb2_TZ (up := up) (av := av) (z := z) (q := ((ac_hs lf tg up z pr (nw + 1) st sp sg sl ab).2.2.2.2.2.1, (ac_hs lf tg up z pr (nw + 1) st sp sg sl ab).2.2.2.2.2.2)) (ac_hs_TZ hp)
      exact ax_tail hp (h _ _ _ xa 0 t.1 t.2 ac_TZ_0)
    · refine br_f e2 ?_
      by_cases e3 : st = 3
      · rw [ac_rd_E e3] at h
        refine br_t e3 (ax_tua hS hp (fun xa' c' hx => ?_))
        dsimp only
        refine ax_paa hx hrk i3 (fun rv' dp' ev' ed' => ?_)
        obtain rfl : rv' = rv := ev'.trans ev.symm
        obtain rfl : dp' = dp := ed'.trans ed.symm
        dsimp only
        have hc : c' ≤ S := by
          have := hx.1
          have := ac_ct_le (ac_fl (ac_T S up av pr lo tx ak).2.2.2.2) S
          omega
        have w := ac_T_TZ (S := S) (up := up) (av := av) (lo := lo) (tx := tx) (ak := ak) hp
        have t := ac_hb2_TZ (up := up) (av := av) (z := z) (q := ((ac_T S up av pr lo tx ak).2.1, ac_da S z (ac_T S up av pr lo tx ak).2.2.2.2 (ac_T S up av pr lo tx ak).2.2.2.1)) ⟨w.1, ac_da_TZ⟩
        have h' := h _ _ (ac_T S up av pr lo tx ak).2.2.2.1 xa' c' t.1 t.2 w.2
        refine br_c (fun z0 => ?_) (fun z0 => br_c (fun c0 => ?_) (fun c0 => ?_))
        · refine ax_tail hp ?_
          unfold ac_rdE ac_da ac_dk at h'
          simp only [if_pos z0] at h'
          exact h'
        · have cz : ac_ct (ac_fl (ac_T S up av pr lo tx ak).2.2.2.2) S = 0 := by
            rw [← hx.1]
            rw [← nI_0, nI_leI (by omega) (by omega)] at c0
            omega
          refine ax_tail hp ?_
          unfold ac_rdE ac_da ac_dk at h'
          simp only [if_neg z0, if_pos cz] at h'
          exact h'
        · have cz : ¬ ac_ct (ac_fl (ac_T S up av pr lo tx ak).2.2.2.2) S = 0 := by
            rw [← hx.1]
            rw [← nI_0, nI_leI (by omega) (by omega)] at c0
            omega
          refine ax_ack hS ?_
          dsimp only
          refine ax_tail hp ?_
          unfold ac_rdE ac_da ac_dk at h'
          simp only [if_neg z0, if_neg cz] at h'
          exact h'
      · rw [ac_rd_H e3, ac_hs_n e1 e2] at h
        have t := ac_hb2_TZ (up := up) (av := av) (z := z) (q := (fun _ => 0, fun _ => 0)) ⟨ac_TZ_0, ac_TZ_0⟩
        exact br_f e3 (ax_tail hp (h _ _ _ xa 0 t.1 t.2 ac_TZ_0))
/-- the mode's three bits, as both sides read them -/
def ac_mz (m : Int32) : Int32 := if m &&& 4 = 0 then 1 else 0
def ac_mr (m : Int32) : Int32 := if m &&& 1 = 0 then 0 else 1
def ac_md (m : Int32) : Int32 := if m &&& 2 = 0 then 0 else 1
theorem ax_round {post : St2 → Prop} {m : Int32} (I : ac_GI S sr un (nw, st, sp, sg, pr, sl, ab, lo, av, er, tx, ak, rc, xp, lg, L, du)) (hrk : ac_RK S sr un rk) (hs : ac_TZ sn) (ha : ac_TZ an) (ho : ac_TZ ao) (h : ∀ sn an ao xa c, ac_TZ sn → ac_TZ an → ac_TZ ao → post (ac_XS ky lf th tg fo S up sr un rk nr (ac_rd lf th tg up S sr un (ac_mz m) (ac_mr m) (ac_md m) (nw, st, sp, sg, pr, sl, ab, lo, av, er, tx, ak, rc, xp, lg, L, du)) sn an ao xa c)) : wpX_playRound post (ky, lf, th, tg, nw, st, sp, sg, (nI pr), (nI S), (nI L), (nI c), du, fo, sl, ab, up, lo, av, er, sn, an, ao, sr, un, rk, tx, rc, ak, nr, xp, lg, xa) m := by
  refine br_c (fun a => ?_) (fun a => ?_)
  · rw [show ac_mz m = 1 from if_pos a] at h
    exact ax_round11 (rv := ac_mr m) (dp := ac_md m) rfl rfl I hrk hs ha ho h
  · rw [show ac_mz m = 0 from if_neg a] at h
    exact ax_round11 (rv := ac_mr m) (dp := ac_md m) rfl rfl I hrk hs ha ho h
theorem ax_runl {post : Int32 → St2 → Prop} {m x3 : Int32} {N : Nat} (hN : N ≤ 16) (hrk : ac_RK S sr un rk) : ∀ (n i : Nat) (g : ac_G) (sn an ao xa : ac_A) (c : Nat), i + n = N → ac_GI S sr un g → ac_TZ sn → ac_TZ an → ac_TZ ao → ∀ fu, n < fu → (∀ sn an ao xa c, ac_TZ sn → ac_TZ an → ac_TZ ao → ∀ g', g' = ac_rds lf th tg up S sr un (ac_mz m) (ac_mr m) (ac_md m) n g → post (nI g'.2.2.2.2.2.2.2.2.2.2.2.2.2.2.2.1 - x3) (ac_XS ky lf th tg fo S up sr un rk nr g' sn an ao xa c)) → wX_run_17 post m x3 (nI N) fu (nI i) ky lf th tg g.1 g.2.1 g.2.2.1 g.2.2.2.1 (nI g.2.2.2.2.1) (nI S) (nI g.2.2.2.2.2.2.2.2.2.2.2.2.2.2.2.1) (nI c) g.2.2.2.2.2.2.2.2.2.2.2.2.2.2.2.2 fo g.2.2.2.2.2.1 g.2.2.2.2.2.2.1 up g.2.2.2.2.2.2.2.1 g.2.2.2.2.2.2.2.2.1 g.2.2.2.2.2.2.2.2.2.1 sn an ao sr un rk g.2.2.2.2.2.2.2.2.2.2.1 g.2.2.2.2.2.2.2.2.2.2.2.2.1 g.2.2.2.2.2.2.2.2.2.2.2.1 nr g.2.2.2.2.2.2.2.2.2.2.2.2.2.1 g.2.2.2.2.2.2.2.2.2.2.2.2.2.2.1 xa := by
  intro n
  induction n with
  | zero =>
    intro i g sn an ao xa c hn I hs ha ho fu hf h
    obtain ⟨f, rfl⟩ : ∃ f, fu = f + 1 := ⟨fu - 1, by omega⟩
    exact br_t (nI_le (by omega) (by omega)) (h sn an ao xa c hs ha ho g rfl)
  | succ n ih =>
    intro i g sn an ao xa c hn I hs ha ho fu hf h
    obtain ⟨f, rfl⟩ : ∃ f, fu = f + 1 := ⟨fu - 1, by omega⟩
    have I' := ac_rd_inv (life := lf) (th := th) (tag := tg) (up := up) (rp := ac_mz m) (rev := ac_mr m) (dup := ac_md m) I
    refine br_f (nI_ge (by omega) (by omega)) (ax_round I hrk hs ha ho (fun sn' an' ao' xa' c' hs' ha' ho' => ?_))
    unfold ac_XS
    dsimp only
    exact nm_r (nI_1 i) (ih (i + 1) _ sn' an' ao' xa' c' (by omega) I' hs' ha' ho' f (by omega) h)
theorem ac_cl16 (v : Int32) : ∃ N, N ≤ 16 ∧ ac_cl v 1 16 = nI N := by
  unfold ac_cl
  split
  · split
    · rename_i h1 h2
      obtain ⟨j, hj, e⟩ := nI_of2 (x := v) (M := 16) (n := 16) (by decide) (fun z => absurd (Int32.lt_of_lt_of_le z (Int32.le_trans (by decide) h1)) Int32.lt_irrefl) h2
      exact ⟨j, hj, e⟩
    · exact ⟨16, by omega, rfl⟩
  · exact ⟨1, by omega, rfl⟩
theorem ax_run {post : Int32 → St2 → Prop} {v m : Int32} {N : Nat} (hN : N ≤ 16) (eN : ac_cl v 1 16 = nI N) (hrk : ac_RK S sr un rk) (I : ac_GI S sr un (nw, st, sp, sg, pr, sl, ab, lo, av, er, tx, ak, rc, xp, lg, L, du)) (hs : ac_TZ sn) (ha : ac_TZ an) (ho : ac_TZ ao) (h : ∀ sn an ao xa c, ac_TZ sn → ac_TZ an → ac_TZ ao → ∀ g', g' = ac_rds lf th tg up S sr un (ac_mz m) (ac_mr m) (ac_md m) N (nw, st, sp, sg, pr, sl, ab, lo, av, er, tx, ak, rc, xp, lg, L, du) → post (nI g'.2.2.2.2.2.2.2.2.2.2.2.2.2.2.2.1 - nI L) (ac_XS ky lf th tg fo S up sr un rk nr g' sn an ao xa c)) : wpX_run post (ky, lf, th, tg, nw, st, sp, sg, (nI pr), (nI S), (nI L), (nI c), du, fo, sl, ab, up, lo, av, er, sn, an, ao, sr, un, rk, tx, rc, ak, nr, xp, lg, xa) v m := by
  unfold wpX_run
  dsimp only
  refine ax_clamp ?_
  rw [eN]
  exact ⟨N + 1, ax_runl hN hrk N 0 (nw, st, sp, sg, pr, sl, ab, lo, av, er, tx, ak, rc, xp, lg, L, du) sn an ao xa c (by omega) I hs ha ho (N + 1) (by omega) h⟩
end AXC
end
section
/-! J2: what more the property wants of a round -/
theorem ac_ct_dis {p q : Nat → Bool} : ∀ n, (∀ j, j < n → p j = true → q j = true → False) → ac_ct p n + ac_ct q n ≤ n := by
  intro n
  induction n with
  | zero => intro _; exact Nat.le_refl 0
  | succ n ih =>
    intro h
    have i := ih (fun j hj => h j (by omega))
    cases hp : p n with
    | true =>
      cases hq : q n with
      | true => exact (h n (by omega) hp hq).elim
      | false => rw [ac_ct_t hp, ac_ct_f hq]; omega
    | false =>
      cases hq : q n with
      | true => rw [ac_ct_f hp, ac_ct_t hq]; omega
      | false => rw [ac_ct_f hp, ac_ct_f hq]; omega
theorem ac_ct_or {p q r : Nat → Bool} : ∀ n, (∀ j, j < n → p j = true → q j = true ∨ r j = true) → ac_ct p n ≤ ac_ct q n + ac_ct r n := by
  intro n
  induction n with
  | zero => intro _; exact Nat.le_refl 0
  | succ n ih =>
    intro h
    have i := ih (fun j hj => h j (by omega))
    have mq := ac_ct_mono q (show n ≤ n + 1 by omega)
    have mr := ac_ct_mono r (show n ≤ n + 1 by omega)
    cases hp : p n with
    | true =>
      rw [ac_ct_t hp]
      cases h n (by omega) hp with
      | inl z => rw [ac_ct_t z]; omega
      | inr z => rw [ac_ct_t z]; omega
    | false => rw [ac_ct_f hp]; omega
theorem ac_ct_not {p q : Nat → Bool} : ∀ n, (∀ j, j < n → (q j = true ↔ ¬ p j = true)) → ac_ct p n + ac_ct q n = n := by
  intro n
  induction n with
  | zero => intro _; rfl
  | succ n ih =>
    intro h
    have i := ih (fun j hj => h j (by omega))
    cases hp : p n with
    | true => rw [ac_ct_t hp, ac_ct_f (ac_bf (fun z => (h n (by omega)).mp z hp))]; omega
    | false => rw [ac_ct_f hp, ac_ct_t ((h n (by omega)).mpr (by rw [hp]; decide))]; omega
theorem ac_t1_fa {up : ac_A} {p id j : Nat} {q : ac_TS} (h : j ≠ id) : (ac_t1 up p id q).2.2.2.2 j = q.2.2.2.2 j := by
  unfold ac_t1
  split
  · rfl
  · split
    · exact pk_un h
    · rfl
theorem ac_tm_lo {ak up : ac_A} {p r : Nat} : ∀ (n id : Nat) (q : ac_TS) (j : Nat), j < id → (ac_tm ak up p r n id q).1 j = q.1 j ∧ (ac_tm ak up p r n id q).2.2.2.2 j = q.2.2.2.2 j := by
  intro n
  induction n with
  | zero => intro id q j _; exact ⟨rfl, rfl⟩
  | succ n ih =>
    intro id q j hj
    by_cases a : ak id = 0
    · rw [ac_tm_y a]
      have w := ih (id + 1) (ac_t1 up (ac_tp p r (q.1 id)) id q) j (by omega)
      rw [w.1, w.2, ac_t1_tx, pk_un (by omega), ac_t1_fa (by omega)]
      exact ⟨rfl, rfl⟩
    · rw [ac_tm_n a]
      exact ih (id + 1) q j (by omega)
/-- a message is sent once more, or neither sent nor arrived -/
theorem ac_tm_hi {ak up : ac_A} {p r : Nat} : ∀ (n id : Nat) (q : ac_TS) (j : Nat), id ≤ j → ((ac_tm ak up p r n id q).1 j = q.1 j ∧ (ac_tm ak up p r n id q).2.2.2.2 j = q.2.2.2.2 j) ∨ (ac_tm ak up p r n id q).1 j = q.1 j + 1 := by
  intro n
  induction n with
  | zero => intro id q j _; exact Or.inl ⟨rfl, rfl⟩
  | succ n ih =>
    intro id q j hj
    by_cases a : ak id = 0
    · rw [ac_tm_y a]
      by_cases e : j = id
      · right
        rw [e, (ac_tm_lo n (id + 1) _ id (by omega)).1, ac_t1_tx, pk_us]
      · have w := ih (id + 1) (ac_t1 up (ac_tp p r (q.1 id)) id q) j (by omega)
        rw [ac_t1_tx, pk_un e, ac_t1_fa e] at w
        exact w
    · rw [ac_tm_n a]
      by_cases e : j = id
      · left
        rw [e]
        exact ac_tm_lo n (id + 1) q id (by omega)
      · exact ih (id + 1) q j (by omega)
theorem ac_pc_rc {S : Nat} {str uno : ac_A} {m : Nat} {q : ac_PS} : (ac_pc S str uno m q).1 = q.1 ∨ (ac_pc S str uno m q).1 = upd q.1 m 1 := by
  unfold ac_pc
  split
  · split
    · split
      · exact Or.inr rfl
      · exact Or.inr rfl
    · exact Or.inr rfl
  · exact Or.inl rfl
theorem ac_pc_up {S : Nat} {str uno : ac_A} {m j : Nat} {q : ac_PS} (h : ¬ q.1 j = 0) : ¬ (ac_pc S str uno m q).1 j = 0 := by
  cases ac_pc_rc (S := S) (str := str) (uno := uno) (m := m) (q := q) with
  | inl e => rw [e]; exact h
  | inr e =>
    rw [e]
    by_cases z : j = m
    · rw [z, pk_us]; decide
    · rw [pk_un z]; exact h
theorem ac_pc_dn {S : Nat} {str uno : ac_A} {m j : Nat} {q : ac_PS} (h : ¬ (ac_pc S str uno m q).1 j = 0) : ¬ q.1 j = 0 ∨ j = m := by
  cases ac_pc_rc (S := S) (str := str) (uno := uno) (m := m) (q := q) with
  | inl e => rw [e] at h; exact Or.inl h
  | inr e =>
    rw [e] at h
    by_cases z : j = m
    · exact Or.inr z
    · rw [pk_un z] at h; exact Or.inl h
theorem ac_p2_up {S : Nat} {str uno : ac_A} {dup : Int32} {m j : Nat} {q : ac_PS} (h : ¬ q.1 j = 0) : ¬ (ac_p2 S str uno dup m q).1 j = 0 := by
  unfold ac_p2
  split
  · exact ac_pc_up h
  · exact ac_pc_up (ac_pc_up h)
theorem ac_p2_dn {S : Nat} {str uno : ac_A} {dup : Int32} {m j : Nat} {q : ac_PS} (h : ¬ (ac_p2 S str uno dup m q).1 j = 0) : ¬ q.1 j = 0 ∨ j = m := by
  unfold ac_p2 at h
  split at h
  · exact ac_pc_dn h
  · cases ac_pc_dn h with
    | inl z => exact ac_pc_dn z
    | inr z => exact Or.inr z
theorem ac_pp_up {S : Nat} {str uno fa : ac_A} {rev dup : Int32} {j : Nat} : ∀ (n t : Nat) (q : ac_PS), ¬ q.1 j = 0 → ¬ (ac_pp S str uno fa rev dup n t q).1 j = 0 := by
  intro n
  induction n with
  | zero => intro t q h; exact h
  | succ n ih =>
    intro t q h
    rw [ac_pp_s]
    refine ih (t + 1) _ ?_
    by_cases z : fa (ac_ix S rev t) = 0
    · rw [if_pos z]; exact h
    · rw [if_neg z]; exact ac_p2_up h
theorem ac_pp_dn {S : Nat} {str uno fa : ac_A} {rev dup : Int32} {j : Nat} : ∀ (n t : Nat) (q : ac_PS), ¬ (ac_pp S str uno fa rev dup n t q).1 j = 0 → ¬ q.1 j = 0 ∨ ¬ fa j = 0 := by
  intro n
  induction n with
  | zero => intro t q h; exact Or.inl h
  | succ n ih =>
    intro t q h
    rw [ac_pp_s] at h
    cases ih (t + 1) _ h with
    | inr w => exact Or.inr w
    | inl w =>
      by_cases z : fa (ac_ix S rev t) = 0
      · rw [if_pos z] at w; exact Or.inl w
      · rw [if_neg z] at w
        cases ac_p2_dn w with
        | inl y => exact Or.inl y
        | inr y => right; rw [y]; exact z
theorem ac_ack_dn {rc : ac_A} {j : Nat} : ∀ (n id : Nat) (a : ac_A), ¬ ac_ack rc n id a j = 0 → ¬ a j = 0 ∨ ¬ rc j = 0 := by
  intro n
  induction n with
  | zero => intro id a h; exact Or.inl h
  | succ n ih =>
    intro id a h
    rw [ac_ack_s] at h
    cases ih (id + 1) _ h with
    | inr w => exact Or.inr w
    | inl w =>
      by_cases z : rc id = 0
      · rw [if_pos z] at w; exact Or.inl w
      · rw [if_neg z] at w
        by_cases e : j = id
        · right; rw [e]; exact z
        · rw [pk_un e] at w; exact Or.inl w
/-- what is acked is received; how often each was sent -/
def ac_H2 (R : Nat) : ac_G → Prop
  | (_, _, _, _, _, _, _, _, _, _, tx, ak, rc, _, _, _, _) => (∀ j, ¬ ak j = 0 → ¬ rc j = 0) ∧ (∀ j, ∃ t, t ≤ R ∧ tx j = nI t ∧ (¬ rc j = 0 → 1 ≤ t))
theorem ac_H2_up {R R' : Nat} {g : ac_G} (hR : R ≤ R') (h : ac_H2 R g) : ac_H2 R' g := by
  obtain ⟨now, st, stamp, sg, pr, stale, ab, lose, act, err, tx, ak, rc, xp, lg, L, dups⟩ := g
  refine ⟨h.1, fun j => ?_⟩
  obtain ⟨t, h1, h2, h3⟩ := h.2 j
  exact ⟨t, by omega, h2, h3⟩
theorem ac_rd_H2 {life th tag : Int32} {up : ac_A} {S R : Nat} {str uno : ac_A} {rp rev dup : Int32} {g : ac_G} (h : ac_H2 R g) : ac_H2 (R + 1) (ac_rd life th tag up S str uno rp rev dup g) := by
  obtain ⟨now, st, stamp, sg, pr, stale, ab, lose, act, err, tx, ak, rc, xp, lg, L, dups⟩ := g
  by_cases e : st = 3
  · rw [ac_rd_E e]
    refine ⟨fun j a => ?_, fun j => ?_⟩
    · have u : ¬ rc j = 0 → ¬ (ac_P S str uno (ac_T S up act pr lose tx ak).2.2.2.2 rev dup (rc, xp, lg, L, dups)).1 j = 0 := fun z => ac_pp_up S 0 (rc, xp, lg, L, dups) z
      unfold ac_dk at a
      split at a
      · exact u (h.1 j a)
      · split at a
        · exact u (h.1 j a)
        · cases ac_ack_dn S 0 ak a with
          | inl z => exact u (h.1 j z)
          | inr z => exact z
    · obtain ⟨t, h1, h2, h3⟩ := h.2 j
      have w := ac_tm_hi (ak := ak) (up := up) (p := pr) (r := ac_rt act pr) S 0 (tx, fun _ => 0, lose, fun _ => 0, fun _ => 0) j (Nat.zero_le j)
      cases w with
      | inl w =>
        refine ⟨t, by omega, w.1.trans h2, fun z => ?_⟩
        cases ac_pp_dn S 0 (rc, xp, lg, L, dups) z with
        | inl y => exact h3 y
        | inr y => exact absurd w.2 y
      | inr w =>
        refine ⟨t + 1, by omega, ?_, fun _ => by omega⟩
        refine w.trans ?_
        rw [← nI_1]
        exact congrArg (· + 1) h2
  · rw [ac_rd_H e]
    exact ac_H2_up (g := (now, st, stamp, sg, pr, stale, ab, lose, act, err, tx, ak, rc, xp, lg, L, dups)) (Nat.le_succ R) h
theorem ac_rds_H2 {life th tag : Int32} {up : ac_A} {S : Nat} {str uno : ac_A} {rp rev dup : Int32} : ∀ (n R : Nat) (g : ac_G), ac_H2 R g → ac_H2 (R + n) (ac_rds life th tag up S str uno rp rev dup n g) := by
  intro n
  induction n with
  | zero => intro R g h; exact h
  | succ n ih =>
    intro R g h
    have w := ih (R + 1) _ (ac_rd_H2 (life := life) (th := th) (tag := tag) (up := up) (S := S) (str := str) (uno := uno) (rp := rp) (rev := rev) (dup := dup) h)
    rw [show R + (n + 1) = R + 1 + n by omega]
    exact w
end
section
/-! S: the class's other methods -/
section ASA
variable {ky lf th tg nw st sp sg du fo sl ab : Int32} {pr S L c : Nat} {up lo av er sn an ao sr un rk tx rc ak nr xp lg xa : ac_A} {R : Nat} {a b : Int32}
theorem ax_path {post : Int32 → Prop} {v : Int32} (h1 : ∀ j, j < 2 → v = nI j → post 1) (h0 : ¬ v = 0 → ¬ v = 1 → post 0) : wpX_isPath post () v := by
  rcases pk_ix v (n := 2) (by omega) with h | h | ⟨j, hj, e⟩
  · refine br_t h (h0 (fun e => ?_) (fun e => ?_))
    · rw [e] at h; exact absurd h (by decide)
    · rw [e] at h; exact absurd h (by decide)
  · refine br_f (fun z => ?_) (br_t h (h0 (fun e => ?_) (fun e => ?_)))
    · exact absurd (Int32.lt_of_lt_of_le z (Int32.le_trans (by decide) h)) Int32.lt_irrefl
    · rw [e] at h; exact absurd h (by decide)
    · rw [e] at h; exact absurd h (by decide)
  · rw [e]
    exact br_f (nI_pos (by omega)) (br_f (ac_p2n hj) (h1 j hj e))
theorem ax_msg {post : Int32 → Prop} {v : Int32} (hS : S ≤ 128) (h1 : ∀ j, j < S → v = nI j → post 1) (h0 : v < 0 ∨ (¬ v < 0 ∧ nI S ≤ v) → post 0) : wpX_isMessage post (ky, lf, th, tg, nw, st, sp, sg, (nI pr), (nI S), (nI L), (nI c), du, fo, sl, ab, up, lo, av, er, sn, an, ao, sr, un, rk, tx, rc, ak, nr, xp, lg, xa) v := by
  rcases pk_ix v (n := S) (by omega) with h | h | ⟨j, hj, e⟩
  · exact br_t h (h0 (Or.inl h))
  · have hn : ¬ v < 0 := fun z => absurd (Int32.lt_of_lt_of_le z (Int32.le_trans (nI_pos' (by omega)) h)) Int32.lt_irrefl
    exact br_f hn (br_t h (h0 (Or.inr ⟨hn, h⟩)))
  · rw [e]
    exact br_f (nI_pos (by omega)) (br_f (nI_ge hj (by omega)) (h1 j hj e))
theorem ac_lt128 {j : Nat} (h : j < 128) : nI j < (128 : Int32) := nI_lt (b := 128) h (by decide)
def ac_ua (ak : ac_A) (j : Nat) : Bool := decide (ak j = 0)
theorem ac_ua_t {j : Nat} : ac_ua ak j = true ↔ ak j = 0 := decide_eq_true_iff
theorem ax_cul {post : Int32 → Prop} (hS : S ≤ 128) (h : post (nI (ac_ct (ac_ua ak) S))) : ∀ (n id r : Nat), id + n = S → r = ac_ct (ac_ua ak) id → ∀ fu, n < fu → wX_countUnacked_4 post ky lf th tg nw st sp sg (nI pr) (nI S) (nI L) (nI c) du fo sl ab up lo av er sn an ao sr un rk tx rc ak nr xp lg xa fu (nI r) (nI id) := by
  intro n
  induction n with
  | zero =>
    intro id r hn eq fu hf
    obtain ⟨f, rfl⟩ : ∃ f, fu = f + 1 := ⟨fu - 1, by omega⟩
    obtain rfl : id = S := by omega
    subst eq
    exact br_t (nI_le (by omega) (by omega)) h
  | succ n ih =>
    intro id r hn eq fu hf
    obtain ⟨f, rfl⟩ : ∃ f, fu = f + 1 := ⟨fu - 1, by omega⟩
    refine br_f (nI_ge (by omega) (by omega)) ⟨vp_in_nI (by omega) (by omega), ?_⟩
    rw [nI_clamp (show id < 2 ^ 31 by omega)]
    refine br_c (fun a => nm_r (nI_1 r) (nm_r (nI_1 id) (ih (id + 1) (r + 1) (by omega) ?_ f (by omega)))) (fun a => nm_r (nI_1 id) (ih (id + 1) r (by omega) ?_ f (by omega)))
    · rw [ac_ct_t (ac_ua_t.mpr a), eq]
    · rw [ac_ct_f (ac_bf (fun z => a (ac_ua_t.mp z))), eq]
theorem ax_cu {post : Int32 → Prop} (hS : S ≤ 128) (h : post (nI (ac_ct (ac_ua ak) S))) : wpX_countUnacked post (ky, lf, th, tg, nw, st, sp, sg, (nI pr), (nI S), (nI L), (nI c), du, fo, sl, ab, up, lo, av, er, sn, an, ao, sr, un, rk, tx, rc, ak, nr, xp, lg, xa) :=
  ⟨S + 1, ax_cul hS h S 0 0 (by omega) rfl (S + 1) (by omega)⟩
theorem ax_chl {post : Int32 → Prop} (I : ac_Inv S sr un rc xp lg L) (hrk : ac_RK S sr un rk) (h : post (nI (ac_ct (ac_hl sr un rc lg L) S))) : ∀ (n id r : Nat), id + n = S → r = ac_ct (ac_hl sr un rc lg L) id → ∀ fu, n < fu → wX_countHeld_4 post ky lf th tg nw st sp sg (nI pr) (nI S) (nI L) (nI c) du fo sl ab up lo av er sn an ao sr un rk tx rc ak nr xp lg xa fu (nI r) (nI id) := by
  have hS := I.1
  intro n
  induction n with
  | zero =>
    intro id r hn eq fu hf
    obtain ⟨f, rfl⟩ : ∃ f, fu = f + 1 := ⟨fu - 1, by omega⟩
    obtain rfl : id = S := by omega
    subst eq
    exact br_t (nI_le (by omega) (by omega)) h
  | succ n ih =>
    intro id r hn eq fu hf
    obtain ⟨f, rfl⟩ : ∃ f, fu = f + 1 := ⟨fu - 1, by omega⟩
    have hid : id < S := by omega
    have hv : vp_in (nI id) 128 := vp_in_nI (by omega) (by omega)
    obtain ⟨s, hs, es, ec, ex⟩ := ac_xpe I hid
    have hsv : vp_in (sr id) 8 := by rw [es]; exact vp_in_nI hs (by omega)
    have bb := ac_bnd (t := sr id) I hid
    refine br_f (nI_ge (by omega) (by omega)) ⟨hv, ?_⟩
    rw [nI_clamp (show id < 2 ^ 31 by omega)]
    have no : ac_hl sr un rc lg L id = false → wX_countHeld_4 post ky lf th tg nw st sp sg (nI pr) (nI S) (nI L) (nI c) du fo sl ab up lo av er sn an ao sr un rk tx rc ak nr xp lg xa f (nI r) (nI (id + 1)) := fun z => ih (id + 1) r (by omega) (by rw [ac_ct_f z, eq]) f (by omega)
    refine br_c (fun a => nm_r (nI_1 id) (no (ac_bf (fun z => (ac_hl_t.mp z).1.1 a)))) (fun a => ⟨hv, br_c (fun b => ⟨hv, hv, hsv, ?_⟩) (fun b => nm_r (nI_1 id) (no (ac_bf (fun z => b (ac_hl_t.mp z).1.2))))⟩)
    rw [hrk id hid b, ec, ex, nI_ltI bb.1 bb.2]
    refine br_c (fun d => nm_r (nI_1 id) (no (ac_bf (fun z => ?_)))) (fun d => nm_r (nI_1 r) (nm_r (nI_1 id) (ih (id + 1) (r + 1) (by omega) ?_ f (by omega))))
    · have q := (ac_hl_t.mp z).2
      rw [(ac_dl_o b).mpr d] at q
      exact Bool.noConfusion q
    · rw [ac_ct_t (ac_hl_t.mpr ⟨⟨a, b⟩, ac_bf (fun z => d ((ac_dl_o b).mp z))⟩), eq]
theorem ax_chd {post : Int32 → Prop} (I : ac_Inv S sr un rc xp lg L) (hrk : ac_RK S sr un rk) (h : post (nI (ac_ct (ac_hl sr un rc lg L) S))) : wpX_countHeld post (ky, lf, th, tg, nw, st, sp, sg, (nI pr), (nI S), (nI L), (nI c), du, fo, sl, ab, up, lo, av, er, sn, an, ao, sr, un, rk, tx, rc, ak, nr, xp, lg, xa) :=
  ⟨S + 1, ax_chl I hrk h S 0 0 (by omega) rfl (S + 1) (by omega)⟩
theorem ac_w16 {x : Nat} (hS : S ≤ 128) (hx : x ≤ 128) : (nI S - 16 < nI x) ↔ S < x + 16 := by
  have e : nI S - 16 = nI S - nI 16 := rfl
  rw [e, Int32.lt_iff_toInt_lt, pk_sub_toInt (by omega) (by omega), nI_toInt (by omega)]
  omega
theorem ax_winl {post : Int32 → Prop} (hS : S ≤ 128) (h1 : (∃ j, j + 16 ≤ S ∧ ak j = 0) → post 1) (h0 : (¬ ∃ j, j + 16 ≤ S ∧ ak j = 0) → post 0) : ∀ (n x : Nat), x + n = S - 15 → (∀ k, k < x → ¬ ak k = 0) → ∀ fu, n < fu → wX_windowIsFull_2 post ky lf th tg nw st sp sg (nI pr) (nI S) (nI L) (nI c) du fo sl ab up lo av er sn an ao sr un rk tx rc ak nr xp lg xa fu (nI x) := by
  intro n
  induction n with
  | zero =>
    intro x hn hk fu hf
    obtain ⟨f, rfl⟩ : ∃ f, fu = f + 1 := ⟨fu - 1, by omega⟩
    refine br_t ((ac_w16 hS (by omega)).mpr (by omega)) (h0 (fun z => ?_))
    obtain ⟨j, hj, e⟩ := z
    exact hk j (by omega) e
  | succ n ih =>
    intro x hn hk fu hf
    obtain ⟨f, rfl⟩ : ∃ f, fu = f + 1 := ⟨fu - 1, by omega⟩
    have nb : ¬ nI S - 16 < nI x := fun z => by
      have := (ac_w16 hS (by omega)).mp z
      omega
    refine br_f nb ⟨vp_in_nI (by omega) (by omega), ?_⟩
    rw [nI_clamp (show x < 2 ^ 31 by omega)]
    refine br_c (fun a => h1 ⟨x, by omega, a⟩) (fun a => nm_r (nI_1 x) (ih (x + 1) (by omega) (fun k kx => ?_) f (by omega)))
    by_cases e : k = x
    · rw [e]; exact a
    · exact hk k (by omega)
theorem ax_win {post : Int32 → Prop} (hS : S ≤ 128) (h1 : (∃ j, j + 16 ≤ S ∧ ak j = 0) → post 1) (h0 : (¬ ∃ j, j + 16 ≤ S ∧ ak j = 0) → post 0) : wpX_windowIsFull post (ky, lf, th, tg, nw, st, sp, sg, (nI pr), (nI S), (nI L), (nI c), du, fo, sl, ab, up, lo, av, er, sn, an, ao, sr, un, rk, tx, rc, ak, nr, xp, lg, xa) :=
  ⟨S - 15 + 1, ax_winl hS h1 h0 (S - 15) 0 (by omega) (fun k kx => absurd kx (by omega)) (S - 15 + 1) (by omega)⟩
theorem ac_od_snd {x b : Int32} {t : Int32} {n : Nat} (hn : n ≤ S) : ac_ct (ac_od (upd sr S x) (upd un S b) t) n = ac_ct (ac_od sr un t) n := by
  refine ac_ct_cg n (fun j hj => ?_)
  unfold ac_od
  rw [pk_un (show j ≠ S by omega), pk_un (show j ≠ S by omega)]
theorem ac_128n {n : Nat} (h : ¬ n < 128) (hS : n ≤ 128) : ¬ nI n < 128 := nI_nlt (a := n) (b := 128) (by omega) (by omega)
theorem ax_initl {post : St2 → Prop} {mc ms kc ks n p : Nat} (hp : p < 2) (h : wX_init_250 post mc ms kc ks ky lf th tg nw st sp sg (nI pr) (nI S) (nI L) (nI c) du fo sl ab n (nI (p + 1)) (upd up p 1) lo (upd av p 1) er sn an ao sr un rk tx rc ak nr xp lg xa) : wX_init_250 post mc ms kc ks ky lf th tg nw st sp sg (nI pr) (nI S) (nI L) (nI c) du fo sl ab (n + 1) (nI p) up lo av er sn an ao sr un rk tx rc ak nr xp lg xa := by
  simp only [wX_init_250, ac_p2c hp, forall_eq, nI_1]
  exact br_f (ac_p2n hp) ⟨ac_p2v hp, ac_p2v hp, h⟩
theorem ax_new {post : St2 → Prop} {mc ms : Nat} {u : St1} {p0 p1 p2 p3 : Int32} (hc : 17 ≤ mc) (hs : 1054 ≤ ms) (h : post ((ac_cl p0 1 65535), (ac_cl p1 1 16), (ac_cl p2 1 8), (ac_cl p3 1 255), 0, 0, 0, 0, (nI 0), (nI 0), (nI 0), (nI 0), 0, 0, 0, 0, (upd (upd (fun _ => 0) 0 1) 1 1), (fun _ => 0), (upd (upd (fun _ => 0) 0 1) 1 1), (fun _ => 0), (fun _ => 0), (fun _ => 0), (fun _ => 0), (fun _ => 0), (fun _ => 0), (fun _ => 0), (fun _ => 0), (fun _ => 0), (fun _ => 0), (fun _ => 0), (fun _ => 0), (fun _ => 0), (fun _ => 0))) : wpX_init post mc ms u p0 p1 p2 p3 := by
  obtain ⟨u0, u1, u2, u3, u4, u5, u6, u7, u8, u9, u10, u11, u12, u13, u14, u15⟩ := u
  unfold wpX_init
  refine ⟨by omega, by omega, by omega, by omega, by omega, by omega, by omega, by omega, by omega, by omega, by omega, by omega, by omega, by omega, by omega, by omega, by omega, by omega, by omega, by omega, by omega, by omega, by omega, by omega, by omega, by omega, by omega, by omega, by omega, by omega, by omega, by omega, by omega, by omega, ?_⟩
  refine ax_clamp ?_
  refine ax_clamp ?_
  refine ax_clamp ?_
  refine ax_clamp ?_
  exact ⟨3, ax_initl (p := 0) (pr := 0) (S := 0) (L := 0) (c := 0) (by omega) (ax_initl (p := 1) (pr := 0) (S := 0) (L := 0) (c := 0) (by omega) (br_t (by decide) h))⟩
/-- the law's hash: stream and flag of an id -/
def ac_hS (a b x : Int32) : Int32 := ((x * ((2 * (a &&& 255)) + 1)) + (b &&& 255)) &&& 7
def ac_hU (a b x : Int32) : Int32 := if (((((x * ((2 * (a &&& 255)) + 1)) + (b &&& 255)).toUInt32 >>> ((3 : Int32).toUInt32 &&& Int32.toUInt32 31)).toInt32) &&& 3) = 0 then 1 else 0
theorem ac_hU_01 {x : Int32} : ac_hU a b x = 0 ∨ ac_hU a b x = 1 := by
  unfold ac_hU
  split
  · exact Or.inr rfl
  · exact Or.inl rfl
theorem al_un {post : Int32 → Prop} {x : Int32} (h : post (ac_hU a b x)) : wpL_unorderedOf post () x a b := by
  unfold ac_hU at h
  exact br_c (fun e => by rw [if_pos e] at h; exact h) (fun e => by rw [if_neg e] at h; exact h)
theorem al_st {post : Int32 → Prop} {x : Int32} (h : post (ac_hS a b x)) : wpL_streamOf post () x a b := h
def ac_F (R : Nat) (a b : Int32) (S : Nat) (sr un rk nr : ac_A) (g : ac_G) (sn an ao : ac_A) : Prop := ac_GI S sr un g ∧ ac_RK S sr un rk ∧ (∀ s, s < 8 → nr s = nI (ac_ct (ac_od sr un (nI s)) S)) ∧ (ac_TZ sn ∧ ac_TZ an ∧ ac_TZ ao) ∧ ac_H2 R g ∧ (∀ j, j < S → sr j = ac_hS a b (nI j) ∧ un j = ac_hU a b (nI j))
def ac_Q (R : Nat) (a b : Int32) (u : St2) : Prop := ∃ (ky lf th tg fo : Int32) (S : Nat) (up sr un rk nr : ac_A) (g : ac_G) (sn an ao xa : ac_A) (c : Nat), u = ac_XS ky lf th tg fo S up sr un rk nr g sn an ao xa c ∧ ac_F R a b S sr un rk nr g sn an ao
theorem ac_mk (F : ac_F R a b S sr un rk nr (nw, st, sp, sg, pr, sl, ab, lo, av, er, tx, ak, rc, xp, lg, L, du) sn an ao) : ac_Q R a b (ky, lf, th, tg, nw, st, sp, sg, (nI pr), (nI S), (nI L), (nI c), du, fo, sl, ab, up, lo, av, er, sn, an, ao, sr, un, rk, tx, rc, ak, nr, xp, lg, xa) :=
  ⟨ky, lf, th, tg, fo, S, up, sr, un, rk, nr, (nw, st, sp, sg, pr, sl, ab, lo, av, er, tx, ak, rc, xp, lg, L, du), sn, an, ao, xa, c, rfl, F⟩
theorem ac_Fh {nw' st' sp' sg' sl' ab' : Int32} {lo' er' : ac_A} (F : ac_F R a b S sr un rk nr (nw, st, sp, sg, pr, sl, ab, lo, av, er, tx, ak, rc, xp, lg, L, du) sn an ao) : ac_F R a b S sr un rk nr (nw', st', sp', sg', pr, sl', ab', lo', av, er', tx, ak, rc, xp, lg, L, du) sn an ao := F
theorem ac_F0 : ac_F 0 a b 0 (fun _ => 0) (fun _ => 0) (fun _ => 0) (fun _ => 0) (0, 0, 0, 0, 0, 0, 0, fun _ => 0, upd (upd (fun _ => 0) 0 1) 1 1, fun _ => 0, fun _ => 0, fun _ => 0, fun _ => 0, fun _ => 0, fun _ => 0, 0, 0) (fun _ => 0) (fun _ => 0) (fun _ => 0) := by
  refine ⟨⟨by omega, ?_, ⟨ac_Inv0, fun _ => Or.inl rfl⟩, fun _ => Or.inl rfl, fun _ _ => rfl, fun _ _ => rfl⟩, fun j hj => absurd hj (by omega), fun s _ => nI_0.symm, ⟨ac_TZ_0, ac_TZ_0, ac_TZ_0⟩, ⟨fun j z => absurd rfl z, fun j => ⟨0, by omega, nI_0.symm, fun z => absurd rfl z⟩⟩, fun j hj => absurd hj (by omega)⟩
  exact ac_01u (ac_01u (fun _ => Or.inl rfl) (Or.inr rfl)) (Or.inr rfl)
theorem ac_Qup {R' : Nat} {u : St2} (hR : R ≤ R') (Q : ac_Q R a b u) : ac_Q R' a b u := by
  obtain ⟨ky, lf, th, tg, fo, S, up, sr, un, rk, nr, g, sn, an, ao, xa, c, e, f1, f2, f3, f4, f5, f6⟩ := Q
  exact ⟨ky, lf, th, tg, fo, S, up, sr, un, rk, nr, g, sn, an, ao, xa, c, e, f1, f2, f3, f4, ac_H2_up hR f5, f6⟩
theorem ax_mconn {post : Int32 → St2 → Prop} {u : St2} (Q : ac_Q R a b u) (h : ∀ r u', ac_Q R a b u' → post r u') : wpX_connect post u := by
  obtain ⟨ky, lf, th, tg, fo, S, up, sr, un, rk, nr, ⟨nw, st, sp, sg, pr, sl, ab, lo, av, er, tx, ak, rc, xp, lg, L, du⟩, sn, an, ao, xa, c, rfl, F⟩ := Q
  unfold ac_XS
  dsimp only
  exact br_c (fun _ => h _ _ (ac_mk (ac_Fh F))) (fun _ => h _ _ (ac_mk F))
theorem ax_mpath {post : Int32 → St2 → Prop} {u : St2} {v x : Int32} (Q : ac_Q R a b u) (h : ∀ r u', ac_Q R a b u' → post r u') : wpX_setPath post u v x := by
  obtain ⟨ky, lf, th, tg, fo, S, up, sr, un, rk, nr, ⟨nw, st, sp, sg, pr, sl, ab, lo, av, er, tx, ak, rc, xp, lg, L, du⟩, sn, an, ao, xa, c, rfl, F⟩ := Q
  unfold ac_XS wpX_setPath
  dsimp only
  refine ax_path (fun j hj e => ?_) (fun n0 n1 => ?_)
  · rw [e]
    exact br_f (by decide) ⟨ac_p2v hj, nm_e (h _ _ (ac_mk F))⟩
  · exact br_t rfl (h _ _ (ac_mk F))
theorem ax_mlose {post : Int32 → St2 → Prop} {u : St2} {v x : Int32} (Q : ac_Q R a b u) (h : ∀ r u', ac_Q R a b u' → post r u') : wpX_loseNext post u v x := by
  obtain ⟨ky, lf, th, tg, fo, S, up, sr, un, rk, nr, ⟨nw, st, sp, sg, pr, sl, ab, lo, av, er, tx, ak, rc, xp, lg, L, du⟩, sn, an, ao, xa, c, rfl, F⟩ := Q
  unfold ac_XS wpX_loseNext
  dsimp only
  refine ax_path (fun j hj e => ?_) (fun n0 n1 => ?_)
  · rw [e]
    refine br_f (by decide) (ax_clamp ?_)
    exact ⟨ac_p2v hj, nm_e (h _ _ (ac_mk (ac_Fh F)))⟩
  · exact br_t rfl (h _ _ (ac_mk F))
theorem ax_mecho {post : Int32 → St2 → Prop} {u : St2} {v1 v2 v3 : Int32} (Q : ac_Q R a b u) (h : ∀ r u', ac_Q R a b u' → post r u') : wpX_injectEcho post u v1 v2 v3 := by
  obtain ⟨ky, lf, th, tg, fo, S, up, sr, un, rk, nr, ⟨nw, st, sp, sg, pr, sl, ab, lo, av, er, tx, ak, rc, xp, lg, L, du⟩, sn, an, ao, xa, c, rfl, F⟩ := Q
  unfold ac_XS wpX_injectEcho wpX_cookieCheck wX_injectEcho_34
  simp only [forall_eq]
  exact br_c (fun _ => br_c (fun _ => h _ _ (ac_mk F)) (fun _ => br_c (fun _ => h _ _ (ac_mk F)) (fun _ => br_c (fun _ => h _ _ (ac_mk F)) (fun _ => br_c (fun _ => br_c (fun _ => br_c (fun _ => h _ _ (ac_mk (ac_Fh F))) (fun _ => br_c (fun _ => h _ _ (ac_mk F)) (fun _ => h _ _ (ac_mk F)))) (fun _ => h _ _ (ac_mk (ac_Fh F)))) (fun _ => h _ _ (ac_mk F)))))) (fun _ => h _ _ (ac_mk F))
theorem ax_mrun {post : Int32 → St2 → Prop} {u : St2} {v m : Int32} {N : Nat} (hN : N ≤ 4) (eN : ac_cl v 1 16 = nI N) (Q : ac_Q R a b u) (h : ∀ r u', ac_Q (R + 4) a b u' → post r u') : wpX_run post u v m := by
  obtain ⟨ky, lf, th, tg, fo, S, up, sr, un, rk, nr, ⟨nw, st, sp, sg, pr, sl, ab, lo, av, er, tx, ak, rc, xp, lg, L, du⟩, sn, an, ao, xa, c, rfl, F⟩ := Q
  obtain ⟨G, K, N', T, H, B⟩ := F
  refine ax_run (show N ≤ 16 by omega) eN K G T.1 T.2.1 T.2.2 (fun sn' an' ao' xa' c' hs ha ho g' eg => ?_)
  refine h _ _ ⟨ky, lf, th, tg, fo, S, up, sr, un, rk, nr, g', sn', an', ao', xa', c', rfl, ?_, K, N', ⟨hs, ha, ho⟩, ?_, B⟩
  · rw [eg]; exact ac_rds_inv N _ G
  · rw [eg]; exact ac_H2_up (by omega) (ac_rds_H2 N R _ H)
theorem ax_mbad {post : Int32 → St2 → Prop} {u : St2} {v x : Int32} (hv : v < 0 ∨ (¬ v < 0 ∧ ¬ v < 8)) (Q : ac_Q R a b u) (h : ∀ r u', ac_Q R a b u' → post r u') : wpX_send post u v x := by
  obtain ⟨ky, lf, th, tg, fo, S, up, sr, un, rk, nr, ⟨nw, st, sp, sg, pr, sl, ab, lo, av, er, tx, ak, rc, xp, lg, L, du⟩, sn, an, ao, xa, c, rfl, F⟩ := Q
  unfold ac_XS
  dsimp only
  cases hv with
  | inl z => exact br_t z (h _ _ (ac_mk F))
  | inr z => exact br_f z.1 (br_f z.2 (h _ _ (ac_mk F)))
theorem ac_Fs {s : Nat} {rk' nr' : ac_A} (F : ac_F R a b S sr un rk nr (nw, st, sp, sg, pr, sl, ab, lo, av, er, tx, ak, rc, xp, lg, L, du) sn an ao) (hS : S < 128) (hs : s < 8) (es : ac_hS a b (nI S) = nI s) (hrk : ∀ j, j < S → rk' j = rk j) (hrS : ac_hU a b (nI S) = 0 → rk' S = nr s) (hy : ac_hU a b (nI S) = 0 → nr' = upd nr s (nr s + 1)) (hn : ¬ ac_hU a b (nI S) = 0 → nr' = nr) : ac_F R a b (S + 1) (upd sr S (nI s)) (upd un S (ac_hU a b (nI S))) rk' nr' (nw, st, sp, sg, pr, sl, ab, lo, av, er, tx, ak, rc, xp, lg, L, du) sn an ao := by
  obtain ⟨⟨g1, g2, g3, g4, g5, g6⟩, K, N, T, H, B⟩ := F
  refine ⟨⟨g1, g2, ⟨ac_snd g3.1 hS hs, g3.2⟩, g4, fun j hj => g5 j (by omega), fun j hj => g6 j (by omega)⟩, ?_, ?_, T, H, ?_⟩
  · intro j hj u
    by_cases e : j = S
    · subst e
      rw [pk_us] at u
      rw [hrS u, N s hs]
      unfold ac_rk
      rw [pk_us, ac_od_snd (Nat.le_refl j)]
    · rw [pk_un e] at u
      rw [hrk j (by omega), K j (by omega) u]
      unfold ac_rk
      rw [pk_un e, ac_od_snd (by omega)]
  · intro t ht
    by_cases z : ac_hU a b (nI S) = 0
    · rw [hy z]
      by_cases e : t = s
      · rw [e, pk_us, N s hs, nI_1, ac_ct_t (ac_od_t.mpr ⟨pk_us, by rw [pk_us]; exact z⟩), ac_od_snd (Nat.le_refl S)]
      · rw [pk_un e, N t ht, ac_ct_f (ac_od_f.mpr (fun q => e (ac_inj (pk_us.symm.trans q.1) (by omega) (by omega)).symm)), ac_od_snd (Nat.le_refl S)]
    · rw [hn z, N t ht, ac_ct_f (ac_od_f.mpr (fun q => z (pk_us.symm.trans q.2))), ac_od_snd (Nat.le_refl S)]
  · intro j hj
    by_cases e : j = S
    · subst e
      rw [pk_us, pk_us]
      exact ⟨es.symm, rfl⟩
    · rw [pk_un e, pk_un e]
      exact B j (by omega)
theorem ax_msend {post : Int32 → St2 → Prop} (F : ac_F R a b S sr un rk nr (nw, st, sp, sg, pr, sl, ab, lo, av, er, tx, ak, rc, xp, lg, L, du) sn an ao) (h : ∀ r u', ac_Q R a b u' → post r u') : wpX_send post (ky, lf, th, tg, nw, st, sp, sg, (nI pr), (nI S), (nI L), (nI c), du, fo, sl, ab, up, lo, av, er, sn, an, ao, sr, un, rk, tx, rc, ak, nr, xp, lg, xa) (ac_hS a b (nI S)) (ac_hU a b (nI S)) := by
  have hI : ac_Inv S sr un rc xp lg L := F.1.2.2.1.1
  have hS := hI.1
  have vb : vp_nar .boolean (ac_hU a b (nI S)) = ac_hU a b (nI S) := ac_vb ac_hU_01
  obtain ⟨s, hs, es⟩ : ∃ s, s < 8 ∧ ac_hS a b (nI S) = nI s := pk_andE _ (m := 7) 3 (by decide)
  rw [es]
  have hn : ¬ nI s < 0 := nI_pos (by omega)
  have h8 : nI s < 8 := nI_lt (b := 8) hs (by decide)
  have sv : vp_in (nI s) 8 := vp_in_nI hs (by omega)
  by_cases h128 : S < 128
  · have lt : nI S < 128 := ac_lt128 h128
    have Sv : vp_in (nI S) 128 := vp_in_nI h128 (by omega)
    have cS : (nI S).toNatClampNeg = S := nI_clamp (by omega)
    have cs : (nI s).toNatClampNeg = s := nI_clamp (by omega)
    refine br_f hn (br_t h8 (br_t lt (ax_win hS (fun full => br_f (by decide) (h _ _ (ac_mk F))) (fun nf => br_t rfl ?_))))
    rw [cS, cs]
    refine ⟨Sv, nm_e ⟨Sv, nm_r (congrArg (upd un S) vb) (br_c (fun z => ⟨sv, Sv, nm_e ⟨sv, sv, nm_e (nm_r (nI_1 S) ?_)⟩⟩) (fun z => nm_r (nI_1 S) ?_))⟩⟩
    · exact h _ _ (ac_mk (ac_Fs F h128 hs es (fun j hj => pk_un (by omega)) (fun _ => pk_us) (fun _ => rfl) (fun w => absurd z w)))
    · exact h _ _ (ac_mk (ac_Fs F h128 hs es (fun j hj => rfl) (fun w => absurd w z) (fun w => absurd w z) (fun _ => rfl)))
  · have nl : ¬ nI S < 128 := ac_128n h128 hS
    exact br_f hn (br_t h8 (br_f nl (h _ _ (ac_mk F))))
end ASA
end
section
/-! T: the law's check of one state -/
section ATA
variable {ky lf th tg nw st sp sg du fo sl ab : Int32} {pr S L c : Nat} {up lo av er sn an ao sr un rk tx rc ak nr xp lg xa : ac_A} {R : Nat} {a b : Int32}
variable {post : Int32 → Prop}
theorem ax_c0 (h : post nw) : wpX_counter post (ky, lf, th, tg, nw, st, sp, sg, (nI pr), (nI S), (nI L), (nI c), du, fo, sl, ab, up, lo, av, er, sn, an, ao, sr, un, rk, tx, rc, ak, nr, xp, lg, xa) 0 := br_f (by decide) (br_f (by decide) (br_t rfl h))
theorem ax_c1 (h : post (nI S)) : wpX_counter post (ky, lf, th, tg, nw, st, sp, sg, (nI pr), (nI S), (nI L), (nI c), du, fo, sl, ab, up, lo, av, er, sn, an, ao, sr, un, rk, tx, rc, ak, nr, xp, lg, xa) 1 := br_f (by decide) (br_f (by decide) (br_f (by decide) (br_t rfl h)))
theorem ax_c2 (hS : S ≤ 128) (h : post (nI (ac_ct (ac_ua ak) S))) : wpX_counter post (ky, lf, th, tg, nw, st, sp, sg, (nI pr), (nI S), (nI L), (nI c), du, fo, sl, ab, up, lo, av, er, sn, an, ao, sr, un, rk, tx, rc, ak, nr, xp, lg, xa) 2 := br_f (by decide) (br_f (by decide) (br_f (by decide) (br_f (by decide) (br_t rfl (ax_cu hS h)))))
theorem ax_c3 (h : post (nI L)) : wpX_counter post (ky, lf, th, tg, nw, st, sp, sg, (nI pr), (nI S), (nI L), (nI c), du, fo, sl, ab, up, lo, av, er, sn, an, ao, sr, un, rk, tx, rc, ak, nr, xp, lg, xa) 3 := br_f (by decide) (br_f (by decide) (br_f (by decide) (br_f (by decide) (br_f (by decide) (br_t rfl h)))))
theorem ax_c4 (I : ac_Inv S sr un rc xp lg L) (hrk : ac_RK S sr un rk) (h : post (nI (ac_ct (ac_hl sr un rc lg L) S))) : wpX_counter post (ky, lf, th, tg, nw, st, sp, sg, (nI pr), (nI S), (nI L), (nI c), du, fo, sl, ab, up, lo, av, er, sn, an, ao, sr, un, rk, tx, rc, ak, nr, xp, lg, xa) 4 := br_f (by decide) (br_f (by decide) (br_f (by decide) (br_f (by decide) (br_f (by decide) (br_f (by decide) (br_t rfl (ax_chd I hrk h)))))))
theorem ax_del {i : Nat} (hi : i < L) (hL : L ≤ 128) (h : post (lg i)) : wpX_deliveredAt post (ky, lf, th, tg, nw, st, sp, sg, (nI pr), (nI S), (nI L), (nI c), du, fo, sl, ab, up, lo, av, er, sn, an, ao, sr, un, rk, tx, rc, ak, nr, xp, lg, xa) (nI i) := by
  refine br_f (nI_pos (by omega)) (br_f (nI_ge hi (by omega)) ⟨vp_in_nI (by omega) (by omega), ?_⟩)
  rw [nI_clamp (show i < 2 ^ 31 by omega)]
  exact h
theorem ax_txs {j : Nat} (hj : j < S) (hS : S ≤ 128) (h : post (tx j)) : wpX_transmissions post (ky, lf, th, tg, nw, st, sp, sg, (nI pr), (nI S), (nI L), (nI c), du, fo, sl, ab, up, lo, av, er, sn, an, ao, sr, un, rk, tx, rc, ak, nr, xp, lg, xa) (nI j) := by
  unfold wpX_transmissions
  dsimp only
  refine ax_msg hS (fun _ _ _ => br_f (by decide) ⟨vp_in_nI (by omega) (by omega), ?_⟩) (fun z => ?_)
  · rw [nI_clamp (show j < 2 ^ 31 by omega)]
    exact h
  · cases z with
    | inl z => exact absurd z (nI_pos (by omega))
    | inr z => exact absurd z.2 (nI_ge hj (by omega))
theorem ax_isk {j : Nat} (hj : j < S) (hS : S ≤ 128) (h0 : ak j = 0 → post 0) (h1 : ¬ ak j = 0 → post 1) : wpX_isAcked post (ky, lf, th, tg, nw, st, sp, sg, (nI pr), (nI S), (nI L), (nI c), du, fo, sl, ab, up, lo, av, er, sn, an, ao, sr, un, rk, tx, rc, ak, nr, xp, lg, xa) (nI j) := by
  unfold wpX_isAcked
  dsimp only
  refine ax_msg hS (fun _ _ _ => br_f (by decide) ⟨vp_in_nI (by omega) (by omega), ?_⟩) (fun z => ?_)
  · rw [nI_clamp (show j < 2 ^ 31 by omega)]
    exact br_c h0 h1
  · cases z with
    | inl z => exact absurd z (nI_pos (by omega))
    | inr z => exact absurd z.2 (nI_ge hj (by omega))
theorem al_89 {J : Int32 → Prop} {x1 x2 x3 x4 x5 x6 y : Int32} {i : Nat} (hL : L ≤ 128) (hi : i < L) (hd : ∀ k, k < i → ¬ lg k = y) (h : J (nI (i + 1))) : ∀ (n k : Nat), k + n = i → ∀ fu, n < fu → wL_ok_89 post J x1 x2 x3 x4 x5 x6 (nI i) y ky lf th tg nw st sp sg (nI pr) (nI S) (nI L) (nI c) du fo sl ab up lo av er sn an ao sr un rk tx rc ak nr xp lg xa fu (nI k) := by
  intro n
  induction n with
  | zero =>
    intro k hn fu hf
    obtain ⟨f, rfl⟩ : ∃ f, fu = f + 1 := ⟨fu - 1, by omega⟩
    exact br_t (nI_le (by omega) (by omega)) (nm_r (nI_1 i) h)
  | succ n ih =>
    intro k hn fu hf
    obtain ⟨f, rfl⟩ : ∃ f, fu = f + 1 := ⟨fu - 1, by omega⟩
    refine br_f (nI_ge (by omega) (by omega)) (ax_del (show k < L by omega) hL ?_)
    exact br_f (hd k (by omega)) (nm_r (nI_1 k) (ih (k + 1) (by omega) f (by omega)))
theorem al_46 {x6 : Int32} (F : ac_F R a b S sr un rk nr (nw, st, sp, sg, pr, sl, ab, lo, av, er, tx, ak, rc, xp, lg, L, du) sn an ao) (hR : R < 1000) (hH : L + ac_ct (ac_hl sr un rc lg L) S ≤ S) (h : ∃ q, wL_ok_138 post a b (nI S) (nI L) (nI (ac_ct (ac_hl sr un rc lg L) S)) x6 ky lf th tg nw st sp sg (nI pr) (nI S) (nI L) (nI c) du fo sl ab up lo av er sn an ao sr un rk tx rc ak nr xp lg xa q 0 0) : ∀ (n i : Nat), i + n = L → ∀ fu, n < fu → wL_ok_46 post a b (nI S) (nI L) (nI (ac_ct (ac_hl sr un rc lg L) S)) x6 ky lf th tg nw st sp sg (nI pr) (nI S) (nI L) (nI c) du fo sl ab up lo av er sn an ao sr un rk tx rc ak nr xp lg xa fu (nI i) := by
  have I : ac_Inv S sr un rc xp lg L := F.1.2.2.1.1
  have H : ac_H2 R (nw, st, sp, sg, pr, sl, ab, lo, av, er, tx, ak, rc, xp, lg, L, du) := F.2.2.2.2.1
  have hS := I.1
  have hL := ac_Inv_L I
  intro n
  induction n with
  | zero =>
    intro i hn fu hf
    obtain ⟨f, rfl⟩ : ∃ f, fu = f + 1 := ⟨fu - 1, by omega⟩
    refine br_t (nI_le (by omega) (by omega)) (br_t ?_ h)
    rw [nI_add]
    exact nI_le hH (by omega)
  | succ n ih =>
    intro i hn fu hf
    obtain ⟨f, rfl⟩ : ∃ f, fu = f + 1 := ⟨fu - 1, by omega⟩
    obtain ⟨j, hj, ej, dj⟩ := I.2.2.2.1 i (by omega)
    refine br_f (nI_ge (by omega) (by omega)) (ax_del (show i < L by omega) (by omega) ?_)
    rw [ej]
    refine br_f (nI_pos (by omega)) (br_t (nI_lt hj (by omega)) (ax_txs hj hS (br_t ?_ ⟨i + 1, ?_⟩)))
    · obtain ⟨t, t1, t2, t3⟩ := H.2 j
      rw [t2]
      exact nI_le (a := 1) (t3 (I.2.2.2.2.2.2.2.2.1 j hj dj)) (by omega)
    · refine al_89 (by omega) (show i < L by omega) (fun k hk z => ?_) (ih (i + 1) (by omega) f (by omega)) i 0 (by omega) (i + 1) (by omega)
      have := I.2.2.2.2.2.2.2.2.2.2 k i (by omega) (by omega) (z.trans ej.symm)
      omega
theorem al_138 (hS : S ≤ 128) {H : Nat} (hL : L ≤ 128) (hH : H ≤ 128) (hA : ac_ct (ac_fl ak) S ≤ L + H) (h : ∃ q, wL_ok_188 post a b (nI S) (nI L) ky lf th tg nw st sp sg (nI pr) (nI S) (nI L) (nI c) du fo sl ab up lo av er sn an ao sr un rk tx rc ak nr xp lg xa q 0) : ∀ (n id r : Nat), id + n = S → r = ac_ct (ac_fl ak) id → ∀ fu, n < fu → wL_ok_138 post a b (nI S) (nI L) (nI H) (nI (ac_ct (ac_ua ak) S)) ky lf th tg nw st sp sg (nI pr) (nI S) (nI L) (nI c) du fo sl ab up lo av er sn an ao sr un rk tx rc ak nr xp lg xa fu (nI r) (nI id) := by
  have e : ac_ct (ac_fl ak) S + ac_ct (ac_ua ak) S = S := ac_ct_not S (fun j _ => ⟨fun z f => ac_fl_t.mp f (ac_ua_t.mp z), fun z => ac_ua_t.mpr (by
    by_cases q : ak j = 0
    · exact q
    · exact absurd (ac_fl_t.mpr q) z)⟩)
  intro n
  induction n with
  | zero =>
    intro id r hn eq fu hf
    obtain ⟨f, rfl⟩ : ∃ f, fu = f + 1 := ⟨fu - 1, by omega⟩
    obtain rfl : id = S := by omega
    subst eq
    refine br_t (nI_le (by omega) (by omega)) (br_t ?_ (br_t ?_ h))
    · rw [nI_add]
      exact nI_le hA (by omega)
    · rw [pk_sub (by omega)]
      exact congrArg nI (by omega)
  | succ n ih =>
    intro id r hn eq fu hf
    obtain ⟨f, rfl⟩ : ∃ f, fu = f + 1 := ⟨fu - 1, by omega⟩
    refine br_f (nI_ge (by omega) (by omega)) (ax_isk (show id < S by omega) hS (fun z => br_t rfl (nm_r (nI_1 id) (ih (id + 1) r (by omega) ?_ f (by omega)))) (fun z => br_f (by decide) (nm_r (nI_1 r) (nm_r (nI_1 id) (ih (id + 1) (r + 1) (by omega) ?_ f (by omega))))))
    · rw [ac_ct_f (ac_fl_z z), eq]
    · rw [ac_ct_t (ac_fl_t.mpr z), eq]
theorem al_244 {J : Int32 → Prop} {K : Int32 → Int32 → Prop} {x4 : Int32} {i j s : Nat} (hS : S ≤ 128) (B : ∀ j, j < S → sr j = ac_hS a b (nI j) ∧ un j = ac_hU a b (nI j)) (hj : j < S) (sj : sr j = nI s) (uj : un j = 0) (h : K (nI j) (nI (i + 1))) : ∀ (n q : Nat), q + n = j → ac_ct (ac_od sr un (nI s)) q = ac_ct (ac_od sr un (nI s)) j → ∀ fu, n < fu → wL_ok_244 post J K a b (nI S) x4 (nI s) (nI i) (nI j) ky lf th tg nw st sp sg (nI pr) (nI S) (nI L) (nI c) du fo sl ab up lo av er sn an ao sr un rk tx rc ak nr xp lg xa fu (nI q) := by
  intro n
  induction n with
  | zero =>
    intro q hn eq fu hf
    obtain ⟨f, rfl⟩ : ∃ f, fu = f + 1 := ⟨fu - 1, by omega⟩
    obtain rfl : q = j := by omega
    refine br_f (nI_ge hj (by omega)) (al_un (br_t ((B q hj).2.symm.trans uj) (al_st (br_t ((B q hj).1.symm.trans sj) (br_t rfl (nm_r (nI_1 i) h))))))
  | succ n ih =>
    intro q hn eq fu hf
    obtain ⟨f, rfl⟩ : ∃ f, fu = f + 1 := ⟨fu - 1, by omega⟩
    have hq : q < S := by omega
    have no : ac_od sr un (nI s) q = false := by
      apply ac_bf
      intro z
      have := ac_ct_lt (ac_od sr un (nI s)) (show q < j by omega) z
      omega
    have nx := ih (q + 1) (by omega) (by rw [ac_ct_f no]; exact eq) f (by omega)
    refine br_f (nI_ge hq (by omega)) (al_un (br_c (fun z => al_st (br_c (fun w => ?_) (fun w => nm_r (nI_1 q) nx))) (fun z => nm_r (nI_1 q) nx)))
    exfalso
    rw [ac_od_t.mpr ⟨(B q hq).1.trans w, (B q hq).2.trans z⟩] at no
    exact Bool.noConfusion no
theorem al_201 {J : Int32 → Prop} {s : Nat} (F : ac_F R a b S sr un rk nr (nw, st, sp, sg, pr, sl, ab, lo, av, er, tx, ak, rc, xp, lg, L, du) sn an ao) (h : J (nI (s + 1))) : ∀ (n i q : Nat) (x9 : Int32), i + n = L → x9 + 1 = nI q → ac_ct (ac_od sr un (nI s)) q = ac_lc sr un lg (nI s) i → ∀ fu, n < fu → wL_ok_201 post J a b (nI S) (nI L) (nI s) ky lf th tg nw st sp sg (nI pr) (nI S) (nI L) (nI c) du fo sl ab up lo av er sn an ao sr un rk tx rc ak nr xp lg xa fu x9 (nI i) := by
  have I : ac_Inv S sr un rc xp lg L := F.1.2.2.1.1
  have B : ∀ j, j < S → sr j = ac_hS a b (nI j) ∧ un j = ac_hU a b (nI j) := F.2.2.2.2.2
  have hS := I.1
  have hL := ac_Inv_L I
  intro n
  induction n with
  | zero =>
    intro i q x9 hn e9 eq fu hf
    obtain ⟨f, rfl⟩ : ∃ f, fu = f + 1 := ⟨fu - 1, by omega⟩
    exact br_t (nI_le (by omega) (by omega)) (nm_r (nI_1 s) h)
  | succ n ih =>
    intro i q x9 hn e9 eq fu hf
    obtain ⟨f, rfl⟩ : ∃ f, fu = f + 1 := ⟨fu - 1, by omega⟩
    obtain ⟨j, hj, ej, dj⟩ := I.2.2.2.1 i (by omega)
    have ec : (lg i).toNatClampNeg = j := by rw [ej]; exact nI_clamp (by omega)
    have skip : ¬ (sr j = nI s ∧ un j = 0) → wL_ok_201 post J a b (nI S) (nI L) (nI s) ky lf th tg nw st sp sg (nI pr) (nI S) (nI L) (nI c) du fo sl ab up lo av er sn an ao sr un rk tx rc ak nr xp lg xa f x9 (nI (i + 1)) := by
      intro z
      refine ih (i + 1) q x9 (by omega) e9 ?_ f (by omega)
      rw [eq]
      unfold ac_lc
      rw [ac_ct_f (by rw [ec]; exact ac_od_f.mpr z)]
    refine br_f (nI_ge (by omega) (by omega)) (ax_del (show i < L by omega) (by omega) ?_)
    rw [ej]
    refine al_un (br_c (fun z => al_st (br_c (fun w => ?_) (fun w => nm_r (nI_1 i) (skip (fun y => w ((B j hj).1.symm.trans y.1)))))) (fun z => nm_r (nI_1 i) (skip (fun y => z ((B j hj).2.symm.trans y.2)))))
    have sj : sr j = nI s := (B j hj).1.trans w
    have uj : un j = 0 := (B j hj).2.trans z
    have oj := ac_od_t.mpr ⟨sj, uj⟩
    have rj := I.2.2.2.2.2.2.2.2.2.1 i j (by omega) ej hj uj
    unfold ac_rk at rj
    rw [sj] at rj
    have qj : q ≤ j := by
      by_cases z2 : j < q
      · have := ac_ct_lt (ac_od sr un (nI s)) z2 oj
        omega
      · omega
    refine nm_r e9 ⟨j - q + 1, al_244 hS B hj sj uj ?_ (j - q) q (by omega) (by rw [eq, rj]) (j - q + 1) (by omega)⟩
    refine ih (i + 1) (j + 1) (nI j) (by omega) (nI_1 j) ?_ f (by omega)
    rw [ac_ct_t oj, rj]
    unfold ac_lc
    rw [ac_ct_t (by rw [ec]; exact oj)]
theorem al_188 (F : ac_F R a b S sr un rk nr (nw, st, sp, sg, pr, sl, ab, lo, av, er, tx, ak, rc, xp, lg, L, du) sn an ao) (h : post 1) : ∀ (n s : Nat), s + n = 8 → ∀ fu, n < fu → wL_ok_188 post a b (nI S) (nI L) ky lf th tg nw st sp sg (nI pr) (nI S) (nI L) (nI c) du fo sl ab up lo av er sn an ao sr un rk tx rc ak nr xp lg xa fu (nI s) := by
  intro n
  induction n with
  | zero =>
    intro s hn fu hf
    obtain ⟨f, rfl⟩ : ∃ f, fu = f + 1 := ⟨fu - 1, by omega⟩
    exact br_t (nI_le (a := 8) (by omega) (by omega)) h
  | succ n ih =>
    intro s hn fu hf
    obtain ⟨f, rfl⟩ : ∃ f, fu = f + 1 := ⟨fu - 1, by omega⟩
    exact br_f (nI_ge (b := 8) (by omega) (by omega)) ⟨L + 1, al_201 F (ih (s + 1) (by omega) f (by omega)) L 0 0 (-1) (by omega) (by decide) rfl (L + 1) (by omega)⟩
theorem al_ok (F : ac_F R a b S sr un rk nr (nw, st, sp, sg, pr, sl, ab, lo, av, er, tx, ak, rc, xp, lg, L, du) sn an ao) (hR : R < 1000) (h : post 1) : wpL_ok post (ky, lf, th, tg, nw, st, sp, sg, (nI pr), (nI S), (nI L), (nI c), du, fo, sl, ab, up, lo, av, er, sn, an, ao, sr, un, rk, tx, rc, ak, nr, xp, lg, xa) a b := by
  have I : ac_Inv S sr un rc xp lg L := F.1.2.2.1.1
  have H : ac_H2 R (nw, st, sp, sg, pr, sl, ab, lo, av, er, tx, ak, rc, xp, lg, L, du) := F.2.2.2.2.1
  have hS := I.1
  have hL := ac_Inv_L I
  have hd : ac_ct (ac_dl sr un rc lg L) S + ac_ct (ac_hl sr un rc lg L) S ≤ S := ac_ct_dis S (fun j _ d q => by
    rw [(ac_hl_t.mp q).2] at d
    exact Bool.noConfusion d)
  have ha : ac_ct (ac_fl ak) S ≤ ac_ct (ac_dl sr un rc lg L) S + ac_ct (ac_hl sr un rc lg L) S := ac_ct_or S (fun j _ z => by
    have r := H.1 j (ac_fl_t.mp z)
    by_cases d : ac_dl sr un rc lg L j = true
    · exact Or.inl d
    · by_cases u : un j = 0
      · exact Or.inr (ac_hl_t.mpr ⟨⟨r, u⟩, ac_bf d⟩)
      · exact absurd ((ac_dl_u u).mpr r) d)
  rw [← I.2.2.2.2.2.1] at hd ha
  unfold wpL_ok
  dsimp only
  refine ax_c1 ?_
  refine ax_c3 ?_
  refine ax_c4 I F.2.1 ?_
  refine ax_c2 hS ?_
  refine br_f (nI_pos (by omega)) (br_f (nI_pos (by omega)) (br_t (nI_pos' (by omega)) ⟨L + 1, al_46 F hR hd ⟨S + 1, al_138 hS (by omega) (by omega) ha ⟨9, al_188 F h 8 0 (by omega) 9 (by omega)⟩ S 0 0 (by omega) rfl (S + 1) (by omega)⟩ L 0 (by omega) (L + 1) (by omega)⟩))
end ATA
end
section
/-! U: the law -/
section AUA
variable {ky lf th tg nw st sp sg du fo sl ab : Int32} {pr S L c : Nat} {up lo av er sn an ao sr un rk tx rc ak nr xp lg xa : ac_A} {R N k kc ks : Nat} {a b x3 x6 : Int32} {xs : Nat → Int32} {post : Int32 → Prop}
variable {J : Int32 → Int32 → Int32 → Int32 → Int32 → Int32 → Int32 → Int32 → Int32 → Int32 → Int32 → Int32 → Int32 → Int32 → Int32 → Int32 → Int32 → ac_A → ac_A → ac_A → ac_A → ac_A → ac_A → ac_A → ac_A → ac_A → ac_A → ac_A → ac_A → ac_A → ac_A → ac_A → ac_A → ac_A → Prop}
/-- from every state that keeps the facts, what comes next at x -/
def ac_NX (J : Int32 → Int32 → Int32 → Int32 → Int32 → Int32 → Int32 → Int32 → Int32 → Int32 → Int32 → Int32 → Int32 → Int32 → Int32 → Int32 → Int32 → ac_A → ac_A → ac_A → ac_A → ac_A → ac_A → ac_A → ac_A → ac_A → ac_A → ac_A → ac_A → ac_A → ac_A → ac_A → ac_A → ac_A → Prop) (R : Nat) (a b x : Int32) : Prop := ∀ (ky lf th tg fo : Int32) (S : Nat) (up sr un rk nr : ac_A) (g : ac_G) (sn an ao xa : ac_A) (c : Nat), ac_F R a b S sr un rk nr g sn an ao → J x ky lf th tg g.1 g.2.1 g.2.2.1 g.2.2.2.1 (nI g.2.2.2.2.1) (nI S) (nI g.2.2.2.2.2.2.2.2.2.2.2.2.2.2.2.1) (nI c) g.2.2.2.2.2.2.2.2.2.2.2.2.2.2.2.2 fo g.2.2.2.2.2.1 g.2.2.2.2.2.2.1 up g.2.2.2.2.2.2.2.1 g.2.2.2.2.2.2.2.2.1 g.2.2.2.2.2.2.2.2.2.1 sn an ao sr un rk g.2.2.2.2.2.2.2.2.2.2.1 g.2.2.2.2.2.2.2.2.2.2.2.2.1 g.2.2.2.2.2.2.2.2.2.2.2.1 nr g.2.2.2.2.2.2.2.2.2.2.2.2.2.1 g.2.2.2.2.2.2.2.2.2.2.2.2.2.2.1 xa
theorem al_cell {post : Int32 → Prop} {p : Int32} {q : Nat} (e : p = nI q) (hN : N < 1000) (hq : q < 1000) (h : ∀ x, post x) : wpL_cell post N xs () p := by
  rw [e]
  refine br_c (fun _ => h 0) (fun z => ⟨?_, h _⟩)
  refine vp_in_nI ?_ (by omega)
  by_cases w : q < N
  · exact w
  · exact absurd (nI_le (show N ≤ q by omega) (by omega)) z
theorem al_412 (F : ac_F R a b S sr un rk nr (nw, st, sp, sg, pr, sl, ab, lo, av, er, tx, ak, rc, xp, lg, L, du) sn an ao) (hR : R < 1000) (h : J (nI (k + 3)) ky lf th tg nw st sp sg (nI pr) (nI S) (nI L) (nI c) du fo sl ab up lo av er sn an ao sr un rk tx rc ak nr xp lg xa) : wL_law_412 post N xs J a b x3 x6 (nI k) kc ks ky lf th tg nw st sp sg (nI pr) (nI S) (nI L) (nI c) du fo sl ab up lo av er sn an ao sr un rk tx rc ak nr xp lg xa := by
  unfold wL_law_412
  exact al_ok F hR (br_f (by decide) (nm_r (nI_add k 3) h))
theorem al_221 {z : Int32} (hz : z < 0 ∨ (¬ z < 0 ∧ ¬ z < 8)) (F : ac_F R a b S sr un rk nr (nw, st, sp, sg, pr, sl, ab, lo, av, er, tx, ak, rc, xp, lg, L, du) sn an ao) (hR : R < 1000) (hJ : ac_NX J R a b (nI (k + 3))) : wL_law_221 post N xs J a b x3 x6 (nI k) z kc ks ky lf th tg nw st sp sg (nI pr) (nI S) (nI L) (nI c) du fo sl ab up lo av er sn an ao sr un rk tx rc ak nr xp lg xa := by
  unfold wL_law_221
  refine ax_mbad hz (ac_mk F) (fun r u' Q' => ?_)
  obtain ⟨ky, lf, th, tg, fo, S, up, sr, un, rk, nr, ⟨nw, st, sp, sg, pr, sl, ab, lo, av, er, tx, ak, rc, xp, lg, L, du⟩, sn, an, ao, xa, c, rfl, F'⟩ := Q'
  unfold ac_XS
  dsimp only
  exact al_412 F' hR (hJ _ _ _ _ _ _ _ _ _ _ _ _ _ _ _ _ _ F')
theorem al_288 {z w : Int32} (F : ac_F R a b S sr un rk nr (nw, st, sp, sg, pr, sl, ab, lo, av, er, tx, ak, rc, xp, lg, L, du) sn an ao) (hR : R < 1000) (hJ : ac_NX J R a b (nI (k + 3))) : wL_law_288 post N xs J a b x3 x6 (nI k) z w kc ks ky lf th tg nw st sp sg (nI pr) (nI S) (nI L) (nI c) du fo sl ab up lo av er sn an ao sr un rk tx rc ak nr xp lg xa := by
  unfold wL_law_288
  refine ax_mpath (ac_mk F) (fun r u' Q' => ?_)
  obtain ⟨ky, lf, th, tg, fo, S, up, sr, un, rk, nr, ⟨nw, st, sp, sg, pr, sl, ab, lo, av, er, tx, ak, rc, xp, lg, L, du⟩, sn, an, ao, xa, c, rfl, F'⟩ := Q'
  unfold ac_XS
  dsimp only
  exact al_412 F' hR (hJ _ _ _ _ _ _ _ _ _ _ _ _ _ _ _ _ _ F')
theorem al_391 {x y z : Int32} (F : ac_F R a b S sr un rk nr (nw, st, sp, sg, pr, sl, ab, lo, av, er, tx, ak, rc, xp, lg, L, du) sn an ao) (hR : R < 1000) (hJ : ac_NX J R a b (nI (k + 3))) : wL_law_391 post N xs J a b x3 x6 (nI k) x y z kc ks ky lf th tg nw st sp sg (nI pr) (nI S) (nI L) (nI c) du fo sl ab up lo av er sn an ao sr un rk tx rc ak nr xp lg xa := by
  unfold wL_law_391
  refine ax_mecho (ac_mk F) (fun r u' Q' => ?_)
  obtain ⟨ky, lf, th, tg, fo, S, up, sr, un, rk, nr, ⟨nw, st, sp, sg, pr, sl, ab, lo, av, er, tx, ak, rc, xp, lg, L, du⟩, sn, an, ao, xa, c, rfl, F'⟩ := Q'
  unfold ac_XS
  dsimp only
  exact al_412 F' hR (hJ _ _ _ _ _ _ _ _ _ _ _ _ _ _ _ _ _ F')
theorem al_348 {y z : Int32} (F : ac_F R a b S sr un rk nr (nw, st, sp, sg, pr, sl, ab, lo, av, er, tx, ak, rc, xp, lg, L, du) sn an ao) (hR : R < 1000) (hJ : ac_NX J R a b (nI (k + 3))) : wL_law_348 post N xs J a b x3 x6 (nI k) y z kc ks ky lf th tg nw st sp sg (nI pr) (nI S) (nI L) (nI c) du fo sl ab up lo av er sn an ao sr un rk tx rc ak nr xp lg xa := by
  unfold wL_law_348
  refine ax_c0 (nm_e ?_)
  refine nm_e (nm_e ?_)
  exact br_c (fun _ => al_391 F hR hJ) (fun _ => nm_e (al_391 F hR hJ))
theorem ac_n4 (x : Int32) : ∃ M, M ≤ 4 ∧ ac_cl ((x &&& 3) + 1) 1 16 = nI M := by
  obtain ⟨j, hj, e⟩ : ∃ j, j < 4 ∧ x &&& 3 = nI j := pk_andE x (m := 3) 2 (by decide)
  refine ⟨j + 1, by omega, ?_⟩
  rw [e, nI_1]
  unfold ac_cl
  have h1 : (1 : Int32) ≤ nI (j + 1) := nI_le (a := 1) (by omega) (by omega)
  have h2 : nI (j + 1) ≤ (16 : Int32) := nI_le (b := 16) (by omega) (by omega)
  rw [if_pos h1, if_pos h2]
theorem ac_bad1 (x : Int32) : (8 + (x &&& 7)) < 0 ∨ (¬ (8 + (x &&& 7)) < 0 ∧ ¬ (8 + (x &&& 7)) < 8) := by
  obtain ⟨j, hj, e⟩ : ∃ j, j < 8 ∧ x &&& 7 = nI j := pk_andE x (m := 7) 3 (by decide)
  rw [e, show (8 : Int32) + nI j = nI (8 + j) from nI_add 8 j]
  exact Or.inr ⟨nI_pos (by omega), nI_nlt (b := 8) (by omega) (by omega)⟩
theorem ac_bad2 (x : Int32) : ((-1) - (x &&& 7)) < 0 ∨ (¬ ((-1) - (x &&& 7)) < 0 ∧ ¬ ((-1) - (x &&& 7)) < 8) := by
  obtain ⟨j, hj, e⟩ : ∃ j, j < 8 ∧ x &&& 7 = nI j := pk_andE x (m := 7) 3 (by decide)
  rw [e]
  left
  have e8 : j = 0 ∨ j = 1 ∨ j = 2 ∨ j = 3 ∨ j = 4 ∨ j = 5 ∨ j = 6 ∨ j = 7 := by omega
  rcases e8 with q | q | q | q | q | q | q | q <;> (rw [q]; decide)
theorem al_243 {x y : Int32} (F : ac_F R a b S sr un rk nr (nw, st, sp, sg, pr, sl, ab, lo, av, er, tx, ak, rc, xp, lg, L, du) sn an ao) (hR : R + 4 < 1000) (hJ : ac_NX J (R + 4) a b (nI (k + 3))) : wL_law_243 post N xs J a b x3 x6 (nI k) x y kc ks ky lf th tg nw st sp sg (nI pr) (nI S) (nI L) (nI c) du fo sl ab up lo av er sn an ao sr un rk tx rc ak nr xp lg xa := by
  unfold wL_law_243
  obtain ⟨M, hM, eM⟩ := ac_n4 x
  refine ax_mrun hM eM (ac_mk F) (fun r u' Q' => ?_)
  obtain ⟨ky, lf, th, tg, fo, S, up, sr, un, rk, nr, ⟨nw, st, sp, sg, pr, sl, ab, lo, av, er, tx, ak, rc, xp, lg, L, du⟩, sn, an, ao, xa, c, rfl, F'⟩ := Q'
  unfold ac_XS
  dsimp only
  exact al_412 F' hR (hJ _ _ _ _ _ _ _ _ _ _ _ _ _ _ _ _ _ F')
theorem ac_Fup {R' : Nat} {g : ac_G} (hR : R ≤ R') (F : ac_F R a b S sr un rk nr g sn an ao) : ac_F R' a b S sr un rk nr g sn an ao := ⟨F.1, F.2.1, F.2.2.1, F.2.2.2.1, ac_H2_up hR F.2.2.2.2.1, F.2.2.2.2.2⟩
end AUA
section AUB
variable {R N kc ks : Nat} {a b x3 x6 : Int32} {xs : Nat → Int32}
theorem al_113 (hN : N ≤ 260) : ∀ (n k : Nat), N ≤ k + n → k ≤ 262 → ∀ fu, n < fu → ac_NX (wL_law_113 (fun r => r = 1) N xs a b x3 x6 kc ks fu) (2 * k) a b (nI k) := by
  intro n
  induction n with
  | zero =>
    intro k hn hk fu hf ky lf th tg fo S up sr un rk nr g sn an ao xa c F
    obtain ⟨f, rfl⟩ : ∃ f, fu = f + 1 := ⟨fu - 1, by omega⟩
    exact br_t (nI_le (by omega) (by omega)) rfl
  | succ n ih =>
    intro k hn hk fu hf ky lf th tg fo S up sr un rk nr g sn an ao xa c F
    obtain ⟨f, rfl⟩ : ∃ f, fu = f + 1 := ⟨fu - 1, by omega⟩
    by_cases hNk : N ≤ k
    · exact br_t (nI_le hNk (by omega)) rfl
    · obtain ⟨nw, st, sp, sg, pr, sl, ab, lo, av, er, tx, ak, rc, xp, lg, L, du⟩ := g
      have F4 := ac_Fup (show 2 * k ≤ 2 * k + 4 by omega) F
      have hR : 2 * k + 4 < 1000 := by omega
      have hJ : ac_NX (wL_law_113 (fun r => r = 1) N xs a b x3 x6 kc ks f) (2 * k + 4) a b (nI (k + 3)) := by
        intro ky lf th tg fo S up sr un rk nr g sn an ao xa c F'
        exact ih (k + 3) (by omega) (by omega) f (by omega) ky lf th tg fo S up sr un rk nr g sn an ao xa c (ac_Fup (by omega) F')
      refine br_f (nI_ge (by omega) (by omega)) (al_cell (q := k) rfl (by omega) (by omega) (fun r1 => nm_e (al_cell (q := k + 1) (nI_1 k) (by omega) (by omega) (fun r2 => al_cell (q := k + 2) (nI_add k 2) (by omega) (by omega) (fun r3 => ?_)))))
      refine br_c (fun _ => br_c (fun _ => br_c (fun _ => al_221 (ac_bad1 r3) F4 hR hJ) (fun _ => al_221 (ac_bad2 r3) F4 hR hJ)) (fun _ => br_c (fun _ => al_243 F hR hJ) (fun _ => br_c (fun _ => br_c (fun _ => br_c (fun _ => al_288 F4 hR hJ) (fun _ => al_288 F4 hR hJ)) (fun _ => br_c (fun _ => ?_) (fun _ => br_c (fun _ => br_c (fun _ => al_348 F4 hR hJ) (fun _ => al_348 F4 hR hJ)) (fun _ => ?_)))) (fun _ => al_243 F hR hJ)))) (fun _ => ?_)
      · refine ax_mlose (ac_mk F4) (fun r u' Q' => ?_)
        obtain ⟨ky, lf, th, tg, fo, S, up, sr, un, rk, nr, ⟨nw, st, sp, sg, pr, sl, ab, lo, av, er, tx, ak, rc, xp, lg, L, du⟩, sn, an, ao, xa, c, rfl, F'⟩ := Q'
        unfold ac_XS
        dsimp only
        exact al_412 F' hR (hJ _ _ _ _ _ _ _ _ _ _ _ _ _ _ _ _ _ F')
      · refine ax_mconn (ac_mk F4) (fun r u' Q' => ?_)
        obtain ⟨ky, lf, th, tg, fo, S, up, sr, un, rk, nr, ⟨nw, st, sp, sg, pr, sl, ab, lo, av, er, tx, ak, rc, xp, lg, L, du⟩, sn, an, ao, xa, c, rfl, F'⟩ := Q'
        unfold ac_XS
        dsimp only
        exact al_412 F' hR (hJ _ _ _ _ _ _ _ _ _ _ _ _ _ _ _ _ _ F')
      · refine ax_c1 ?_
        refine al_st ?_
        refine al_un ?_
        refine ax_msend F4 (fun r u' Q' => ?_)
        obtain ⟨ky, lf, th, tg, fo, S, up, sr, un, rk, nr, ⟨nw, st, sp, sg, pr, sl, ab, lo, av, er, tx, ak, rc, xp, lg, L, du⟩, sn, an, ao, xa, c, rfl, F'⟩ := Q'
        unfold ac_XS
        dsimp only
        exact al_412 F' hR (hJ _ _ _ _ _ _ _ _ _ _ _ _ _ _ _ _ _ F')
theorem al_27 (hN : N ≤ 260) : wL_law_27 (fun r => r = 1) N xs a b x3 0 0 := by
  unfold wL_law_27
  refine al_cell (q := 3) rfl (by omega) (by omega) (fun r1 => nm_e (al_cell (q := 4) rfl (by omega) (by omega) (fun r2 => nm_e (al_cell (q := 5) rfl (by omega) (by omega) (fun r3 => nm_e ⟨by omega, by omega, 17, 1054, by omega, by omega, ?_⟩)))))
  refine ax_new (by omega) (by omega) ?_
  dsimp only
  refine al_ok (ac_F0 (a := a) (b := b)) (by omega) (br_f (by decide) ?_)
  refine ax_mconn (ac_mk (ac_F0 (a := a) (b := b))) (fun r u' Q' => ?_)
  obtain ⟨ky, lf, th, tg, fo, S, up, sr, un, rk, nr, ⟨nw, st, sp, sg, pr, sl, ab, lo, av, er, tx, ak, rc, xp, lg, L, du⟩, sn, an, ao, xa, c, rfl, F'⟩ := Q'
  unfold ac_XS
  dsimp only
  exact al_ok F' (by omega) (br_f (by decide) ⟨N + 1, al_113 hN N 6 (by omega) (by omega) (N + 1) (by omega) _ _ _ _ _ _ _ _ _ _ _ _ _ _ _ _ _ (ac_Fup (show 0 ≤ 2 * 6 by omega) F')⟩)
end AUB
end
section
theorem i_vc (xs : Nat → Int32) (L : Nat) (hL : L ≤ 260) : wpL_law (fun r => r = 1) L xs := by
  unfold wpL_law
  exact al_cell (q := 0) rfl (by omega) (by omega) (fun r1 => al_cell (q := 1) rfl (by omega) (by omega) (fun r2 => al_cell (q := 2) rfl (by omega) (by omega) (fun r3 => nm_e (br_c (fun _ => al_27 hL) (fun _ => al_27 hL)))))
end
