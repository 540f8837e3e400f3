/-! J2: what more the property wants of a round -/
theorem ac_ct_dis {p q : Nat → Bool} : ∀ n, (∀ j, j < n → p j = true → q j = true → False) → ac_ct p n + ac_ct q n ≤ n := by
  intro n
  induction n with
  | zero => intro _; exact Nat.le_refl 0
  | succ n ih =>
    intro h
    have i := ih (fun j hj => h j (by omega))
    cases hp : p n with
    | true =>
      cases hq : q n with
      | true => exact (h n (by omega) hp hq).elim
      | false => rw [ac_ct_t hp, ac_ct_f hq]; omega
    | false =>
      cases hq : q n with
      | true => rw [ac_ct_f hp, ac_ct_t hq]; omega
      | false => rw [ac_ct_f hp, ac_ct_f hq]; omega
theorem ac_ct_or {p q r : Nat → Bool} : ∀ n, (∀ j, j < n → p j = true → q j = true ∨ r j = true) → ac_ct p n ≤ ac_ct q n + ac_ct r n := by
  intro n
  induction n with
  | zero => intro _; exact Nat.le_refl 0
  | succ n ih =>
    intro h
    have i := ih (fun j hj => h j (by omega))
    have mq := ac_ct_mono q (show n ≤ n + 1 by omega)
    have mr := ac_ct_mono r (show n ≤ n + 1 by omega)
    cases hp : p n with
    | true =>
      rw [ac_ct_t hp]
      cases h n (by omega) hp with
      | inl z => rw [ac_ct_t z]; omega
      | inr z => rw [ac_ct_t z]; omega
    | false => rw [ac_ct_f hp]; omega
theorem ac_ct_not {p q : Nat → Bool} : ∀ n, (∀ j, j < n → (q j = true ↔ ¬ p j = true)) → ac_ct p n + ac_ct q n = n := by
  intro n
  induction n with
  | zero => intro _; rfl
  | succ n ih =>
    intro h
    have i := ih (fun j hj => h j (by omega))
    cases hp : p n with
    | true => rw [ac_ct_t hp, ac_ct_f (ac_bf (fun z => (h n (by omega)).mp z hp))]; omega
    | false => rw [ac_ct_f hp, ac_ct_t ((h n (by omega)).mpr (by rw [hp]; decide))]; omega
theorem ac_t1_fa {up : ac_A} {p id j : Nat} {q : ac_TS} (h : j ≠ id) : (ac_t1 up p id q).2.2.2.2 j = q.2.2.2.2 j := by
  unfold ac_t1
  split
  · rfl
  · split
    · exact pk_un h
    · rfl
theorem ac_tm_lo {ak up : ac_A} {p r : Nat} : ∀ (n id : Nat) (q : ac_TS) (j : Nat), j < id → (ac_tm ak up p r n id q).1 j = q.1 j ∧ (ac_tm ak up p r n id q).2.2.2.2 j = q.2.2.2.2 j := by
  intro n
  induction n with
  | zero => intro id q j _; exact ⟨rfl, rfl⟩
  | succ n ih =>
    intro id q j hj
    by_cases a : ak id = 0
    · rw [ac_tm_y a]
      have w := ih (id + 1) (ac_t1 up (ac_tp p r (q.1 id)) id q) j (by omega)
      rw [w.1, w.2, ac_t1_tx, pk_un (by omega), ac_t1_fa (by omega)]
      exact ⟨rfl, rfl⟩
    · rw [ac_tm_n a]
      exact ih (id + 1) q j (by omega)
/-- a message is sent once more, or neither sent nor arrived -/
theorem ac_tm_hi {ak up : ac_A} {p r : Nat} : ∀ (n id : Nat) (q : ac_TS) (j : Nat), id ≤ j → ((ac_tm ak up p r n id q).1 j = q.1 j ∧ (ac_tm ak up p r n id q).2.2.2.2 j = q.2.2.2.2 j) ∨ (ac_tm ak up p r n id q).1 j = q.1 j + 1 := by
  intro n
  induction n with
  | zero => intro id q j _; exact Or.inl ⟨rfl, rfl⟩
  | succ n ih =>
    intro id q j hj
    by_cases a : ak id = 0
    · rw [ac_tm_y a]
      by_cases e : j = id
      · right
        rw [e, (ac_tm_lo n (id + 1) _ id (by omega)).1, ac_t1_tx, pk_us]
      · have w := ih (id + 1) (ac_t1 up (ac_tp p r (q.1 id)) id q) j (by omega)
        rw [ac_t1_tx, pk_un e, ac_t1_fa e] at w
        exact w
    · rw [ac_tm_n a]
      by_cases e : j = id
      · left
        rw [e]
        exact ac_tm_lo n (id + 1) q id (by omega)
      · exact ih (id + 1) q j (by omega)
theorem ac_pc_rc {S : Nat} {str uno : ac_A} {m : Nat} {q : ac_PS} : (ac_pc S str uno m q).1 = q.1 ∨ (ac_pc S str uno m q).1 = upd q.1 m 1 := by
  unfold ac_pc
  split
  · split
    · split
      · exact Or.inr rfl
      · exact Or.inr rfl
    · exact Or.inr rfl
  · exact Or.inl rfl
theorem ac_pc_up {S : Nat} {str uno : ac_A} {m j : Nat} {q : ac_PS} (h : ¬ q.1 j = 0) : ¬ (ac_pc S str uno m q).1 j = 0 := by
  cases ac_pc_rc (S := S) (str := str) (uno := uno) (m := m) (q := q) with
  | inl e => rw [e]; exact h
  | inr e =>
    rw [e]
    by_cases z : j = m
    · rw [z, pk_us]; decide
    · rw [pk_un z]; exact h
theorem ac_pc_dn {S : Nat} {str uno : ac_A} {m j : Nat} {q : ac_PS} (h : ¬ (ac_pc S str uno m q).1 j = 0) : ¬ q.1 j = 0 ∨ j = m := by
  cases ac_pc_rc (S := S) (str := str) (uno := uno) (m := m) (q := q) with
  | inl e => rw [e] at h; exact Or.inl h
  | inr e =>
    rw [e] at h
    by_cases z : j = m
    · exact Or.inr z
    · rw [pk_un z] at h; exact Or.inl h
theorem ac_p2_up {S : Nat} {str uno : ac_A} {dup : Int32} {m j : Nat} {q : ac_PS} (h : ¬ q.1 j = 0) : ¬ (ac_p2 S str uno dup m q).1 j = 0 := by
  unfold ac_p2
  split
  · exact ac_pc_up h
  · exact ac_pc_up (ac_pc_up h)
theorem ac_p2_dn {S : Nat} {str uno : ac_A} {dup : Int32} {m j : Nat} {q : ac_PS} (h : ¬ (ac_p2 S str uno dup m q).1 j = 0) : ¬ q.1 j = 0 ∨ j = m := by
  unfold ac_p2 at h
  split at h
  · exact ac_pc_dn h
  · cases ac_pc_dn h with
    | inl z => exact ac_pc_dn z
    | inr z => exact Or.inr z
theorem ac_pp_up {S : Nat} {str uno fa : ac_A} {rev dup : Int32} {j : Nat} : ∀ (n t : Nat) (q : ac_PS), ¬ q.1 j = 0 → ¬ (ac_pp S str uno fa rev dup n t q).1 j = 0 := by
  intro n
  induction n with
  | zero => intro t q h; exact h
  | succ n ih =>
    intro t q h
    rw [ac_pp_s]
    refine ih (t + 1) _ ?_
    by_cases z : fa (ac_ix S rev t) = 0
    · rw [if_pos z]; exact h
    · rw [if_neg z]; exact ac_p2_up h
theorem ac_pp_dn {S : Nat} {str uno fa : ac_A} {rev dup : Int32} {j : Nat} : ∀ (n t : Nat) (q : ac_PS), ¬ (ac_pp S str uno fa rev dup n t q).1 j = 0 → ¬ q.1 j = 0 ∨ ¬ fa j = 0 := by
  intro n
  induction n with
  | zero => intro t q h; exact Or.inl h
  | succ n ih =>
    intro t q h
    rw [ac_pp_s] at h
    cases ih (t + 1) _ h with
    | inr w => exact Or.inr w
    | inl w =>
      by_cases z : fa (ac_ix S rev t) = 0
      · rw [if_pos z] at w; exact Or.inl w
      · rw [if_neg z] at w
        cases ac_p2_dn w with
        | inl y => exact Or.inl y
        | inr y => right; rw [y]; exact z
theorem ac_ack_dn {rc : ac_A} {j : Nat} : ∀ (n id : Nat) (a : ac_A), ¬ ac_ack rc n id a j = 0 → ¬ a j = 0 ∨ ¬ rc j = 0 := by
  intro n
  induction n with
  | zero => intro id a h; exact Or.inl h
  | succ n ih =>
    intro id a h
    rw [ac_ack_s] at h
    cases ih (id + 1) _ h with
    | inr w => exact Or.inr w
    | inl w =>
      by_cases z : rc id = 0
      · rw [if_pos z] at w; exact Or.inl w
      · rw [if_neg z] at w
        by_cases e : j = id
        · right; rw [e]; exact z
        · rw [pk_un e] at w; exact Or.inl w
/-- what is acked is received; how often each was sent -/
def ac_H2 (R : Nat) : ac_G → Prop
  | (_, _, _, _, _, _, _, _, _, _, tx, ak, rc, _, _, _, _) => (∀ j, ¬ ak j = 0 → ¬ rc j = 0) ∧ (∀ j, ∃ t, t ≤ R ∧ tx j = nI t ∧ (¬ rc j = 0 → 1 ≤ t))
theorem ac_H2_up {R R' : Nat} {g : ac_G} (hR : R ≤ R') (h : ac_H2 R g) : ac_H2 R' g := by
  obtain ⟨now, st, stamp, sg, pr, stale, ab, lose, act, err, tx, ak, rc, xp, lg, L, dups⟩ := g
  refine ⟨h.1, fun j => ?_⟩
  obtain ⟨t, h1, h2, h3⟩ := h.2 j
  exact ⟨t, by omega, h2, h3⟩
theorem ac_rd_H2 {life th tag : Int32} {up : ac_A} {S R : Nat} {str uno : ac_A} {rp rev dup : Int32} {g : ac_G} (h : ac_H2 R g) : ac_H2 (R + 1) (ac_rd life th tag up S str uno rp rev dup g) := by
  obtain ⟨now, st, stamp, sg, pr, stale, ab, lose, act, err, tx, ak, rc, xp, lg, L, dups⟩ := g
  by_cases e : st = 3
  · rw [ac_rd_E e]
    refine ⟨fun j a => ?_, fun j => ?_⟩
    · have u : ¬ rc j = 0 → ¬ (ac_P S str uno (ac_T S up act pr lose tx ak).2.2.2.2 rev dup (rc, xp, lg, L, dups)).1 j = 0 := fun z => ac_pp_up S 0 (rc, xp, lg, L, dups) z
      unfold ac_dk at a
      split at a
      · exact u (h.1 j a)
      · split at a
        · exact u (h.1 j a)
        · cases ac_ack_dn S 0 ak a with
          | inl z => exact u (h.1 j z)
          | inr z => exact z
    · obtain ⟨t, h1, h2, h3⟩ := h.2 j
      have w := ac_tm_hi (ak := ak) (up := up) (p := pr) (r := ac_rt act pr) S 0 (tx, fun _ => 0, lose, fun _ => 0, fun _ => 0) j (Nat.zero_le j)
      cases w with
      | inl w =>
        refine ⟨t, by omega, w.1.trans h2, fun z => ?_⟩
        cases ac_pp_dn S 0 (rc, xp, lg, L, dups) z with
        | inl y => exact h3 y
        | inr y => exact absurd w.2 y
      | inr w =>
        refine ⟨t + 1, by omega, ?_, fun _ => by omega⟩
        refine w.trans ?_
        rw [← nI_1]
        exact congrArg (· + 1) h2
  · rw [ac_rd_H e]
    exact ac_H2_up (g := (now, st, stamp, sg, pr, stale, ab, lose, act, err, tx, ak, rc, xp, lg, L, dups)) (Nat.le_succ R) h
theorem ac_rds_H2 {life th tag : Int32} {up : ac_A} {S : Nat} {str uno : ac_A} {rp rev dup : Int32} : ∀ (n R : Nat) (g : ac_G), ac_H2 R g → ac_H2 (R + n) (ac_rds life th tag up S str uno rp rev dup n g) := by
  intro n
  induction n with
  | zero => intro R g h; exact h
  | succ n ih =>
    intro R g h
    have w := ih (R + 1) _ (ac_rd_H2 (life := life) (th := th) (tag := tag) (up := up) (S := S) (str := str) (uno := uno) (rp := rp) (rev := rev) (dup := dup) h)
    rw [show R + (n + 1) = R + 1 + n by omega]
    exact w
