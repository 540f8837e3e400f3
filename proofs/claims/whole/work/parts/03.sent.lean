/-! F: transmission, acknowledgement, the places of the arrived -/
abbrev ac_TS : Type := ac_A × ac_A × ac_A × ac_A × ac_A × Nat × ac_A × Int32
def ac_t1 (up : ac_A) (p id : Nat) (q : ac_TS) : ac_TS :=
  if up p = 0 then (upd q.1 id (q.1 id + 1), upd q.2.1 p 1, q.2.2.1, q.2.2.2.1, q.2.2.2.2.1, q.2.2.2.2.2.1, q.2.2.2.2.2.2.1, q.2.2.2.2.2.2.2)
  else if q.2.2.1 p ≤ 0 then (upd q.1 id (q.1 id + 1), upd q.2.1 p 1, q.2.2.1, upd q.2.2.2.1 p 1, upd q.2.2.2.2.1 q.2.2.2.2.2.1 (nI id), q.2.2.2.2.2.1 + 1, upd q.2.2.2.2.2.2.1 id 1, 1)
  else (upd q.1 id (q.1 id + 1), upd q.2.1 p 1, upd q.2.2.1 p (q.2.2.1 p - 1), q.2.2.2.1, q.2.2.2.2.1, q.2.2.2.2.2.1, q.2.2.2.2.2.2.1, q.2.2.2.2.2.2.2)
def ac_tp (p r : Nat) (x : Int32) : Nat := if x = 0 then p else r
def ac_tm (ak up : ac_A) (p r : Nat) : Nat → Nat → ac_TS → ac_TS
  | 0, _, q => q
  | n + 1, id, q => ac_tm ak up p r n (id + 1) (if ak id = 0 then ac_t1 up (ac_tp p r (q.1 id)) id q else q)
theorem ac_tm_s {ak up : ac_A} {p r n id : Nat} {q : ac_TS} : ac_tm ak up p r (n + 1) id q = ac_tm ak up p r n (id + 1) (if ak id = 0 then ac_t1 up (ac_tp p r (q.1 id)) id q else q) := rfl
def ac_fl (fa : ac_A) (j : Nat) : Bool := decide (¬ fa j = 0)
theorem ac_fl_t {fa : ac_A} {j : Nat} : ac_fl fa j = true ↔ ¬ fa j = 0 := decide_eq_true_iff
def ac_TI (id : Nat) (q : ac_TS) : Prop :=
  (∀ j, id ≤ j → q.2.2.2.2.2.2.1 j = 0) ∧ q.2.2.2.2.2.1 = ac_ct (ac_fl q.2.2.2.2.2.2.1) id
  ∧ (∀ j, j < id → ¬ q.2.2.2.2.2.2.1 j = 0 → q.2.2.2.2.1 (ac_ct (ac_fl q.2.2.2.2.2.2.1) j) = nI j)
  ∧ ((q.2.2.2.2.2.2.2 = 0 ∧ q.2.2.2.2.2.1 = 0) ∨ (q.2.2.2.2.2.2.2 = 1 ∧ 0 < q.2.2.2.2.2.1))
theorem ac_TI_skip {id : Nat} {q : ac_TS} (I : ac_TI id q) : ac_TI (id + 1) q := by
  obtain ⟨h1, h2, h3, h4⟩ := I
  have z := h1 id (Nat.le_refl id)
  refine ⟨fun j hj => h1 j (by omega), ?_, ?_, h4⟩
  · rw [ac_ct_f (ac_bf (fun f => ac_fl_t.mp f z))]
    exact h2
  · intro j hj f
    by_cases e : j = id
    · rw [e] at f; exact absurd z f
    · exact h3 j (by omega) f
theorem ac_TI_t1 {up : ac_A} {p id : Nat} {q : ac_TS} (I : ac_TI id q) : ac_TI (id + 1) (ac_t1 up p id q) := by
  obtain ⟨tx, sn, lo, ao, xa, c, fa, any⟩ := q
  unfold ac_t1
  by_cases u : up p = 0
  · rw [if_pos u]
    exact ac_TI_skip (id := id) (q := (_, _, _, _, xa, c, fa, any)) I
  · rw [if_neg u]
    by_cases l : lo p ≤ 0
    · rw [if_pos l]
      obtain ⟨h1, h2, h3, h4⟩ := I
      dsimp only at h1 h2 h3 h4
      have e : ∀ n, n ≤ id → ac_ct (ac_fl (upd fa id 1)) n = ac_ct (ac_fl fa) n := by
        intro n hn
        refine ac_ct_cg n (fun j hj => ?_)
        unfold ac_fl
        rw [pk_un (show j ≠ id by omega)]
      have t : ac_fl (upd fa id 1) id = true := ac_fl_t.mpr (by rw [pk_us]; decide)
      refine ⟨fun j hj => ?_, ?_, ?_, Or.inr ⟨rfl, ?_⟩⟩
      · dsimp only
        exact ac_upd0 (h1 j (by omega)) (by omega)
      · dsimp only
        rw [ac_ct_t t, e id (Nat.le_refl id), h2]
      · dsimp only
        intro j hj f
        rw [e j (by omega)]
        by_cases ej : j = id
        · rw [ej, ← h2, pk_us]
        · rw [pk_un ej] at f
          have := ac_ct_lt (ac_fl fa) (show j < id by omega) (ac_fl_t.mpr f)
          rw [pk_un (by omega)]
          exact h3 j (by omega) f
      · dsimp only
        omega
    · rw [if_neg l]
      exact ac_TI_skip (id := id) (q := (_, _, _, _, xa, c, fa, any)) I
theorem ac_TI_tm {ak up : ac_A} {p r : Nat} : ∀ (n id : Nat) (q : ac_TS), ac_TI id q → ac_TI (id + n) (ac_tm ak up p r n id q) := by
  intro n
  induction n with
  | zero => intro id q I; exact I
  | succ n ih =>
    intro id q I
    rw [ac_tm_s]
    have h : ac_TI (id + 1) (if ak id = 0 then ac_t1 up (ac_tp p r (q.1 id)) id q else q) := by
      by_cases a : ak id = 0
      · rw [if_pos a]; exact ac_TI_t1 I
      · rw [if_neg a]; exact ac_TI_skip I
    have := ih (id + 1) _ h
    rw [show id + (n + 1) = id + 1 + n by omega]
    exact this
theorem ac_t1_tx {up : ac_A} {p id : Nat} {q : ac_TS} : (ac_t1 up p id q).1 = upd q.1 id (q.1 id + 1) := by
  unfold ac_t1
  split
  · rfl
  · split
    · rfl
    · rfl
theorem ac_tm_tx {ak up : ac_A} {p r : Nat} : ∀ (n id : Nat) (q : ac_TS) (j : Nat), id + n ≤ j → (ac_tm ak up p r n id q).1 j = q.1 j := by
  intro n
  induction n with
  | zero => intro id q j _; rfl
  | succ n ih =>
    intro id q j hj
    rw [ac_tm_s, ih (id + 1) _ j (by omega)]
    by_cases a : ak id = 0
    · rw [if_pos a, ac_t1_tx, pk_un (by omega)]
    · rw [if_neg a]
def ac_ack (rc : ac_A) : Nat → Nat → ac_A → ac_A
  | 0, _, a => a
  | n + 1, id, a => ac_ack rc n (id + 1) (if rc id = 0 then a else upd a id 1)
theorem ac_ack_s {rc a : ac_A} {n id : Nat} : ac_ack rc (n + 1) id a = ac_ack rc n (id + 1) (if rc id = 0 then a else upd a id 1) := rfl
theorem ac_ack_hi {rc : ac_A} : ∀ (n id : Nat) (a : ac_A) (j : Nat), id + n ≤ j → ac_ack rc n id a j = a j := by
  intro n
  induction n with
  | zero => intro id a j _; rfl
  | succ n ih =>
    intro id a j hj
    rw [ac_ack_s, ih (id + 1) _ j (by omega)]
    by_cases r : rc id = 0
    · rw [if_pos r]
    · rw [if_neg r, pk_un (by omega)]
theorem ac_ack_01 {rc : ac_A} : ∀ (n id : Nat) (a : ac_A), (∀ j, a j = 0 ∨ a j = 1) → ∀ j, ac_ack rc n id a j = 0 ∨ ac_ack rc n id a j = 1 := by
  intro n
  induction n with
  | zero => intro id a h; exact h
  | succ n ih =>
    intro id a h
    rw [ac_ack_s]
    refine ih (id + 1) _ ?_
    by_cases r : rc id = 0
    · rw [if_pos r]; exact h
    · rw [if_neg r]; exact ac_01u h (Or.inr rfl)
/-- where the list stands when the flags' scan is at t -/
def ac_pl (S : Nat) (fa : ac_A) (rev : Bool) (t : Nat) : Nat := if rev = true then ac_ct (ac_fl fa) S - ac_ct (ac_fl fa) (S - t) else ac_ct (ac_fl fa) t
def ac_px (c : Nat) (rev : Bool) (i : Nat) : Nat := if rev = true then c - 1 - i else i
theorem ac_pl_0 {S : Nat} {fa : ac_A} {rev : Bool} : ac_pl S fa rev 0 = 0 := by
  unfold ac_pl
  cases rev with
  | true => rw [if_pos rfl, Nat.sub_zero, Nat.sub_self]
  | false => rw [if_neg (by decide)]; rfl
theorem ac_pl_S {S : Nat} {fa : ac_A} {rev : Bool} : ac_pl S fa rev S = ac_ct (ac_fl fa) S := by
  unfold ac_pl
  cases rev with
  | true =>
    rw [if_pos rfl, Nat.sub_self]
    show _ - 0 = _
    rw [Nat.sub_zero]
  | false => rw [if_neg (by decide)]
theorem ac_pl_no {S t : Nat} {fa : ac_A} {rev : Bool} (ht : t < S) (h : fa (ac_ix S rev t) = 0) : ac_pl S fa rev (t + 1) = ac_pl S fa rev t := by
  unfold ac_pl ac_ix at *
  cases rev with
  | true =>
    rw [if_pos rfl] at h
    rw [if_pos rfl, if_pos rfl]
    have e : S - t = (S - 1 - t) + 1 := by omega
    have e2 : S - (t + 1) = S - 1 - t := by omega
    rw [e, e2, ac_ct_f (ac_bf (fun f => ac_fl_t.mp f h))]
  | false =>
    rw [if_neg (by decide)] at h
    rw [if_neg (by decide), if_neg (by decide), ac_ct_f (ac_bf (fun f => ac_fl_t.mp f h))]
theorem ac_pl_hit {S t : Nat} {fa : ac_A} {rev : Bool} (ht : t < S) (h : ¬ fa (ac_ix S rev t) = 0) : ac_pl S fa rev (t + 1) = ac_pl S fa rev t + 1 ∧ ac_pl S fa rev t < ac_ct (ac_fl fa) S ∧ ac_px (ac_ct (ac_fl fa) S) rev (ac_pl S fa rev t) = ac_ct (ac_fl fa) (ac_ix S rev t) := by
  unfold ac_pl ac_px ac_ix at *
  cases rev with
  | true =>
    rw [if_pos rfl] at h
    rw [if_pos rfl, if_pos rfl, if_pos rfl, if_pos rfl]
    have e : S - t = (S - 1 - t) + 1 := by omega
    have e2 : S - (t + 1) = S - 1 - t := by omega
    have m := ac_ct_mono (ac_fl fa) (show S - 1 - t + 1 ≤ S by omega)
    rw [e, e2]
    rw [ac_ct_t (ac_fl_t.mpr h)] at m ⊢
    omega
  | false =>
    rw [if_neg (by decide)] at h
    rw [if_neg (by decide), if_neg (by decide), if_neg (by decide), if_neg (by decide), ac_ct_t (ac_fl_t.mpr h)]
    exact ⟨rfl, ac_ct_lt _ ht (ac_fl_t.mpr h), rfl⟩
