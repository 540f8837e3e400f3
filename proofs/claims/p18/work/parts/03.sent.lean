/-! F: transmission, acknowledgement, the places of the arrived -/
/-- sent times, sent on, losses, arrived on, arrived -/
abbrev ac_TS : Type := ac_A × ac_A × ac_A × ac_A × ac_A
def ac_t1 (up : ac_A) (p id : Nat) (q : ac_TS) : ac_TS :=
  if up p = 0 then (upd q.1 id (q.1 id + 1), upd q.2.1 p 1, q.2.2.1, q.2.2.2.1, q.2.2.2.2)
  else if q.2.2.1 p ≤ 0 then (upd q.1 id (q.1 id + 1), upd q.2.1 p 1, q.2.2.1, upd q.2.2.2.1 p 1, upd q.2.2.2.2 id 1)
  else (upd q.1 id (q.1 id + 1), upd q.2.1 p 1, upd q.2.2.1 p (q.2.2.1 p - 1), q.2.2.2.1, q.2.2.2.2)
def ac_tp (p r : Nat) (x : Int32) : Nat := if x = 0 then p else r
def ac_tm (ak up : ac_A) (p r : Nat) : Nat → Nat → ac_TS → ac_TS
  | 0, _, q => q
  | n + 1, id, q => ac_tm ak up p r n (id + 1) (if ak id = 0 then ac_t1 up (ac_tp p r (q.1 id)) id q else q)
theorem ac_tm_s {ak up : ac_A} {p r n id : Nat} {q : ac_TS} : ac_tm ak up p r (n + 1) id q = ac_tm ak up p r n (id + 1) (if ak id = 0 then ac_t1 up (ac_tp p r (q.1 id)) id q else q) := rfl
theorem ac_tm_n {ak up : ac_A} {p r n id : Nat} {q : ac_TS} (a : ¬ ak id = 0) : ac_tm ak up p r (n + 1) id q = ac_tm ak up p r n (id + 1) q := by
  rw [ac_tm_s, if_neg a]
theorem ac_tm_y {ak up : ac_A} {p r n id : Nat} {q : ac_TS} (a : ak id = 0) : ac_tm ak up p r (n + 1) id q = ac_tm ak up p r n (id + 1) (ac_t1 up (ac_tp p r (q.1 id)) id q) := by
  rw [ac_tm_s, if_pos a]
def ac_fl (fa : ac_A) (j : Nat) : Bool := decide (¬ fa j = 0)
theorem ac_fl_t {fa : ac_A} {j : Nat} : ac_fl fa j = true ↔ ¬ fa j = 0 := decide_eq_true_iff
theorem ac_fl_z {fa : ac_A} {j : Nat} (h : fa j = 0) : ac_fl fa j = false := ac_bf (fun f => ac_fl_t.mp f h)
/-- nothing arrived at or above id -/
def ac_FZ (id : Nat) (fa : ac_A) : Prop := ∀ j, id ≤ j → fa j = 0
/-- the list of the c arrived below id -/
def ac_XL (id : Nat) (fa xa : ac_A) (c : Nat) : Prop := c = ac_ct (ac_fl fa) id ∧ ∀ j, j < id → ¬ fa j = 0 → xa (ac_ct (ac_fl fa) j) = nI j
theorem ac_FZ_skip {id : Nat} {fa : ac_A} (h : ac_FZ id fa) : ac_FZ (id + 1) fa := fun j hj => h j (by omega)
theorem ac_FZ_put {id : Nat} {fa : ac_A} (h : ac_FZ id fa) : ac_FZ (id + 1) (upd fa id 1) := fun j hj => ac_upd0 (h j (by omega)) (by omega)
theorem ac_ct_fl0 {id : Nat} {fa : ac_A} (h : ac_FZ id fa) : ac_ct (ac_fl fa) (id + 1) = ac_ct (ac_fl fa) id := ac_ct_f (ac_fl_z (h id (Nat.le_refl id)))
theorem ac_ct_flu {id : Nat} {fa : ac_A} {n : Nat} (hn : n ≤ id) : ac_ct (ac_fl (upd fa id 1)) n = ac_ct (ac_fl fa) n := by
  refine ac_ct_cg n (fun j hj => ?_)
  unfold ac_fl
  rw [pk_un (show j ≠ id by omega)]
theorem ac_ct_fl1 {id : Nat} {fa : ac_A} : ac_ct (ac_fl (upd fa id 1)) (id + 1) = ac_ct (ac_fl fa) id + 1 := by
  rw [ac_ct_t (ac_fl_t.mpr (by rw [pk_us]; decide)), ac_ct_flu (Nat.le_refl id)]
theorem ac_XL_skip {id c : Nat} {fa xa : ac_A} (z : ac_FZ id fa) (h : ac_XL id fa xa c) : ac_XL (id + 1) fa xa c := by
  refine ⟨by rw [ac_ct_fl0 z]; exact h.1, fun j hj f => ?_⟩
  by_cases e : j = id
  · rw [e] at f; exact absurd (z id (Nat.le_refl id)) f
  · exact h.2 j (by omega) f
theorem ac_XL_put {id c : Nat} {fa xa : ac_A} (h : ac_XL id fa xa c) : ac_XL (id + 1) (upd fa id 1) (upd xa c (nI id)) (c + 1) := by
  refine ⟨by rw [ac_ct_fl1, h.1], fun j hj f => ?_⟩
  rw [ac_ct_flu (show j ≤ id by omega)]
  by_cases ej : j = id
  · rw [ej, ← h.1, pk_us]
  · rw [pk_un ej] at f
    have := ac_ct_lt (ac_fl fa) (show j < id by omega) (ac_fl_t.mpr f)
    have := h.1
    rw [pk_un (by omega)]
    exact h.2 j (by omega) f
theorem ac_t1_FZ {up : ac_A} {p id : Nat} {q : ac_TS} (h : ac_FZ id q.2.2.2.2) : ac_FZ (id + 1) (ac_t1 up p id q).2.2.2.2 := by
  unfold ac_t1
  split
  · exact ac_FZ_skip h
  · split
    · exact ac_FZ_put h
    · exact ac_FZ_skip h
theorem ac_tm_FZ {ak up : ac_A} {p r : Nat} : ∀ (n id : Nat) (q : ac_TS), ac_FZ id q.2.2.2.2 → ac_FZ (id + n) (ac_tm ak up p r n id q).2.2.2.2 := by
  intro n
  induction n with
  | zero => intro id q I; exact I
  | succ n ih =>
    intro id q I
    rw [show id + (n + 1) = id + 1 + n by omega]
    by_cases a : ak id = 0
    · rw [ac_tm_y a]; exact ih (id + 1) _ (ac_t1_FZ I)
    · rw [ac_tm_n a]; exact ih (id + 1) _ (ac_FZ_skip I)
theorem ac_t1_tx {up : ac_A} {p id : Nat} {q : ac_TS} : (ac_t1 up p id q).1 = upd q.1 id (q.1 id + 1) := by
  unfold ac_t1
  split
  · rfl
  · split
    · rfl
    · rfl
theorem ac_tm_tx {ak up : ac_A} {p r : Nat} : ∀ (n id : Nat) (q : ac_TS) (j : Nat), id + n ≤ j → (ac_tm ak up p r n id q).1 j = q.1 j := by
  intro n
  induction n with
  | zero => intro id q j _; rfl
  | succ n ih =>
    intro id q j hj
    by_cases a : ak id = 0
    · rw [ac_tm_y a, ih (id + 1) _ j (by omega), ac_t1_tx, pk_un (by omega)]
    · rw [ac_tm_n a, ih (id + 1) _ j (by omega)]
/-- nothing stands beyond the two paths -/
def ac_TZ (a : ac_A) : Prop := ∀ j, 2 ≤ j → a j = 0
theorem ac_TZ_put {a : ac_A} {p : Nat} {x : Int32} (h : ac_TZ a) (hp : p < 2) : ac_TZ (upd a p x) := fun j hj => ac_upd0 (h j hj) (by omega)
theorem ac_TZ_clr {a : ac_A} (h : ac_TZ a) : upd (upd a 0 0) 1 0 = fun _ => 0 := by
  funext j
  by_cases e : j = 1
  · rw [e, pk_us]
  · rw [pk_un e]
    by_cases e0 : j = 0
    · rw [e0, pk_us]
    · rw [pk_un e0]
      exact h j (by omega)
theorem ac_tp_2 {p r : Nat} {x : Int32} (hp : p < 2) (hr : r < 2) : ac_tp p r x < 2 := by
  unfold ac_tp
  split
  · exact hp
  · exact hr
theorem ac_t1_TZ {up : ac_A} {p id : Nat} {q : ac_TS} (hp : p < 2) (h : ac_TZ q.2.1 ∧ ac_TZ q.2.2.2.1) : ac_TZ (ac_t1 up p id q).2.1 ∧ ac_TZ (ac_t1 up p id q).2.2.2.1 := by
  unfold ac_t1
  split
  · exact ⟨ac_TZ_put h.1 hp, h.2⟩
  · split
    · exact ⟨ac_TZ_put h.1 hp, ac_TZ_put h.2 hp⟩
    · exact ⟨ac_TZ_put h.1 hp, h.2⟩
theorem ac_tm_TZ {ak up : ac_A} {p r : Nat} (hp : p < 2) (hr : r < 2) : ∀ (n id : Nat) (q : ac_TS), ac_TZ q.2.1 ∧ ac_TZ q.2.2.2.1 → ac_TZ (ac_tm ak up p r n id q).2.1 ∧ ac_TZ (ac_tm ak up p r n id q).2.2.2.1 := by
  intro n
  induction n with
  | zero => intro id q h; exact h
  | succ n ih =>
    intro id q h
    by_cases a : ak id = 0
    · rw [ac_tm_y a]; exact ih (id + 1) _ (ac_t1_TZ (ac_tp_2 hp hr) h)
    · rw [ac_tm_n a]; exact ih (id + 1) _ h
def ac_ack (rc : ac_A) : Nat → Nat → ac_A → ac_A
  | 0, _, a => a
  | n + 1, id, a => ac_ack rc n (id + 1) (if rc id = 0 then a else upd a id 1)
theorem ac_ack_s {rc a : ac_A} {n id : Nat} : ac_ack rc (n + 1) id a = ac_ack rc n (id + 1) (if rc id = 0 then a else upd a id 1) := rfl
theorem ac_ack_hi {rc : ac_A} : ∀ (n id : Nat) (a : ac_A) (j : Nat), id + n ≤ j → ac_ack rc n id a j = a j := by
  intro n
  induction n with
  | zero => intro id a j _; rfl
  | succ n ih =>
    intro id a j hj
    rw [ac_ack_s, ih (id + 1) _ j (by omega)]
    by_cases r : rc id = 0
    · rw [if_pos r]
    · rw [if_neg r, pk_un (by omega)]
theorem ac_ack_01 {rc : ac_A} : ∀ (n id : Nat) (a : ac_A), (∀ j, a j = 0 ∨ a j = 1) → ∀ j, ac_ack rc n id a j = 0 ∨ ac_ack rc n id a j = 1 := by
  intro n
  induction n with
  | zero => intro id a h; exact h
  | succ n ih =>
    intro id a h
    rw [ac_ack_s]
    refine ih (id + 1) _ ?_
    by_cases r : rc id = 0
    · rw [if_pos r]; exact h
    · rw [if_neg r]; exact ac_01u h (Or.inr rfl)
/-- where the list stands when the flags' scan is at t -/
def ac_pl (S : Nat) (fa : ac_A) (rev : Int32) (t : Nat) : Nat := if rev = 0 then ac_ct (ac_fl fa) t else ac_ct (ac_fl fa) S - ac_ct (ac_fl fa) (S - t)
def ac_px (c : Nat) (rev : Int32) (i : Nat) : Nat := if rev = 0 then i else c - 1 - i
theorem ac_pl_0 {S : Nat} {fa : ac_A} {rev : Int32} : ac_pl S fa rev 0 = 0 := by
  unfold ac_pl
  split
  · rfl
  · rw [Nat.sub_zero, Nat.sub_self]
theorem ac_pl_S {S : Nat} {fa : ac_A} {rev : Int32} : ac_pl S fa rev S = ac_ct (ac_fl fa) S := by
  unfold ac_pl
  split
  · rfl
  · rw [Nat.sub_self]
    show _ - 0 = _
    rw [Nat.sub_zero]
theorem ac_pl_no {S t : Nat} {fa : ac_A} {rev : Int32} (ht : t < S) (h : fa (ac_ix S rev t) = 0) : ac_pl S fa rev (t + 1) = ac_pl S fa rev t := by
  unfold ac_pl
  unfold ac_ix at h
  by_cases z : rev = 0
  · rw [if_pos z] at h
    rw [if_pos z, if_pos z, ac_ct_f (ac_fl_z h)]
  · rw [if_neg z] at h
    rw [if_neg z, if_neg z]
    have e : S - t = (S - 1 - t) + 1 := by omega
    have e2 : S - (t + 1) = S - 1 - t := by omega
    rw [e, e2, ac_ct_f (ac_fl_z h)]
theorem ac_pl_hit {S t : Nat} {fa : ac_A} {rev : Int32} (ht : t < S) (h : ¬ fa (ac_ix S rev t) = 0) : ac_pl S fa rev (t + 1) = ac_pl S fa rev t + 1 ∧ ac_pl S fa rev t < ac_ct (ac_fl fa) S ∧ ac_px (ac_ct (ac_fl fa) S) rev (ac_pl S fa rev t) = ac_ct (ac_fl fa) (ac_ix S rev t) := by
  unfold ac_pl ac_px ac_ix
  unfold ac_ix at h
  by_cases z : rev = 0
  · rw [if_pos z] at h
    rw [if_pos z, if_pos z, if_pos z, if_pos z, ac_ct_t (ac_fl_t.mpr h)]
    exact ⟨rfl, ac_ct_lt _ ht (ac_fl_t.mpr h), rfl⟩
  · rw [if_neg z] at h
    rw [if_neg z, if_neg z, if_neg z, if_neg z]
    have e : S - t = (S - 1 - t) + 1 := by omega
    have e2 : S - (t + 1) = S - 1 - t := by omega
    have m := ac_ct_mono (ac_fl fa) (show S - 1 - t + 1 ≤ S by omega)
    rw [e, e2]
    rw [ac_ct_t (ac_fl_t.mpr h)] at m ⊢
    omega
