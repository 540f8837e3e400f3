/-! D: the invariant of messages and log -/
def ac_Inv (S : Nat) (str uno rc xp lg : Nat → Int32) (L : Nat) : Prop :=
  S ≤ 128 ∧ (∀ j, j < S → ∃ s, s < 8 ∧ str j = nI s) ∧ (∀ j, S ≤ j → rc j = 0)
  ∧ (∀ i, i < L → ∃ j, j < S ∧ lg i = nI j ∧ ac_dl str uno rc lg L j = true)
  ∧ (∀ j, j < S → ac_dl str uno rc lg L j = true → ∃ i, i < L ∧ lg i = nI j)
  ∧ L = ac_ct (ac_dl str uno rc lg L) S
  ∧ (∀ s, ac_lc str uno lg s L ≤ ac_ct (ac_od str uno s) S)
  ∧ (∀ s, s < 8 → xp s = nI (ac_lc str uno lg (nI s) L))
  ∧ (∀ j, j < S → ac_dl str uno rc lg L j = true → ¬ rc j = 0)
  ∧ (∀ i j, i < L → lg i = nI j → j < S → uno j = 0 → ac_rk str uno j = ac_lc str uno lg (str j) i)
  ∧ (∀ i i', i < L → i' < L → lg i = lg i' → i = i')
theorem ac_Inv_L {S : Nat} {str uno rc xp lg : Nat → Int32} {L : Nat} (I : ac_Inv S str uno rc xp lg L) : L ≤ S := by
  have h := I.2.2.2.2.2.1
  rw [h]
  exact ac_ct_le _ _
theorem ac_Inv0 : ac_Inv 0 (fun _ => 0) (fun _ => 0) (fun _ => 0) (fun _ => 0) (fun _ => 0) 0 := by
  refine ⟨by omega, fun j h => absurd h (by omega), fun _ _ => rfl, fun i h => absurd h (by omega), fun j h => absurd h (by omega), rfl, fun _ => Nat.le_refl _, fun _ _ => nI_0.symm, fun j h => absurd h (by omega), fun i j h => absurd h (by omega), fun i i' h => absurd h (by omega)⟩
theorem ac_app {S : Nat} {str uno rc xp lg rc' xp' : Nat → Int32} {L j : Nat} (I : ac_Inv S str uno rc xp lg L) (hj : j < S) (hd : ac_dl str uno rc lg L j = false) (hr : uno j = 0 → ac_rk str uno j = ac_lc str uno lg (str j) L) (hr1 : ¬ rc' j = 0) (hr2 : ∀ k, k ≠ j → rc' k = rc k) (hx : ∀ s, s < 8 → xp' s = nI (ac_lc str uno (upd lg L (nI j)) (nI s) (L + 1))) : ac_Inv S str uno rc' xp' (upd lg L (nI j)) (L + 1) := by
  obtain ⟨h1, h2, h3, h4, h5, h6, h7, h8, h9, h10, h11⟩ := I
  have jb : j < 2 ^ 31 := by omega
  have dj : ac_dl str uno rc' (upd lg L (nI j)) (L + 1) j = true := by
    by_cases u : uno j = 0
    · rw [ac_dl_o u, ac_lc_new_t jb rfl u, hr u]
      omega
    · rw [ac_dl_u u]
      exact hr1
  have dk : ∀ k, k ≠ j → ac_dl str uno rc' (upd lg L (nI j)) (L + 1) k = ac_dl str uno rc lg L k := by
    intro k hk
    apply ac_be
    by_cases u : uno k = 0
    · rw [ac_dl_o u, ac_dl_o u]
      by_cases z : str j = str k ∧ uno j = 0
      · rw [ac_lc_new_t jb z.1 z.2]
        have e := hr z.2
        rw [z.1] at e
        have ne : ac_rk str uno k ≠ ac_rk str uno j := fun q => hk (ac_rk_inj u z.2 z.1.symm q)
        omega
      · rw [ac_lc_new_f jb z]
    · rw [ac_dl_u u, ac_dl_u u, hr2 k hk]
  refine ⟨h1, h2, ?_, ?_, ?_, ?_, ?_, hx, ?_, ?_, ?_⟩
  · intro k hk
    rw [hr2 k (by omega)]
    exact h3 k hk
  · intro i hi
    by_cases e : i = L
    · subst e
      exact ⟨j, hj, pk_us, dj⟩
    · obtain ⟨k, hk, ek, dk'⟩ := h4 i (by omega)
      refine ⟨k, hk, by rw [pk_un e, ek], ?_⟩
      by_cases kj : k = j
      · rw [kj]; exact dj
      · rw [dk k kj]; exact dk'
  · intro k hk d
    by_cases kj : k = j
    · exact ⟨L, by omega, by rw [pk_us, kj]⟩
    · rw [dk k kj] at d
      obtain ⟨i, hi, ei⟩ := h5 k hk d
      exact ⟨i, by omega, by rw [pk_un (show i ≠ L by omega), ei]⟩
  · rw [ac_ct_put hd dj dk, if_pos hj, ← h6]
  · intro t
    by_cases z : str j = t ∧ uno j = 0
    · rw [ac_lc_new_t jb z.1 z.2]
      have e := hr z.2
      have := ac_ct_lt (ac_od str uno t) hj (ac_od_t.mpr z)
      unfold ac_rk at e
      rw [z.1] at e
      omega
    · rw [ac_lc_new_f jb z]
      exact h7 t
  · intro k hk d
    by_cases kj : k = j
    · rw [kj]; exact hr1
    · rw [dk k kj] at d
      rw [hr2 k kj]
      exact h9 k hk d
  · intro i k hi e hk u
    by_cases il : i = L
    · subst il
      rw [pk_us] at e
      have ejk : j = k := ac_inj e jb (by omega)
      subst ejk
      rw [ac_lc_keep (Nat.le_refl i)]
      exact hr u
    · rw [pk_un il] at e
      rw [ac_lc_keep (show i ≤ L by omega)]
      exact h10 i k (by omega) e hk u
  · have no : ∀ i, i < L → lg i = nI j → False := by
      intro i hi e
      obtain ⟨k, hk, ek, d⟩ := h4 i hi
      have ejk : j = k := ac_inj (e.symm.trans ek) jb (by omega)
      subst ejk
      rw [hd] at d
      exact Bool.noConfusion d
    intro i i' hi hi' e
    by_cases il : i = L
    · by_cases il' : i' = L
      · rw [il, il']
      · exfalso
        rw [il, pk_us, pk_un il'] at e
        exact no i' (by omega) e.symm
    · by_cases il' : i' = L
      · exfalso
        rw [il', pk_us, pk_un il] at e
        exact no i (by omega) e
      · rw [pk_un il, pk_un il'] at e
        exact h11 i i' (by omega) (by omega) e
theorem ac_rcv {S : Nat} {str uno rc xp lg : Nat → Int32} {L j : Nat} (I : ac_Inv S str uno rc xp lg L) (hj : j < S) (u : uno j = 0) : ac_Inv S str uno (upd rc j 1) xp lg L := by
  obtain ⟨h1, h2, h3, h4, h5, h6, h7, h8, h9, h10, h11⟩ := I
  have e : ac_dl str uno (upd rc j 1) lg L = ac_dl str uno rc lg L := by
    funext k
    apply ac_be
    by_cases uk : uno k = 0
    · rw [ac_dl_o uk, ac_dl_o uk]
    · rw [ac_dl_u uk, ac_dl_u uk, pk_un (fun z => uk (by rw [z]; exact u))]
  refine ⟨h1, h2, ?_, ?_, ?_, ?_, h7, h8, ?_, h10, h11⟩
  · intro k hk
    exact ac_upd0 (h3 k hk) (by omega)
  · rw [e]; exact h4
  · rw [e]; exact h5
  · rw [e]; exact h6
  · rw [e]
    intro k hk d
    by_cases kj : k = j
    · rw [kj, pk_us]; decide
    · rw [pk_un kj]; exact h9 k hk d
theorem ac_appU {S : Nat} {str uno rc xp lg : Nat → Int32} {L j : Nat} (I : ac_Inv S str uno rc xp lg L) (hj : j < S) (u : ¬ uno j = 0) (r : rc j = 0) : ac_Inv S str uno (upd rc j 1) xp (upd lg L (nI j)) (L + 1) := by
  refine ac_app I hj (ac_bf (fun z => (ac_dl_u u).mp z r)) (fun z => absurd z u) (by rw [pk_us]; decide) (fun k hk => pk_un hk) ?_
  intro s hs
  rw [ac_lc_new_f (by have := I.1; omega) (fun z => u z.2)]
  exact I.2.2.2.2.2.2.2.1 s hs
theorem ac_appO {S : Nat} {str uno rc xp lg : Nat → Int32} {L j s : Nat} (I : ac_Inv S str uno rc xp lg L) (hj : j < S) (u : uno j = 0) (r : ¬ rc j = 0) (hs : s < 8) (es : str j = nI s) (ek : ac_rk str uno j = ac_lc str uno lg (nI s) L) : ac_Inv S str uno rc (upd xp s (xp s + 1)) (upd lg L (nI j)) (L + 1) := by
  have jb : j < 2 ^ 31 := by have := I.1; omega
  refine ac_app I hj (ac_bf (fun z => ?_)) (fun _ => by rw [es]; exact ek) r (fun k _ => rfl) ?_
  · rw [ac_dl_o u, es] at z
    omega
  · intro t ht
    by_cases e : t = s
    · subst e
      rw [pk_us, ac_lc_new_t jb es u, I.2.2.2.2.2.2.2.1 t ht, nI_1]
    · rw [pk_un e, ac_lc_new_f jb (fun z => e (ac_inj (es.symm.trans z.1) (by omega) (by omega)).symm)]
      exact I.2.2.2.2.2.2.2.1 t ht
theorem ac_snd {S : Nat} {str uno rc xp lg : Nat → Int32} {L s : Nat} {b : Int32} (I : ac_Inv S str uno rc xp lg L) (hS : S < 128) (hs : s < 8) : ac_Inv (S + 1) (upd str S (nI s)) (upd uno S b) rc xp lg L := by
  obtain ⟨h1, h2, h3, h4, h5, h6, h7, h8, h9, h10, h11⟩ := I
  have eo : ∀ t j, j < S → ac_od (upd str S (nI s)) (upd uno S b) t j = ac_od str uno t j := by
    intro t j hj
    unfold ac_od
    rw [pk_un (show j ≠ S by omega), pk_un (show j ≠ S by omega)]
  have ec : ∀ t n, n ≤ S → ac_ct (ac_od (upd str S (nI s)) (upd uno S b) t) n = ac_ct (ac_od str uno t) n := fun t n hn => ac_ct_cg n (fun j hj => eo t j (by omega))
  have el : ∀ t n, n ≤ L → ac_lc (upd str S (nI s)) (upd uno S b) lg t n = ac_lc str uno lg t n := by
    intro t n hn
    unfold ac_lc
    refine ac_ct_cg n (fun i hi => ?_)
    obtain ⟨k, hk, ek, _⟩ := h4 i (by omega)
    rw [ek, nI_clamp (by omega)]
    exact eo t k hk
  have er : ∀ j, j < S → ac_rk (upd str S (nI s)) (upd uno S b) j = ac_rk str uno j := by
    intro j hj
    unfold ac_rk
    rw [pk_un (show j ≠ S by omega)]
    exact ec _ j (by omega)
  have ed : ∀ j, j < S → ac_dl (upd str S (nI s)) (upd uno S b) rc lg L j = ac_dl str uno rc lg L j := by
    intro j hj
    unfold ac_dl
    rw [pk_un (show j ≠ S by omega), pk_un (show j ≠ S by omega), er j hj, el _ L (Nat.le_refl L)]
  have eS : ac_dl (upd str S (nI s)) (upd uno S b) rc lg L S = false := by
    apply ac_bf
    intro z
    by_cases u : upd uno S b S = 0
    · rw [ac_dl_o u] at z
      unfold ac_rk at z
      rw [pk_us, ec _ S (Nat.le_refl S), el _ L (Nat.le_refl L)] at z
      have := h7 (nI s)
      omega
    · rw [ac_dl_u u] at z
      exact z (h3 S (Nat.le_refl S))
  refine ⟨by omega, ?_, ?_, ?_, ?_, ?_, ?_, ?_, ?_, ?_, h11⟩
  · intro j hj
    by_cases e : j = S
    · exact ⟨s, hs, by rw [e, pk_us]⟩
    · rw [pk_un e]; exact h2 j (by omega)
  · intro j hj
    exact h3 j (by omega)
  · intro i hi
    obtain ⟨k, hk, ek, d⟩ := h4 i hi
    exact ⟨k, by omega, ek, by rw [ed k hk]; exact d⟩
  · intro j hj d
    by_cases e : j = S
    · rw [e, eS] at d
      exact Bool.noConfusion d
    · rw [ed j (by omega)] at d
      exact h5 j (by omega) d
  · rw [ac_ct_f eS, ac_ct_cg S ed]
    exact h6
  · intro t
    rw [el t L (Nat.le_refl L)]
    refine Nat.le_trans (h7 t) ?_
    rw [← ec t S (Nat.le_refl S)]
    exact ac_ct_mono _ (Nat.le_succ S)
  · intro t ht
    rw [el _ L (Nat.le_refl L)]
    exact h8 t ht
  · intro j hj d
    by_cases e : j = S
    · rw [e, eS] at d
      exact Bool.noConfusion d
    · rw [ed j (by omega)] at d
      exact h9 j (by omega) d
  · intro i j hi e hj u
    by_cases ej : j = S
    · exfalso
      obtain ⟨k, hk, ek, _⟩ := h4 i hi
      have := ac_inj (e.symm.trans ek) (by omega) (by omega)
      omega
    · rw [pk_un ej] at u
      rw [er j (by omega), pk_un ej, el _ i (by omega)]
      exact h10 i j hi e (by omega) u
/-! E: the upward pass, a chunk, the chunks of a round -/
abbrev ac_A : Type := Nat → Int32
def ac_dv (str uno rc : ac_A) (s : Nat) : Nat → Nat → ac_A × ac_A × Nat → ac_A × ac_A × Nat
  | 0, _, q => q
  | n + 1, id, q => if ac_od str uno (nI s) id = true then (if rc id = 0 then q else ac_dv str uno rc s n (id + 1) (upd q.1 s (q.1 s + 1), upd q.2.1 q.2.2 (nI id), q.2.2 + 1)) else ac_dv str uno rc s n (id + 1) q
theorem ac_dv_s {str uno rc : ac_A} {s n id : Nat} {q : ac_A × ac_A × Nat} : ac_dv str uno rc s (n + 1) id q = if ac_od str uno (nI s) id = true then (if rc id = 0 then q else ac_dv str uno rc s n (id + 1) (upd q.1 s (q.1 s + 1), upd q.2.1 q.2.2 (nI id), q.2.2 + 1)) else ac_dv str uno rc s n (id + 1) q := rfl
theorem ac_dv_step {S : Nat} {str uno rc xp lg : ac_A} {L s id : Nat} (hs : s < 8) (I : ac_Inv S str uno rc xp lg L) (hid : id < S) (o : ac_od str uno (nI s) id = true) (r : ¬ rc id = 0) (e : ac_lc str uno lg (nI s) L = ac_ct (ac_od str uno (nI s)) id) : ac_Inv S str uno rc (upd xp s (xp s + 1)) (upd lg L (nI id)) (L + 1) ∧ ac_lc str uno (upd lg L (nI id)) (nI s) (L + 1) = ac_ct (ac_od str uno (nI s)) (id + 1) := by
  have o' := ac_od_t.mp o
  have jb : id < 2 ^ 31 := by have := I.1; omega
  refine ⟨ac_appO I hid o'.2 r hs o'.1 ?_, ?_⟩
  · unfold ac_rk
    rw [o'.1, e]
  · rw [ac_lc_new_t jb o'.1 o'.2, e, ac_ct_t o]
theorem ac_dv_inv {S : Nat} {str uno rc : ac_A} {s : Nat} (hs : s < 8) : ∀ (n id : Nat) (q : ac_A × ac_A × Nat), id + n = S → ac_Inv S str uno rc q.1 q.2.1 q.2.2 → ac_lc str uno q.2.1 (nI s) q.2.2 = ac_ct (ac_od str uno (nI s)) id → ac_Inv S str uno rc (ac_dv str uno rc s n id q).1 (ac_dv str uno rc s n id q).2.1 (ac_dv str uno rc s n id q).2.2 := by
  intro n
  induction n with
  | zero => intro id q _ I _; exact I
  | succ n ih =>
    intro id q hn I e
    rw [ac_dv_s]
    by_cases o : ac_od str uno (nI s) id = true
    · rw [if_pos o]
      by_cases r : rc id = 0
      · rw [if_pos r]; exact I
      · rw [if_neg r]
        have w := ac_dv_step hs I (by omega) o r e
        exact ih (id + 1) _ (by omega) w.1 w.2
    · rw [if_neg o]
      exact ih (id + 1) q (by omega) I (by rw [e, ac_ct_f (ac_bf o)])
abbrev ac_PS : Type := ac_A × ac_A × ac_A × Nat × Int32
def ac_pc (S : Nat) (str uno : ac_A) (m : Nat) (q : ac_PS) : ac_PS :=
  if q.1 m = 0 then
    (if uno m = 0 then
      (if ac_rk str uno m = ac_lc str uno q.2.2.1 (str m) q.2.2.2.1 then
        (upd q.1 m 1, (ac_dv str uno (upd q.1 m 1) (str m).toNatClampNeg (S - m) m (q.2.1, q.2.2.1, q.2.2.2.1)).1, (ac_dv str uno (upd q.1 m 1) (str m).toNatClampNeg (S - m) m (q.2.1, q.2.2.1, q.2.2.2.1)).2.1, (ac_dv str uno (upd q.1 m 1) (str m).toNatClampNeg (S - m) m (q.2.1, q.2.2.1, q.2.2.2.1)).2.2, q.2.2.2.2)
      else (upd q.1 m 1, q.2.1, q.2.2.1, q.2.2.2.1, q.2.2.2.2))
    else (upd q.1 m 1, q.2.1, upd q.2.2.1 q.2.2.2.1 (nI m), q.2.2.2.1 + 1, q.2.2.2.2))
  else (q.1, q.2.1, q.2.2.1, q.2.2.2.1, q.2.2.2.2 + 1)
def ac_PI (S : Nat) (str uno : ac_A) (q : ac_PS) : Prop := ac_Inv S str uno q.1 q.2.1 q.2.2.1 q.2.2.2.1 ∧ (∀ j, q.1 j = 0 ∨ q.1 j = 1)
theorem ac_pc_inv {S : Nat} {str uno : ac_A} {m : Nat} {q : ac_PS} (hm : m < S) (I : ac_PI S str uno q) : ac_PI S str uno (ac_pc S str uno m q) := by
  obtain ⟨I, B⟩ := I
  unfold ac_pc
  by_cases r : q.1 m = 0
  · rw [if_pos r]
    by_cases u : uno m = 0
    · rw [if_pos u]
      by_cases e : ac_rk str uno m = ac_lc str uno q.2.2.1 (str m) q.2.2.2.1
      · rw [if_pos e]
        obtain ⟨s, hs, es⟩ := I.2.1 m hm
        have ec : (str m).toNatClampNeg = s := by rw [es]; exact nI_clamp (by omega)
        refine ⟨?_, ac_01u B (Or.inr rfl)⟩
        dsimp only
        rw [ec]
        refine ac_dv_inv hs (S - m) m (q.2.1, q.2.2.1, q.2.2.2.1) (by omega) (ac_rcv I hm u) ?_
        dsimp only
        rw [es] at e
        rw [← e]
        unfold ac_rk
        rw [es]
      · rw [if_neg e]
        exact ⟨ac_rcv I hm u, ac_01u B (Or.inr rfl)⟩
    · rw [if_neg u]
      exact ⟨ac_appU I hm u r, ac_01u B (Or.inr rfl)⟩
  · rw [if_neg r]
    exact ⟨I, B⟩
def ac_p2 (S : Nat) (str uno : ac_A) (dup : Int32) (m : Nat) (q : ac_PS) : ac_PS := if dup = 0 then ac_pc S str uno m q else ac_pc S str uno m (ac_pc S str uno m q)
theorem ac_p2_inv {S : Nat} {str uno : ac_A} {dup : Int32} {m : Nat} {q : ac_PS} (hm : m < S) (I : ac_PI S str uno q) : ac_PI S str uno (ac_p2 S str uno dup m q) := by
  unfold ac_p2
  split
  · exact ac_pc_inv hm I
  · exact ac_pc_inv hm (ac_pc_inv hm I)
def ac_ix (S : Nat) (rev : Int32) (t : Nat) : Nat := if rev = 0 then t else S - 1 - t
def ac_pp (S : Nat) (str uno fa : ac_A) (rev dup : Int32) : Nat → Nat → ac_PS → ac_PS
  | 0, _, q => q
  | n + 1, t, q => ac_pp S str uno fa rev dup n (t + 1) (if fa (ac_ix S rev t) = 0 then q else ac_p2 S str uno dup (ac_ix S rev t) q)
theorem ac_pp_s {S : Nat} {str uno fa : ac_A} {rev dup : Int32} {n t : Nat} {q : ac_PS} : ac_pp S str uno fa rev dup (n + 1) t q = ac_pp S str uno fa rev dup n (t + 1) (if fa (ac_ix S rev t) = 0 then q else ac_p2 S str uno dup (ac_ix S rev t) q) := rfl
theorem ac_ix_lt {S t : Nat} {rev : Int32} (h : t < S) : ac_ix S rev t < S := by
  unfold ac_ix
  split
  · exact h
  · omega
theorem ac_pp_inv {S : Nat} {str uno fa : ac_A} {rev dup : Int32} : ∀ (n t : Nat) (q : ac_PS), t + n = S → ac_PI S str uno q → ac_PI S str uno (ac_pp S str uno fa rev dup n t q) := by
  intro n
  induction n with
  | zero => intro t q _ I; exact I
  | succ n ih =>
    intro t q h I
    rw [ac_pp_s]
    refine ih (t + 1) _ (by omega) ?_
    by_cases z : fa (ac_ix S rev t) = 0
    · rw [if_pos z]; exact I
    · rw [if_neg z]; exact ac_p2_inv (ac_ix_lt (by omega)) I
