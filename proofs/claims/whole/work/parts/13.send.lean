/-! R: counter and send (pk_sub_toInt is pasted from kit/rows/PURE-ROWS) -/
theorem pk_sub_toInt {a b : Nat} (ha : a < 2 ^ 30) (hb : b < 2 ^ 30) : (nI a - nI b).toInt = (a : Int) - b := by
  rw [Int32.toInt_sub, nI_toInt (by omega), nI_toInt (by omega)]
  exact Int.bmod_eq_of_le (by omega) (by omega)
section ARB
variable {ky lf th tg nw st sp sg du fo sl ab ap : Int32} {pr S L c : Nat} {up lo av er sn an ao sr un rk tx rc ak nr xp lg xa fa sn2 an2 ao2 : ac_A}
def ac_ua (ak : ac_A) (j : Nat) : Bool := decide (ak j = 0)
theorem ac_ua_t {j : Nat} : ac_ua ak j = true ↔ ak j = 0 := decide_eq_true_iff
theorem ax_cul {post : Int32 → Prop} (hS : S ≤ 128) (h : post (nI (ac_ct (ac_ua ak) S))) : ∀ (n id r : Nat), id + n = S → r = ac_ct (ac_ua ak) id → ∀ fu, n < fu → wX_countUnacked_4 post ky lf th tg nw st sp sg (nI pr) (nI S) (nI L) (nI c) du fo sl ab up lo av er sn an ao sr un rk tx rc ak nr xp lg xa fu (nI r) (nI id) := by
  intro n
  induction n with
  | zero =>
    intro id r hn eq fu hf
    obtain ⟨f, rfl⟩ : ∃ f, fu = f + 1 := ⟨fu - 1, by omega⟩
    obtain rfl : id = S := by omega
    subst eq
    exact br_t (nI_le (by omega) (by omega)) h
  | succ n ih =>
    intro id r hn eq fu hf
    obtain ⟨f, rfl⟩ : ∃ f, fu = f + 1 := ⟨fu - 1, by omega⟩
    refine br_f (nI_ge (by omega) (by omega)) ⟨vp_in_nI (by omega) (by omega), ?_⟩
    rw [nI_clamp (show id < 2 ^ 31 by omega)]
    refine br_c (fun a => nm_r (nI_1 r) (nm_r (nI_1 id) (ih (id + 1) (r + 1) (by omega) ?_ f (by omega)))) (fun a => nm_r (nI_1 id) (ih (id + 1) r (by omega) ?_ f (by omega)))
    · rw [ac_ct_t (ac_ua_t.mpr a), eq]
    · rw [ac_ct_f (ac_bf (fun z => a (ac_ua_t.mp z))), eq]
theorem ax_cu {post : Int32 → Prop} (hS : S ≤ 128) (h : post (nI (ac_ct (ac_ua ak) S))) : wpX_countUnacked post (ky, lf, th, tg, nw, st, sp, sg, (nI pr), (nI S), (nI L), (nI c), du, fo, sl, ab, up, lo, av, er, sn, an, ao, sr, un, rk, tx, rc, ak, nr, xp, lg, xa) :=
  ⟨S + 1, ax_cul hS h S 0 0 (by omega) rfl (S + 1) (by omega)⟩
theorem ax_chl {post : Int32 → Prop} (I : ac_Inv S sr un rc xp lg L) (hrk : ac_RK S sr un rk) (h : post (nI (ac_ct (ac_hl sr un rc lg L) S))) : ∀ (n id r : Nat), id + n = S → r = ac_ct (ac_hl sr un rc lg L) id → ∀ fu, n < fu → wX_countHeld_4 post ky lf th tg nw st sp sg (nI pr) (nI S) (nI L) (nI c) du fo sl ab up lo av er sn an ao sr un rk tx rc ak nr xp lg xa fu (nI r) (nI id) := by
  have hS := I.1
  intro n
  induction n with
  | zero =>
    intro id r hn eq fu hf
    obtain ⟨f, rfl⟩ : ∃ f, fu = f + 1 := ⟨fu - 1, by omega⟩
    obtain rfl : id = S := by omega
    subst eq
    exact br_t (nI_le (by omega) (by omega)) h
  | succ n ih =>
    intro id r hn eq fu hf
    obtain ⟨f, rfl⟩ : ∃ f, fu = f + 1 := ⟨fu - 1, by omega⟩
    have hid : id < S := by omega
    have hv : vp_in (nI id) 128 := vp_in_nI (by omega) (by omega)
    obtain ⟨s, hs, es, ec, ex⟩ := ac_xpe I hid
    have hsv : vp_in (sr id) 8 := by rw [es]; exact vp_in_nI hs (by omega)
    have bb := ac_bnd (t := sr id) I hid
    refine br_f (nI_ge (by omega) (by omega)) ⟨hv, ?_⟩
    rw [nI_clamp (show id < 2 ^ 31 by omega)]
    have no : ac_hl sr un rc lg L id = false → wX_countHeld_4 post ky lf th tg nw st sp sg (nI pr) (nI S) (nI L) (nI c) du fo sl ab up lo av er sn an ao sr un rk tx rc ak nr xp lg xa f (nI r) (nI (id + 1)) := fun z => ih (id + 1) r (by omega) (by rw [ac_ct_f z, eq]) f (by omega)
    refine br_c (fun a => nm_r (nI_1 id) (no (ac_bf (fun z => (ac_hl_t.mp z).1.1 a)))) (fun a => ⟨hv, br_c (fun b => ⟨hv, hv, hsv, ?_⟩) (fun b => nm_r (nI_1 id) (no (ac_bf (fun z => b (ac_hl_t.mp z).1.2))))⟩)
    rw [hrk id hid b, ec, ex, nI_ltI bb.1 bb.2]
    refine br_c (fun d => nm_r (nI_1 id) (no (ac_bf (fun z => ?_)))) (fun d => nm_r (nI_1 r) (nm_r (nI_1 id) (ih (id + 1) (r + 1) (by omega) ?_ f (by omega))))
    · have q := (ac_hl_t.mp z).2
      rw [(ac_dl_o b).mpr d] at q
      exact Bool.noConfusion q
    · rw [ac_ct_t (ac_hl_t.mpr ⟨⟨a, b⟩, ac_bf (fun z => d ((ac_dl_o b).mp z))⟩), eq]
theorem ax_chd {post : Int32 → Prop} (I : ac_Inv S sr un rc xp lg L) (hrk : ac_RK S sr un rk) (h : post (nI (ac_ct (ac_hl sr un rc lg L) S))) : wpX_countHeld post (ky, lf, th, tg, nw, st, sp, sg, (nI pr), (nI S), (nI L), (nI c), du, fo, sl, ab, up, lo, av, er, sn, an, ao, sr, un, rk, tx, rc, ak, nr, xp, lg, xa) :=
  ⟨S + 1, ax_chl I hrk h S 0 0 (by omega) rfl (S + 1) (by omega)⟩
theorem ay_cul {post : Int32 → Prop} (hS : S ≤ 128) (h : post (nI (ac_ct (ac_ua ak) S))) : ∀ (n id r : Nat), id + n = S → r = ac_ct (ac_ua ak) id → ∀ fu, n < fu → wY_counter_33 post 2 ky lf th tg st sp sg (nI pr) nw (nI S) (nI L) du fo sl ab ap up lo av er sn an ao sr un tx rc ak fa lg fu (nI r) (nI id) := by
  intro n
  induction n with
  | zero =>
    intro id r hn eq fu hf
    obtain ⟨f, rfl⟩ : ∃ f, fu = f + 1 := ⟨fu - 1, by omega⟩
    obtain rfl : id = S := by omega
    subst eq
    exact br_t (nI_le (by omega) (by omega)) h
  | succ n ih =>
    intro id r hn eq fu hf
    obtain ⟨f, rfl⟩ : ∃ f, fu = f + 1 := ⟨fu - 1, by omega⟩
    refine br_f (nI_ge (by omega) (by omega)) (br_f (ac_128 (by omega)) (br_t rfl ⟨vp_in_nI (by omega) (by omega), ?_⟩))
    rw [nI_clamp (show id < 2 ^ 31 by omega)]
    refine br_c (fun a => nm_r (nI_1 r) (br_f (by decide) (nm_r (nI_1 id) (ih (id + 1) (r + 1) (by omega) ?_ f (by omega))))) (fun a => br_f (by decide) (nm_r (nI_1 id) (ih (id + 1) r (by omega) ?_ f (by omega))))
    · rw [ac_ct_t (ac_ua_t.mpr a), eq]
    · rw [ac_ct_f (ac_bf (fun z => a (ac_ua_t.mp z))), eq]
theorem ay_chl {post : Int32 → Prop} (I : ac_Inv S sr un rc xp lg L) (h : post (nI (ac_ct (ac_hl sr un rc lg L) S))) : ∀ (n id r : Nat), id + n = S → r = ac_ct (ac_hl sr un rc lg L) id → ∀ fu, n < fu → wY_counter_33 post 4 ky lf th tg st sp sg (nI pr) nw (nI S) (nI L) du fo sl ab ap up lo av er sn an ao sr un tx rc ak fa lg fu (nI r) (nI id) := by
  have hS := I.1
  intro n
  induction n with
  | zero =>
    intro id r hn eq fu hf
    obtain ⟨f, rfl⟩ : ∃ f, fu = f + 1 := ⟨fu - 1, by omega⟩
    obtain rfl : id = S := by omega
    subst eq
    exact br_t (nI_le (by omega) (by omega)) h
  | succ n ih =>
    intro id r hn eq fu hf
    obtain ⟨f, rfl⟩ : ∃ f, fu = f + 1 := ⟨fu - 1, by omega⟩
    refine br_f (nI_ge (by omega) (by omega)) (br_f (ac_128 (by omega)) (br_f (by decide) (br_t rfl ?_)))
    refine ay_held I (by omega) (fun q => br_f (by decide) (nm_r (nI_1 r) (nm_r (nI_1 id) (ih (id + 1) (r + 1) (by omega) ?_ f (by omega))))) (fun q => br_t rfl (nm_r (nI_1 id) (ih (id + 1) r (by omega) ?_ f (by omega))))
    · rw [ac_ct_t q, eq]
    · rw [ac_ct_f q, eq]
theorem ac_w16 {x : Nat} (hS : S ≤ 128) (hx : x ≤ 128) : (nI S - 16 < nI x) ↔ S < x + 16 := by
  have e : nI S - 16 = nI S - nI 16 := rfl
  rw [e, Int32.lt_iff_toInt_lt, pk_sub_toInt (by omega) (by omega), nI_toInt (by omega)]
  omega
theorem ax_winl {post : Int32 → Prop} (hS : S ≤ 128) (h1 : (∃ j, j + 16 ≤ S ∧ ak j = 0) → post 1) (h0 : (¬ ∃ j, j + 16 ≤ S ∧ ak j = 0) → post 0) : ∀ (n x : Nat), x + n = S - 15 → (∀ k, k < x → ¬ ak k = 0) → ∀ fu, n < fu → wX_windowIsFull_2 post ky lf th tg nw st sp sg (nI pr) (nI S) (nI L) (nI c) du fo sl ab up lo av er sn an ao sr un rk tx rc ak nr xp lg xa fu (nI x) := by
  intro n
  induction n with
  | zero =>
    intro x hn hk fu hf
    obtain ⟨f, rfl⟩ : ∃ f, fu = f + 1 := ⟨fu - 1, by omega⟩
    refine br_t ((ac_w16 hS (by omega)).mpr (by omega)) (h0 (fun z => ?_))
    obtain ⟨j, hj, e⟩ := z
    exact hk j (by omega) e
  | succ n ih =>
    intro x hn hk fu hf
    obtain ⟨f, rfl⟩ : ∃ f, fu = f + 1 := ⟨fu - 1, by omega⟩
    have nb : ¬ nI S - 16 < nI x := fun z => by
      have := (ac_w16 hS (by omega)).mp z
      omega
    refine br_f nb ⟨vp_in_nI (by omega) (by omega), ?_⟩
    rw [nI_clamp (show x < 2 ^ 31 by omega)]
    refine br_c (fun a => h1 ⟨x, by omega, a⟩) (fun a => nm_r (nI_1 x) (ih (x + 1) (by omega) (fun k kx => ?_) f (by omega)))
    by_cases e : k = x
    · rw [e]; exact a
    · exact hk k (by omega)
theorem ax_win {post : Int32 → Prop} (hS : S ≤ 128) (h1 : (∃ j, j + 16 ≤ S ∧ ak j = 0) → post 1) (h0 : (¬ ∃ j, j + 16 ≤ S ∧ ak j = 0) → post 0) : wpX_windowIsFull post (ky, lf, th, tg, nw, st, sp, sg, (nI pr), (nI S), (nI L), (nI c), du, fo, sl, ab, up, lo, av, er, sn, an, ao, sr, un, rk, tx, rc, ak, nr, xp, lg, xa) :=
  ⟨S - 15 + 1, ax_winl hS h1 h0 (S - 15) 0 (by omega) (fun k kx => absurd kx (by omega)) (S - 15 + 1) (by omega)⟩
theorem ay_sendl {post : Int32 → SY → Prop} {x1 x2 : Int32} (hS : S < 128) (hx : vp_nar .boolean x2 = x2) (ht : tx S = 0) (hr : rc S = 0) (ha : ak S = 0) (h1 : (∃ j, j + 16 ≤ S ∧ ak j = 0) → post (-3) (ky, lf, th, tg, st, sp, sg, (nI pr), nw, (nI S), (nI L), du, fo, sl, ab, ap, up, lo, av, er, sn, an, ao, sr, un, tx, rc, ak, fa, lg)) (h0 : (¬ ∃ j, j + 16 ≤ S ∧ ak j = 0) → post (nI S) (ky, lf, th, tg, st, sp, sg, (nI pr), nw, (nI (S + 1)), (nI L), du, fo, sl, ab, ap, up, lo, av, er, sn, an, ao, (upd sr S x1), (upd un S x2), tx, rc, ak, fa, lg)) : ∀ (n x : Nat), x + n = S → (∀ k, k < x → k + 16 ≤ S → ¬ ak k = 0) → ∀ fu, n < fu → wY_send_27 post x1 x2 ky lf th tg st sp sg (nI pr) nw (nI S) (nI L) du fo sl ab ap up lo av er sn an ao sr un tx rc ak fa lg fu (nI x) := by
  intro n
  induction n with
  | zero =>
    intro x hn hk fu hf
    obtain ⟨f, rfl⟩ : ∃ f, fu = f + 1 := ⟨fu - 1, by omega⟩
    have v : vp_in (nI S) 128 := vp_in_nI hS (by omega)
    refine br_t (nI_le (by omega) (by omega)) ?_
    rw [nI_clamp (show S < 2 ^ 31 by omega)]
    refine ⟨v, nm_e ⟨v, nm_r (congrArg (upd un S) hx) ⟨v, nm_r (ac_same ht) ⟨v, nm_r (show upd rc S (vp_nar .boolean 0) = rc by rw [ac_vb0]; exact ac_same hr) ⟨v, nm_r (show upd ak S (vp_nar .boolean 0) = ak by rw [ac_vb0]; exact ac_same ha) (nm_r (nI_1 S) (h0 (fun z => ?_)))⟩⟩⟩⟩⟩
    obtain ⟨j, hj, e⟩ := z
    exact hk j (by omega) hj e
  | succ n ih =>
    intro x hn hk fu hf
    obtain ⟨f, rfl⟩ : ∃ f, fu = f + 1 := ⟨fu - 1, by omega⟩
    refine br_f (nI_ge (by omega) (by omega)) ⟨vp_in_nI (by omega) (by omega), ?_⟩
    rw [nI_clamp (show x < 2 ^ 31 by omega)]
    refine br_c (fun a => br_c (fun b => nm_r (nI_1 x) (ih (x + 1) (by omega) (fun k kx k16 => ?_) f (by omega))) (fun b => h1 ⟨x, ?_, a⟩)) (fun a => nm_r (nI_1 x) (ih (x + 1) (by omega) (fun k kx k16 => ?_) f (by omega)))
    · have := (ac_w16 (S := S) (by omega) (by omega)).mp b
      exact hk k (by omega) k16
    · have q : ¬ S < x + 16 := fun z => b ((ac_w16 (by omega) (by omega)).mpr z)
      omega
    · by_cases e : k = x
      · rw [e]; exact a
      · exact hk k (by omega) k16
theorem ac_od_snd {x b : Int32} {t : Int32} {n : Nat} (hn : n ≤ S) : ac_ct (ac_od (upd sr S x) (upd un S b) t) n = ac_ct (ac_od sr un t) n := by
  refine ac_ct_cg n (fun j hj => ?_)
  unfold ac_od
  rw [pk_un (show j ≠ S by omega), pk_un (show j ≠ S by omega)]
theorem ac_Fs {s : Nat} {b : Int32} {rk' nr' : ac_A} (F : ac_F S sr un rk nr (nw, st, sp, sg, pr, sl, ab, lo, av, er, tx, ak, rc, xp, lg, L, du) sn an ao sn2 an2 ao2 fa) (hS : S < 128) (hs : s < 8) (hrk : ∀ j, j < S → rk' j = rk j) (hrS : b = 0 → rk' S = nr s) (hy : b = 0 → nr' = upd nr s (nr s + 1)) (hn : ¬ b = 0 → nr' = nr) : ac_F (S + 1) (upd sr S (nI s)) (upd un S b) rk' nr' (nw, st, sp, sg, pr, sl, ab, lo, av, er, tx, ak, rc, xp, lg, L, du) sn an ao sn2 an2 ao2 fa := by
  obtain ⟨⟨g1, g2, g3, g4, g5, g6⟩, K, N, T, T2, fz⟩ := F
  refine ⟨⟨g1, g2, ⟨ac_snd g3.1 hS hs, g3.2⟩, g4, fun j hj => g5 j (by omega), fun j hj => g6 j (by omega)⟩, ?_, ?_, T, T2, fz⟩
  · intro j hj u
    by_cases e : j = S
    · subst e
      rw [pk_us] at u
      rw [hrS u, N s hs]
      unfold ac_rk
      rw [pk_us, ac_od_snd (Nat.le_refl j)]
    · rw [pk_un e] at u
      rw [hrk j (by omega), K j (by omega) u]
      unfold ac_rk
      rw [pk_un e, ac_od_snd (by omega)]
  · intro t ht
    by_cases z : b = 0
    · rw [hy z]
      by_cases e : t = s
      · rw [e, pk_us, N s hs, nI_1, ac_ct_t (ac_od_t.mpr ⟨pk_us, by rw [pk_us]; exact z⟩), ac_od_snd (Nat.le_refl S)]
      · rw [pk_un e, N t ht, ac_ct_f (ac_od_f.mpr (fun q => e (ac_inj (pk_us.symm.trans q.1) (by omega) (by omega)).symm)), ac_od_snd (Nat.le_refl S)]
    · rw [hn z, N t ht, ac_ct_f (ac_od_f.mpr (fun q => z (pk_us.symm.trans q.2))), ac_od_snd (Nat.le_refl S)]
theorem ac_128n {n : Nat} (h : ¬ n < 128) (hS : n ≤ 128) : ¬ nI n < 128 := nI_nlt (a := n) (b := 128) (by omega) (by omega)
end ARB
theorem i_vc_counter {k : Nat} {u : SX} {v : SY} (I : i_Rel k u v) (hk : k + 4 ≤ 2052) (v1 : Int32) : wpX_counter (fun r => wpY_counter (fun r' => r' = r ∧ i_Rel (k + 4) u v) v v1) u v1 := by
  obtain ⟨ky, lf, th, tg, fo, S, up, sr, un, rk, nr, ⟨nw, st, sp, sg, pr, sl, ab, lo, av, er, tx, ak, rc, xp, lg, L, du⟩, sn, an, ao, xa, c, sn2, an2, ao2, fa, ap, rfl, rfl, F⟩ := I
  have hI : ac_Inv S sr un rc xp lg L := F.1.2.2.1.1
  have hS := hI.1
  unfold ac_XS ac_YS
  dsimp only
  rcases pk_ix v1 (n := 9) (by omega) with h | h | ⟨j, hj, e⟩
  · exact br_t h (br_f (fun e => by rw [e] at h; exact absurd h (by decide)) (br_f (fun e => by rw [e] at h; exact absurd h (by decide)) (br_f (fun e => by rw [e] at h; exact absurd h (by decide)) (br_f (fun e => by rw [e] at h; exact absurd h (by decide)) (br_f (fun e => by rw [e] at h; exact absurd h (by decide)) (br_f (fun e => by rw [e] at h; exact absurd h (by decide)) (br_f (fun e => by rw [e] at h; exact absurd h (by decide)) (br_f (fun e => by rw [e] at h; exact absurd h (by decide)) (br_f (fun e => by rw [e] at h; exact absurd h (by decide)) (⟨rfl, ac_mk F⟩))))))))))
  · have hn : ¬ v1 < 0 := fun z => absurd (Int32.lt_of_lt_of_le z (Int32.le_trans (by decide) h)) Int32.lt_irrefl
    have h8 : 8 < v1 := Int32.lt_of_lt_of_le (by decide) h
    exact br_f hn (br_t h8 (br_f (fun e => by rw [e] at h; exact absurd h (by decide)) (br_f (fun e => by rw [e] at h; exact absurd h (by decide)) (br_f (fun e => by rw [e] at h; exact absurd h (by decide)) (br_f (fun e => by rw [e] at h; exact absurd h (by decide)) (br_f (fun e => by rw [e] at h; exact absurd h (by decide)) (br_f (fun e => by rw [e] at h; exact absurd h (by decide)) (br_f (fun e => by rw [e] at h; exact absurd h (by decide)) (br_f (fun e => by rw [e] at h; exact absurd h (by decide)) (br_f (fun e => by rw [e] at h; exact absurd h (by decide)) (⟨rfl, ac_mk F⟩)))))))))))
  · have e9 : j = 0 ∨ j = 1 ∨ j = 2 ∨ j = 3 ∨ j = 4 ∨ j = 5 ∨ j = 6 ∨ j = 7 ∨ j = 8 := by omega
    rcases e9 with q | q | q | q | q | q | q | q | q
    · rw [e, q]
      exact br_f (by decide) (br_f (by decide) (br_t rfl (br_t rfl ⟨rfl, ac_mk F⟩)))
    · rw [e, q]
      exact br_f (by decide) (br_f (by decide) (br_f (by decide) (br_t rfl (br_f (by decide) (br_t rfl ⟨rfl, ac_mk F⟩)))))
    · rw [e, q]
      exact br_f (by decide) (br_f (by decide) (br_f (by decide) (br_f (by decide) (br_t rfl (ax_cu hS (br_f (by decide) (br_f (by decide) (br_t rfl (⟨S + 1, ay_cul hS ⟨rfl, ac_mk F⟩ S 0 0 (by omega) rfl (S + 1) (by omega)⟩)))))))))
    · rw [e, q]
      exact br_f (by decide) (br_f (by decide) (br_f (by decide) (br_f (by decide) (br_f (by decide) (br_t rfl (br_f (by decide) (br_f (by decide) (br_f (by decide) (br_f (by decide) (br_t rfl ⟨rfl, ac_mk F⟩))))))))))
    · rw [e, q]
      exact br_f (by decide) (br_f (by decide) (br_f (by decide) (br_f (by decide) (br_f (by decide) (br_f (by decide) (br_t rfl (ax_chd hI F.2.1 (br_f (by decide) (br_f (by decide) (br_f (by decide) (br_t rfl (⟨S + 1, ay_chl hI ⟨rfl, ac_mk F⟩ S 0 0 (by omega) rfl (S + 1) (by omega)⟩))))))))))))
    · rw [e, q]
      exact br_f (by decide) (br_f (by decide) (br_f (by decide) (br_f (by decide) (br_f (by decide) (br_f (by decide) (br_f (by decide) (br_t rfl (br_f (by decide) (br_f (by decide) (br_f (by decide) (br_f (by decide) (br_f (by decide) (br_t rfl ⟨rfl, ac_mk F⟩)))))))))))))
    · rw [e, q]
      exact br_f (by decide) (br_f (by decide) (br_f (by decide) (br_f (by decide) (br_f (by decide) (br_f (by decide) (br_f (by decide) (br_f (by decide) (br_t rfl (br_f (by decide) (br_f (by decide) (br_f (by decide) (br_f (by decide) (br_f (by decide) (br_f (by decide) (br_t rfl ⟨rfl, ac_mk F⟩)))))))))))))))
    · rw [e, q]
      exact br_f (by decide) (br_f (by decide) (br_f (by decide) (br_f (by decide) (br_f (by decide) (br_f (by decide) (br_f (by decide) (br_f (by decide) (br_f (by decide) (br_t rfl (br_f (by decide) (br_f (by decide) (br_f (by decide) (br_f (by decide) (br_f (by decide) (br_f (by decide) (br_f (by decide) (br_t rfl ⟨rfl, ac_mk F⟩)))))))))))))))))
    · rw [e, q]
      exact br_f (by decide) (br_f (by decide) (br_f (by decide) (br_f (by decide) (br_f (by decide) (br_f (by decide) (br_f (by decide) (br_f (by decide) (br_f (by decide) (br_f (by decide) (br_t rfl (br_f (by decide) (br_f (by decide) (br_f (by decide) (br_f (by decide) (br_f (by decide) (br_f (by decide) (br_f (by decide) (br_f (by decide) (br_t rfl ⟨rfl, ac_mk F⟩)))))))))))))))))))
theorem i_vc_send {k : Nat} {u : SX} {v : SY} (I : i_Rel k u v) (hk : k + 4 ≤ 2052) (v1 : Int32) (v2 : Int32) : wpX_send (fun r u' => wpY_send (fun r' v' => r' = r ∧ i_Rel (k + 4) u' v') v v1 (lw_bz v2)) u v1 (lw_bz v2) := by
  obtain ⟨ky, lf, th, tg, fo, S, up, sr, un, rk, nr, ⟨nw, st, sp, sg, pr, sl, ab, lo, av, er, tx, ak, rc, xp, lg, L, du⟩, sn, an, ao, xa, c, sn2, an2, ao2, fa, ap, rfl, rfl, F⟩ := I
  have hI : ac_Inv S sr un rc xp lg L := F.1.2.2.1.1
  have hS := hI.1
  have g5 : ∀ j, S ≤ j → tx j = 0 := F.1.2.2.2.2.1
  have g6 : ∀ j, S ≤ j → ak j = 0 := F.1.2.2.2.2.2
  have vb : vp_nar .boolean (lw_bz v2) = lw_bz v2 := ac_vb (lw_bz_01 v2)
  unfold ac_XS ac_YS
  dsimp only
  rcases pk_ix v1 (n := 8) (by omega) with h | h | ⟨s, hs, e⟩
  · exact br_t h (br_t h ⟨rfl, ac_mk F⟩)
  · have hn : ¬ v1 < 0 := fun z => absurd (Int32.lt_of_lt_of_le z (Int32.le_trans (by decide) h)) Int32.lt_irrefl
    have h8 : ¬ v1 < 8 := fun z => absurd (Int32.lt_of_lt_of_le z h) Int32.lt_irrefl
    exact br_f hn (br_f h8 (br_f hn (br_f h8 ⟨rfl, ac_mk F⟩)))
  · rw [e]
    have hn : ¬ nI s < 0 := nI_pos (by omega)
    have h8 : nI s < 8 := nI_lt (b := 8) hs (by decide)
    have sv : vp_in (nI s) 8 := vp_in_nI hs (by omega)
    by_cases h128 : S < 128
    · have lt : nI S < 128 := ac_lt128 h128
      have Sv : vp_in (nI S) 128 := vp_in_nI h128 (by omega)
      have cS : (nI S).toNatClampNeg = S := nI_clamp (by omega)
      have cs : (nI s).toNatClampNeg = s := nI_clamp (by omega)
      refine br_f hn (br_t h8 (br_t lt (ax_win hS (fun full => br_f (by decide) ?_) (fun nf => br_t rfl ?_))))
      · exact br_f hn (br_t h8 (br_t lt ⟨S + 1, ay_sendl h128 vb (g5 S (Nat.le_refl S)) (hI.2.2.1 S (Nat.le_refl S)) (g6 S (Nat.le_refl S)) (fun _ => ⟨rfl, ac_mk F⟩) (fun nf => absurd full nf) S 0 (by omega) (fun k kx => absurd kx (by omega)) (S + 1) (by omega)⟩))
      · rw [cS, cs]
        refine ⟨Sv, nm_e ⟨Sv, nm_r (congrArg (upd un S) vb) (br_c (fun b => ⟨sv, Sv, nm_e ⟨sv, sv, nm_e (nm_r (nI_1 S) ?_)⟩⟩) (fun b => nm_r (nI_1 S) ?_))⟩⟩
        · refine br_f hn (br_t h8 (br_t lt ⟨S + 1, ay_sendl h128 vb (g5 S (Nat.le_refl S)) (hI.2.2.1 S (Nat.le_refl S)) (g6 S (Nat.le_refl S)) (fun full => absurd full nf) (fun _ => ⟨rfl, ac_mk ?_⟩) S 0 (by omega) (fun k kx => absurd kx (by omega)) (S + 1) (by omega)⟩))
          exact ac_Fs F h128 hs (fun j hj => pk_un (by omega)) (fun _ => pk_us) (fun _ => rfl) (fun z => absurd b z)
        · refine br_f hn (br_t h8 (br_t lt ⟨S + 1, ay_sendl h128 vb (g5 S (Nat.le_refl S)) (hI.2.2.1 S (Nat.le_refl S)) (g6 S (Nat.le_refl S)) (fun full => absurd full nf) (fun _ => ⟨rfl, ac_mk ?_⟩) S 0 (by omega) (fun k kx => absurd kx (by omega)) (S + 1) (by omega)⟩))
          exact ac_Fs F h128 hs (fun j hj => rfl) (fun z => absurd z b) (fun z => absurd z b) (fun _ => rfl)
    · have nl : ¬ nI S < 128 := fun z => ac_128n h128 hS z
      exact br_f hn (br_t h8 (br_f nl (br_f hn (br_t h8 (br_f nl ⟨rfl, ac_mk F⟩)))))
