/-! L: the component's walks: the data exchange -/
section AXB
variable {ky lf th tg nw st sp sg du fo sl ab : Int32} {pr S L c : Nat} {up lo av er sn an ao sr un rk tx rc ak nr xp lg xa fa : ac_A}
theorem ax_tr {post : St2 → Prop} {id p : Nat} (hi : id < 128) (hp : p < 2) (hz : ac_FZ id fa) (hx : ac_XL id fa xa c) (h : ∀ xa' c', ac_XL (id + 1) (ac_t1 up p id (tx, sn, lo, ao, fa)).2.2.2.2 xa' c' → post (ky, lf, th, tg, nw, st, sp, sg, (nI pr), (nI S), (nI L), (nI c'), du, fo, sl, ab, up, ((ac_t1 up p id (tx, sn, lo, ao, fa)).2.2.1), av, er, ((ac_t1 up p id (tx, sn, lo, ao, fa)).2.1), an, ((ac_t1 up p id (tx, sn, lo, ao, fa)).2.2.2.1), sr, un, rk, ((ac_t1 up p id (tx, sn, lo, ao, fa)).1), rc, ak, nr, xp, lg, xa')) : wpX_transmit post (ky, lf, th, tg, nw, st, sp, sg, (nI pr), (nI S), (nI L), (nI c), du, fo, sl, ab, up, lo, av, er, sn, an, ao, sr, un, rk, tx, rc, ak, nr, xp, lg, xa) (nI id) (nI p) := by
  have hv := ac_p2v hp
  have hi' : vp_in (nI id) 128 := vp_in_nI hi (by omega)
  have hc : c < 128 := by
    have := hx.1
    have := ac_ct_le (ac_fl fa) id
    omega
  have hcv : vp_in (nI c) 128 := vp_in_nI hc (by omega)
  unfold wpX_transmit
  simp only [ac_p2c hp, nI_clamp (show id < 2 ^ 31 by omega), nI_clamp (show c < 2 ^ 31 by omega), ac_vb1, forall_eq, nI_1]
  refine ⟨hi', hi', hv, hv, br_c (fun h1 => ?_) (fun h1 => ⟨hv, br_c (fun h2 => ⟨hv, hcv, ?_⟩) (fun h2 => ⟨hv, hv, ?_⟩)⟩)⟩
  · simp only [ac_t1, if_pos h1] at h
    exact h xa c (ac_XL_skip hz hx)
  · simp only [ac_t1, if_neg h1, if_pos h2] at h
    exact h _ _ (ac_XL_put hx)
  · simp only [ac_t1, if_neg h1, if_neg h2] at h
    exact h xa c (ac_XL_skip hz hx)
theorem ax_tu {post : St2 → Prop} {r : Nat} (hS : S ≤ 128) (hp : pr < 2) (hr : r < 2) : ∀ (n id : Nat) (tx sn lo ao fa xa : ac_A) (c : Nat), id + n = S → ac_FZ id fa → ac_XL id fa xa c → ∀ fu, n < fu → (∀ xa' c', ac_XL S (ac_tm ak up pr r n id (tx, sn, lo, ao, fa)).2.2.2.2 xa' c' → post (ky, lf, th, tg, nw, st, sp, sg, (nI pr), (nI S), (nI L), (nI c'), du, fo, sl, ab, up, ((ac_tm ak up pr r n id (tx, sn, lo, ao, fa)).2.2.1), av, er, ((ac_tm ak up pr r n id (tx, sn, lo, ao, fa)).2.1), an, ((ac_tm ak up pr r n id (tx, sn, lo, ao, fa)).2.2.2.1), sr, un, rk, ((ac_tm ak up pr r n id (tx, sn, lo, ao, fa)).1), rc, ak, nr, xp, lg, xa')) → wX_transmitUnacked_27 post (nI r) fu (nI id) ky lf th tg nw st sp sg (nI pr) (nI S) (nI L) (nI c) du fo sl ab up lo av er sn an ao sr un rk tx rc ak nr xp lg xa := by
  intro n
  induction n with
  | zero =>
    intro id tx sn lo ao fa xa c hn hz hx fu hf h
    obtain ⟨f, rfl⟩ : ∃ f, fu = f + 1 := ⟨fu - 1, by omega⟩
    exact br_t (nI_le (by omega) (by omega)) (h xa c (by rw [← hn]; exact hx))
  | succ n ih =>
    intro id tx sn lo ao fa xa c hn hz hx fu hf h
    obtain ⟨f, rfl⟩ : ∃ f, fu = f + 1 := ⟨fu - 1, by omega⟩
    have hi : id < 128 := by omega
    have hi' : vp_in (nI id) 128 := vp_in_nI hi (by omega)
    have e1 : (nI id).toNatClampNeg = id := nI_clamp (by omega)
    refine br_f (nI_ge (by omega) (by omega)) ⟨hi', ?_⟩
    rw [e1]
    refine br_c (fun a => ⟨hi', ?_⟩) (fun a => ?_)
    · rw [ac_tm_y a] at h
      have key : ∀ z : Int32, z = nI (ac_tp pr r (tx id)) → wX_transmitUnacked_63 post (wX_transmitUnacked_27 post (nI r) f) (nI r) (nI id) z (nI id) ky lf th tg nw st sp sg (nI pr) (nI S) (nI L) (nI c) du fo sl ab up lo av er sn an ao sr un rk tx rc ak nr xp lg xa := by
        intro z ez
        rw [ez]
        unfold wX_transmitUnacked_63
        refine ax_tr (fa := fa) hi (ac_tp_2 hp hr) hz hx (fun xa' c' hx' => ?_)
        dsimp only
        refine nm_r (nI_1 id) ?_
        exact ih (id + 1) _ _ _ _ _ xa' c' (by omega) (ac_t1_FZ (q := (tx, sn, lo, ao, fa)) hz) hx' f (by omega) h
      exact br_c (fun t => key _ (by rw [ac_tp, if_pos t])) (fun t => key _ (by rw [ac_tp, if_neg t]))
    · rw [ac_tm_n a] at h
      exact nm_r (nI_1 id) (ih (id + 1) tx sn lo ao fa xa c (by omega) (ac_FZ_skip hz) (ac_XL_skip hz hx) f (by omega) h)
theorem ax_tua {post : St2 → Prop} (hS : S ≤ 128) (hp : pr < 2) (h : ∀ xa' c', ac_XL S (ac_T S up av pr lo tx ak).2.2.2.2 xa' c' → post (ky, lf, th, tg, nw, st, sp, sg, (nI pr), (nI S), (nI L), (nI c'), du, fo, sl, ab, up, ((ac_T S up av pr lo tx ak).2.2.1), av, er, ((ac_T S up av pr lo tx ak).2.1), an, ((ac_T S up av pr lo tx ak).2.2.2.1), sr, un, rk, ((ac_T S up av pr lo tx ak).1), rc, ak, nr, xp, lg, xa')) : wpX_transmitUnacked post (ky, lf, th, tg, nw, st, sp, sg, (nI pr), (nI S), (nI L), (nI 0), du, fo, sl, ab, up, lo, av, er, (fun _ => 0), an, (fun _ => 0), sr, un, rk, tx, rc, ak, nr, xp, lg, xa) := by
  have hq : 1 - pr < 2 := by omega
  have z0 : ac_FZ 0 (fun _ => 0) := fun _ _ => rfl
  have x0 : ac_XL 0 (fun _ => 0) xa 0 := ⟨rfl, fun j hj => absurd hj (by omega)⟩
  unfold ac_T at h
  refine nm_r (ac_alt hp) ⟨ac_p2v hq, ?_⟩
  rw [ac_p2c hq]
  refine br_c (fun a => ?_) (fun a => ?_)
  · rw [ac_rt, if_pos a] at h
    exact ⟨S + 1, ax_tu hS hp hp S 0 tx (fun _ => 0) lo (fun _ => 0) (fun _ => 0) xa 0 (by omega) z0 x0 (S + 1) (by omega) h⟩
  · rw [ac_rt, if_neg a] at h
    exact ⟨S + 1, ax_tu hS hp hq S 0 tx (fun _ => 0) lo (fun _ => 0) (fun _ => 0) xa 0 (by omega) z0 x0 (S + 1) (by omega) h⟩
theorem ax_app {post : St2 → Prop} {m : Nat} (hL : L < 128) (h : post (ky, lf, th, tg, nw, st, sp, sg, (nI pr), (nI S), (nI (L + 1)), (nI c), du, fo, sl, ab, up, lo, av, er, sn, an, ao, sr, un, rk, tx, rc, ak, nr, xp, (upd lg L (nI m)), xa)) : wpX_appendToLog post (ky, lf, th, tg, nw, st, sp, sg, (nI pr), (nI S), (nI L), (nI c), du, fo, sl, ab, up, lo, av, er, sn, an, ao, sr, un, rk, tx, rc, ak, nr, xp, lg, xa) (nI m) := by
  unfold wpX_appendToLog
  simp only [nI_clamp (show L < 2 ^ 31 by omega), forall_eq, nI_1]
  exact ⟨vp_in_nI hL (by omega), h⟩
theorem ax_dio {post : St2 → Prop} {s : Nat} (hs : s < 8) : ∀ (n id : Nat) (xp lg : ac_A) (L : Nat), id + n = S → ac_Inv S sr un rc xp lg L → ac_lc sr un lg (nI s) L = ac_ct (ac_od sr un (nI s)) id → ∀ fu, n < fu → post (ky, lf, th, tg, nw, st, sp, sg, (nI pr), (nI S), (nI (ac_dv sr un rc s n id (xp, lg, L)).2.2), (nI c), du, fo, sl, ab, up, lo, av, er, sn, an, ao, sr, un, rk, tx, rc, ak, nr, ((ac_dv sr un rc s n id (xp, lg, L)).1), ((ac_dv sr un rc s n id (xp, lg, L)).2.1), xa) → wX_deliverInOrder_9 post (nI s) fu (nI id) ky lf th tg nw st sp sg (nI pr) (nI S) (nI L) (nI c) du fo sl ab up lo av er sn an ao sr un rk tx rc ak nr xp lg xa := by
  intro n
  induction n with
  | zero =>
    intro id xp lg L hn I e fu hf h
    have := I.1
    obtain ⟨f, rfl⟩ : ∃ f, fu = f + 1 := ⟨fu - 1, by omega⟩
    exact br_t (nI_le (by omega) (by omega)) h
  | succ n ih =>
    intro id xp lg L hn I e fu hf h
    have hS := I.1
    obtain ⟨f, rfl⟩ : ∃ f, fu = f + 1 := ⟨fu - 1, by omega⟩
    have hi' : vp_in (nI id) 128 := vp_in_nI (by omega) (by omega)
    have e1 : (nI id).toNatClampNeg = id := nI_clamp (by omega)
    refine br_f (nI_ge (by omega) (by omega)) ⟨hi', ?_⟩
    rw [e1]
    rw [ac_dv_s] at h
    refine br_c (fun a => ⟨hi', br_c (fun b => ⟨hi', br_c (fun r => ?_) (fun r => ?_)⟩) (fun b => ?_)⟩) (fun a => ?_)
    · rw [if_pos (ac_od_t.mpr ⟨a, b⟩), if_pos r] at h
      exact h
    · have o := ac_od_t.mpr ⟨a, b⟩
      rw [if_pos o, if_neg r] at h
      have d := (ac_hl_t.mp (ac_fh_yes o r e).1.2.1).2
      have hL := ac_L_lt I (show id < S by omega) d
      have w := ac_dv_step hs I (by omega) o r e
      have hsv : vp_in (nI s) 8 := vp_in_nI hs (by omega)
      refine ax_app (by omega) ?_
      dsimp only
      refine ⟨hsv, hsv, nm_r (by rw [nI_clamp (show s < 2 ^ 31 by omega)]) (nm_r (nI_1 id) ?_)⟩
      exact ih (id + 1) _ _ _ (by omega) w.1 w.2 f (by omega) h
    · have o : ¬ ac_od sr un (nI s) id = true := fun z => b (ac_od_t.mp z).2
      rw [if_neg o] at h
      exact nm_r (nI_1 id) (ih (id + 1) xp lg L (by omega) I (by rw [e, ac_ct_f (ac_bf o)]) f (by omega) h)
    · have o : ¬ ac_od sr un (nI s) id = true := fun z => a (ac_od_t.mp z).1
      rw [if_neg o] at h
      exact nm_r (nI_1 id) (ih (id + 1) xp lg L (by omega) I (by rw [e, ac_ct_f (ac_bf o)]) f (by omega) h)
/-- the ranks that send wrote -/
def ac_RK (S : Nat) (sr un rk : ac_A) : Prop := ∀ j, j < S → un j = 0 → rk j = nI (ac_rk sr un j)
theorem ac_xpe {j : Nat} (I : ac_Inv S sr un rc xp lg L) (hj : j < S) : ∃ s, s < 8 ∧ sr j = nI s ∧ (sr j).toNatClampNeg = s ∧ xp s = nI (ac_lc sr un lg (sr j) L) := by
  obtain ⟨s, hs, es⟩ := I.2.1 j hj
  exact ⟨s, hs, es, by rw [es]; exact nI_clamp (by omega), by rw [es]; exact I.2.2.2.2.2.2.2.1 s hs⟩
theorem ac_bnd {j : Nat} {t : Int32} (I : ac_Inv S sr un rc xp lg L) (hj : j < S) : ac_rk sr un j < 2 ^ 31 ∧ ac_lc sr un lg t L < 2 ^ 31 := by
  have h1 : ac_rk sr un j ≤ j := ac_ct_le _ _
  have h2 : ac_lc sr un lg t L ≤ L := ac_ct_le _ _
  have := ac_Inv_L I
  have := I.1
  omega
theorem ax_pc {post : St2 → Prop} {m : Nat} (hm : m < S) (I : ac_PI S sr un (rc, xp, lg, L, du)) (hrk : ac_RK S sr un rk) (h : post (ky, lf, th, tg, nw, st, sp, sg, (nI pr), (nI S), (nI (ac_pc S sr un m (rc, xp, lg, L, du)).2.2.2.1), (nI c), ((ac_pc S sr un m (rc, xp, lg, L, du)).2.2.2.2), fo, sl, ab, up, lo, av, er, sn, an, ao, sr, un, rk, tx, ((ac_pc S sr un m (rc, xp, lg, L, du)).1), ak, nr, ((ac_pc S sr un m (rc, xp, lg, L, du)).2.1), ((ac_pc S sr un m (rc, xp, lg, L, du)).2.2.1), xa)) : wpX_processChunk post (ky, lf, th, tg, nw, st, sp, sg, (nI pr), (nI S), (nI L), (nI c), du, fo, sl, ab, up, lo, av, er, sn, an, ao, sr, un, rk, tx, rc, ak, nr, xp, lg, xa) (nI m) := by
  have J : ac_Inv S sr un rc xp lg L := I.1
  have hS := J.1
  have hm' : vp_in (nI m) 128 := vp_in_nI (by omega) (by omega)
  have e1 : (nI m).toNatClampNeg = m := nI_clamp (by omega)
  obtain ⟨s, hs, es, ec, ex⟩ := ac_xpe J hm
  have hsv : vp_in (sr m) 8 := by rw [es]; exact vp_in_nI hs (by omega)
  have bb := ac_bnd (t := sr m) J hm
  unfold wpX_processChunk
  simp only [e1, ac_vb1, forall_eq]
  refine ⟨hm', br_c (fun a => ⟨hm', hm', br_c (fun b => ⟨hm', hm', hsv, br_c (fun d => ?_) (fun d => ?_)⟩) (fun b => ?_)⟩) (fun a => ?_)⟩
  · have e : ac_rk sr un m = ac_lc sr un lg (sr m) L := by
      rw [hrk m hm b, ec, ex] at d
      exact ac_inj d bb.1 bb.2
    simp only [ac_pc, if_pos a, if_pos b, if_pos e, ec] at h
    unfold wpX_deliverInOrder
    refine ⟨hm', nm_r (show sr (nI m).toNatClampNeg = nI s by rw [e1]; exact es) ⟨S - m + 1, ?_⟩⟩
    refine ax_dio hs (S - m) m xp lg L (by omega) (ac_rcv J hm b) ?_ (S - m + 1) (by omega) h
    rw [es] at e
    rw [← e]
    unfold ac_rk
    rw [es]
  · have e : ¬ ac_rk sr un m = ac_lc sr un lg (sr m) L := by
      intro e
      apply d
      rw [hrk m hm b, ec, ex, e]
    simp only [ac_pc, if_pos a, if_pos b, if_neg e] at h
    exact h
  · simp only [ac_pc, if_pos a, if_neg b] at h
    have := ac_L_lt J hm (ac_bf (fun z => (ac_dl_u b).mp z a))
    exact ax_app (by omega) h
  · simp only [ac_pc, if_neg a] at h
    exact h
theorem ax_pa {post : St2 → Prop} {rv dp : Int32} (hx : ac_XL S fa xa c) (hrk : ac_RK S sr un rk) : ∀ (n t : Nat) (rc xp lg : ac_A) (L : Nat) (du : Int32), t + n = S → ac_PI S sr un (rc, xp, lg, L, du) → ∀ fu, n < fu → post (ky, lf, th, tg, nw, st, sp, sg, (nI pr), (nI S), (nI (ac_pp S sr un fa rv dp n t (rc, xp, lg, L, du)).2.2.2.1), (nI c), ((ac_pp S sr un fa rv dp n t (rc, xp, lg, L, du)).2.2.2.2), fo, sl, ab, up, lo, av, er, sn, an, ao, sr, un, rk, tx, ((ac_pp S sr un fa rv dp n t (rc, xp, lg, L, du)).1), ak, nr, ((ac_pp S sr un fa rv dp n t (rc, xp, lg, L, du)).2.1), ((ac_pp S sr un fa rv dp n t (rc, xp, lg, L, du)).2.2.1), xa) → wX_processArrived_27 post rv dp fu (nI (ac_pl S fa rv t)) ky lf th tg nw st sp sg (nI pr) (nI S) (nI L) (nI c) du fo sl ab up lo av er sn an ao sr un rk tx rc ak nr xp lg xa := by
  have hcS : c ≤ S := by
    have := hx.1
    have := ac_ct_le (ac_fl fa) S
    omega
  intro n
  induction n with
  | zero =>
    intro t rc xp lg L du hn I fu hf h
    have hS := I.1.1
    obtain ⟨f, rfl⟩ : ∃ f, fu = f + 1 := ⟨fu - 1, by omega⟩
    obtain rfl : t = S := by omega
    rw [ac_pl_S, ← hx.1]
    exact br_t (nI_le (Nat.le_refl c) (by omega)) h
  | succ n ih =>
    intro t rc xp lg L du hn I fu hf h
    have hS := I.1.1
    rw [ac_pp_s] at h
    by_cases hit : fa (ac_ix S rv t) = 0
    · rw [if_pos hit] at h
      have w := ih (t + 1) rc xp lg L du (by omega) I fu (by omega) h
      rw [ac_pl_no (by omega) hit] at w
      exact w
    · rw [if_neg hit] at h
      obtain ⟨p1, p2, p3⟩ := ac_pl_hit (rev := rv) (show t < S by omega) hit
      rw [← hx.1] at p2 p3
      have hix : ac_ix S rv t < S := ac_ix_lt (by omega)
      obtain ⟨f, rfl⟩ : ∃ f, fu = f + 1 := ⟨fu - 1, by omega⟩
      have key : ∀ z : Int32, z = nI (ac_px c rv (ac_pl S fa rv t)) → wX_processArrived_58 post (wX_processArrived_27 post rv dp f) rv dp (nI (ac_pl S fa rv t)) z ky lf th tg nw st sp sg (nI pr) (nI S) (nI L) (nI c) du fo sl ab up lo av er sn an ao sr un rk tx rc ak nr xp lg xa := by
        intro z ez
        rw [ez, p3]
        have hb : ac_ct (ac_fl fa) (ac_ix S rv t) < 128 := by
          have := ac_ct_le (ac_fl fa) (ac_ix S rv t)
          omega
        unfold wX_processArrived_58
        refine ⟨vp_in_nI hb (by omega), nm_r (show xa (nI (ac_ct (ac_fl fa) (ac_ix S rv t))).toNatClampNeg = nI (ac_ix S rv t) by rw [nI_clamp (by omega)]; exact hx.2 _ hix hit) ?_⟩
        refine ax_pc hix I hrk ?_
        dsimp only
        refine br_c (fun d => nm_r (nI_1 _) ?_) (fun d => ?_)
        · rw [ac_p2, if_pos d] at h
          have w := ih (t + 1) _ _ _ _ _ (by omega) (ac_pc_inv hix I) f (by omega) h
          rw [p1] at w
          exact w
        · rw [ac_p2, if_neg d] at h
          refine ax_pc hix (ac_pc_inv hix I) hrk ?_
          dsimp only
          refine nm_r (nI_1 _) ?_
          have w := ih (t + 1) _ _ _ _ _ (by omega) (ac_pc_inv hix (ac_pc_inv hix I)) f (by omega) h
          rw [p1] at w
          exact w
      refine br_f (nI_ge p2 (by omega)) (br_c (fun d => key _ (by rw [ac_px, if_pos d])) (fun d => key _ ?_))
      rw [ac_px, if_neg d, show nI c - 1 = nI (c - 1) from pk_sub (a := c) (b := 1) (by omega), pk_sub (by omega)]
theorem ax_paa {post : St2 → Prop} {m : Int32} (hx : ac_XL S fa xa c) (hrk : ac_RK S sr un rk) (I : ac_PI S sr un (rc, xp, lg, L, du)) (h : ∀ rv dp : Int32, rv = (if m &&& 1 = 0 then 0 else 1) → dp = (if m &&& 2 = 0 then 0 else 1) → post (ky, lf, th, tg, nw, st, sp, sg, (nI pr), (nI S), (nI (ac_P S sr un fa rv dp (rc, xp, lg, L, du)).2.2.2.1), (nI c), ((ac_P S sr un fa rv dp (rc, xp, lg, L, du)).2.2.2.2), fo, sl, ab, up, lo, av, er, sn, an, ao, sr, un, rk, tx, ((ac_P S sr un fa rv dp (rc, xp, lg, L, du)).1), ak, nr, ((ac_P S sr un fa rv dp (rc, xp, lg, L, du)).2.1), ((ac_P S sr un fa rv dp (rc, xp, lg, L, du)).2.2.1), xa)) : wpX_processArrived post (ky, lf, th, tg, nw, st, sp, sg, (nI pr), (nI S), (nI L), (nI c), du, fo, sl, ab, up, lo, av, er, sn, an, ao, sr, un, rk, tx, rc, ak, nr, xp, lg, xa) m := by
  have key : ∀ rv dp : Int32, rv = (if m &&& 1 = 0 then 0 else 1) → dp = (if m &&& 2 = 0 then 0 else 1) → ∃ n, wX_processArrived_27 post rv dp n 0 ky lf th tg nw st sp sg (nI pr) (nI S) (nI L) (nI c) du fo sl ab up lo av er sn an ao sr un rk tx rc ak nr xp lg xa := by
    intro rv dp e1 e2
    have w := ax_pa (post := post) (rv := rv) (dp := dp) hx hrk S 0 rc xp lg L du (by omega) I (S + 1) (by omega) (h rv dp e1 e2)
    rw [ac_pl_0] at w
    exact ⟨S + 1, w⟩
  refine br_c (fun a => br_c (fun b => ?_) (fun b => ?_)) (fun a => br_c (fun b => ?_) (fun b => ?_))
  · exact key 0 0 (by rw [if_pos a]) (by rw [if_pos b])
  · exact key 0 1 (by rw [if_pos a]) (by rw [if_neg b])
  · exact key 1 0 (by rw [if_neg a]) (by rw [if_pos b])
  · exact key 1 1 (by rw [if_neg a]) (by rw [if_neg b])
theorem ax_ak {post : St2 → Prop} (hS : S ≤ 128) : ∀ (n id : Nat) (ak : ac_A), id + n = S → ∀ fu, n < fu → post (ky, lf, th, tg, nw, st, sp, sg, (nI pr), (nI S), (nI L), (nI c), du, fo, sl, ab, up, lo, av, er, sn, an, ao, sr, un, rk, tx, rc, (ac_ack rc n id ak), nr, xp, lg, xa) → wX_acknowledge_31 post ky lf th tg nw st sp sg (nI pr) (nI S) (nI L) (nI c) du fo sl ab fu (nI id) up lo av er sn an ao sr un rk tx rc ak nr xp lg xa := by
  intro n
  induction n with
  | zero =>
    intro id ak hn fu hf h
    obtain ⟨f, rfl⟩ : ∃ f, fu = f + 1 := ⟨fu - 1, by omega⟩
    exact br_t (nI_le (by omega) (by omega)) h
  | succ n ih =>
    intro id ak hn fu hf h
    obtain ⟨f, rfl⟩ : ∃ f, fu = f + 1 := ⟨fu - 1, by omega⟩
    have hi' : vp_in (nI id) 128 := vp_in_nI (by omega) (by omega)
    have e1 : (nI id).toNatClampNeg = id := nI_clamp (by omega)
    rw [ac_ack_s] at h
    refine br_f (nI_ge (by omega) (by omega)) ⟨hi', ?_⟩
    rw [e1]
    refine br_c (fun a => ?_) (fun a => ⟨hi', ?_⟩)
    · rw [if_pos a] at h
      exact nm_r (nI_1 id) (ih (id + 1) ak (by omega) f (by omega) h)
    · rw [if_neg a] at h
      exact nm_e (nm_r (nI_1 id) (ih (id + 1) _ (by omega) f (by omega) h))
theorem ax_ak_b {post : St2 → Prop} {n p : Nat} (hp : p < 2) (h : wX_acknowledge_2 post ky lf th tg nw st sp sg (nI pr) (nI S) (nI L) (nI c) du fo sl ab n (nI (p + 1)) up lo av er sn (if ao p = 0 then an else upd an p 1) ao sr un rk tx rc ak nr xp lg xa) : wX_acknowledge_2 post ky lf th tg nw st sp sg (nI pr) (nI S) (nI L) (nI c) du fo sl ab (n + 1) (nI p) up lo av er sn an ao sr un rk tx rc ak nr xp lg xa := by
  have hv := ac_p2v hp
  simp only [wX_acknowledge_2, ac_p2c hp, ac_vb1, forall_eq, nI_1]
  refine br_f (ac_p2n hp) ⟨hv, br_c (fun h1 => ?_) (fun h1 => ⟨hv, ?_⟩)⟩
  · rw [if_pos h1] at h
    exact h
  · rw [if_neg h1] at h
    exact h
theorem ax_ack {post : St2 → Prop} (hS : S ≤ 128) (h : post (ky, lf, th, tg, nw, st, sp, sg, (nI pr), (nI S), (nI L), (nI c), du, fo, sl, ab, up, lo, av, er, sn, (ac_an ao an), ao, sr, un, rk, tx, rc, (ac_ack rc S 0 ak), nr, xp, lg, xa)) : wpX_acknowledge post (ky, lf, th, tg, nw, st, sp, sg, (nI pr), (nI S), (nI L), (nI c), du, fo, sl, ab, up, lo, av, er, sn, an, ao, sr, un, rk, tx, rc, ak, nr, xp, lg, xa) := by
  refine ⟨3, ax_ak_b (p := 0) (by omega) (ax_ak_b (p := 1) (by omega) (br_t (by decide) ⟨S + 1, ax_ak hS S 0 ak (by omega) (S + 1) (by omega) ?_⟩))⟩
  have e : ac_an ao an = if ao 1 = 0 then (if ao 0 = 0 then an else upd an 0 1) else upd (if ao 0 = 0 then an else upd an 0 1) 1 1 := rfl
  rw [e] at h
  exact h
end AXB
