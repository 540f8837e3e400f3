/-! K: the component's walks: what keeps to the two paths -/
section AXA
variable {ky lf th tg nw st sp sg du fo sl ab : Int32} {pr S L c : Nat} {up lo av er sn an ao sr un rk tx rc ak nr xp lg xa : ac_A}
def ac_cl (v a b : Int32) : Int32 := if a ≤ v then (if v ≤ b then v else b) else a
theorem ax_clamp {post : Int32 → Prop} {v a b : Int32} (h : post (ac_cl v a b)) : wpX_clamp post () v a b := by
  unfold ac_cl at h
  refine br_c (fun h1 => ?_) (fun h1 => ?_)
  · rw [if_pos h1] at h
    exact br_c (fun h2 => by rw [if_pos h2] at h; exact h) (fun h2 => by rw [if_neg h2] at h; exact h)
  · rw [if_neg h1] at h
    exact h
theorem ac_alt (h : pr < 2) : 1 - nI pr = nI (1 - pr) := pk_sub (a := 1) (b := pr) (by omega)
theorem ac_p2v {p : Nat} (h : p < 2) : vp_in (nI p) 2 := vp_in_nI h (by omega)
theorem ac_p2c {p : Nat} (h : p < 2) : (nI p).toNatClampNeg = p := nI_clamp (by omega)
theorem ac_p2n {p : Nat} (h : p < 2) : ¬ (2 : Int32) ≤ nI p := nI_ge (b := 2) h (by decide)
theorem ax_start_b {post : St2 → Prop} {n p : Nat} (hp : p < 2) (h : wX_startRound_17 post ky lf th tg nw st sp sg (nI pr) (nI S) (nI L) (nI c) du fo sl ab n (nI (p + 1)) up lo av er (upd sn p 0) (upd an p 0) (upd ao p 0) sr un rk tx rc ak nr xp lg xa) : wX_startRound_17 post ky lf th tg nw st sp sg (nI pr) (nI S) (nI L) (nI c) du fo sl ab (n + 1) (nI p) up lo av er sn an ao sr un rk tx rc ak nr xp lg xa := by
  simp only [wX_startRound_17, ac_p2c hp, ac_vb0, forall_eq, nI_1]
  exact br_f (ac_p2n hp) ⟨ac_p2v hp, ac_p2v hp, ac_p2v hp, h⟩
theorem ax_start {post : St2 → Prop} (hs : ac_TZ sn) (ha : ac_TZ an) (ho : ac_TZ ao) (h : post (ky, lf, th, tg, (nw + 1), st, sp, sg, (nI pr), (nI S), (nI L), (nI 0), du, fo, sl, ab, up, lo, av, er, (fun _ => 0), (fun _ => 0), (fun _ => 0), sr, un, rk, tx, rc, ak, nr, xp, lg, xa)) : wpX_startRound post (ky, lf, th, tg, nw, st, sp, sg, (nI pr), (nI S), (nI L), (nI c), du, fo, sl, ab, up, lo, av, er, sn, an, ao, sr, un, rk, tx, rc, ak, nr, xp, lg, xa) := by
  refine nm_e ⟨3, ax_start_b (p := 0) (c := 0) (by omega) (ax_start_b (p := 1) (c := 0) (by omega) (br_t (by decide) ?_))⟩
  rw [ac_TZ_clr hs, ac_TZ_clr ha, ac_TZ_clr ho]
  exact h
theorem ax_hb_b {post : St2 → Prop} {z : Int32} {n p : Nat} (hp : p < 2) (h : wX_sendHeartbeats_2 post z ky lf th tg nw st sp sg (nI pr) (nI S) (nI L) (nI c) du fo sl ab n (nI (p + 1)) up lo av er ((ac_hb up av z p (sn, an)).1) ((ac_hb up av z p (sn, an)).2) ao sr un rk tx rc ak nr xp lg xa) : wX_sendHeartbeats_2 post z ky lf th tg nw st sp sg (nI pr) (nI S) (nI L) (nI c) du fo sl ab (n + 1) (nI p) up lo av er sn an ao sr un rk tx rc ak nr xp lg xa := by
  have hv := ac_p2v hp
  simp only [wX_sendHeartbeats_2, ac_p2c hp, ac_vb1, forall_eq, nI_1]
  refine br_f (ac_p2n hp) ⟨hv, br_c (fun h1 => ⟨hv, hv, br_c (fun h2 => ?_) (fun h2 => br_c (fun h3 => ?_) (fun h3 => ⟨hv, ?_⟩))⟩) (fun h1 => ?_)⟩
  · simp only [ac_hb, if_pos h1, if_pos h2] at h
    exact h
  · simp only [ac_hb, if_pos h1, if_neg h2, if_pos h3] at h
    exact h
  · simp only [ac_hb, if_pos h1, if_neg h2, if_neg h3] at h
    exact h
  · simp only [ac_hb, if_neg h1] at h
    exact h
theorem ax_hb {post : St2 → Prop} {z : Int32} (h : post (ky, lf, th, tg, nw, st, sp, sg, (nI pr), (nI S), (nI L), (nI c), du, fo, sl, ab, up, lo, av, er, ((ac_hb2 up av z (sn, an)).1), ((ac_hb2 up av z (sn, an)).2), ao, sr, un, rk, tx, rc, ak, nr, xp, lg, xa)) : wpX_sendHeartbeats post (ky, lf, th, tg, nw, st, sp, sg, (nI pr), (nI S), (nI L), (nI c), du, fo, sl, ab, up, lo, av, er, sn, an, ao, sr, un, rk, tx, rc, ak, nr, xp, lg, xa) z :=
  ⟨3, ax_hb_b (p := 0) (by omega) (ax_hb_b (p := 1) (by omega) (br_t (by decide) h))⟩
theorem ax_jd_b {post : St2 → Prop} {n p : Nat} (hp : p < 2) (h : wX_judgePaths_2 post ky lf th tg nw st sp sg (nI pr) (nI S) (nI L) (nI c) du fo sl ab n (nI (p + 1)) up lo ((ac_jd th sn an p (er, av)).2) ((ac_jd th sn an p (er, av)).1) sn an ao sr un rk tx rc ak nr xp lg xa) : wX_judgePaths_2 post ky lf th tg nw st sp sg (nI pr) (nI S) (nI L) (nI c) du fo sl ab (n + 1) (nI p) up lo av er sn an ao sr un rk tx rc ak nr xp lg xa := by
  have hv := ac_p2v hp
  simp only [wX_judgePaths_2, ac_p2c hp, ac_vb0, ac_vb1, forall_eq, nI_1, pk_us]
  refine br_f (ac_p2n hp) ⟨hv, br_c (fun h1 => ⟨hv, br_c (fun h2 => ?_) (fun h2 => ⟨hv, hv, hv, br_c (fun h3 => ?_) (fun h3 => ⟨hv, ?_⟩)⟩)⟩) (fun h1 => ⟨hv, hv, ?_⟩)⟩
  · simp only [ac_jd, if_pos h1, if_pos h2] at h
    exact h
  · simp only [ac_jd, if_pos h1, if_neg h2, if_pos h3] at h
    exact h
  · simp only [ac_jd, if_pos h1, if_neg h2, if_neg h3] at h
    exact h
  · simp only [ac_jd, if_neg h1] at h
    exact h
theorem ax_jd {post : St2 → Prop} (h : post (ky, lf, th, tg, nw, st, sp, sg, (nI pr), (nI S), (nI L), (nI c), du, fo, sl, ab, up, lo, ((ac_jd2 th (sn, an) (er, av)).2), ((ac_jd2 th (sn, an) (er, av)).1), sn, an, ao, sr, un, rk, tx, rc, ak, nr, xp, lg, xa)) : wpX_judgePaths post (ky, lf, th, tg, nw, st, sp, sg, (nI pr), (nI S), (nI L), (nI c), du, fo, sl, ab, up, lo, av, er, sn, an, ao, sr, un, rk, tx, rc, ak, nr, xp, lg, xa) :=
  ⟨3, ax_jd_b (p := 0) (by omega) (ax_jd_b (p := 1) (by omega) (br_t (by decide) h))⟩
theorem ax_ch {post : St2 → Prop} (hp : pr < 2) (h : post (ky, lf, th, tg, nw, st, sp, sg, (nI (ac_ch av pr)), (nI S), (nI L), (nI c), du, fo, sl, ab, up, lo, av, er, sn, an, ao, sr, un, rk, tx, rc, ak, nr, xp, lg, xa)) : wpX_choosePrimary post (ky, lf, th, tg, nw, st, sp, sg, (nI pr), (nI S), (nI L), (nI c), du, fo, sl, ab, up, lo, av, er, sn, an, ao, sr, un, rk, tx, rc, ak, nr, xp, lg, xa) := by
  have hv := ac_p2v hp
  have hq : 1 - pr < 2 := by omega
  unfold wpX_choosePrimary
  simp only [ac_alt hp, ac_p2c hp, ac_p2c hq, forall_eq]
  refine ⟨hv, br_c (fun h1 => ⟨ac_p2v hq, br_c (fun h2 => ?_) (fun h2 => ?_)⟩) (fun h1 => ?_)⟩
  · rw [ac_ch, if_pos h1, if_pos h2] at h
    exact h
  · rw [ac_ch, if_pos h1, if_neg h2] at h
    exact h
  · rw [ac_ch, if_neg h1] at h
    exact h
theorem ax_tail {post : St2 → Prop} {z : Int32} (hp : pr < 2) (h : post (ky, lf, th, tg, nw, st, sp, sg, (nI (ac_ch (ac_tl th up av er z sn an).2 pr)), (nI S), (nI L), (nI c), du, fo, sl, ab, up, lo, ((ac_tl th up av er z sn an).2), ((ac_tl th up av er z sn an).1), ((ac_hb2 up av z (sn, an)).1), ((ac_hb2 up av z (sn, an)).2), ao, sr, un, rk, tx, rc, ak, nr, xp, lg, xa)) : wX_playRound_80 post z ky lf th tg nw st sp sg (nI pr) (nI S) (nI L) (nI c) du fo sl ab up lo av er sn an ao sr un rk tx rc ak nr xp lg xa := by
  unfold wX_playRound_80
  refine ax_hb ?_
  dsimp only
  refine ax_jd ?_
  dsimp only
  exact ax_ch hp h
theorem ax_init {post : St2 → Prop} {z : Int32} (hp : pr < 2) (e : st = 1) (h : post (ky, lf, th, tg, nw, ((ac_hs lf tg up z pr nw st sp sg sl ab).1), ((ac_hs lf tg up z pr nw st sp sg sl ab).2.1), ((ac_hs lf tg up z pr nw st sp sg sl ab).2.2.1), (nI pr), (nI S), (nI L), (nI c), du, fo, ((ac_hs lf tg up z pr nw st sp sg sl ab).2.2.2.1), ((ac_hs lf tg up z pr nw st sp sg sl ab).2.2.2.2.1), up, lo, av, er, ((ac_hs lf tg up z pr nw st sp sg sl ab).2.2.2.2.2.1), ((ac_hs lf tg up z pr nw st sp sg sl ab).2.2.2.2.2.2), ao, sr, un, rk, tx, rc, ak, nr, xp, lg, xa)) : wpX_sendInit post (ky, lf, th, tg, nw, st, sp, sg, (nI pr), (nI S), (nI L), (nI c), du, fo, sl, ab, up, lo, av, er, (fun _ => 0), (fun _ => 0), ao, sr, un, rk, tx, rc, ak, nr, xp, lg, xa) z := by
  have hv := ac_p2v hp
  unfold wpX_sendInit
  simp only [ac_p2c hp, ac_vb1, forall_eq]
  refine ⟨hv, hv, br_c (fun h1 => ?_) (fun h1 => br_c (fun h2 => ?_) (fun h2 => ⟨hv, ?_⟩))⟩
  · simp only [ac_hs, if_pos e, if_pos h1] at h
    exact h
  · simp only [ac_hs, if_pos e, if_neg h1, if_pos h2] at h
    exact h
  · simp only [ac_hs, if_pos e, if_neg h1, if_neg h2] at h
    exact h
theorem ax_echo {post : St2 → Prop} {z : Int32} (hp : pr < 2) (e1 : ¬ st = 1) (e : st = 2) (h : post (ky, lf, th, tg, nw, ((ac_hs lf tg up z pr nw st sp sg sl ab).1), ((ac_hs lf tg up z pr nw st sp sg sl ab).2.1), ((ac_hs lf tg up z pr nw st sp sg sl ab).2.2.1), (nI pr), (nI S), (nI L), (nI c), du, fo, ((ac_hs lf tg up z pr nw st sp sg sl ab).2.2.2.1), ((ac_hs lf tg up z pr nw st sp sg sl ab).2.2.2.2.1), up, lo, av, er, ((ac_hs lf tg up z pr nw st sp sg sl ab).2.2.2.2.2.1), ((ac_hs lf tg up z pr nw st sp sg sl ab).2.2.2.2.2.2), ao, sr, un, rk, tx, rc, ak, nr, xp, lg, xa)) : wpX_echoCookie post (ky, lf, th, tg, nw, st, sp, sg, (nI pr), (nI S), (nI L), (nI c), du, fo, sl, ab, up, lo, av, er, (fun _ => 0), (fun _ => 0), ao, sr, un, rk, tx, rc, ak, nr, xp, lg, xa) z := by
  have hv := ac_p2v hp
  unfold wpX_echoCookie wpX_judgeClientCookie wX_judgeClientCookie_43
  simp only [ac_p2c hp, ac_vb1, forall_eq]
  refine ⟨hv, hv, br_c (fun h1 => ?_) (fun h1 => br_c (fun h2 => br_c (fun h3 => br_t (by trivial) (br_c (fun h4 => ?_) (fun h4 => ⟨hv, br_f (by decide) (br_t (by trivial) ?_)⟩))) (fun h3 => br_c (fun h5 => br_c (fun h4 => ?_) (fun h4 => ⟨hv, br_f (by decide) (br_t (by trivial) ?_)⟩)) (fun h5 => br_c (fun h4 => ?_) (fun h4 => ⟨hv, br_f (by decide) (br_f (by decide) ?_)⟩)))) (fun h2 => br_c (fun h4 => ?_) (fun h4 => ⟨hv, br_t (by trivial) ?_⟩)))⟩
  · simp only [ac_hs, if_neg e1, if_pos e, if_pos h1] at h
    exact h
  · simp only [ac_hs, if_neg e1, if_pos e, if_neg h1, if_pos h2, if_pos h3, if_pos h4] at h
    exact h
  · simp only [ac_hs, if_neg e1, if_pos e, if_neg h1, if_pos h2, if_pos h3, if_neg h4] at h
    exact h
  · simp only [ac_hs, if_neg e1, if_pos e, if_neg h1, if_pos h2, if_neg h3, if_pos h5, if_pos h4] at h
    exact h
  · simp only [ac_hs, if_neg e1, if_pos e, if_neg h1, if_pos h2, if_neg h3, if_pos h5, if_neg h4] at h
    exact h
  · simp only [ac_hs, if_neg e1, if_pos e, if_neg h1, if_pos h2, if_neg h3, if_neg h5, if_pos h4] at h
    exact h
  · simp only [ac_hs, if_neg e1, if_pos e, if_neg h1, if_pos h2, if_neg h3, if_neg h5, if_neg h4] at h
    exact h
  · simp only [ac_hs, if_neg e1, if_pos e, if_neg h1, if_neg h2, if_pos h4] at h
    exact h
  · simp only [ac_hs, if_neg e1, if_pos e, if_neg h1, if_neg h2, if_neg h4] at h
    exact h
end AXA
