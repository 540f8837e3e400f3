/-! Q: the relation, and the small methods -/
/-- what the state keeps, beside the equations -/
def ac_F (S : Nat) (sr un rk nr : ac_A) (g : ac_G) (sn an ao sn2 an2 ao2 fa : ac_A) : Prop := ac_GI S sr un g ∧ ac_RK S sr un rk ∧ (∀ s, s < 8 → nr s = nI (ac_ct (ac_od sr un (nI s)) S)) ∧ (ac_TZ sn ∧ ac_TZ an ∧ ac_TZ ao) ∧ (ac_TZ sn2 ∧ ac_TZ an2 ∧ ac_TZ ao2) ∧ (∀ j, 128 ≤ j → fa j = 0)
/-- the two states hold the same values; what a round clears at its start is free -/
def i_Rel (k : Nat) (u : SX) (v : SY) : Prop := ∃ (ky lf th tg fo : Int32) (S : Nat) (up sr un rk nr : ac_A) (g : ac_G) (sn an ao xa : ac_A) (c : Nat) (sn2 an2 ao2 fa : ac_A) (ap : Int32), u = ac_XS ky lf th tg fo S up sr un rk nr g sn an ao xa c ∧ v = ac_YS ky lf th tg fo S up sr un g sn2 an2 ao2 fa ap ∧ ac_F S sr un rk nr g sn an ao sn2 an2 ao2 fa
theorem i_up {k : Nat} {u : SX} {v : SY} (h : i_Rel k u v) : i_Rel (k + 4) u v := h
section ARA
variable {ky lf th tg nw st sp sg du fo sl ab ap : Int32} {pr S L c : Nat} {up lo av er sn an ao sr un rk tx rc ak nr xp lg xa fa sn2 an2 ao2 : ac_A}
theorem ac_mk {k : Nat} (F : ac_F S sr un rk nr (nw, st, sp, sg, pr, sl, ab, lo, av, er, tx, ak, rc, xp, lg, L, du) sn an ao sn2 an2 ao2 fa) : i_Rel k (ky, lf, th, tg, nw, st, sp, sg, (nI pr), (nI S), (nI L), (nI c), du, fo, sl, ab, up, lo, av, er, sn, an, ao, sr, un, rk, tx, rc, ak, nr, xp, lg, xa) (ky, lf, th, tg, st, sp, sg, (nI pr), nw, (nI S), (nI L), du, fo, sl, ab, ap, up, lo, av, er, sn2, an2, ao2, sr, un, tx, rc, ak, fa, lg) :=
  ⟨ky, lf, th, tg, fo, S, up, sr, un, rk, nr, (nw, st, sp, sg, pr, sl, ab, lo, av, er, tx, ak, rc, xp, lg, L, du), sn, an, ao, xa, c, sn2, an2, ao2, fa, ap, rfl, rfl, F⟩
theorem ac_Fh {nw' st' sp' sg' sl' ab' : Int32} {lo' er' : ac_A} (F : ac_F S sr un rk nr (nw, st, sp, sg, pr, sl, ab, lo, av, er, tx, ak, rc, xp, lg, L, du) sn an ao sn2 an2 ao2 fa) : ac_F S sr un rk nr (nw', st', sp', sg', pr, sl', ab', lo', av, er', tx, ak, rc, xp, lg, L, du) sn an ao sn2 an2 ao2 fa := F
theorem ax_initl {post : SX → Prop} {n p : Nat} (hp : p < 2) (h : wX_init_250 post ky lf th tg nw st sp sg (nI pr) (nI S) (nI L) (nI c) du fo sl ab n (nI (p + 1)) (upd up p 1) lo (upd av p 1) er sn an ao sr un rk tx rc ak nr xp lg xa) : wX_init_250 post ky lf th tg nw st sp sg (nI pr) (nI S) (nI L) (nI c) du fo sl ab (n + 1) (nI p) up lo av er sn an ao sr un rk tx rc ak nr xp lg xa := by
  simp only [wX_init_250, ac_p2c hp, ac_vb1, forall_eq, nI_1]
  exact br_f (ac_p2n hp) ⟨ac_p2v hp, ac_p2v hp, h⟩
theorem ax_new {post : SX → Prop} {p0 p1 p2 p3 : Int32} (h : post ((ac_cl p0 1 65535), (ac_cl p1 1 16), (ac_cl p2 1 8), (ac_cl p3 1 255), 0, 0, 0, 0, (nI 0), (nI 0), (nI 0), (nI 0), 0, 0, 0, 0, (upd (upd (fun _ => 0) 0 1) 1 1), (fun _ => 0), (upd (upd (fun _ => 0) 0 1) 1 1), (fun _ => 0), (fun _ => 0), (fun _ => 0), (fun _ => 0), (fun _ => 0), (fun _ => 0), (fun _ => 0), (fun _ => 0), (fun _ => 0), (fun _ => 0), (fun _ => 0), (fun _ => 0), (fun _ => 0), (fun _ => 0))) : wpX_init post p0 p1 p2 p3 := by
  unfold wpX_init
  refine ax_clamp ?_
  refine ax_clamp ?_
  refine ax_clamp ?_
  refine ax_clamp ?_
  exact ⟨3, ax_initl (p := 0) (pr := 0) (S := 0) (L := 0) (c := 0) (by omega) (ax_initl (p := 1) (pr := 0) (S := 0) (L := 0) (c := 0) (by omega) (br_t (by decide) h))⟩
theorem ay_new {post : SY → Prop} {p0 p1 p2 p3 : Int32} (h : post ((ac_cl p0 1 65535), (ac_cl p1 1 16), (ac_cl p2 1 8), (ac_cl p3 1 255), 0, 0, 0, (nI 0), 0, (nI 0), (nI 0), 0, 0, 0, 0, 0, (upd (upd (fun _ => 0) 0 1) 1 1), (fun _ => 0), (upd (upd (fun _ => 0) 0 1) 1 1), (fun _ => 0), (fun _ => 0), (fun _ => 0), (fun _ => 0), (fun _ => 0), (fun _ => 0), (fun _ => 0), (fun _ => 0), (fun _ => 0), (fun _ => 0), (fun _ => 0))) : wpY_init post p0 p1 p2 p3 := by
  have e1 : upd (upd (fun _ => 0) 0 (vp_nar .boolean 1)) 1 (vp_nar .boolean 1) = upd (upd (fun _ => 0) 0 1) 1 1 := by rw [ac_vb1]
  refine ax_clamp (post := fun r => wY_init_138 post p1 p2 p3 r 0 0 0 0 0 0 0 0 0 0 0 0 0 0 0 0 (fun _ => 0) (fun _ => 0) (fun _ => 0) (fun _ => 0) (fun _ => 0) (fun _ => 0) (fun _ => 0) (fun _ => 0) (fun _ => 0) (fun _ => 0) (fun _ => 0) (fun _ => 0) (fun _ => 0) (fun _ => 0)) ?_
  generalize ac_cl p0 1 65535 = k0 at h ⊢
  refine ax_clamp (post := fun r => wY_init_163 post p2 p3 r k0 0 0 0 0 0 0 0 0 0 0 0 0 0 0 0 (fun _ => 0) (fun _ => 0) (fun _ => 0) (fun _ => 0) (fun _ => 0) (fun _ => 0) (fun _ => 0) (fun _ => 0) (fun _ => 0) (fun _ => 0) (fun _ => 0) (fun _ => 0) (fun _ => 0) (fun _ => 0)) ?_
  generalize ac_cl p1 1 16 = k1 at h ⊢
  refine ax_clamp (post := fun r => wY_init_188 post p3 r k0 k1 0 0 0 0 0 0 0 0 0 0 0 0 0 0 (fun _ => 0) (fun _ => 0) (fun _ => 0) (fun _ => 0) (fun _ => 0) (fun _ => 0) (fun _ => 0) (fun _ => 0) (fun _ => 0) (fun _ => 0) (fun _ => 0) (fun _ => 0) (fun _ => 0) (fun _ => 0)) ?_
  generalize ac_cl p2 1 8 = k2 at h ⊢
  refine ax_clamp (post := fun r => wY_init_218 post r k0 k1 k2 0 0 0 0 0 0 0 0 0 0 0 0 0 (fun _ => 0) (fun _ => 0) (fun _ => 0) (fun _ => 0) (fun _ => 0) (fun _ => 0) (fun _ => 0) (fun _ => 0) (fun _ => 0) (fun _ => 0) (fun _ => 0) (fun _ => 0) (fun _ => 0) (fun _ => 0)) ?_
  generalize ac_cl p3 1 255 = k3 at h ⊢
  exact nm_e (nm_r e1 (nm_e (nm_r e1 h)))
theorem ac_F0 : ac_F 0 (fun _ => 0) (fun _ => 0) (fun _ => 0) (fun _ => 0) (0, 0, 0, 0, 0, 0, 0, fun _ => 0, upd (upd (fun _ => 0) 0 1) 1 1, fun _ => 0, fun _ => 0, fun _ => 0, fun _ => 0, fun _ => 0, fun _ => 0, 0, 0) (fun _ => 0) (fun _ => 0) (fun _ => 0) (fun _ => 0) (fun _ => 0) (fun _ => 0) (fun _ => 0) := by
  refine ⟨⟨by omega, ?_, ⟨ac_Inv0, fun _ => Or.inl rfl⟩, fun _ => Or.inl rfl, fun _ _ => rfl, fun _ _ => rfl⟩, fun j hj => absurd hj (by omega), fun s _ => nI_0.symm, ⟨ac_TZ_0, ac_TZ_0, ac_TZ_0⟩, ⟨ac_TZ_0, ac_TZ_0, ac_TZ_0⟩, fun _ _ => rfl⟩
  exact ac_01u (ac_01u (fun _ => Or.inl rfl) (Or.inr rfl)) (Or.inr rfl)
theorem ax_path {post : Int32 → Prop} {v : Int32} (h1 : ∀ j, j < 2 → v = nI j → post 1) (h0 : ¬ v = 0 → ¬ v = 1 → post 0) : wpX_isPath post v := by
  rcases pk_ix v (n := 2) (by omega) with h | h | ⟨j, hj, e⟩
  · refine br_t h (h0 (fun e => ?_) (fun e => ?_))
    · rw [e] at h; exact absurd h (by decide)
    · rw [e] at h; exact absurd h (by decide)
  · refine br_f (fun z => ?_) (br_t h (h0 (fun e => ?_) (fun e => ?_)))
    · exact absurd (Int32.lt_of_lt_of_le z (Int32.le_trans (by decide) h)) Int32.lt_irrefl
    · rw [e] at h; exact absurd h (by decide)
    · rw [e] at h; exact absurd h (by decide)
  · rw [e]
    exact br_f (nI_pos (by omega)) (br_f (ac_p2n hj) (h1 j hj e))
theorem ac_yp {A A' B : Prop} {j : Nat} (hj : j < 2) (h : A) (h' : A') : (nI j = 0 → A) ∧ (¬ nI j = 0 → ((nI j = 1 → A') ∧ (¬ nI j = 1 → B))) := by
  refine ⟨fun _ => h, fun z => ⟨fun _ => h', fun z1 => ?_⟩⟩
  exfalso
  have e : j = 0 ∨ j = 1 := by omega
  cases e with
  | inl e => rw [e] at z; exact z rfl
  | inr e => rw [e] at z1; exact z1 rfl
theorem ax_msg {post : Int32 → Prop} {v : Int32} (hS : S ≤ 128) (h1 : ∀ j, j < S → v = nI j → post 1) (h0 : v < 0 ∨ (¬ v < 0 ∧ nI S ≤ v) → post 0) : wpX_isMessage post (ky, lf, th, tg, nw, st, sp, sg, (nI pr), (nI S), (nI L), (nI c), du, fo, sl, ab, up, lo, av, er, sn, an, ao, sr, un, rk, tx, rc, ak, nr, xp, lg, xa) v := by
  rcases pk_ix v (n := S) (by omega) with h | h | ⟨j, hj, e⟩
  · exact br_t h (h0 (Or.inl h))
  · have hn : ¬ v < 0 := fun z => absurd (Int32.lt_of_lt_of_le z (Int32.le_trans (nI_pos' (by omega)) h)) Int32.lt_irrefl
    exact br_f hn (br_t h (h0 (Or.inr ⟨hn, h⟩)))
  · rw [e]
    exact br_f (nI_pos (by omega)) (br_f (nI_ge hj (by omega)) (h1 j hj e))
end ARA
theorem i_vc0 (k0 : Int32) (k1 : Int32) (k2 : Int32) (k3 : Int32) : wpX_init (fun u => wpY_init (fun v => i_Rel 4 u v) k0 k1 k2 k3) k0 k1 k2 k3 :=
  ax_new (ay_new (ac_mk ac_F0))
theorem i_vc_connect {k : Nat} {u : SX} {v : SY} (I : i_Rel k u v) (hk : k + 4 ≤ 2052) : wpX_connect (fun r u' => wpY_connect (fun r' v' => r' = r ∧ i_Rel (k + 4) u' v') v) u := by
  obtain ⟨ky, lf, th, tg, fo, S, up, sr, un, rk, nr, ⟨nw, st, sp, sg, pr, sl, ab, lo, av, er, tx, ak, rc, xp, lg, L, du⟩, sn, an, ao, xa, c, sn2, an2, ao2, fa, ap, rfl, rfl, F⟩ := I
  unfold ac_XS ac_YS
  dsimp only
  exact br_c (fun a => br_t a ⟨rfl, ac_mk (ac_Fh F)⟩) (fun a => br_f a ⟨rfl, ac_mk F⟩)
theorem i_vc_setPath {k : Nat} {u : SX} {v : SY} (I : i_Rel k u v) (hk : k + 4 ≤ 2052) (v1 : Int32) (v2 : Int32) : wpX_setPath (fun r u' => wpY_setPath (fun r' v' => r' = r ∧ i_Rel (k + 4) u' v') v v1 (lw_bz v2)) u v1 (lw_bz v2) := by
  obtain ⟨ky, lf, th, tg, fo, S, up, sr, un, rk, nr, ⟨nw, st, sp, sg, pr, sl, ab, lo, av, er, tx, ak, rc, xp, lg, L, du⟩, sn, an, ao, xa, c, sn2, an2, ao2, fa, ap, rfl, rfl, F⟩ := I
  unfold ac_XS ac_YS wpX_setPath
  dsimp only
  refine ax_path (fun j hj e => ?_) (fun n0 n1 => ?_)
  · rw [e]
    exact br_f (by decide) ⟨ac_p2v hj, nm_e (ac_yp hj ⟨ac_p2v hj, nm_e ⟨rfl, ac_mk F⟩⟩ ⟨ac_p2v hj, nm_e ⟨rfl, ac_mk F⟩⟩)⟩
  · exact br_t rfl (br_f n0 (br_f n1 ⟨rfl, ac_mk F⟩))
theorem i_vc_loseNext {k : Nat} {u : SX} {v : SY} (I : i_Rel k u v) (hk : k + 4 ≤ 2052) (v1 : Int32) (v2 : Int32) : wpX_loseNext (fun r u' => wpY_loseNext (fun r' v' => r' = r ∧ i_Rel (k + 4) u' v') v v1 v2) u v1 v2 := by
  obtain ⟨ky, lf, th, tg, fo, S, up, sr, un, rk, nr, ⟨nw, st, sp, sg, pr, sl, ab, lo, av, er, tx, ak, rc, xp, lg, L, du⟩, sn, an, ao, xa, c, sn2, an2, ao2, fa, ap, rfl, rfl, F⟩ := I
  unfold ac_XS ac_YS wpX_loseNext
  dsimp only
  refine ax_path (fun j hj e => ?_) (fun n0 n1 => ?_)
  · rw [e]
    have hv := ac_p2v hj
    refine br_f (by decide) ?_
    refine br_c (fun a => br_c (fun b => ⟨hv, nm_e ?_⟩) (fun b => ⟨hv, nm_e ?_⟩)) (fun a => ⟨hv, nm_e ?_⟩)
    · exact ac_yp hj (br_t a (br_t b ⟨hv, nm_e ⟨rfl, ac_mk (ac_Fh F)⟩⟩)) (br_t a (br_t b ⟨hv, nm_e ⟨rfl, ac_mk (ac_Fh F)⟩⟩))
    · exact ac_yp hj (br_t a (br_f b ⟨hv, nm_e ⟨rfl, ac_mk (ac_Fh F)⟩⟩)) (br_t a (br_f b ⟨hv, nm_e ⟨rfl, ac_mk (ac_Fh F)⟩⟩))
    · exact ac_yp hj (br_f a ⟨hv, nm_e ⟨rfl, ac_mk (ac_Fh F)⟩⟩) (br_f a ⟨hv, nm_e ⟨rfl, ac_mk (ac_Fh F)⟩⟩)
  · exact br_t rfl (br_f n0 (br_f n1 ⟨rfl, ac_mk F⟩))
theorem i_vc_injectEcho {k : Nat} {u : SX} {v : SY} (I : i_Rel k u v) (hk : k + 4 ≤ 2052) (v1 : Int32) (v2 : Int32) (v3 : Int32) : wpX_injectEcho (fun r u' => wpY_injectEcho (fun r' v' => r' = r ∧ i_Rel (k + 4) u' v') v v1 v2 v3) u v1 v2 v3 := by
  obtain ⟨ky, lf, th, tg, fo, S, up, sr, un, rk, nr, ⟨nw, st, sp, sg, pr, sl, ab, lo, av, er, tx, ak, rc, xp, lg, L, du⟩, sn, an, ao, xa, c, sn2, an2, ao2, fa, ap, rfl, rfl, F⟩ := I
  unfold ac_XS ac_YS wpX_injectEcho wpX_cookieCheck wX_injectEcho_34 wpY_injectEcho wpY_mac wY_injectEcho_34 wY_injectEcho_58
  simp only [forall_eq]
  refine br_c (fun a => br_c (fun b => ?_) (fun b => br_c (fun c => ?_) (fun c => br_c (fun d => ?_) (fun d => br_c (fun e => br_c (fun f => br_c (fun g => ?_) (fun g => br_c (fun h => ?_) (fun h => ?_))) (fun f => ?_)) (fun e => ?_))))) (fun a => ?_)
  · exact br_t a (br_t b ⟨by trivial, ac_mk F⟩)
  · exact br_t a (br_f b (br_f (Int32.not_le.mpr c) ⟨by trivial, ac_mk F⟩))
  · exact br_t a (br_f b (br_t (Int32.not_lt.mp c) (br_t d ⟨by trivial, ac_mk F⟩)))
  · exact br_t a (br_f b (br_t (Int32.not_lt.mp c) (br_f d (br_t e (br_t f (br_t g ⟨by trivial, ac_mk (ac_Fh F)⟩))))))
  · exact br_t a (br_f b (br_t (Int32.not_lt.mp c) (br_f d (br_t e (br_t f (br_f g (br_t h ⟨by trivial, ac_mk F⟩)))))))
  · exact br_t a (br_f b (br_t (Int32.not_lt.mp c) (br_f d (br_t e (br_t f (br_f g (br_f h ⟨by trivial, ac_mk F⟩)))))))
  · exact br_t a (br_f b (br_t (Int32.not_lt.mp c) (br_f d (br_t e (br_f f ⟨by trivial, ac_mk (ac_Fh F)⟩)))))
  · exact br_t a (br_f b (br_t (Int32.not_lt.mp c) (br_f d (br_f e ⟨by trivial, ac_mk F⟩))))
  · exact br_f a ⟨by trivial, ac_mk F⟩
theorem i_vc_clientState {k : Nat} {u : SX} {v : SY} (I : i_Rel k u v) (hk : k + 4 ≤ 2052) : wpX_clientState (fun r => wpY_clientState (fun r' => r' = r ∧ i_Rel (k + 4) u v) v) u := by
  have I0 := I
  obtain ⟨ky, lf, th, tg, fo, S, up, sr, un, rk, nr, ⟨nw, st, sp, sg, pr, sl, ab, lo, av, er, tx, ak, rc, xp, lg, L, du⟩, sn, an, ao, xa, c, sn2, an2, ao2, fa, ap, rfl, rfl, F⟩ := I
  exact ⟨rfl, i_up I0⟩
theorem i_vc_serverTag {k : Nat} {u : SX} {v : SY} (I : i_Rel k u v) (hk : k + 4 ≤ 2052) : wpX_serverTag (fun r => wpY_serverTag (fun r' => r' = r ∧ i_Rel (k + 4) u v) v) u := by
  have I0 := I
  obtain ⟨ky, lf, th, tg, fo, S, up, sr, un, rk, nr, ⟨nw, st, sp, sg, pr, sl, ab, lo, av, er, tx, ak, rc, xp, lg, L, du⟩, sn, an, ao, xa, c, sn2, an2, ao2, fa, ap, rfl, rfl, F⟩ := I
  exact ⟨rfl, i_up I0⟩
theorem i_vc_primaryPath {k : Nat} {u : SX} {v : SY} (I : i_Rel k u v) (hk : k + 4 ≤ 2052) : wpX_primaryPath (fun r => wpY_primaryPath (fun r' => r' = r ∧ i_Rel (k + 4) u v) v) u := by
  have I0 := I
  obtain ⟨ky, lf, th, tg, fo, S, up, sr, un, rk, nr, ⟨nw, st, sp, sg, pr, sl, ab, lo, av, er, tx, ak, rc, xp, lg, L, du⟩, sn, an, ao, xa, c, sn2, an2, ao2, fa, ap, rfl, rfl, F⟩ := I
  exact ⟨rfl, i_up I0⟩
theorem i_vc_pathErrors {k : Nat} {u : SX} {v : SY} (I : i_Rel k u v) (hk : k + 4 ≤ 2052) (v1 : Int32) : wpX_pathErrors (fun r => wpY_pathErrors (fun r' => r' = r ∧ i_Rel (k + 4) u v) v v1) u v1 := by
  obtain ⟨ky, lf, th, tg, fo, S, up, sr, un, rk, nr, ⟨nw, st, sp, sg, pr, sl, ab, lo, av, er, tx, ak, rc, xp, lg, L, du⟩, sn, an, ao, xa, c, sn2, an2, ao2, fa, ap, rfl, rfl, F⟩ := I
  unfold ac_XS ac_YS wpX_pathErrors
  dsimp only
  refine ax_path (fun j hj e => ?_) (fun n0 n1 => ?_)
  · rw [e]
    exact br_f (by decide) ⟨ac_p2v hj, ac_yp hj ⟨ac_p2v hj, rfl, ac_mk F⟩ ⟨ac_p2v hj, rfl, ac_mk F⟩⟩
  · exact br_t rfl (br_f n0 (br_f n1 ⟨rfl, ac_mk F⟩))
theorem i_vc_pathActive {k : Nat} {u : SX} {v : SY} (I : i_Rel k u v) (hk : k + 4 ≤ 2052) (v1 : Int32) : wpX_pathActive (fun r => wpY_pathActive (fun r' => r' = r ∧ i_Rel (k + 4) u v) v v1) u v1 := by
  obtain ⟨ky, lf, th, tg, fo, S, up, sr, un, rk, nr, ⟨nw, st, sp, sg, pr, sl, ab, lo, av, er, tx, ak, rc, xp, lg, L, du⟩, sn, an, ao, xa, c, sn2, an2, ao2, fa, ap, rfl, rfl, F⟩ := I
  have B : ∀ j, av j = 0 ∨ av j = 1 := F.1.2.1
  unfold ac_XS ac_YS wpX_pathActive
  dsimp only
  refine ax_path (fun j hj e => ?_) (fun n0 n1 => ?_)
  · rw [e]
    refine br_f (by decide) ⟨ac_p2v hj, br_c (fun a => ?_) (fun a => ?_)⟩
    · exact ac_yp hj ⟨ac_p2v hj, ac_nb (B _), a, ac_mk F⟩ ⟨ac_p2v hj, ac_nb (B _), a, ac_mk F⟩
    · have b := (B (nI j).toNatClampNeg).resolve_left a
      exact ac_yp hj ⟨ac_p2v hj, ac_nb (B _), b, ac_mk F⟩ ⟨ac_p2v hj, ac_nb (B _), b, ac_mk F⟩
  · exact br_t rfl (br_f n0 (br_f n1 ⟨rfl, ac_mk F⟩))
theorem ac_lt128 {j : Nat} (h : j < 128) : nI j < (128 : Int32) := nI_lt (b := 128) h (by decide)
theorem i_vc_deliveredAt {k : Nat} {u : SX} {v : SY} (I : i_Rel k u v) (hk : k + 4 ≤ 2052) (v1 : Int32) : wpX_deliveredAt (fun r => wpY_deliveredAt (fun r' => r' = r ∧ i_Rel (k + 4) u v) v v1) u v1 := by
  obtain ⟨ky, lf, th, tg, fo, S, up, sr, un, rk, nr, ⟨nw, st, sp, sg, pr, sl, ab, lo, av, er, tx, ak, rc, xp, lg, L, du⟩, sn, an, ao, xa, c, sn2, an2, ao2, fa, ap, rfl, rfl, F⟩ := I
  have hI : ac_Inv S sr un rc xp lg L := F.1.2.2.1.1
  have hS := hI.1
  have hL := ac_Inv_L hI
  unfold ac_XS ac_YS
  dsimp only
  rcases pk_ix v1 (n := L) (by omega) with h | h | ⟨j, hj, e⟩
  · exact br_t h (br_t h ⟨rfl, ac_mk F⟩)
  · have hn : ¬ v1 < 0 := fun z => absurd (Int32.lt_of_lt_of_le z (Int32.le_trans (nI_pos' (by omega)) h)) Int32.lt_irrefl
    exact br_f hn (br_t h (br_f hn (br_t h ⟨rfl, ac_mk F⟩)))
  · rw [e]
    have hn := nI_pos (n := j) (by omega)
    have h2 : ¬ nI L ≤ nI j := nI_ge hj (by omega)
    have hv : vp_in (nI j) 128 := vp_in_nI (by omega) (by omega)
    exact br_f hn (br_f h2 ⟨hv, br_f hn (br_f h2 (br_t (ac_lt128 (by omega)) ⟨hv, rfl, ac_mk F⟩))⟩)
theorem i_vc_transmissions {k : Nat} {u : SX} {v : SY} (I : i_Rel k u v) (hk : k + 4 ≤ 2052) (v1 : Int32) : wpX_transmissions (fun r => wpY_transmissions (fun r' => r' = r ∧ i_Rel (k + 4) u v) v v1) u v1 := by
  obtain ⟨ky, lf, th, tg, fo, S, up, sr, un, rk, nr, ⟨nw, st, sp, sg, pr, sl, ab, lo, av, er, tx, ak, rc, xp, lg, L, du⟩, sn, an, ao, xa, c, sn2, an2, ao2, fa, ap, rfl, rfl, F⟩ := I
  have hS : S ≤ 128 := F.1.2.2.1.1.1
  unfold ac_XS ac_YS wpX_transmissions
  dsimp only
  refine ax_msg hS (fun j hj e => ?_) (fun h => br_t rfl ?_)
  · rw [e]
    have hv : vp_in (nI j) 128 := vp_in_nI (by omega) (by omega)
    exact br_f (by decide) ⟨hv, br_f (nI_pos (by omega)) (br_f (nI_ge hj (by omega)) (br_t (ac_lt128 (by omega)) ⟨hv, rfl, ac_mk F⟩))⟩
  · cases h with
    | inl h => exact br_t h ⟨rfl, ac_mk F⟩
    | inr h => exact br_f h.1 (br_t h.2 ⟨rfl, ac_mk F⟩)
theorem i_vc_isAcked {k : Nat} {u : SX} {v : SY} (I : i_Rel k u v) (hk : k + 4 ≤ 2052) (v1 : Int32) : wpX_isAcked (fun r => wpY_isAcked (fun r' => r' = r ∧ i_Rel (k + 4) u v) v v1) u v1 := by
  obtain ⟨ky, lf, th, tg, fo, S, up, sr, un, rk, nr, ⟨nw, st, sp, sg, pr, sl, ab, lo, av, er, tx, ak, rc, xp, lg, L, du⟩, sn, an, ao, xa, c, sn2, an2, ao2, fa, ap, rfl, rfl, F⟩ := I
  have hS : S ≤ 128 := F.1.2.2.1.1.1
  have B : ∀ j, ak j = 0 ∨ ak j = 1 := F.1.2.2.2.1
  unfold ac_XS ac_YS wpX_isAcked
  dsimp only
  refine ax_msg hS (fun j hj e => ?_) (fun h => br_t rfl ?_)
  · rw [e]
    have hv : vp_in (nI j) 128 := vp_in_nI (by omega) (by omega)
    refine br_f (by decide) ⟨hv, br_c (fun a => ?_) (fun a => ?_)⟩
    · exact br_f (nI_pos (by omega)) (br_f (nI_ge hj (by omega)) (br_t (ac_lt128 (by omega)) ⟨hv, ac_nb (B _), a, ac_mk F⟩))
    · exact br_f (nI_pos (by omega)) (br_f (nI_ge hj (by omega)) (br_t (ac_lt128 (by omega)) ⟨hv, ac_nb (B _), (B _).resolve_left a, ac_mk F⟩))
  · cases h with
    | inl h => exact br_t h ⟨rfl, ac_mk F⟩
    | inr h => exact br_f h.1 (br_t h.2 ⟨rfl, ac_mk F⟩)
