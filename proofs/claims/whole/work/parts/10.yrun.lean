/-! O: the reference's run -/
section AYB
variable {ky lf th tg nw st sp sg du fo sl ab ap : Int32} {pr S L : Nat} {up lo av er sn an ao sr un tx rc ak xp lg fa : ac_A}
variable {post : Int32 → SY → Prop} {x3 x4 x5 z : Int32}
variable {J : Int32 → Int32 → Int32 → Int32 → Int32 → Int32 → Int32 → Int32 → Int32 → Int32 → Int32 → Int32 → Int32 → Int32 → Int32 → Int32 → Int32 → ac_A → ac_A → ac_A → ac_A → ac_A → ac_A → ac_A → ac_A → ac_A → ac_A → ac_A → ac_A → ac_A → ac_A → Prop}
theorem ay_jd_b {n p : Nat} (hp : p < 2) (h : wY_run_773 post J x3 x4 x5 ky lf th tg st sp sg (nI pr) nw (nI S) (nI L) du fo sl ab ap n (nI (p + 1)) up lo ((ac_jd th sn an p (er, av)).2) ((ac_jd th sn an p (er, av)).1) sn an ao sr un tx rc ak fa lg) : wY_run_773 post J x3 x4 x5 ky lf th tg st sp sg (nI pr) nw (nI S) (nI L) du fo sl ab ap (n + 1) (nI p) up lo av er sn an ao sr un tx rc ak fa lg := by
  have hv := ac_p2v hp
  simp only [wY_run_773, ac_p2c hp, ac_vb0, ac_vb1, forall_eq, nI_1, pk_us]
  refine br_f (ac_p2n hp) ⟨hv, br_c (fun h1 => ⟨hv, br_c (fun h2 => ?_) (fun h2 => ⟨hv, hv, hv, br_c (fun h4 => ?_) (fun h4 => ⟨hv, br_c (fun h3 => ?_) (fun h3 => ⟨hv, ?_⟩)⟩)⟩)⟩) (fun h1 => ⟨hv, hv, ?_⟩)⟩
  · simp only [ac_jd, if_pos h1, if_pos h2] at h
    exact h
  · by_cases h3 : er p + 1 ≤ th
    · simp only [ac_jd, if_pos h1, if_neg h2, if_pos h3] at h
      exact h
    · simp only [ac_jd, if_pos h1, if_neg h2, if_neg h3, ac_same h4] at h
      exact h
  · simp only [ac_jd, if_pos h1, if_neg h2, if_pos h3] at h
    exact h
  · simp only [ac_jd, if_pos h1, if_neg h2, if_neg h3] at h
    exact h
  · simp only [ac_jd, if_neg h1] at h
    exact h
theorem ay_ch {n i : Nat} (hp : pr < 2) (h : J (nI (i + 1)) ky lf th tg st sp sg (nI (ac_ch av pr)) nw (nI S) (nI L) du fo sl ab ap up lo av er sn an ao sr un tx rc ak fa lg) : wY_run_773 post J x3 x4 (nI i) ky lf th tg st sp sg (nI pr) nw (nI S) (nI L) du fo sl ab ap (n + 1) 2 up lo av er sn an ao sr un tx rc ak fa lg := by
  have hv := ac_p2v hp
  have hq : 1 - pr < 2 := by omega
  simp only [wY_run_773, ac_alt hp, ac_p2c hp, ac_p2c hq, forall_eq, nI_1]
  refine br_t (by decide) ⟨hv, br_c (fun h1 => ⟨ac_p2v hq, br_c (fun h2 => ?_) (fun h2 => ?_)⟩) (fun h1 => ?_)⟩
  · rw [ac_ch, if_pos h1, if_pos h2] at h
    exact h
  · rw [ac_ch, if_pos h1, if_neg h2] at h
    exact h
  · rw [ac_ch, if_neg h1] at h
    exact h
theorem ay_jd {i : Nat} (hp : pr < 2) (h : J (nI (i + 1)) ky lf th tg st sp sg (nI (ac_ch (ac_jd2 th (sn, an) (er, av)).2 pr)) nw (nI S) (nI L) du fo sl ab ap up lo ((ac_jd2 th (sn, an) (er, av)).2) ((ac_jd2 th (sn, an) (er, av)).1) sn an ao sr un tx rc ak fa lg) : ∃ n, wY_run_773 post J x3 x4 (nI i) ky lf th tg st sp sg (nI pr) nw (nI S) (nI L) du fo sl ab ap n 0 up lo av er sn an ao sr un tx rc ak fa lg :=
  ⟨3, ay_jd_b (p := 0) (by omega) (ay_jd_b (p := 1) (by omega) (ay_ch hp h))⟩
theorem ay_hb_b {n p : Nat} (hp : p < 2) (h : wY_run_717 post J x3 x4 x5 z ky lf th tg st sp sg (nI pr) nw (nI S) (nI L) du fo sl ab ap n (nI (p + 1)) up lo av er ((ac_hb up av z p (sn, an)).1) ((ac_hb up av z p (sn, an)).2) ao sr un tx rc ak fa lg) : wY_run_717 post J x3 x4 x5 z ky lf th tg st sp sg (nI pr) nw (nI S) (nI L) du fo sl ab ap (n + 1) (nI p) up lo av er sn an ao sr un tx rc ak fa lg := by
  have hv := ac_p2v hp
  simp only [wY_run_717, ac_p2c hp, ac_vb1, forall_eq, nI_1]
  refine br_f (ac_p2n hp) ⟨hv, br_c (fun h1 => ⟨hv, hv, br_c (fun h2 => ?_) (fun h2 => br_c (fun h3 => ?_) (fun h3 => ⟨hv, ?_⟩))⟩) (fun h1 => ?_)⟩
  · simp only [ac_hb, if_pos h1, if_pos h2] at h
    exact h
  · simp only [ac_hb, if_pos h1, if_neg h2, if_pos h3] at h
    exact h
  · simp only [ac_hb, if_pos h1, if_neg h2, if_neg h3] at h
    exact h
  · simp only [ac_hb, if_neg h1] at h
    exact h
theorem ay_tail {i : Nat} (hp : pr < 2) (h : J (nI (i + 1)) ky lf th tg st sp sg (nI (ac_ch (ac_tl th up av er z sn an).2 pr)) nw (nI S) (nI L) du fo sl ab ap up lo ((ac_tl th up av er z sn an).2) ((ac_tl th up av er z sn an).1) ((ac_hb2 up av z (sn, an)).1) ((ac_hb2 up av z (sn, an)).2) ao sr un tx rc ak fa lg) : ∃ n, wY_run_717 post J x3 x4 (nI i) z ky lf th tg st sp sg (nI pr) nw (nI S) (nI L) du fo sl ab ap n 0 up lo av er sn an ao sr un tx rc ak fa lg :=
  ⟨3, ay_hb_b (p := 0) (by omega) (ay_hb_b (p := 1) (by omega) (br_t (by decide) (ay_jd hp h)))⟩
theorem ay_ak (hS : S ≤ 128) : ∀ (n id : Nat) (ak : ac_A), id + n = S → ∀ fu, n < fu → (∃ q, wY_run_717 post J x3 x4 x5 z ky lf th tg st sp sg (nI pr) nw (nI S) (nI L) du fo sl ab ap q 0 up lo av er sn an ao sr un tx rc (ac_ack rc n id ak) fa lg) → wY_run_673 post J x3 x4 x5 z ky lf th tg st sp sg (nI pr) nw (nI S) (nI L) du fo sl ab ap fu (nI id) up lo av er sn an ao sr un tx rc ak fa lg := by
  intro n
  induction n with
  | zero =>
    intro id ak hn fu hf h
    obtain ⟨f, rfl⟩ : ∃ f, fu = f + 1 := ⟨fu - 1, by omega⟩
    exact br_t (nI_le (by omega) (by omega)) h
  | succ n ih =>
    intro id ak hn fu hf h
    obtain ⟨f, rfl⟩ : ∃ f, fu = f + 1 := ⟨fu - 1, by omega⟩
    have hi' : vp_in (nI id) 128 := vp_in_nI (by omega) (by omega)
    have e1 : (nI id).toNatClampNeg = id := nI_clamp (by omega)
    rw [ac_ack_s] at h
    refine br_f (nI_ge (by omega) (by omega)) (br_f (ac_128 (by omega)) ⟨hi', ?_⟩)
    rw [e1]
    refine br_c (fun a => ?_) (fun a => ⟨hi', ?_⟩)
    · rw [if_pos a] at h
      exact nm_r (nI_1 id) (ih (id + 1) ak (by omega) f (by omega) h)
    · rw [if_neg a] at h
      exact nm_r (congrArg (upd ak id) ac_vb1) (nm_r (nI_1 id) (ih (id + 1) _ (by omega) f (by omega) h))
theorem ay_654 (hS : S ≤ 128) (h : ∃ q, wY_run_717 post J x3 x4 x5 z ky lf th tg st sp sg (nI pr) nw (nI S) (nI L) du fo sl ab ap q 0 up lo av er sn (if ao 1 = 0 then an else upd an 1 1) ao sr un tx rc (ac_ack rc S 0 ak) fa lg) : wY_run_654 post J x3 x4 x5 z ky lf th tg st sp sg (nI pr) nw (nI S) (nI L) du fo sl ab ap up lo av er sn an ao sr un tx rc ak fa lg := by
  refine br_c (fun a => ?_) (fun a => nm_r (congrArg (upd an 1) ac_vb1) ?_)
  · rw [if_pos a] at h
    exact ⟨S + 1, ay_ak hS S 0 ak (by omega) (S + 1) (by omega) h⟩
  · rw [if_neg a] at h
    exact ⟨S + 1, ay_ak hS S 0 ak (by omega) (S + 1) (by omega) h⟩
/-- what 'any' holds, when the scan is at id -/
def ac_AY (id : Nat) (fa : ac_A) (x : Int32) : Prop := (x = 0 ∧ ac_ct (ac_fl fa) id = 0) ∨ (x = 1 ∧ 0 < ac_ct (ac_fl fa) id)
theorem ay_628 {x9 : Int32} (hS : S ≤ 128) (hy : ac_AY S fa x9) (h : ∃ q, wY_run_717 post J x3 x4 x5 z ky lf th tg st sp sg (nI pr) nw (nI S) (nI L) du fo sl ab ap q 0 up lo av er sn (ac_da S z fa ao) ao sr un tx rc (ac_dk S z fa rc ak) fa lg) : wY_run_628 post J x3 x4 x5 z x9 ky lf th tg st sp sg (nI pr) nw (nI S) (nI L) du fo sl ab ap up lo av er sn (fun _ => 0) ao sr un tx rc ak fa lg := by
  unfold ac_da ac_dk at h
  refine br_c (fun a => ?_) (fun a => br_c (fun b => ?_) (fun b => ?_))
  · simp only [if_pos a] at h
    exact h
  · have cz : ac_ct (ac_fl fa) S = 0 := by
      cases hy with
      | inl y => exact y.2
      | inr y => rw [y.1] at b; exact absurd b (by decide)
    simp only [if_neg a, if_pos cz] at h
    exact h
  · have cz : ¬ ac_ct (ac_fl fa) S = 0 := by
      cases hy with
      | inl y => exact absurd y.1 b
      | inr y => have := y.2; omega
    simp only [if_neg a, if_neg cz, ac_an] at h
    refine br_c (fun d => ?_) (fun d => nm_r (congrArg (upd (fun _ => 0) 0) ac_vb1) ?_)
    · simp only [if_pos d] at h
      exact ay_654 hS h
    · simp only [if_neg d] at h
      exact ay_654 hS h
theorem ay_541 {x9 rv dp a0 : Int32} : ∀ (n t : Nat) (rc xp lg : ac_A) (L : Nat) (du : Int32), t + n = S → ac_PI S sr un (rc, xp, lg, L, du) → ∀ fu, n < fu → wY_run_628 post J x3 x4 x5 z x9 ky lf th tg st sp sg (nI pr) nw (nI S) (nI (ac_pp S sr un fa rv dp n t (rc, xp, lg, L, du)).2.2.2.1) ((ac_pp S sr un fa rv dp n t (rc, xp, lg, L, du)).2.2.2.2) fo sl ab (nI (ac_pp S sr un fa rv dp n t (rc, xp, lg, L, du)).2.2.2.1 - a0) up lo av er sn an ao sr un tx ((ac_pp S sr un fa rv dp n t (rc, xp, lg, L, du)).1) ak fa ((ac_pp S sr un fa rv dp n t (rc, xp, lg, L, du)).2.2.1) → wY_run_541 post J x3 x4 x5 z x9 rv dp fu (nI t) ky lf th tg st sp sg (nI pr) nw (nI S) (nI L) du fo sl ab (nI L - a0) up lo av er sn an ao sr un tx rc ak fa lg := by
  intro n
  induction n with
  | zero =>
    intro t rc xp lg L du hn I fu hf h
    have hS := I.1.1
    obtain ⟨f, rfl⟩ : ∃ f, fu = f + 1 := ⟨fu - 1, by omega⟩
    exact br_t (nI_le (by omega) (by omega)) h
  | succ n ih =>
    intro t rc xp lg L du hn I fu hf h
    have hS := I.1.1
    obtain ⟨f, rfl⟩ : ∃ f, fu = f + 1 := ⟨fu - 1, by omega⟩
    have hix : ac_ix S rv t < S := ac_ix_lt (by omega)
    rw [ac_pp_s] at h
    have key : ∀ y : Int32, y = nI (ac_ix S rv t) → wY_run_577 post J (wY_run_541 post J x3 x4 x5 z x9 rv dp f) x3 x4 x5 z x9 rv dp (nI t) y ky lf th tg st sp sg (nI pr) nw (nI S) (nI L) du fo sl ab (nI L - a0) up lo av er sn an ao sr un tx rc ak fa lg := by
      intro y ey
      rw [ey]
      unfold wY_run_577
      refine br_f (nI_pos (by omega)) (br_f (ac_128 (by omega)) ⟨vp_in_nI (by omega) (by omega), ?_⟩)
      rw [nI_clamp (show ac_ix S rv t < 2 ^ 31 by omega)]
      refine br_c (fun a => ?_) (fun a => ?_)
      · rw [if_pos a] at h
        exact nm_r (nI_1 t) (ih (t + 1) rc xp lg L du (by omega) I f (by omega) h)
      · rw [if_neg a] at h
        refine ay_pc hix I ?_
        dsimp only
        refine br_c (fun d => nm_r (nI_1 t) ?_) (fun d => ?_)
        · rw [ac_p2, if_pos d] at h
          exact ih (t + 1) _ _ _ _ _ (by omega) (ac_pc_inv hix I) f (by omega) h
        · rw [ac_p2, if_neg d] at h
          refine ay_pc hix (ac_pc_inv hix I) ?_
          dsimp only
          exact nm_r (nI_1 t) (ih (t + 1) _ _ _ _ _ (by omega) (ac_pc_inv hix (ac_pc_inv hix I)) f (by omega) h)
    refine br_f (nI_ge (by omega) (by omega)) (br_f (ac_128 (by omega)) (br_c (fun d => key _ (by rw [ac_ix, if_pos d])) (fun d => key _ ?_)))
    rw [ac_ix, if_neg d, show nI S - 1 = nI (S - 1) from pk_sub (a := S) (b := 1) (by omega), pk_sub (by omega)]
theorem ay_510 {x9 m a0 : Int32} (I : ac_PI S sr un (rc, xp, lg, L, du)) (h : wY_run_628 post J x3 (m &&& 7) x5 z x9 ky lf th tg st sp sg (nI pr) nw (nI S) (nI (ac_P S sr un fa (ac_mr m) (ac_md m) (rc, xp, lg, L, du)).2.2.2.1) ((ac_P S sr un fa (ac_mr m) (ac_md m) (rc, xp, lg, L, du)).2.2.2.2) fo sl ab (nI (ac_P S sr un fa (ac_mr m) (ac_md m) (rc, xp, lg, L, du)).2.2.2.1 - a0) up lo av er sn an ao sr un tx ((ac_P S sr un fa (ac_mr m) (ac_md m) (rc, xp, lg, L, du)).1) ak fa ((ac_P S sr un fa (ac_mr m) (ac_md m) (rc, xp, lg, L, du)).2.2.1)) : wY_run_510 post J x3 (m &&& 7) x5 z x9 ky lf th tg st sp sg (nI pr) nw (nI S) (nI L) du fo sl ab (nI L - a0) up lo av er sn an ao sr un tx rc ak fa lg := by
  have w : ∃ n, wY_run_541 post J x3 (m &&& 7) x5 z x9 (ac_mr m) (ac_md m) n 0 ky lf th tg st sp sg (nI pr) nw (nI S) (nI L) du fo sl ab (nI L - a0) up lo av er sn an ao sr un tx rc ak fa lg := ⟨S + 1, ay_541 S 0 rc xp lg L du (by omega) I (S + 1) (by omega) h⟩
  unfold wY_run_510 wY_run_522
  rw [ac_m1, ac_m2]
  unfold ac_mr ac_md at w
  refine br_c (fun a => br_c (fun b => ?_) (fun b => ?_)) (fun a => br_c (fun b => ?_) (fun b => ?_))
  · rw [if_pos a, if_pos b] at w
    exact w
  · rw [if_pos a, if_neg b] at w
    exact w
  · rw [if_neg a, if_pos b] at w
    exact w
  · rw [if_neg a, if_neg b] at w
    exact w
theorem ac_AY_skip {id : Nat} {x : Int32} (hz : ac_FZ id fa) (h : ac_AY id fa x) : ac_AY (id + 1) fa x := by
  unfold ac_AY
  rw [ac_ct_fl0 hz]
  exact h
theorem ay_371 (hS : S ≤ 128) (hp : pr < 2) : ∀ (n id : Nat) (tx sn lo ao fa : ac_A) (x9 : Int32), id + n = S → ac_FZ id fa → ac_AY id fa x9 → ∀ fu, n < fu → (∀ x9', ac_AY S (ac_tm ak up pr (ac_rt av pr) n id (tx, sn, lo, ao, fa)).2.2.2.2 x9' → wY_run_510 post J x3 x4 x5 z x9' ky lf th tg st sp sg (nI pr) nw (nI S) (nI L) du fo sl ab ap up ((ac_tm ak up pr (ac_rt av pr) n id (tx, sn, lo, ao, fa)).2.2.1) av er ((ac_tm ak up pr (ac_rt av pr) n id (tx, sn, lo, ao, fa)).2.1) an ((ac_tm ak up pr (ac_rt av pr) n id (tx, sn, lo, ao, fa)).2.2.2.1) sr un ((ac_tm ak up pr (ac_rt av pr) n id (tx, sn, lo, ao, fa)).1) rc ak ((ac_tm ak up pr (ac_rt av pr) n id (tx, sn, lo, ao, fa)).2.2.2.2) lg) → wY_run_371 post J x3 x4 x5 z (nI pr) (nI (1 - pr)) ky lf th tg st sp sg (nI pr) nw (nI S) (nI L) du fo sl ab ap fu x9 (nI id) up lo av er sn an ao sr un tx rc ak fa lg := by
  have hq : 1 - pr < 2 := by omega
  intro n
  induction n with
  | zero =>
    intro id tx sn lo ao fa x9 hn hz hy fu hf h
    obtain ⟨f, rfl⟩ : ∃ f, fu = f + 1 := ⟨fu - 1, by omega⟩
    exact br_t (nI_le (by omega) (by omega)) (h x9 (by rw [← hn]; exact hy))
  | succ n ih =>
    intro id tx sn lo ao fa x9 hn hz hy fu hf h
    obtain ⟨f, rfl⟩ : ∃ f, fu = f + 1 := ⟨fu - 1, by omega⟩
    have hi : id < 128 := by omega
    have hi' : vp_in (nI id) 128 := vp_in_nI hi (by omega)
    have e1 : (nI id).toNatClampNeg = id := nI_clamp (by omega)
    refine br_f (nI_ge (by omega) (by omega)) (br_f (ac_128 hi) ⟨hi', ?_⟩)
    rw [e1]
    refine br_c (fun a => ⟨hi', ?_⟩) (fun a => ?_)
    · rw [ac_tm_y a] at h
      have key : ∀ p : Nat, p = ac_tp pr (ac_rt av pr) (tx id) → wY_run_429 post J (wY_run_371 post J x3 x4 x5 z (nI pr) (nI (1 - pr)) ky lf th tg st sp sg (nI pr) nw (nI S) (nI L) du fo sl ab ap f) x3 x4 x5 z (nI pr) (nI (1 - pr)) x9 (nI id) (nI p) ky lf th tg st sp sg (nI pr) nw (nI S) (nI L) du fo sl ab ap up lo av er sn an ao sr un tx rc ak fa lg := by
        intro p ep
        have hp2 : p < 2 := by rw [ep]; exact ac_tp_2 hp (ac_rt_2 hp)
        have hv := ac_p2v hp2
        rw [← ep] at h
        unfold wY_run_429
        simp only [ac_p2c hp2, e1, ac_vb1, forall_eq, nI_1]
        refine ⟨hi', hi', hv, hv, br_c (fun h1 => ?_) (fun h1 => ⟨hv, br_c (fun h2 => ⟨hi', hv, ?_⟩) (fun h2 => ⟨hv, hv, ?_⟩)⟩)⟩
        · simp only [ac_t1, if_pos h1] at h
          exact ih (id + 1) _ _ _ _ _ x9 (by omega) (ac_FZ_skip hz) (ac_AY_skip hz hy) f (by omega) h
        · simp only [ac_t1, if_neg h1, if_pos h2] at h
          exact ih (id + 1) _ _ _ _ _ 1 (by omega) (ac_FZ_put hz) (Or.inr ⟨rfl, by rw [ac_ct_fl1]; omega⟩) f (by omega) h
        · simp only [ac_t1, if_neg h1, if_neg h2] at h
          exact ih (id + 1) _ _ _ _ _ x9 (by omega) (ac_FZ_skip hz) (ac_AY_skip hz hy) f (by omega) h
      refine br_c (fun t => key pr (by rw [ac_tp, if_pos t])) (fun t => ⟨ac_p2v hq, ?_⟩)
      rw [ac_p2c hq]
      exact br_c (fun b => key pr (by rw [ac_tp, if_neg t, ac_rt, if_pos b])) (fun b => key (1 - pr) (by rw [ac_tp, if_neg t, ac_rt, if_neg b]))
    · rw [ac_tm_n a] at h
      exact nm_r (nI_1 id) (ih (id + 1) tx sn lo ao fa x9 (by omega) (ac_FZ_skip hz) (ac_AY_skip hz hy) f (by omega) h)
theorem ay_346 {x7 x8 x9 : Int32} : ∀ (n id : Nat) (fa : ac_A), id + n = 128 → (∀ j, j < id → fa j = 0) → (∀ j, 128 ≤ j → fa j = 0) → ∀ fu, n < fu → (∃ q, wY_run_371 post J x3 x4 x5 z x7 x8 ky lf th tg st sp sg (nI pr) nw (nI S) (nI L) du fo sl ab ap q x9 0 up lo av er sn an ao sr un tx rc ak (fun _ => 0) lg) → wY_run_346 post J x3 x4 x5 z x7 x8 x9 ky lf th tg st sp sg (nI pr) nw (nI S) (nI L) du fo sl ab ap fu (nI id) up lo av er sn an ao sr un tx rc ak fa lg := by
  intro n
  induction n with
  | zero =>
    intro id fa hn hl hh fu hf h
    obtain ⟨f, rfl⟩ : ∃ f, fu = f + 1 := ⟨fu - 1, by omega⟩
    have e : fa = fun _ => 0 := by
      funext j
      by_cases q : j < id
      · exact hl j q
      · exact hh j (by omega)
    rw [e]
    exact br_t (nI_le (a := 128) (by omega) (by omega)) h
  | succ n ih =>
    intro id fa hn hl hh fu hf h
    obtain ⟨f, rfl⟩ : ∃ f, fu = f + 1 := ⟨fu - 1, by omega⟩
    have e1 : (nI id).toNatClampNeg = id := nI_clamp (by omega)
    refine br_f (ac_128 (by omega)) ⟨vp_in_nI (by omega) (by omega), nm_r (show upd fa (nI id).toNatClampNeg (vp_nar .boolean 0) = upd fa id 0 by rw [e1, ac_vb0]) (nm_r (nI_1 id) (ih (id + 1) _ (by omega) (fun j hj => ?_) (fun j hj => ac_upd0 (hh j hj) (by omega)) f (by omega) h))⟩
    by_cases q : j = id
    · rw [q, pk_us]
    · rw [pk_un q]
      exact hl j (by omega)
end AYB
