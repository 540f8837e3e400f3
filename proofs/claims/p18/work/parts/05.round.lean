/-! J: a round, pure -/
def ac_an (ao an : ac_A) : ac_A := if ao 1 = 0 then (if ao 0 = 0 then an else upd an 0 1) else upd (if ao 0 = 0 then an else upd an 0 1) 1 1
abbrev ac_H : Type := Int32 × Int32 × Int32 × Int32 × Int32 × ac_A × ac_A
/-- the handshake's exchange: state, stamp, accepted tag, stale, aborts, sent, answered -/
def ac_hs (life tag : Int32) (up : ac_A) (rp : Int32) (pr : Nat) (now st stamp sg stale ab : Int32) : ac_H :=
  if st = 1 then
    (if up pr = 0 then (st, stamp, sg, stale, ab, upd (fun _ => 0) pr 1, fun _ => 0)
    else if rp = 0 then (st, stamp, sg, stale, ab, upd (fun _ => 0) pr 1, fun _ => 0) else (2, now, sg, stale, ab, upd (fun _ => 0) pr 1, upd (fun _ => 0) pr 1))
  else if st = 2 then
    (if up pr = 0 then (st, stamp, sg, stale, ab, upd (fun _ => 0) pr 1, fun _ => 0)
    else if now - stamp ≤ life then
      (if sg = 0 then (if rp = 0 then (st, stamp, tag, stale, ab, upd (fun _ => 0) pr 1, fun _ => 0) else (3, stamp, tag, stale, ab, upd (fun _ => 0) pr 1, upd (fun _ => 0) pr 1))
      else if sg = tag then (if rp = 0 then (st, stamp, sg, stale, ab, upd (fun _ => 0) pr 1, fun _ => 0) else (3, stamp, sg, stale, ab, upd (fun _ => 0) pr 1, upd (fun _ => 0) pr 1))
      else (if rp = 0 then (st, stamp, sg, stale, ab, upd (fun _ => 0) pr 1, fun _ => 0) else (0, stamp, sg, stale, ab + 1, upd (fun _ => 0) pr 1, upd (fun _ => 0) pr 1)))
    else (if rp = 0 then (st, stamp, sg, stale + 1, ab, upd (fun _ => 0) pr 1, fun _ => 0) else (1, stamp, sg, stale + 1, ab, upd (fun _ => 0) pr 1, upd (fun _ => 0) pr 1)))
  else (st, stamp, sg, stale, ab, fun _ => 0, fun _ => 0)
/-- the data exchange: transmission, processing, acknowledgement -/
def ac_rt (act : ac_A) (pr : Nat) : Nat := if act (1 - pr) = 0 then pr else 1 - pr
def ac_T (S : Nat) (up act : ac_A) (pr : Nat) (lose tx ak : ac_A) : ac_TS := ac_tm ak up pr (ac_rt act pr) S 0 (tx, fun _ => 0, lose, fun _ => 0, fun _ => 0)
def ac_P (S : Nat) (str uno fa : ac_A) (rev dup : Int32) (q : ac_PS) : ac_PS := ac_pp S str uno fa rev dup S 0 q
def ac_dk (S : Nat) (rp : Int32) (fa rc ak : ac_A) : ac_A := if rp = 0 then ak else (if ac_ct (ac_fl fa) S = 0 then ak else ac_ack rc S 0 ak)
def ac_da (S : Nat) (rp : Int32) (fa ao : ac_A) : ac_A := if rp = 0 then (fun _ => 0) else (if ac_ct (ac_fl fa) S = 0 then (fun _ => 0) else ac_an ao (fun _ => 0))
def ac_hb2 (up act : ac_A) (rp : Int32) (q : ac_A × ac_A) : ac_A × ac_A := ac_hb up act rp 1 (ac_hb up act rp 0 q)
def ac_jd2 (th : Int32) (w q : ac_A × ac_A) : ac_A × ac_A := ac_jd th w.1 w.2 1 (ac_jd th w.1 w.2 0 q)
/-- errors, active after the round, from sent and answered -/
def ac_tl (th : Int32) (up act err : ac_A) (rp : Int32) (sn an : ac_A) : ac_A × ac_A := ac_jd2 th (ac_hb2 up act rp (sn, an)) (err, act)
/-- now st stamp sg pr stale ab lose act err tx ak rc xp lg L dups -/
abbrev ac_G : Type := Int32 × Int32 × Int32 × Int32 × Nat × Int32 × Int32 × ac_A × ac_A × ac_A × ac_A × ac_A × ac_A × ac_A × ac_A × Nat × Int32
def ac_rdE (th : Int32) (up : ac_A) (S : Nat) (str uno : ac_A) (rp rev dup : Int32) (now st stamp sg : Int32) (pr : Nat) (stale ab : Int32) (lose act err tx ak rc xp lg : ac_A) (L : Nat) (dups : Int32) : ac_G :=
  (now + 1, st, stamp, sg, ac_ch (ac_tl th up act err rp (ac_T S up act pr lose tx ak).2.1 (ac_da S rp (ac_T S up act pr lose tx ak).2.2.2.2 (ac_T S up act pr lose tx ak).2.2.2.1)).2 pr, stale, ab,
    (ac_T S up act pr lose tx ak).2.2.1,
    (ac_tl th up act err rp (ac_T S up act pr lose tx ak).2.1 (ac_da S rp (ac_T S up act pr lose tx ak).2.2.2.2 (ac_T S up act pr lose tx ak).2.2.2.1)).2,
    (ac_tl th up act err rp (ac_T S up act pr lose tx ak).2.1 (ac_da S rp (ac_T S up act pr lose tx ak).2.2.2.2 (ac_T S up act pr lose tx ak).2.2.2.1)).1,
    (ac_T S up act pr lose tx ak).1,
    ac_dk S rp (ac_T S up act pr lose tx ak).2.2.2.2 (ac_P S str uno (ac_T S up act pr lose tx ak).2.2.2.2 rev dup (rc, xp, lg, L, dups)).1 ak,
    (ac_P S str uno (ac_T S up act pr lose tx ak).2.2.2.2 rev dup (rc, xp, lg, L, dups)).1,
    (ac_P S str uno (ac_T S up act pr lose tx ak).2.2.2.2 rev dup (rc, xp, lg, L, dups)).2.1,
    (ac_P S str uno (ac_T S up act pr lose tx ak).2.2.2.2 rev dup (rc, xp, lg, L, dups)).2.2.1,
    (ac_P S str uno (ac_T S up act pr lose tx ak).2.2.2.2 rev dup (rc, xp, lg, L, dups)).2.2.2.1,
    (ac_P S str uno (ac_T S up act pr lose tx ak).2.2.2.2 rev dup (rc, xp, lg, L, dups)).2.2.2.2)
/-- the round's end, when the exchange gave h -/
def ac_rdH (th : Int32) (up : ac_A) (rp : Int32) (now : Int32) (h : ac_H) (pr : Nat) (lose act err tx ak rc xp lg : ac_A) (L : Nat) (dups : Int32) : ac_G :=
  (now + 1, h.1, h.2.1, h.2.2.1, ac_ch (ac_tl th up act err rp h.2.2.2.2.2.1 h.2.2.2.2.2.2).2 pr, h.2.2.2.1, h.2.2.2.2.1, lose, (ac_tl th up act err rp h.2.2.2.2.2.1 h.2.2.2.2.2.2).2, (ac_tl th up act err rp h.2.2.2.2.2.1 h.2.2.2.2.2.2).1, tx, ak, rc, xp, lg, L, dups)
def ac_rd (life th tag : Int32) (up : ac_A) (S : Nat) (str uno : ac_A) (rp rev dup : Int32) : ac_G → ac_G
  | (now, st, stamp, sg, pr, stale, ab, lose, act, err, tx, ak, rc, xp, lg, L, dups) =>
    if st = 3 then ac_rdE th up S str uno rp rev dup now st stamp sg pr stale ab lose act err tx ak rc xp lg L dups
    else ac_rdH th up rp now (ac_hs life tag up rp pr (now + 1) st stamp sg stale ab) pr lose act err tx ak rc xp lg L dups
def ac_GI (S : Nat) (str uno : ac_A) : ac_G → Prop
  | (_, _, _, _, pr, _, _, _, act, _, tx, ak, rc, xp, lg, L, dups) => pr < 2 ∧ (∀ j, act j = 0 ∨ act j = 1) ∧ ac_PI S str uno (rc, xp, lg, L, dups) ∧ (∀ j, ak j = 0 ∨ ak j = 1) ∧ (∀ j, S ≤ j → tx j = 0) ∧ (∀ j, S ≤ j → ak j = 0)
theorem ac_tl_01 {th : Int32} {up act err : ac_A} {rp : Int32} {sn an : ac_A} (h : ∀ j, act j = 0 ∨ act j = 1) : ∀ j, (ac_tl th up act err rp sn an).2 j = 0 ∨ (ac_tl th up act err rp sn an).2 j = 1 := by
  unfold ac_tl ac_jd2
  exact ac_jd_01 (ac_jd_01 h)
theorem ac_rd_E {life th tag : Int32} {up : ac_A} {S : Nat} {str uno : ac_A} {rp rev dup now st stamp sg : Int32} {pr : Nat} {stale ab : Int32} {lose act err tx ak rc xp lg : ac_A} {L : Nat} {dups : Int32} (e : st = 3) : ac_rd life th tag up S str uno rp rev dup (now, st, stamp, sg, pr, stale, ab, lose, act, err, tx, ak, rc, xp, lg, L, dups) = ac_rdE th up S str uno rp rev dup now st stamp sg pr stale ab lose act err tx ak rc xp lg L dups := if_pos e
theorem ac_rd_H {life th tag : Int32} {up : ac_A} {S : Nat} {str uno : ac_A} {rp rev dup now st stamp sg : Int32} {pr : Nat} {stale ab : Int32} {lose act err tx ak rc xp lg : ac_A} {L : Nat} {dups : Int32} (e : ¬ st = 3) : ac_rd life th tag up S str uno rp rev dup (now, st, stamp, sg, pr, stale, ab, lose, act, err, tx, ak, rc, xp, lg, L, dups) = ac_rdH th up rp now (ac_hs life tag up rp pr (now + 1) st stamp sg stale ab) pr lose act err tx ak rc xp lg L dups := if_neg e
theorem ac_rd_inv {life th tag : Int32} {up : ac_A} {S : Nat} {str uno : ac_A} {rp rev dup : Int32} {g : ac_G} (h : ac_GI S str uno g) : ac_GI S str uno (ac_rd life th tag up S str uno rp rev dup g) := by
  obtain ⟨now, st, stamp, sg, pr, stale, ab, lose, act, err, tx, ak, rc, xp, lg, L, dups⟩ := g
  obtain ⟨h1, h2, h3, h4, h5, h6⟩ := h
  by_cases e : st = 3
  · rw [ac_rd_E e]
    refine ⟨ac_ch_2 h1, ac_tl_01 h2, ac_pp_inv S 0 _ (by omega) h3, ?_, ?_, ?_⟩
    · unfold ac_dk
      split
      · exact h4
      · split
        · exact h4
        · exact ac_ack_01 S 0 ak h4
    · intro j hj
      unfold ac_T
      rw [ac_tm_tx S 0 _ j (by omega)]
      exact h5 j hj
    · intro j hj
      unfold ac_dk
      split
      · exact h6 j hj
      · split
        · exact h6 j hj
        · rw [ac_ack_hi S 0 ak j (by omega)]
          exact h6 j hj
  · rw [ac_rd_H e]
    exact ⟨ac_ch_2 h1, ac_tl_01 h2, h3, h4, h5, h6⟩
/-- n rounds -/
def ac_rds (life th tag : Int32) (up : ac_A) (S : Nat) (str uno : ac_A) (rp rev dup : Int32) : Nat → ac_G → ac_G
  | 0, g => g
  | n + 1, g => ac_rds life th tag up S str uno rp rev dup n (ac_rd life th tag up S str uno rp rev dup g)
theorem ac_rds_inv {life th tag : Int32} {up : ac_A} {S : Nat} {str uno : ac_A} {rp rev dup : Int32} : ∀ (n : Nat) (g : ac_G), ac_GI S str uno g → ac_GI S str uno (ac_rds life th tag up S str uno rp rev dup n g) := by
  intro n
  induction n with
  | zero => intro g h; exact h
  | succ n ih => intro g h; exact ih _ (ac_rd_inv h)
