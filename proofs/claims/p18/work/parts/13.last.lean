theorem i_vc (xs : Nat → Int32) (L : Nat) (hL : L ≤ 260) : wpL_law (fun r => r = 1) L xs := by
  unfold wpL_law
  exact al_cell (q := 0) rfl (by omega) (by omega) (fun r1 => al_cell (q := 1) rfl (by omega) (by omega) (fun r2 => al_cell (q := 2) rfl (by omega) (by omega) (fun r3 => nm_e (br_c (fun _ => al_27 hL) (fun _ => al_27 hL)))))
