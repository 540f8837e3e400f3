theorem i_vc_run {k : Nat} {u : SX} {v : SY} (I : i_Rel k u v) (hk : k + 4 ≤ 2052) (v1 : Int32) (v2 : Int32) : wpX_run (fun r u' => wpY_run (fun r' v' => r' = r ∧ i_Rel (k + 4) u' v') v v1 v2) u v1 v2 := by
  obtain ⟨ky, lf, th, tg, fo, S, up, sr, un, rk, nr, ⟨nw, st, sp, sg, pr, sl, ab, lo, av, er, tx, ak, rc, xp, lg, L, du⟩, sn, an, ao, xa, c, sn2, an2, ao2, fa, ap, rfl, rfl, F⟩ := I
  obtain ⟨G, K, N, T, T2, fz⟩ := F
  obtain ⟨M, hM, eM⟩ := ac_cl16 v1
  refine ax_run hM eM K G T.1 T.2.1 T.2.2 (fun sn' an' ao' xa' c' hs ha ho g' eg => ?_)
  refine ay_run hM eM G T2.1 T2.2.1 T2.2.2 fz (fun sn2' an2' ao2' fa' hs2 ha2 ho2 fz' g2 eg2 => ?_)
  obtain rfl : g2 = g' := eg2.trans eg.symm
  have G' : ac_GI S sr un g2 := by rw [eg]; exact ac_rds_inv M _ G
  exact ⟨rfl, ky, lf, th, tg, fo, S, up, sr, un, rk, nr, g2, sn', an', ao', xa', c', sn2', an2', ao2', fa', _, rfl, rfl, G', K, N, ⟨hs, ha, ho⟩, ⟨hs2, ha2, ho2⟩, fz'⟩
