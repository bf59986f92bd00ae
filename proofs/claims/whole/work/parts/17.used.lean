theorem i_vc_used {k : Nat} {u : SX} {v : SY} (I : i_Rel k u v) (hk : k + 5 ≤ 2562) : wpX_used (fun r => wpY_used (fun r' => r' = r ∧ i_Rel (k + 5) u v) v) u := by
  obtain ⟨R, B, n, c, M, dT, dV, fd, rt, cl, sr, sc, su, tn, rT, rV, bd, bT, bV, fn, ar, aT, aV, crT, crV, cN, cU, cB, cbT, cbV, sT, sV, rfl, rfl, q⟩ := I
  have hR := q.2.1
  exact ⟨rfl, lh_mk rfl rfl rfl q⟩
