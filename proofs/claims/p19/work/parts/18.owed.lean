theorem i_vc (xs : Nat → Int32) (L : Nat) (hL : L ≤ 260) : wpL_law (fun r => r = 1) L xs := by
  unfold wpL_law
  refine lj_cell (k := 0) hL (by omega) (fun y => nm_e (lj_cell (k := 1) hL (by omega) (fun z => nm_e ⟨by decide, nm_e ?_⟩)))
  exact br_c (fun h => lj_32 (post := fun r => r = 1) hL h rfl _ _) (fun _ => lj_32 (post := fun r => r = 1) (x3 := 0) hL (by decide) rfl _ _)
