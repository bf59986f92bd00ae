abbrev lj_T80 : Type := Int32 → Int32 → Int32 → Int32 → Int32 → (Nat → Int32) → (Nat → Int32) → (Nat → Int32) → (Nat → Int32) → (Nat → Int32) → (Nat → Int32) → Int32 → Int32 → Int32 → Int32 → (Nat → Int32) → (Nat → Int32) → (Nat → Int32) → (Nat → Int32) → (Nat → Int32) → (Nat → Int32) → Prop
abbrev lj_T344 : Type := Int32 → Int32 → Int32 → Int32 → Int32 → Int32 → Int32 → (Nat → Int32) → (Nat → Int32) → (Nat → Int32) → (Nat → Int32) → (Nat → Int32) → (Nat → Int32) → Int32 → Int32 → Int32 → Int32 → (Nat → Int32) → (Nat → Int32) → (Nat → Int32) → (Nat → Int32) → (Nat → Int32) → (Nat → Int32) → Prop
/-- an operation, on the first object and on the second -/
def lj_Op (k : Nat) (x10 x11 x12 x13 : Int32) (xR xB xU xC : Int32) (rt cl sr sc su tn : Nat → Int32) : Prop :=
  ∃ (r xR' xB' xU' xC' : Int32) (rt' cl' sr' sc' su' tn' : Nat → Int32), lj_G (xR', xB', xU', xC', rt', cl', sr', sc', su', tn') ∧
    (∀ (post : Int32 → Prop) (L : Nat) (xs : Nat → Int32) (J80 : lj_T80) (J344 : lj_T344) (x3 x4 x7 x14 x15 : Int32) (kc ks : Nat) (zR zB zU zC : Int32) (z1 z2 z3 z4 z5 z6 : Nat → Int32), J344 r x15 1 xR' xB' xU' xC' rt' cl' sr' sc' su' tn' zR zB zU zC z1 z2 z3 z4 z5 z6 →
      wL_law_362_2 post L xs J80 J344 x3 x4 x7 (nI k) x10 x11 x12 x13 x14 x15 0 kc ks xR xB xU xC rt cl sr sc su tn zR zB zU zC z1 z2 z3 z4 z5 z6) ∧
    (∀ (post : Int32 → Prop) (L : Nat) (xs : Nat → Int32) (J80 : lj_T80) (J344 : lj_T344) (x3 x4 x7 x14 x15 : Int32) (kc ks : Nat) (zR zB zU zC : Int32) (z1 z2 z3 z4 z5 z6 : Nat → Int32), J344 x14 r 2 zR zB zU zC z1 z2 z3 z4 z5 z6 xR' xB' xU' xC' rt' cl' sr' sc' su' tn' →
      wL_law_362 post L xs J80 J344 x3 x4 x7 (nI k) x10 x11 x12 x13 x14 x15 1 kc ks zR zB zU zC z1 z2 z3 z4 z5 z6 xR xB xU xC rt cl sr sc su tn)
theorem lj_e1 : (0 : Int32) + 1 = 1 := by decide
theorem lj_e2 : (1 : Int32) + 1 = 2 := by decide
section
variable {xR xB xU xC : Int32} {rt cl sr sc su tn : Nat → Int32}
theorem lj_op0 (g : lj_G (xR, xB, xU, xC, rt, cl, sr, sc, su, tn)) (x10 x11 x12 x13 : Int32) : lj_Op 0 x10 x11 x12 x13 xR xB xU xC rt cl sr sc su tn := by
  obtain ⟨r, ⟨xR', xB', xU', xC', rt', cl', sr', sc', su', tn'⟩, g', h01, hw⟩ := lj_newVar g (x10 &&& 7)
  rcases h01 with rfl | rfl
  · refine ⟨0, xR', xB', xU', xC', rt', cl', sr', sc', su', tn', g', ?_, ?_⟩
    · intro post L xs J80 J344 x3 x4 x7 x14 x15 kc ks zR zB zU zC z1 z2 z3 z4 z5 z6 hJ
      refine br_f (by decide) (br_f (by decide) (br_t rfl ?_))
      unfold wL_law_440_2
      exact hw _ (br_t rfl (br_t rfl (nm_r lj_e1 hJ)))
    · intro post L xs J80 J344 x3 x4 x7 x14 x15 kc ks zR zB zU zC z1 z2 z3 z4 z5 z6 hJ
      refine br_f (by decide) (br_f (by decide) (br_t rfl ?_))
      unfold wL_law_440
      exact hw _ (br_t rfl (br_f (by decide) (nm_r lj_e2 hJ)))
  · refine ⟨1, xR', xB', xU', xC', rt', cl', sr', sc', su', tn', g', ?_, ?_⟩
    · intro post L xs J80 J344 x3 x4 x7 x14 x15 kc ks zR zB zU zC z1 z2 z3 z4 z5 z6 hJ
      refine br_f (by decide) (br_f (by decide) (br_t rfl ?_))
      unfold wL_law_440_2
      exact hw _ (br_f (by decide) (br_t rfl (nm_r lj_e1 hJ)))
    · intro post L xs J80 J344 x3 x4 x7 x14 x15 kc ks zR zB zU zC z1 z2 z3 z4 z5 z6 hJ
      refine br_f (by decide) (br_f (by decide) (br_t rfl ?_))
      unfold wL_law_440
      exact hw _ (br_f (by decide) (br_f (by decide) (nm_r lj_e2 hJ)))
theorem lj_op1 (g : lj_G (xR, xB, xU, xC, rt, cl, sr, sc, su, tn)) (x10 x11 x12 x13 : Int32) : lj_Op 1 x10 x11 x12 x13 xR xB xU xC rt cl sr sc su tn := by
  obtain ⟨r, ⟨xR', xB', xU', xC', rt', cl', sr', sc', su', tn'⟩, g', h01, hw⟩ := lj_newVar g (x10 &&& 7)
  rcases h01 with rfl | rfl
  · refine ⟨0, xR', xB', xU', xC', rt', cl', sr', sc', su', tn', g', ?_, ?_⟩
    · intro post L xs J80 J344 x3 x4 x7 x14 x15 kc ks zR zB zU zC z1 z2 z3 z4 z5 z6 hJ
      refine br_f (by decide) (br_f (by decide) (br_f (by decide) (br_t rfl ?_)))
      unfold wL_law_440_2
      exact hw _ (br_t rfl (br_t rfl (nm_r lj_e1 hJ)))
    · intro post L xs J80 J344 x3 x4 x7 x14 x15 kc ks zR zB zU zC z1 z2 z3 z4 z5 z6 hJ
      refine br_f (by decide) (br_f (by decide) (br_f (by decide) (br_t rfl ?_)))
      unfold wL_law_440
      exact hw _ (br_t rfl (br_f (by decide) (nm_r lj_e2 hJ)))
  · refine ⟨1, xR', xB', xU', xC', rt', cl', sr', sc', su', tn', g', ?_, ?_⟩
    · intro post L xs J80 J344 x3 x4 x7 x14 x15 kc ks zR zB zU zC z1 z2 z3 z4 z5 z6 hJ
      refine br_f (by decide) (br_f (by decide) (br_f (by decide) (br_t rfl ?_)))
      unfold wL_law_440_2
      exact hw _ (br_f (by decide) (br_t rfl (nm_r lj_e1 hJ)))
    · intro post L xs J80 J344 x3 x4 x7 x14 x15 kc ks zR zB zU zC z1 z2 z3 z4 z5 z6 hJ
      refine br_f (by decide) (br_f (by decide) (br_f (by decide) (br_t rfl ?_)))
      unfold wL_law_440
      exact hw _ (br_f (by decide) (br_f (by decide) (nm_r lj_e2 hJ)))
theorem lj_op2 (g : lj_G (xR, xB, xU, xC, rt, cl, sr, sc, su, tn)) (x10 x11 x12 x13 : Int32) : lj_Op 2 x10 x11 x12 x13 xR xB xU xC rt cl sr sc su tn := by
  obtain ⟨r, ⟨xR', xB', xU', xC', rt', cl', sr', sc', su', tn'⟩, g', h01, hw⟩ := lj_build g (x10 &&& 7) (x11 &&& 7) (1 + (x12 &&& 3)) (x13 &&& 7)
  rcases h01 with rfl | rfl
  · refine ⟨0, xR', xB', xU', xC', rt', cl', sr', sc', su', tn', g', ?_, ?_⟩
    · intro post L xs J80 J344 x3 x4 x7 x14 x15 kc ks zR zB zU zC z1 z2 z3 z4 z5 z6 hJ
      refine br_f (by decide) (br_f (by decide) (br_f (by decide) (br_f (by decide) (br_t rfl ?_))))
      unfold wL_law_463_2
      exact hw _ (br_t rfl (br_t rfl (nm_r lj_e1 hJ)))
    · intro post L xs J80 J344 x3 x4 x7 x14 x15 kc ks zR zB zU zC z1 z2 z3 z4 z5 z6 hJ
      refine br_f (by decide) (br_f (by decide) (br_f (by decide) (br_f (by decide) (br_t rfl ?_))))
      unfold wL_law_463
      exact hw _ (br_t rfl (br_f (by decide) (nm_r lj_e2 hJ)))
  · refine ⟨1, xR', xB', xU', xC', rt', cl', sr', sc', su', tn', g', ?_, ?_⟩
    · intro post L xs J80 J344 x3 x4 x7 x14 x15 kc ks zR zB zU zC z1 z2 z3 z4 z5 z6 hJ
      refine br_f (by decide) (br_f (by decide) (br_f (by decide) (br_f (by decide) (br_t rfl ?_))))
      unfold wL_law_463_2
      exact hw _ (br_f (by decide) (br_t rfl (nm_r lj_e1 hJ)))
    · intro post L xs J80 J344 x3 x4 x7 x14 x15 kc ks zR zB zU zC z1 z2 z3 z4 z5 z6 hJ
      refine br_f (by decide) (br_f (by decide) (br_f (by decide) (br_f (by decide) (br_t rfl ?_))))
      unfold wL_law_463
      exact hw _ (br_f (by decide) (br_f (by decide) (nm_r lj_e2 hJ)))
theorem lj_op3 (g : lj_G (xR, xB, xU, xC, rt, cl, sr, sc, su, tn)) (x10 x11 x12 x13 : Int32) : lj_Op 3 x10 x11 x12 x13 xR xB xU xC rt cl sr sc su tn := by
  obtain ⟨r, ⟨xR', xB', xU', xC', rt', cl', sr', sc', su', tn'⟩, g', h01, hw⟩ := lj_build g (x10 &&& 7) (x11 &&& 7) (1 + (x12 &&& 3)) (x13 &&& 7)
  rcases h01 with rfl | rfl
  · refine ⟨0, xR', xB', xU', xC', rt', cl', sr', sc', su', tn', g', ?_, ?_⟩
    · intro post L xs J80 J344 x3 x4 x7 x14 x15 kc ks zR zB zU zC z1 z2 z3 z4 z5 z6 hJ
      refine br_f (by decide) (br_f (by decide) (br_f (by decide) (br_f (by decide) (br_f (by decide) (br_t rfl ?_)))))
      unfold wL_law_463_2
      exact hw _ (br_t rfl (br_t rfl (nm_r lj_e1 hJ)))
    · intro post L xs J80 J344 x3 x4 x7 x14 x15 kc ks zR zB zU zC z1 z2 z3 z4 z5 z6 hJ
      refine br_f (by decide) (br_f (by decide) (br_f (by decide) (br_f (by decide) (br_f (by decide) (br_t rfl ?_)))))
      unfold wL_law_463
      exact hw _ (br_t rfl (br_f (by decide) (nm_r lj_e2 hJ)))
  · refine ⟨1, xR', xB', xU', xC', rt', cl', sr', sc', su', tn', g', ?_, ?_⟩
    · intro post L xs J80 J344 x3 x4 x7 x14 x15 kc ks zR zB zU zC z1 z2 z3 z4 z5 z6 hJ
      refine br_f (by decide) (br_f (by decide) (br_f (by decide) (br_f (by decide) (br_f (by decide) (br_t rfl ?_)))))
      unfold wL_law_463_2
      exact hw _ (br_f (by decide) (br_t rfl (nm_r lj_e1 hJ)))
    · intro post L xs J80 J344 x3 x4 x7 x14 x15 kc ks zR zB zU zC z1 z2 z3 z4 z5 z6 hJ
      refine br_f (by decide) (br_f (by decide) (br_f (by decide) (br_f (by decide) (br_f (by decide) (br_t rfl ?_)))))
      unfold wL_law_463
      exact hw _ (br_f (by decide) (br_f (by decide) (nm_r lj_e2 hJ)))
theorem lj_op4 (g : lj_G (xR, xB, xU, xC, rt, cl, sr, sc, su, tn)) (x10 x11 x12 x13 : Int32) : lj_Op 4 x10 x11 x12 x13 xR xB xU xC rt cl sr sc su tn := by
  by_cases h4 : (x11 &&& 1) = 0
  · obtain ⟨r, ⟨xR', xB', xU', xC', rt', cl', sr', sc', su', tn'⟩, g', h01, hw⟩ := lj_setConst g (x10 &&& 7) 2 (x12 &&& 7)
    rcases h01 with rfl | rfl
    · refine ⟨0, xR', xB', xU', xC', rt', cl', sr', sc', su', tn', g', ?_, ?_⟩
      · intro post L xs J80 J344 x3 x4 x7 x14 x15 kc ks zR zB zU zC z1 z2 z3 z4 z5 z6 hJ
        refine br_f (by decide) (br_f (by decide) (br_f (by decide) (br_f (by decide) (br_f (by decide) (br_f (by decide) (br_t rfl (br_t h4 ?_)))))))
        exact hw _ (br_t rfl (br_t rfl (nm_r lj_e1 hJ)))
      · intro post L xs J80 J344 x3 x4 x7 x14 x15 kc ks zR zB zU zC z1 z2 z3 z4 z5 z6 hJ
        refine br_f (by decide) (br_f (by decide) (br_f (by decide) (br_f (by decide) (br_f (by decide) (br_f (by decide) (br_t rfl (br_t h4 ?_)))))))
        exact hw _ (br_t rfl (br_f (by decide) (nm_r lj_e2 hJ)))
    · refine ⟨1, xR', xB', xU', xC', rt', cl', sr', sc', su', tn', g', ?_, ?_⟩
      · intro post L xs J80 J344 x3 x4 x7 x14 x15 kc ks zR zB zU zC z1 z2 z3 z4 z5 z6 hJ
        refine br_f (by decide) (br_f (by decide) (br_f (by decide) (br_f (by decide) (br_f (by decide) (br_f (by decide) (br_t rfl (br_t h4 ?_)))))))
        exact hw _ (br_f (by decide) (br_t rfl (nm_r lj_e1 hJ)))
      · intro post L xs J80 J344 x3 x4 x7 x14 x15 kc ks zR zB zU zC z1 z2 z3 z4 z5 z6 hJ
        refine br_f (by decide) (br_f (by decide) (br_f (by decide) (br_f (by decide) (br_f (by decide) (br_f (by decide) (br_t rfl (br_t h4 ?_)))))))
        exact hw _ (br_f (by decide) (br_f (by decide) (nm_r lj_e2 hJ)))
  · obtain ⟨r, ⟨xR', xB', xU', xC', rt', cl', sr', sc', su', tn'⟩, g', h01, hw⟩ := lj_setConst g (x10 &&& 7) 3 ((x12 &&& 7) - 4)
    rcases h01 with rfl | rfl
    · refine ⟨0, xR', xB', xU', xC', rt', cl', sr', sc', su', tn', g', ?_, ?_⟩
      · intro post L xs J80 J344 x3 x4 x7 x14 x15 kc ks zR zB zU zC z1 z2 z3 z4 z5 z6 hJ
        refine br_f (by decide) (br_f (by decide) (br_f (by decide) (br_f (by decide) (br_f (by decide) (br_f (by decide) (br_t rfl (br_f h4 ?_)))))))
        exact hw _ (br_t rfl (br_t rfl (nm_r lj_e1 hJ)))
      · intro post L xs J80 J344 x3 x4 x7 x14 x15 kc ks zR zB zU zC z1 z2 z3 z4 z5 z6 hJ
        refine br_f (by decide) (br_f (by decide) (br_f (by decide) (br_f (by decide) (br_f (by decide) (br_f (by decide) (br_t rfl (br_f h4 ?_)))))))
        exact hw _ (br_t rfl (br_f (by decide) (nm_r lj_e2 hJ)))
    · refine ⟨1, xR', xB', xU', xC', rt', cl', sr', sc', su', tn', g', ?_, ?_⟩
      · intro post L xs J80 J344 x3 x4 x7 x14 x15 kc ks zR zB zU zC z1 z2 z3 z4 z5 z6 hJ
        refine br_f (by decide) (br_f (by decide) (br_f (by decide) (br_f (by decide) (br_f (by decide) (br_f (by decide) (br_t rfl (br_f h4 ?_)))))))
        exact hw _ (br_f (by decide) (br_t rfl (nm_r lj_e1 hJ)))
      · intro post L xs J80 J344 x3 x4 x7 x14 x15 kc ks zR zB zU zC z1 z2 z3 z4 z5 z6 hJ
        refine br_f (by decide) (br_f (by decide) (br_f (by decide) (br_f (by decide) (br_f (by decide) (br_f (by decide) (br_t rfl (br_f h4 ?_)))))))
        exact hw _ (br_f (by decide) (br_f (by decide) (nm_r lj_e2 hJ)))
theorem lj_op5 (g : lj_G (xR, xB, xU, xC, rt, cl, sr, sc, su, tn)) (x10 x11 x12 x13 : Int32) : lj_Op 5 x10 x11 x12 x13 xR xB xU xC rt cl sr sc su tn := by
  obtain ⟨r, ⟨xR', xB', xU', xC', rt', cl', sr', sc', su', tn'⟩, g', h01, hw⟩ := lj_move g (x10 &&& 7) (x11 &&& 7)
  rcases h01 with rfl | rfl
  · refine ⟨0, xR', xB', xU', xC', rt', cl', sr', sc', su', tn', g', ?_, ?_⟩
    · intro post L xs J80 J344 x3 x4 x7 x14 x15 kc ks zR zB zU zC z1 z2 z3 z4 z5 z6 hJ
      refine br_f (by decide) (br_f (by decide) (br_f (by decide) (br_f (by decide) (br_f (by decide) (br_f (by decide) (br_f (by decide) (br_t rfl ?_)))))))
      exact hw _ (br_t rfl (br_t rfl (nm_r lj_e1 hJ)))
    · intro post L xs J80 J344 x3 x4 x7 x14 x15 kc ks zR zB zU zC z1 z2 z3 z4 z5 z6 hJ
      refine br_f (by decide) (br_f (by decide) (br_f (by decide) (br_f (by decide) (br_f (by decide) (br_f (by decide) (br_f (by decide) (br_t rfl ?_)))))))
      exact hw _ (br_t rfl (br_f (by decide) (nm_r lj_e2 hJ)))
  · refine ⟨1, xR', xB', xU', xC', rt', cl', sr', sc', su', tn', g', ?_, ?_⟩
    · intro post L xs J80 J344 x3 x4 x7 x14 x15 kc ks zR zB zU zC z1 z2 z3 z4 z5 z6 hJ
      refine br_f (by decide) (br_f (by decide) (br_f (by decide) (br_f (by decide) (br_f (by decide) (br_f (by decide) (br_f (by decide) (br_t rfl ?_)))))))
      exact hw _ (br_f (by decide) (br_t rfl (nm_r lj_e1 hJ)))
    · intro post L xs J80 J344 x3 x4 x7 x14 x15 kc ks zR zB zU zC z1 z2 z3 z4 z5 z6 hJ
      refine br_f (by decide) (br_f (by decide) (br_f (by decide) (br_f (by decide) (br_f (by decide) (br_f (by decide) (br_f (by decide) (br_t rfl ?_)))))))
      exact hw _ (br_f (by decide) (br_f (by decide) (nm_r lj_e2 hJ)))
theorem lj_op6 (g : lj_G (xR, xB, xU, xC, rt, cl, sr, sc, su, tn)) (x10 x11 x12 x13 : Int32) : lj_Op 6 x10 x11 x12 x13 xR xB xU xC rt cl sr sc su tn := by
  obtain ⟨r, ⟨xR', xB', xU', xC', rt', cl', sr', sc', su', tn'⟩, g', h01, hw⟩ := lj_getArg g (x10 &&& 7) (x11 &&& 7) (1 + (x12 &&& 3))
  rcases h01 with rfl | rfl
  · refine ⟨0, xR', xB', xU', xC', rt', cl', sr', sc', su', tn', g', ?_, ?_⟩
    · intro post L xs J80 J344 x3 x4 x7 x14 x15 kc ks zR zB zU zC z1 z2 z3 z4 z5 z6 hJ
      refine br_f (by decide) (br_f (by decide) (br_f (by decide) (br_f (by decide) (br_f (by decide) (br_f (by decide) (br_f (by decide) (br_f (by decide) (br_t rfl ?_))))))))
      exact hw _ (br_t rfl (br_t rfl (nm_r lj_e1 hJ)))
    · intro post L xs J80 J344 x3 x4 x7 x14 x15 kc ks zR zB zU zC z1 z2 z3 z4 z5 z6 hJ
      refine br_f (by decide) (br_f (by decide) (br_f (by decide) (br_f (by decide) (br_f (by decide) (br_f (by decide) (br_f (by decide) (br_f (by decide) (br_t rfl ?_))))))))
      exact hw _ (br_t rfl (br_f (by decide) (nm_r lj_e2 hJ)))
  · refine ⟨1, xR', xB', xU', xC', rt', cl', sr', sc', su', tn', g', ?_, ?_⟩
    · intro post L xs J80 J344 x3 x4 x7 x14 x15 kc ks zR zB zU zC z1 z2 z3 z4 z5 z6 hJ
      refine br_f (by decide) (br_f (by decide) (br_f (by decide) (br_f (by decide) (br_f (by decide) (br_f (by decide) (br_f (by decide) (br_f (by decide) (br_t rfl ?_))))))))
      exact hw _ (br_f (by decide) (br_t rfl (nm_r lj_e1 hJ)))
    · intro post L xs J80 J344 x3 x4 x7 x14 x15 kc ks zR zB zU zC z1 z2 z3 z4 z5 z6 hJ
      refine br_f (by decide) (br_f (by decide) (br_f (by decide) (br_f (by decide) (br_f (by decide) (br_f (by decide) (br_f (by decide) (br_f (by decide) (br_t rfl ?_))))))))
      exact hw _ (br_f (by decide) (br_f (by decide) (nm_r lj_e2 hJ)))
theorem lj_op7 (g : lj_G (xR, xB, xU, xC, rt, cl, sr, sc, su, tn)) (x10 x11 x12 x13 : Int32) : lj_Op 7 x10 x11 x12 x13 xR xB xU xC rt cl sr sc su tn := by
  obtain ⟨r, ⟨xR', xB', xU', xC', rt', cl', sr', sc', su', tn'⟩, g', hw⟩ := lj_bind g (x10 &&& 7) (x11 &&& 7)
  refine ⟨r, xR', xB', xU', xC', rt', cl', sr', sc', su', tn', g', ?_, ?_⟩
  · intro post L xs J80 J344 x3 x4 x7 x14 x15 kc ks zR zB zU zC z1 z2 z3 z4 z5 z6 hJ
    refine br_f (by decide) (br_f (by decide) (br_f (by decide) (br_f (by decide) (br_f (by decide) (br_f (by decide) (br_f (by decide) (br_f (by decide) (br_f (by decide) (br_t rfl ?_)))))))))
    unfold wL_law_631_2
    exact hw _ (br_t rfl (nm_r lj_e1 hJ))
  · intro post L xs J80 J344 x3 x4 x7 x14 x15 kc ks zR zB zU zC z1 z2 z3 z4 z5 z6 hJ
    refine br_f (by decide) (br_f (by decide) (br_f (by decide) (br_f (by decide) (br_f (by decide) (br_f (by decide) (br_f (by decide) (br_f (by decide) (br_f (by decide) (br_t rfl ?_)))))))))
    unfold wL_law_631
    exact hw _ (br_f (by decide) (nm_r lj_e2 hJ))
theorem lj_op8 (g : lj_G (xR, xB, xU, xC, rt, cl, sr, sc, su, tn)) (x10 x11 x12 x13 : Int32) : lj_Op 8 x10 x11 x12 x13 xR xB xU xC rt cl sr sc su tn := by
  obtain ⟨r, ⟨xR', xB', xU', xC', rt', cl', sr', sc', su', tn'⟩, g', hw⟩ := lj_bind g (x10 &&& 7) (x11 &&& 7)
  refine ⟨r, xR', xB', xU', xC', rt', cl', sr', sc', su', tn', g', ?_, ?_⟩
  · intro post L xs J80 J344 x3 x4 x7 x14 x15 kc ks zR zB zU zC z1 z2 z3 z4 z5 z6 hJ
    refine br_f (by decide) (br_f (by decide) (br_f (by decide) (br_f (by decide) (br_f (by decide) (br_f (by decide) (br_f (by decide) (br_f (by decide) (br_f (by decide) (br_f (by decide) (br_t rfl ?_))))))))))
    unfold wL_law_631_2
    exact hw _ (br_t rfl (nm_r lj_e1 hJ))
  · intro post L xs J80 J344 x3 x4 x7 x14 x15 kc ks zR zB zU zC z1 z2 z3 z4 z5 z6 hJ
    refine br_f (by decide) (br_f (by decide) (br_f (by decide) (br_f (by decide) (br_f (by decide) (br_f (by decide) (br_f (by decide) (br_f (by decide) (br_f (by decide) (br_f (by decide) (br_t rfl ?_))))))))))
    unfold wL_law_631
    exact hw _ (br_f (by decide) (nm_r lj_e2 hJ))
theorem lj_op9 (g : lj_G (xR, xB, xU, xC, rt, cl, sr, sc, su, tn)) (x10 x11 x12 x13 : Int32) : lj_Op 9 x10 x11 x12 x13 xR xB xU xC rt cl sr sc su tn := by
  obtain ⟨r, ⟨xR', xB', xU', xC', rt', cl', sr', sc', su', tn'⟩, g', hw⟩ := lj_bind g (x10 &&& 7) (x11 &&& 7)
  refine ⟨r, xR', xB', xU', xC', rt', cl', sr', sc', su', tn', g', ?_, ?_⟩
  · intro post L xs J80 J344 x3 x4 x7 x14 x15 kc ks zR zB zU zC z1 z2 z3 z4 z5 z6 hJ
    refine br_f (by decide) (br_f (by decide) (br_f (by decide) (br_f (by decide) (br_f (by decide) (br_f (by decide) (br_f (by decide) (br_f (by decide) (br_f (by decide) (br_f (by decide) (br_f (by decide) (br_t rfl ?_)))))))))))
    unfold wL_law_631_2
    exact hw _ (br_t rfl (nm_r lj_e1 hJ))
  · intro post L xs J80 J344 x3 x4 x7 x14 x15 kc ks zR zB zU zC z1 z2 z3 z4 z5 z6 hJ
    refine br_f (by decide) (br_f (by decide) (br_f (by decide) (br_f (by decide) (br_f (by decide) (br_f (by decide) (br_f (by decide) (br_f (by decide) (br_f (by decide) (br_f (by decide) (br_f (by decide) (br_t rfl ?_)))))))))))
    unfold wL_law_631
    exact hw _ (br_f (by decide) (nm_r lj_e2 hJ))
theorem lj_op10 (g : lj_G (xR, xB, xU, xC, rt, cl, sr, sc, su, tn)) (x10 x11 x12 x13 : Int32) : lj_Op 10 x10 x11 x12 x13 xR xB xU xC rt cl sr sc su tn := by
  obtain ⟨r, ⟨xR', xB', xU', xC', rt', cl', sr', sc', su', tn'⟩, g', h01, hw⟩ := lj_push g 
  rcases h01 with rfl | rfl
  · refine ⟨0, xR', xB', xU', xC', rt', cl', sr', sc', su', tn', g', ?_, ?_⟩
    · intro post L xs J80 J344 x3 x4 x7 x14 x15 kc ks zR zB zU zC z1 z2 z3 z4 z5 z6 hJ
      refine br_f (by decide) (br_f (by decide) (br_f (by decide) (br_f (by decide) (br_f (by decide) (br_f (by decide) (br_f (by decide) (br_f (by decide) (br_f (by decide) (br_f (by decide) (br_f (by decide) (br_f (by decide) (br_t rfl ?_))))))))))))
      unfold wL_law_651_2
      exact hw _ (br_t rfl (br_t rfl (nm_r lj_e1 hJ)))
    · intro post L xs J80 J344 x3 x4 x7 x14 x15 kc ks zR zB zU zC z1 z2 z3 z4 z5 z6 hJ
      refine br_f (by decide) (br_f (by decide) (br_f (by decide) (br_f (by decide) (br_f (by decide) (br_f (by decide) (br_f (by decide) (br_f (by decide) (br_f (by decide) (br_f (by decide) (br_f (by decide) (br_f (by decide) (br_t rfl ?_))))))))))))
      unfold wL_law_651
      exact hw _ (br_t rfl (br_f (by decide) (nm_r lj_e2 hJ)))
  · refine ⟨1, xR', xB', xU', xC', rt', cl', sr', sc', su', tn', g', ?_, ?_⟩
    · intro post L xs J80 J344 x3 x4 x7 x14 x15 kc ks zR zB zU zC z1 z2 z3 z4 z5 z6 hJ
      refine br_f (by decide) (br_f (by decide) (br_f (by decide) (br_f (by decide) (br_f (by decide) (br_f (by decide) (br_f (by decide) (br_f (by decide) (br_f (by decide) (br_f (by decide) (br_f (by decide) (br_f (by decide) (br_t rfl ?_))))))))))))
      unfold wL_law_651_2
      exact hw _ (br_f (by decide) (br_t rfl (nm_r lj_e1 hJ)))
    · intro post L xs J80 J344 x3 x4 x7 x14 x15 kc ks zR zB zU zC z1 z2 z3 z4 z5 z6 hJ
      refine br_f (by decide) (br_f (by decide) (br_f (by decide) (br_f (by decide) (br_f (by decide) (br_f (by decide) (br_f (by decide) (br_f (by decide) (br_f (by decide) (br_f (by decide) (br_f (by decide) (br_f (by decide) (br_t rfl ?_))))))))))))
      unfold wL_law_651
      exact hw _ (br_f (by decide) (br_f (by decide) (nm_r lj_e2 hJ)))
theorem lj_op11 (g : lj_G (xR, xB, xU, xC, rt, cl, sr, sc, su, tn)) (x10 x11 x12 x13 : Int32) : lj_Op 11 x10 x11 x12 x13 xR xB xU xC rt cl sr sc su tn := by
  obtain ⟨r, ⟨xR', xB', xU', xC', rt', cl', sr', sc', su', tn'⟩, g', h01, hw⟩ := lj_push g 
  rcases h01 with rfl | rfl
  · refine ⟨0, xR', xB', xU', xC', rt', cl', sr', sc', su', tn', g', ?_, ?_⟩
    · intro post L xs J80 J344 x3 x4 x7 x14 x15 kc ks zR zB zU zC z1 z2 z3 z4 z5 z6 hJ
      refine br_f (by decide) (br_f (by decide) (br_f (by decide) (br_f (by decide) (br_f (by decide) (br_f (by decide) (br_f (by decide) (br_f (by decide) (br_f (by decide) (br_f (by decide) (br_f (by decide) (br_f (by decide) (br_f (by decide) (br_t rfl ?_)))))))))))))
      unfold wL_law_651_2
      exact hw _ (br_t rfl (br_t rfl (nm_r lj_e1 hJ)))
    · intro post L xs J80 J344 x3 x4 x7 x14 x15 kc ks zR zB zU zC z1 z2 z3 z4 z5 z6 hJ
      refine br_f (by decide) (br_f (by decide) (br_f (by decide) (br_f (by decide) (br_f (by decide) (br_f (by decide) (br_f (by decide) (br_f (by decide) (br_f (by decide) (br_f (by decide) (br_f (by decide) (br_f (by decide) (br_f (by decide) (br_t rfl ?_)))))))))))))
      unfold wL_law_651
      exact hw _ (br_t rfl (br_f (by decide) (nm_r lj_e2 hJ)))
  · refine ⟨1, xR', xB', xU', xC', rt', cl', sr', sc', su', tn', g', ?_, ?_⟩
    · intro post L xs J80 J344 x3 x4 x7 x14 x15 kc ks zR zB zU zC z1 z2 z3 z4 z5 z6 hJ
      refine br_f (by decide) (br_f (by decide) (br_f (by decide) (br_f (by decide) (br_f (by decide) (br_f (by decide) (br_f (by decide) (br_f (by decide) (br_f (by decide) (br_f (by decide) (br_f (by decide) (br_f (by decide) (br_f (by decide) (br_t rfl ?_)))))))))))))
      unfold wL_law_651_2
      exact hw _ (br_f (by decide) (br_t rfl (nm_r lj_e1 hJ)))
    · intro post L xs J80 J344 x3 x4 x7 x14 x15 kc ks zR zB zU zC z1 z2 z3 z4 z5 z6 hJ
      refine br_f (by decide) (br_f (by decide) (br_f (by decide) (br_f (by decide) (br_f (by decide) (br_f (by decide) (br_f (by decide) (br_f (by decide) (br_f (by decide) (br_f (by decide) (br_f (by decide) (br_f (by decide) (br_f (by decide) (br_t rfl ?_)))))))))))))
      unfold wL_law_651
      exact hw _ (br_f (by decide) (br_f (by decide) (nm_r lj_e2 hJ)))
theorem lj_op12 (g : lj_G (xR, xB, xU, xC, rt, cl, sr, sc, su, tn)) (x10 x11 x12 x13 : Int32) : lj_Op 12 x10 x11 x12 x13 xR xB xU xC rt cl sr sc su tn := by
  obtain ⟨r, ⟨xR', xB', xU', xC', rt', cl', sr', sc', su', tn'⟩, g', h01, hw⟩ := lj_back g 
  rcases h01 with rfl | rfl
  · refine ⟨0, xR', xB', xU', xC', rt', cl', sr', sc', su', tn', g', ?_, ?_⟩
    · intro post L xs J80 J344 x3 x4 x7 x14 x15 kc ks zR zB zU zC z1 z2 z3 z4 z5 z6 hJ
      refine br_f (by decide) (br_f (by decide) (br_f (by decide) (br_f (by decide) (br_f (by decide) (br_f (by decide) (br_f (by decide) (br_f (by decide) (br_f (by decide) (br_f (by decide) (br_f (by decide) (br_f (by decide) (br_f (by decide) (br_f (by decide) (br_t rfl ?_))))))))))))))
      unfold wL_law_669_2
      exact hw _ (br_t rfl (br_t rfl (nm_r lj_e1 hJ)))
    · intro post L xs J80 J344 x3 x4 x7 x14 x15 kc ks zR zB zU zC z1 z2 z3 z4 z5 z6 hJ
      refine br_f (by decide) (br_f (by decide) (br_f (by decide) (br_f (by decide) (br_f (by decide) (br_f (by decide) (br_f (by decide) (br_f (by decide) (br_f (by decide) (br_f (by decide) (br_f (by decide) (br_f (by decide) (br_f (by decide) (br_f (by decide) (br_t rfl ?_))))))))))))))
      unfold wL_law_669
      exact hw _ (br_t rfl (br_f (by decide) (nm_r lj_e2 hJ)))
  · refine ⟨1, xR', xB', xU', xC', rt', cl', sr', sc', su', tn', g', ?_, ?_⟩
    · intro post L xs J80 J344 x3 x4 x7 x14 x15 kc ks zR zB zU zC z1 z2 z3 z4 z5 z6 hJ
      refine br_f (by decide) (br_f (by decide) (br_f (by decide) (br_f (by decide) (br_f (by decide) (br_f (by decide) (br_f (by decide) (br_f (by decide) (br_f (by decide) (br_f (by decide) (br_f (by decide) (br_f (by decide) (br_f (by decide) (br_f (by decide) (br_t rfl ?_))))))))))))))
      unfold wL_law_669_2
      exact hw _ (br_f (by decide) (br_t rfl (nm_r lj_e1 hJ)))
    · intro post L xs J80 J344 x3 x4 x7 x14 x15 kc ks zR zB zU zC z1 z2 z3 z4 z5 z6 hJ
      refine br_f (by decide) (br_f (by decide) (br_f (by decide) (br_f (by decide) (br_f (by decide) (br_f (by decide) (br_f (by decide) (br_f (by decide) (br_f (by decide) (br_f (by decide) (br_f (by decide) (br_f (by decide) (br_f (by decide) (br_f (by decide) (br_t rfl ?_))))))))))))))
      unfold wL_law_669
      exact hw _ (br_f (by decide) (br_f (by decide) (nm_r lj_e2 hJ)))
theorem lj_op13 (g : lj_G (xR, xB, xU, xC, rt, cl, sr, sc, su, tn)) (x10 x11 x12 x13 : Int32) : lj_Op 13 x10 x11 x12 x13 xR xB xU xC rt cl sr sc su tn := by
  obtain ⟨r, ⟨xR', xB', xU', xC', rt', cl', sr', sc', su', tn'⟩, g', h01, hw⟩ := lj_back g 
  rcases h01 with rfl | rfl
  · refine ⟨0, xR', xB', xU', xC', rt', cl', sr', sc', su', tn', g', ?_, ?_⟩
    · intro post L xs J80 J344 x3 x4 x7 x14 x15 kc ks zR zB zU zC z1 z2 z3 z4 z5 z6 hJ
      refine br_f (by decide) (br_f (by decide) (br_f (by decide) (br_f (by decide) (br_f (by decide) (br_f (by decide) (br_f (by decide) (br_f (by decide) (br_f (by decide) (br_f (by decide) (br_f (by decide) (br_f (by decide) (br_f (by decide) (br_f (by decide) (br_f (by decide) (br_t rfl ?_)))))))))))))))
      unfold wL_law_669_2
      exact hw _ (br_t rfl (br_t rfl (nm_r lj_e1 hJ)))
    · intro post L xs J80 J344 x3 x4 x7 x14 x15 kc ks zR zB zU zC z1 z2 z3 z4 z5 z6 hJ
      refine br_f (by decide) (br_f (by decide) (br_f (by decide) (br_f (by decide) (br_f (by decide) (br_f (by decide) (br_f (by decide) (br_f (by decide) (br_f (by decide) (br_f (by decide) (br_f (by decide) (br_f (by decide) (br_f (by decide) (br_f (by decide) (br_f (by decide) (br_t rfl ?_)))))))))))))))
      unfold wL_law_669
      exact hw _ (br_t rfl (br_f (by decide) (nm_r lj_e2 hJ)))
  · refine ⟨1, xR', xB', xU', xC', rt', cl', sr', sc', su', tn', g', ?_, ?_⟩
    · intro post L xs J80 J344 x3 x4 x7 x14 x15 kc ks zR zB zU zC z1 z2 z3 z4 z5 z6 hJ
      refine br_f (by decide) (br_f (by decide) (br_f (by decide) (br_f (by decide) (br_f (by decide) (br_f (by decide) (br_f (by decide) (br_f (by decide) (br_f (by decide) (br_f (by decide) (br_f (by decide) (br_f (by decide) (br_f (by decide) (br_f (by decide) (br_f (by decide) (br_t rfl ?_)))))))))))))))
      unfold wL_law_669_2
      exact hw _ (br_f (by decide) (br_t rfl (nm_r lj_e1 hJ)))
    · intro post L xs J80 J344 x3 x4 x7 x14 x15 kc ks zR zB zU zC z1 z2 z3 z4 z5 z6 hJ
      refine br_f (by decide) (br_f (by decide) (br_f (by decide) (br_f (by decide) (br_f (by decide) (br_f (by decide) (br_f (by decide) (br_f (by decide) (br_f (by decide) (br_f (by decide) (br_f (by decide) (br_f (by decide) (br_f (by decide) (br_f (by decide) (br_f (by decide) (br_t rfl ?_)))))))))))))))
      unfold wL_law_669
      exact hw _ (br_f (by decide) (br_f (by decide) (nm_r lj_e2 hJ)))
theorem lj_op14 (g : lj_G (xR, xB, xU, xC, rt, cl, sr, sc, su, tn)) (x10 x11 x12 x13 : Int32) : lj_Op 14 x10 x11 x12 x13 xR xB xU xC rt cl sr sc su tn := by
  obtain ⟨r, ⟨xR', xB', xU', xC', rt', cl', sr', sc', su', tn'⟩, g', h01, hw⟩ := lj_pop g 
  rcases h01 with rfl | rfl
  · refine ⟨0, xR', xB', xU', xC', rt', cl', sr', sc', su', tn', g', ?_, ?_⟩
    · intro post L xs J80 J344 x3 x4 x7 x14 x15 kc ks zR zB zU zC z1 z2 z3 z4 z5 z6 hJ
      refine br_f (by decide) (br_f (by decide) (br_f (by decide) (br_f (by decide) (br_f (by decide) (br_f (by decide) (br_f (by decide) (br_f (by decide) (br_f (by decide) (br_f (by decide) (br_f (by decide) (br_f (by decide) (br_f (by decide) (br_f (by decide) (br_f (by decide) (br_f (by decide) (br_t rfl ?_))))))))))))))))
      exact hw _ (br_t rfl (br_t rfl (nm_r lj_e1 hJ)))
    · intro post L xs J80 J344 x3 x4 x7 x14 x15 kc ks zR zB zU zC z1 z2 z3 z4 z5 z6 hJ
      refine br_f (by decide) (br_f (by decide) (br_f (by decide) (br_f (by decide) (br_f (by decide) (br_f (by decide) (br_f (by decide) (br_f (by decide) (br_f (by decide) (br_f (by decide) (br_f (by decide) (br_f (by decide) (br_f (by decide) (br_f (by decide) (br_f (by decide) (br_f (by decide) (br_t rfl ?_))))))))))))))))
      exact hw _ (br_t rfl (br_f (by decide) (nm_r lj_e2 hJ)))
  · refine ⟨1, xR', xB', xU', xC', rt', cl', sr', sc', su', tn', g', ?_, ?_⟩
    · intro post L xs J80 J344 x3 x4 x7 x14 x15 kc ks zR zB zU zC z1 z2 z3 z4 z5 z6 hJ
      refine br_f (by decide) (br_f (by decide) (br_f (by decide) (br_f (by decide) (br_f (by decide) (br_f (by decide) (br_f (by decide) (br_f (by decide) (br_f (by decide) (br_f (by decide) (br_f (by decide) (br_f (by decide) (br_f (by decide) (br_f (by decide) (br_f (by decide) (br_f (by decide) (br_t rfl ?_))))))))))))))))
      exact hw _ (br_f (by decide) (br_t rfl (nm_r lj_e1 hJ)))
    · intro post L xs J80 J344 x3 x4 x7 x14 x15 kc ks zR zB zU zC z1 z2 z3 z4 z5 z6 hJ
      refine br_f (by decide) (br_f (by decide) (br_f (by decide) (br_f (by decide) (br_f (by decide) (br_f (by decide) (br_f (by decide) (br_f (by decide) (br_f (by decide) (br_f (by decide) (br_f (by decide) (br_f (by decide) (br_f (by decide) (br_f (by decide) (br_f (by decide) (br_f (by decide) (br_t rfl ?_))))))))))))))))
      exact hw _ (br_f (by decide) (br_f (by decide) (nm_r lj_e2 hJ)))
theorem lj_op15 (g : lj_G (xR, xB, xU, xC, rt, cl, sr, sc, su, tn)) (x10 x11 x12 x13 : Int32) : lj_Op 15 x10 x11 x12 x13 xR xB xU xC rt cl sr sc su tn := by
  refine ⟨xU, xR, xB, xU, xC, rt, cl, sr, sc, su, tn, g, ?_, ?_⟩
  · intro post L xs J80 J344 x3 x4 x7 x14 x15 kc ks zR zB zU zC z1 z2 z3 z4 z5 z6 hJ
    exact br_f (by decide) (br_t (by decide) (br_t rfl (nm_r lj_e1 hJ)))
  · intro post L xs J80 J344 x3 x4 x7 x14 x15 kc ks zR zB zU zC z1 z2 z3 z4 z5 z6 hJ
    exact br_f (by decide) (br_t (by decide) (br_f (by decide) (nm_r lj_e2 hJ)))
theorem lj_op (g : lj_G (xR, xB, xU, xC, rt, cl, sr, sc, su, tn)) (x10 x11 x12 x13 : Int32) {k : Nat} (hk : k < 16) : lj_Op k x10 x11 x12 x13 xR xB xU xC rt cl sr sc su tn := by
  have h : k = 0 ∨ k = 1 ∨ k = 2 ∨ k = 3 ∨ k = 4 ∨ k = 5 ∨ k = 6 ∨ k = 7 ∨ k = 8 ∨ k = 9 ∨ k = 10 ∨ k = 11 ∨ k = 12 ∨ k = 13 ∨ k = 14 ∨ k = 15 := by omega
  rcases h with rfl | rfl | rfl | rfl | rfl | rfl | rfl | rfl | rfl | rfl | rfl | rfl | rfl | rfl | rfl | rfl
  · exact lj_op0 g x10 x11 x12 x13
  · exact lj_op1 g x10 x11 x12 x13
  · exact lj_op2 g x10 x11 x12 x13
  · exact lj_op3 g x10 x11 x12 x13
  · exact lj_op4 g x10 x11 x12 x13
  · exact lj_op5 g x10 x11 x12 x13
  · exact lj_op6 g x10 x11 x12 x13
  · exact lj_op7 g x10 x11 x12 x13
  · exact lj_op8 g x10 x11 x12 x13
  · exact lj_op9 g x10 x11 x12 x13
  · exact lj_op10 g x10 x11 x12 x13
  · exact lj_op11 g x10 x11 x12 x13
  · exact lj_op12 g x10 x11 x12 x13
  · exact lj_op13 g x10 x11 x12 x13
  · exact lj_op14 g x10 x11 x12 x13
  · exact lj_op15 g x10 x11 x12 x13
end
