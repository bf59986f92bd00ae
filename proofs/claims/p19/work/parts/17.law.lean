section
variable {xR xB xU xC : Int32} {rt cl sr sc su tn : Nat → Int32}
theorem lj_cell {post : Int32 → Prop} {L : Nat} {xs : Nat → Int32} (hL : L ≤ 260) {k : Nat} (hk : k < 2 ^ 31) (h : ∀ y, post y) : wpL_cell post L xs () (nI k) :=
  pk_le L k (fun _ => h 0) (fun hlt => ⟨vp_in_nI hlt (by omega), h _⟩) rfl rfl (by omega) hk
/-- one operation on both objects -/
theorem lj_turn (g : lj_G (xR, xB, xU, xC, rt, cl, sr, sc, su, tn)) (x10 x11 x12 x13 : Int32) {k : Nat} (hk : k < 16) :
    ∃ (xR' xB' xU' xC' : Int32) (rt' cl' sr' sc' su' tn' : Nat → Int32), lj_G (xR', xB', xU', xC', rt', cl', sr', sc', su', tn') ∧ ∀ (post : Int32 → Prop) (L : Nat) (xs : Nat → Int32) (J80 : lj_T80) (x3 x4 x7 : Int32) (kc ks : Nat),
      J80 (x7 + 1) xR' xB' xU' xC' rt' cl' sr' sc' su' tn' xR' xB' xU' xC' rt' cl' sr' sc' su' tn' → ∃ f, wL_law_344 post L xs J80 x3 x4 x7 (nI k) x10 x11 x12 x13 kc ks f 0 0 0 xR xB xU xC rt cl sr sc su tn xR xB xU xC rt cl sr sc su tn := by
  obtain ⟨r, xR', xB', xU', xC', rt', cl', sr', sc', su', tn', g', h1, h2⟩ := lj_op g x10 x11 x12 x13 hk
  refine ⟨xR', xB', xU', xC', rt', cl', sr', sc', su', tn', g', ?_⟩
  intro post L xs J80 x3 x4 x7 kc ks hJ
  refine ⟨3, br_f (by decide) (br_t rfl (h1 _ _ _ _ _ _ _ _ _ _ _ _ _ _ _ _ _ _ _ _ _ _ ?_))⟩
  refine br_f (by decide) (br_f (by decide) (h2 _ _ _ _ _ _ _ _ _ _ _ _ _ _ _ _ _ _ _ _ _ _ ?_))
  exact br_t (by decide) (br_c (fun _ => nm_e hJ) (fun _ => br_t rfl (nm_e hJ)))
theorem lj_267 {post : Int32 → Prop} {L : Nat} {xs : Nat → Int32} {J80 : lj_T80} {x3 x4 : Int32} {i : Nat} {kc ks : Nat} (hL : L ≤ 260) (hi : i ≤ 80) (hp : post 1) (g : lj_G (xR, xB, xU, xC, rt, cl, sr, sc, su, tn))
    (hJ : ∀ (xR xB xU xC : Int32) (rt cl sr sc su tn : Nat → Int32), lj_G (xR, xB, xU, xC, rt, cl, sr, sc, su, tn) → J80 (nI i + 1) xR xB xU xC rt cl sr sc su tn xR xB xU xC rt cl sr sc su tn) : wL_law_267 post L xs J80 x3 x4 (nI i) kc ks xR xB xU xC rt cl sr sc su tn xR xB xU xC rt cl sr sc su tn := by
  refine br_c (fun _ => hp) (fun _ => ?_)
  have e : (3 : Int32) + 5 * nI i = nI (3 + 5 * i) := by
    rw [← nI_add, ← pk_mul]
    rfl
  refine nm_r e (lj_cell hL (by omega) (fun y => ?_))
  have e1 : nI (3 + 5 * i) + 1 = nI (3 + 5 * i + 1) := nI_1 _
  have e2 : nI (3 + 5 * i) + 2 = nI (3 + 5 * i + 2) := nI_add _ 2
  have e3 : nI (3 + 5 * i) + 3 = nI (3 + 5 * i + 3) := nI_add _ 3
  have e4 : nI (3 + 5 * i) + 4 = nI (3 + 5 * i + 4) := nI_add _ 4
  rw [e1, e2, e3, e4]
  refine nm_r (pk_and y 4 (by decide)) (lj_cell hL (by omega) (fun y1 => lj_cell hL (by omega) (fun y2 => lj_cell hL (by omega) (fun y3 => lj_cell hL (by omega) (fun y4 => ?_)))))
  obtain ⟨xR', xB', xU', xC', rt', cl', sr', sc', su', tn', g', h⟩ := lj_turn g y1 y2 y3 y4 (k := y.toBitVec.toNat % 2 ^ 4) (by omega)
  exact h _ _ _ _ _ _ _ _ _ (hJ _ _ _ _ _ _ _ _ _ _ g')
theorem lj_200 {post : Int32 → Prop} {L : Nat} {xs : Nat → Int32} {J80 : lj_T80} {x3 x4 x7 : Int32} {kc ks : Nat} (g : lj_G (xR, xB, xU, xC, rt, cl, sr, sc, su, tn))
    (h : wL_law_267 post L xs J80 x3 x4 x7 kc ks xR xB xU xC rt cl sr sc su tn xR xB xU xC rt cl sr sc su tn) : ∃ f, wL_law_200 post L xs J80 x3 x4 x7 kc ks xR xB xU xC rt cl sr sc su tn xR xB xU xC rt cl sr sc su tn f 0 := by
  refine loop_0 (fun f i (_ : Unit) => wL_law_200 post L xs J80 x3 x4 x7 kc ks xR xB xU xC rt cl sr sc su tn xR xB xU xC rt cl sr sc su tn f (nI i)) (fun _ _ => True) 8 () trivial ?_ ?_
  · intro f _ _
    exact br_t (nI_le (a := 8) (by omega) (by decide)) (br_t rfl h)
  · intro f i _ hi _ ih
    refine br_f (nI_ge (b := 8) hi (by decide)) ?_
    refine loop_0 (fun f' j (_ : Unit) => wL_law_210 post L xs J80 (wL_law_200 post L xs J80 x3 x4 x7 kc ks xR xB xU xC rt cl sr sc su tn xR xB xU xC rt cl sr sc su tn f) x3 x4 x7 (nI i) kc ks xR xB xU xC rt cl sr sc su tn xR xB xU xC rt cl sr sc su tn f' (nI j)) (fun _ _ => True) 8 () trivial ?_ ?_
    · intro f' _ _
      exact br_t (nI_le (a := 8) (by omega) (by decide)) (nm_r (nI_1 i) (ih () trivial))
    · intro f' j _ hj _ ih'
      obtain ⟨r, hr⟩ := lj_sameVar g (nI i) (nI j)
      exact br_f (nI_ge (b := 8) hj (by decide)) (hr _ (hr _ (br_t rfl (nm_r (nI_1 j) (ih' () trivial)))))
theorem lj_108s {post : Int32 → Prop} {L : Nat} {xs : Nat → Int32} {J80 : lj_T80} {x3 x4 x7 x8 : Int32} {kc ks f : Nat} (g : lj_G (xR, xB, xU, xC, rt, cl, sr, sc, su, tn)) (h8 : ¬ 8 < x8)
    (h : ∀ (xR xB xU xC : Int32) (rt cl sr sc su tn : Nat → Int32), lj_G (xR, xB, xU, xC, rt, cl, sr, sc, su, tn) → wL_law_108 post L xs J80 x3 x4 x7 kc ks f (x8 + 1) xR xB xU xC rt cl sr sc su tn xR xB xU xC rt cl sr sc su tn) : wL_law_108 post L xs J80 x3 x4 x7 kc ks (f + 1) x8 xR xB xU xC rt cl sr sc su tn xR xB xU xC rt cl sr sc su tn := by
  obtain ⟨r1, h1⟩ := lj_kind g x8
  obtain ⟨r2, h2⟩ := lj_value g x8
  obtain ⟨r3, h3⟩ := lj_arity g x8
  obtain ⟨r4, ⟨xR', xB', xU', xC', rt', cl', sr', sc', su', tn'⟩, g', h4⟩ := lj_treeSize g x8
  refine br_f h8 (h1 _ (h1 _ (br_t rfl (h2 _ (h2 _ (br_t rfl (h3 _ (h3 _ (br_t rfl (h4 _ ?_))))))))))
  refine h4 _ ?_
  exact br_t rfl (nm_e (h _ _ _ _ _ _ _ _ _ _ g'))
theorem lj_108 {post : Int32 → Prop} {L : Nat} {xs : Nat → Int32} {J80 : lj_T80} {x3 x4 x7 : Int32} {kc ks : Nat}
    (h : ∀ (xR xB xU xC : Int32) (rt cl sr sc su tn : Nat → Int32), lj_G (xR, xB, xU, xC, rt, cl, sr, sc, su, tn) → wL_law_267 post L xs J80 x3 x4 x7 kc ks xR xB xU xC rt cl sr sc su tn xR xB xU xC rt cl sr sc su tn) :
    ∀ (m i : Nat) (xR xB xU xC : Int32) (rt cl sr sc su tn : Nat → Int32), i + m = 9 → lj_G (xR, xB, xU, xC, rt, cl, sr, sc, su, tn) → wL_law_108 post L xs J80 x3 x4 x7 kc ks (m + 1) (nI i) xR xB xU xC rt cl sr sc su tn xR xB xU xC rt cl sr sc su tn := by
  intro m
  induction m with
  | zero =>
    intro i xR xB xU xC rt cl sr sc su tn hi g
    exact br_t (nI_lt (a := 8) (by omega) (by omega)) (lj_200 g (h _ _ _ _ _ _ _ _ _ _ g))
  | succ m ih =>
    intro i xR xB xU xC rt cl sr sc su tn hi g
    refine lj_108s g (nI_nlt (a := 8) (by omega) (by decide)) ?_
    intro xR xB xU xC rt cl sr sc su tn g
    rw [nI_1]
    exact ih (i + 1) _ _ _ _ _ _ _ _ _ _ (by omega) g
theorem lj_98 {post : Int32 → Prop} {L : Nat} {xs : Nat → Int32} {J80 : lj_T80} {x3 x4 : Int32} {i : Nat} {kc ks : Nat} (hL : L ≤ 260) (hi : i ≤ 80) (hp : post 1) (g : lj_G (xR, xB, xU, xC, rt, cl, sr, sc, su, tn))
    (hJ : ∀ (xR xB xU xC : Int32) (rt cl sr sc su tn : Nat → Int32), lj_G (xR, xB, xU, xC, rt, cl, sr, sc, su, tn) → J80 (nI i + 1) xR xB xU xC rt cl sr sc su tn xR xB xU xC rt cl sr sc su tn) : wL_law_98 post L xs J80 x3 x4 (nI i) kc ks xR xB xU xC rt cl sr sc su tn xR xB xU xC rt cl sr sc su tn := by
  have h : ∀ (xR xB xU xC : Int32) (rt cl sr sc su tn : Nat → Int32), lj_G (xR, xB, xU, xC, rt, cl, sr, sc, su, tn) → wL_law_267 post L xs J80 x3 x4 (nI i) kc ks xR xB xU xC rt cl sr sc su tn xR xB xU xC rt cl sr sc su tn := fun _ _ _ _ _ _ _ _ _ _ g => lj_267 hL hi hp g hJ
  refine br_c (fun _ => h _ _ _ _ _ _ _ _ _ _ g) (fun _ => ⟨11, lj_108s g (by decide) ?_⟩)
  intro xR xB xU xC rt cl sr sc su tn g
  rw [show (-1 : Int32) + 1 = nI 0 from by decide]
  exact lj_108 h 9 0 _ _ _ _ _ _ _ _ _ _ (by omega) g
end
theorem lj_80 {post : Int32 → Prop} {L : Nat} {xs : Nat → Int32} {x4 : Int32} {N kc ks : Nat} (hL : L ≤ 260) (hN : N ≤ 80) (hp : post 1) :
    ∀ (m i : Nat) (xR xB xU xC : Int32) (rt cl sr sc su tn : Nat → Int32), i + m = N + 1 → lj_G (xR, xB, xU, xC, rt, cl, sr, sc, su, tn) → wL_law_80 post L xs (nI N) x4 kc ks (m + 1) (nI i) xR xB xU xC rt cl sr sc su tn xR xB xU xC rt cl sr sc su tn := by
  intro m
  induction m with
  | zero =>
    intro i xR xB xU xC rt cl sr sc su tn hi g
    exact br_t (nI_lt (by omega) (by omega)) hp
  | succ m ih =>
    intro i xR xB xU xC rt cl sr sc su tn hi g
    have hJ : ∀ (xR xB xU xC : Int32) (rt cl sr sc su tn : Nat → Int32), lj_G (xR, xB, xU, xC, rt, cl, sr, sc, su, tn) → wL_law_80 post L xs (nI N) x4 kc ks (m + 1) (nI i + 1) xR xB xU xC rt cl sr sc su tn xR xB xU xC rt cl sr sc su tn := by
      intro xR xB xU xC rt cl sr sc su tn g
      rw [nI_1]
      exact ih (i + 1) _ _ _ _ _ _ _ _ _ _ (by omega) g
    have h := lj_98 (x3 := nI N) (x4 := x4) (kc := kc) (ks := ks) (xs := xs) hL (by omega : i ≤ 80) hp g hJ
    exact br_f (nI_nlt (by omega) (by omega)) (br_c (fun _ => h) (fun _ => h))
theorem lj_41 {post : Int32 → Prop} {L : Nat} {xs : Nat → Int32} {N : Nat} (hL : L ≤ 260) (hN : N ≤ 80) (hp : post 1) (x1 x2 : Int32) : wL_law_41 post L xs x1 x2 (nI N) 0 0 := by
  unfold wL_law_41
  refine lj_cell (k := 2) hL (by omega) (fun y => ?_)
  obtain ⟨⟨xR, xB, xU, xC, rt, cl, sr, sc, su, tn⟩, g, hw⟩ := lj_init x1 x2
  refine ⟨?_, nm_e ⟨by omega, by omega, 6, 3240, by omega, by omega, hw _ ?_⟩⟩
  · rw [nI_1]
    exact nI_ne0 (by omega) (by omega)
  · refine ⟨by omega, by omega, 6, 3240, by omega, by omega, hw _ ?_⟩
    exact ⟨N + 2, lj_80 hL hN hp (N + 1) 0 _ _ _ _ _ _ _ _ _ _ (by omega) g⟩
theorem lj_32 {post : Int32 → Prop} {L : Nat} {xs : Nat → Int32} {x3 : Int32} (hL : L ≤ 260) (h0 : 0 ≤ x3) (hp : post 1) (x1 x2 : Int32) : wL_law_32 post L xs x1 x2 x3 0 0 := by
  by_cases h : x3 ≤ 80
  · obtain ⟨N, _, hN, e⟩ := lh_rng (a := 0) (b := 80) (by decide) h0 h (by decide)
    refine br_t h ?_
    rw [e]
    exact lj_41 hL hN hp x1 x2
  · exact br_f h (lj_41 (N := 80) hL (by omega) hp x1 x2)
