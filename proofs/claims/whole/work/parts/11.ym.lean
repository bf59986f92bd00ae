section
variable {yR yB yN yU yC dT dV fd : Int32} {rT rV bd bT bV fn ar aT aV crT crV cN cU cB cbT cbV sT sV cl rt : Nat → Int32} {n : Nat}
theorem ly_b0 : vp_nar .boolean 0 = 0 := by decide
theorem ly_b1 : vp_nar .boolean 1 = 1 := by decide
theorem ly_setConst {post : Int32 → SY → Prop} {R : Nat} (hR : R ≤ 8) {r k v : Int32} (ht : ∀ j, j < R → r = nI j → lh_cst k v → post 1 (nI R, yB, yN, yU, yC, dT, dV, fd, upd rT j k, upd rV j v, bd, bT, bV, fn, ar, aT, aV, crT, crV, cN, cU, cB, cbT, cbV, sT, sV))
    (hf : ¬ (lh_ro R r ∧ lh_cst k v) → post 0 (nI R, yB, yN, yU, yC, dT, dV, fd, rT, rV, bd, bT, bV, fn, ar, aT, aV, crT, crV, cN, cU, cB, cbT, cbV, sT, sV)) : wpY_setConst post (nI R, yB, yN, yU, yC, dT, dV, fd, rT, rV, bd, bT, bV, fn, ar, aT, aV, crT, crV, cN, cU, cB, cbT, cbV, sT, sV) r k v := by
  unfold wpY_setConst
  dsimp only
  refine ly_valid hR r (fun j hj e => ?_) (fun h => br_t rfl (hf (fun z => h z.1)))
  have hl : lh_cst k v → wY_setConst_61 post r k v (nI R) yB yN yU yC dT dV fd rT rV bd bT bV fn ar aT aV crT crV cN cU cB cbT cbV sT sV := by
    intro hc
    subst e
    have e : (nI j).toNatClampNeg = j := nI_clamp (by omega)
    have hin : vp_in (nI j) 8 := vp_in_nI (by omega) (by omega)
    refine ⟨hin, ?_⟩
    rw [e]
    exact nm_e ⟨hin, nm_e (ht j hj rfl hc)⟩
  refine br_f (by decide) ?_
  by_cases h2 : k = 2
  · subst h2
    refine br_t rfl (br_t rfl (br_c (fun h => hf ?_) (fun h1 => br_c (fun h2 => br_f (by decide) (hl (Or.inl ⟨rfl, Int32.not_lt.mp h1, h2⟩))) (fun h => hf ?_))))
    · rintro ⟨_, z | z⟩
      · exact Int32.not_lt.mpr z.2.1 h
      · exact absurd z.1 (by decide)
    · rintro ⟨_, z | z⟩
      · exact h z.2.2
      · exact absurd z.1 (by decide)
  · refine br_f h2 ?_
    by_cases h3 : k = 3
    · subst h3
      refine br_t rfl (br_f (by decide) (br_t rfl (br_c (fun h => hf ?_) (fun h1 => br_c (fun h2 => hl (Or.inr ⟨rfl, Int32.not_lt.mp h1, h2⟩)) (fun h => hf ?_)))))
      · rintro ⟨_, z | z⟩
        · exact absurd z.1 (by decide)
        · exact Int32.not_lt.mpr z.2.1 h
      · rintro ⟨_, z | z⟩
        · exact absurd z.1 (by decide)
        · exact h z.2.2
    · refine br_f h3 (hf ?_)
      rintro ⟨_, z | z⟩
      · exact h2 z.1
      · exact h3 z.1
theorem ly_newVar {post : Int32 → SY → Prop} {R B U n : Nat} (hR : R ≤ 8) (hB : B ≤ 240) (hU : U ≤ B) (hn : n ≤ U) {r : Int32}
    (ht : ∀ j, j < R → r = nI j → U + 1 ≤ B → post 1 (nI R, nI B, nI (n + 1), nI (U + 1), yC, dT, dV, fd, upd rT j 1, upd rV j (nI n), upd bd n 0, upd bT n 0, upd bV n 0, fn, upd ar n 0, aT, aV, crT, crV, cN, cU, cB, cbT, cbV, sT, sV))
    (hf : ¬ (lh_ro R r ∧ U + 1 ≤ B) → post 0 (nI R, nI B, nI n, nI U, yC, dT, dV, fd, rT, rV, bd, bT, bV, fn, ar, aT, aV, crT, crV, cN, cU, cB, cbT, cbV, sT, sV)) : wpY_newVar post (nI R, nI B, nI n, nI U, yC, dT, dV, fd, rT, rV, bd, bT, bV, fn, ar, aT, aV, crT, crV, cN, cU, cB, cbT, cbV, sT, sV) r := by
  unfold wpY_newVar
  dsimp only
  refine ly_valid hR r (fun j hj e => ?_) (fun h => br_t rfl (hf (fun z => h z.1)))
  refine br_f (by decide) (pk_lt B (U + 1) (fun h => hf (fun z => by omega)) (fun h => ?_) rfl (nI_1 U))
  refine br_t (nI_lt (b := 240) (by omega) (by decide)) ?_
  have hin : vp_in (nI n) 240 := vp_in_nI (by omega) (by omega)
  have hin2 : vp_in (nI j) 8 := vp_in_nI (by omega) (by omega)
  rw [e, nI_clamp (by omega), nI_clamp (by omega), ly_b0]
  exact ⟨hin, nm_e ⟨hin, nm_e ⟨hin, nm_e ⟨hin, nm_e (nm_r (nI_1 n) (nm_r (nI_1 U) ⟨hin2, nm_e ⟨hin2, nm_e (ht j hj e h)⟩⟩))⟩⟩⟩⟩
theorem ly_build {post : Int32 → SY → Prop} {R B U n : Nat} (hR : R ≤ 8) (hB : B ≤ 240) (hU : U ≤ B) (hn : n ≤ U) {p0 p1 p2 p3 : Int32}
    (ht : ∀ j f m i : Nat, j < R → f ≤ 4095 → 1 ≤ m → m ≤ 4 → i + m ≤ R → U + 1 + m ≤ B → p0 = nI j → p1 = nI f → p2 = nI m → p3 = nI i →
      post 1 (nI R, nI B, nI (n + 1), nI (U + (1 + m)), yC, dT, dV, fd, upd rT j 4, upd rV j (nI n), upd bd n 0, bT, bV, upd fn n (nI f), upd ar n (nI m), lh_cp rT i aT (n * 4) m, lh_cp rV i aV (n * 4) m, crT, crV, cN, cU, cB, cbT, cbV, sT, sV))
    (hno : ¬ lh_bc R B U p0 p1 p2 p3 → post 0 (nI R, nI B, nI n, nI U, yC, dT, dV, fd, rT, rV, bd, bT, bV, fn, ar, aT, aV, crT, crV, cN, cU, cB, cbT, cbV, sT, sV)) : wpY_build post (nI R, nI B, nI n, nI U, yC, dT, dV, fd, rT, rV, bd, bT, bV, fn, ar, aT, aV, crT, crV, cN, cU, cB, cbT, cbV, sT, sV) p0 p1 p2 p3 := by
  unfold wpY_build
  dsimp only
  refine ly_valid hR p0 (fun j hj e0 => ?_) (fun h => br_t rfl (hno ?_))
  rotate_left
  · rintro ⟨j, f, m, i, h1, h2, h3, h4, h5, h6, e0, e1, e2, e3⟩
    exact h ⟨j, h1, e0⟩
  refine br_f (by decide) (br_c (fun h => hno ?_) (fun h1 => ?_))
  · rintro ⟨j, f, m, i, h1, h2, h3, h4, h5, h6, e0, e1, e2, e3⟩
    rw [e1] at h
    exact nI_pos (by omega) h
  obtain ⟨f, hfl, e1⟩ := nI_of h1
  refine br_c (fun h2 => ?_) (fun h => hno ?_)
  rotate_left
  · rintro ⟨j, f, m, i, h1, h2, h3, h4, h5, h6, e0, e1, e2, e3⟩
    rw [e1] at h
    exact h (nI_le (b := 4095) h2 (by decide))
  rw [e1] at h2
  have hf : f ≤ 4095 := (nI_leI (b := 4095) hfl (by decide)).mp h2
  refine br_c (fun h => hno ?_) (fun h3 => ?_)
  · rintro ⟨j, f, m, i, h1, h2, h3, h4, h5, h6, e0, e1, e2, e3⟩
    rw [e2] at h
    exact nI_nlt (b := 1) h3 (by omega) h
  refine br_c (fun h4 => ?_) (fun h => hno ?_)
  rotate_left
  · rintro ⟨j, f, m, i, h1, h2, h3, h4, h5, h6, e0, e1, e2, e3⟩
    rw [e2] at h
    exact h (nI_le (b := 4) h4 (by decide))
  obtain ⟨m, hm1, hm4, e2⟩ := lh_rng (a := 1) (b := 4) (by decide) (Int32.not_lt.mp h3) h4 (by decide)
  refine br_c (fun h => hno ?_) (fun h5 => ?_)
  · rintro ⟨j, f, m, i, h1, h2, h3, h4, h5, h6, e0, e1, e2, e3⟩
    rw [e3] at h
    exact nI_pos (by omega) h
  obtain ⟨i, hi, e3⟩ := nI_of h5
  refine br_c (fun h6 => ?_) (fun h => hno ?_)
  rotate_left
  · rintro ⟨j, f, m', i, h1, h2, h3, h4, h5, h6, e0, e1, e2', e3⟩
    rw [e3, e2'] at h
    exact h ((lh_suble (by omega) hR h4).mpr h5)
  rw [e3, e2, lh_suble hi hR hm4] at h6
  refine pk_lt B (U + 1 + m) (fun h => hno ?_) (fun h7 => ?_) rfl (by rw [e2, nI_1, nI_add])
  · rintro ⟨j, f, m', i, h1, h2, h3, h4, h5, h6, e0, e1, e2', e3⟩
    rw [e2', nI_eq (by omega) (by omega)] at e2
    omega
  refine br_t (nI_lt (b := 240) (by omega) (by decide)) ?_
  have hin : vp_in (nI n) 240 := vp_in_nI (by omega) (by omega)
  have hin2 : vp_in (nI j) 8 := vp_in_nI (by omega) (by omega)
  rw [nI_clamp (by omega), ly_b0]
  refine ⟨hin, nm_e ⟨hin, nm_e ⟨hin, nm_e ?_⟩⟩⟩
  rw [e0, e1, e2, e3]
  refine loop_0 (fun g x z => wY_build_113 post (nI j) (nI m) (nI i) (nI n) (nI R) (nI B) (nI n) (nI U) yC dT dV fd g (nI x) rT rV (upd bd n 0) bT bV (upd fn n (nI f)) (upd ar n (nI m)) (z.1) (z.2) crT crV cN cU cB cbT cbV sT sV)
    (fun x z => z = (lh_cp rT i aT (n * 4) x, lh_cp rV i aV (n * 4) x)) m (aT, aV) ?_ ?_ ?_
  · rw [lh_cp_0, lh_cp_0]
  · intro g z hz
    subst hz
    dsimp only
    have ej : (nI j).toNatClampNeg = j := nI_clamp (by omega)
    have e4 : nI U + (1 + nI m) = nI (U + (1 + m)) := by
      rw [← nI_add, ← nI_add 1 m]
      rfl
    refine br_t (nI_le (Nat.le_refl m) (by omega)) (nm_r (nI_1 n) (nm_r e4 ?_))
    rw [ej]
    exact ⟨hin2, nm_e ⟨hin2, nm_e (ht j f m i hj hf hm1 hm4 h6 h7 e0 e1 e2 e3)⟩⟩
  · intro g x z hx hz ih
    subst hz
    dsimp only
    have ih' := ih (lh_cp rT i aT (n * 4) (x + 1), lh_cp rV i aV (n * 4) (x + 1)) rfl
    dsimp only at ih'
    have e4 : nI n * 4 + nI x = nI (n * 4 + x) := by
      rw [← nI_add, ← pk_mul]
      rfl
    refine br_f (nI_ge hx (by omega)) ?_
    rw [e4, nI_add, nI_clamp (by omega), nI_clamp (by omega)]
    exact ⟨vp_in_nI (by omega) (by omega), vp_in_nI (by omega) (by omega), nm_r (lh_cp_s _ _ _ _ _) ⟨vp_in_nI (by omega) (by omega), vp_in_nI (by omega) (by omega),
      nm_r (lh_cp_s _ _ _ _ _) (nm_r (nI_1 x) ih')⟩⟩
theorem ly_move {post : Int32 → SY → Prop} {R : Nat} (hR : R ≤ 8) {p0 p1 : Int32} (ht : ∀ j i : Nat, j < R → i < R → p0 = nI j → p1 = nI i → post 1 (nI R, yB, yN, yU, yC, dT, dV, fd, upd rT j (rT i), upd rV j (rV i), bd, bT, bV, fn, ar, aT, aV, crT, crV, cN, cU, cB, cbT, cbV, sT, sV))
    (hno : ¬ (lh_ro R p0 ∧ lh_ro R p1) → post 0 (nI R, yB, yN, yU, yC, dT, dV, fd, rT, rV, bd, bT, bV, fn, ar, aT, aV, crT, crV, cN, cU, cB, cbT, cbV, sT, sV)) : wpY_move post (nI R, yB, yN, yU, yC, dT, dV, fd, rT, rV, bd, bT, bV, fn, ar, aT, aV, crT, crV, cN, cU, cB, cbT, cbV, sT, sV) p0 p1 := by
  unfold wpY_move
  dsimp only
  refine ly_valid hR p0 (fun j hj e0 => ?_) (fun h => br_t rfl (hno (fun z => h z.1)))
  refine br_f (by decide) (ly_valid hR p1 (fun i hi e1 => ?_) (fun h => br_t rfl (hno (fun z => h z.2))))
  refine br_f (by decide) ?_
  have hin : vp_in (nI i) 8 := vp_in_nI (by omega) (by omega)
  have hin2 : vp_in (nI j) 8 := vp_in_nI (by omega) (by omega)
  rw [e0, e1, nI_clamp (by omega), nI_clamp (by omega)]
  exact ⟨hin, hin2, nm_e ⟨hin, hin2, nm_e (ht j i hj hi e0 e1)⟩⟩
theorem ly_getArg {post : Int32 → SY → Prop} {R : Nat} (hR : R ≤ 8) (H : lh_Hp n ar fn aT aV bd bT bV cl) (Rt : lh_Rt R n ar rT rV rt) {p0 p1 p2 : Int32}
    (ht : ∀ (dT dV : Int32) (j i k : Nat), j < R → i < R → 1 ≤ k → k ≤ lh_nc ar (lh_D bd bT bV (rT i, rV i)) → p0 = nI j → p1 = nI i → p2 = nI k →
      post 1 (nI R, yB, yN, yU, yC, dT, dV, fd, upd rT j (lh_ch aT aV (lh_D bd bT bV (rT i, rV i)) (k - 1)).1, upd rV j (lh_ch aT aV (lh_D bd bT bV (rT i, rV i)) (k - 1)).2, bd, bT, bV, fn, ar, aT, aV, crT, crV, cN, cU, cB, cbT, cbV, sT, sV))
    (hno : ∀ dT dV : Int32, ¬ (∃ j i k : Nat, j < R ∧ i < R ∧ 1 ≤ k ∧ k ≤ lh_nc ar (lh_D bd bT bV (rT i, rV i)) ∧ p0 = nI j ∧ p1 = nI i ∧ p2 = nI k) → post 0 (nI R, yB, yN, yU, yC, dT, dV, fd, rT, rV, bd, bT, bV, fn, ar, aT, aV, crT, crV, cN, cU, cB, cbT, cbV, sT, sV)) : wpY_getArg post (nI R, yB, yN, yU, yC, dT, dV, fd, rT, rV, bd, bT, bV, fn, ar, aT, aV, crT, crV, cN, cU, cB, cbT, cbV, sT, sV) p0 p1 p2 := by
  have hn := lh_n240 H.1
  unfold wpY_getArg
  dsimp only
  refine ly_valid hR p0 (fun j hj e0 => ?_) (fun h => br_t rfl (hno _ _ ?_))
  rotate_left
  · rintro ⟨j, i, k, h1, h2, h3, h4, e0, e1, e2⟩
    exact h ⟨j, h1, e0⟩
  refine br_f (by decide) (ly_valid hR p1 (fun i hi e1 => ?_) (fun h => br_t rfl (hno _ _ ?_)))
  rotate_left
  · rintro ⟨j, i, k, h1, h2, h3, h4, e0, e1, e2⟩
    exact h ⟨i, h2, e1⟩
  refine br_f (by decide) ?_
  have hin : vp_in (nI i) 8 := vp_in_nI (by omega) (by omega)
  have hin2 : vp_in (nI j) 8 := vp_in_nI (by omega) (by omega)
  rw [e0, e1, nI_clamp (by omega), nI_clamp (by omega)]
  have ok := (Rt i hi).1
  have okD := (lh_D_ok H (p := (rT i, rV i)) ok).1
  refine ⟨hin, hin, ly_deref H (p := (rT i, rV i)) ok rfl rfl ?_⟩
  dsimp only
  have hj' : ∀ i' : Nat, p1 = nI i' → i' < R → i' = i := by
    intro i' a b
    rw [e1, nI_eq (by omega) (by omega)] at a
    exact a.symm
  by_cases h44 : (lh_D bd bT bV (rT i, rV i)).1 = 4
  · obtain ⟨d, hd, hv, h⟩ := lh_node okD (Or.inr rfl) h44
    have hc2 : (lh_D bd bT bV (rT i, rV i)).2.toNatClampNeg = d := by rw [hv, nI_clamp (by omega)]
    obtain ⟨a, ha4, ea⟩ := H.2.1 d hd
    have en : lh_nc ar (lh_D bd bT bV (rT i, rV i)) = a := by rw [lh_nc, if_pos h44, hc2, ea, nI_clamp (by omega)]
    refine br_t h44 ?_
    rw [hc2, ea, hv]
    have hin3 : vp_in (nI d) 240 := vp_in_nI (by omega) (by omega)
    refine br_f (nI_pos (by omega)) (br_t (nI_lt (b := 240) (by omega) (by decide)) (br_c (fun h => hno _ _ ?_) (fun h1 => ⟨hin3, br_c (fun h => hno _ _ ?_) (fun h2 => ?_)⟩)))
    · rintro ⟨j', i', k, h1, h2, h3, h4', e0', e1', e2⟩
      rw [e2] at h
      exact nI_nlt (b := 1) h3 (by have := hj' i' e1' h2; subst this; omega) h
    · rintro ⟨j', i', k, h1, h2, h3, h4', e0', e1', e2⟩
      have := hj' i' e1' h2
      subst this
      rw [en] at h4'
      rw [e2] at h
      exact nI_nlt h4' (by omega) h
    · obtain ⟨k, hk1, hk2, e2⟩ := lh_rng (a := 1) (b := a) (by omega) (Int32.not_lt.mp h1) (Int32.not_lt.mp h2) (by decide)
      refine br_t (by rw [e2]; exact nI_le (b := 4) (by omega) (by decide)) ?_
      have e3 : nI d * 4 + p2 - 1 = nI (d * 4 + (k - 1)) := by
        obtain ⟨k', rfl⟩ : ∃ k', k = k' + 1 := ⟨k - 1, by omega⟩
        rw [e2, show nI d * 4 = nI (d * 4) from pk_mul d 4, nI_add, ← Nat.add_assoc, nI_pred]
        rfl
      rw [e3, nI_clamp (by omega)]
      have hin4 : vp_in (nI (d * 4 + (k - 1))) 960 := vp_in_nI (by omega) (by omega)
      have hp := ht (lh_D bd bT bV (rT i, rV i)).1 (nI d) j i k hj hi hk1 (by omega) e0 e1 e2
      rw [lh_ch, hc2] at hp
      exact ⟨hin4, hin2, nm_e ⟨hin4, hin2, nm_e hp⟩⟩
  · refine br_f h44 (hno _ _ ?_)
    rintro ⟨j', i', k, h1, h2, h3, h4', e0', e1', e2⟩
    have := hj' i' e1' h2
    subst this
    rw [lh_nc, if_neg h44] at h4'
    omega
end
