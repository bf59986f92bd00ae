section
variable {xR xB xU xC : Int32} {rt cl sr sc su tn : Nat → Int32} {n : Nat} {ar fn aT aV bd bT bV rT rV : Nat → Int32}
theorem lx_derefq {post : Int32 → Prop} (H : lh_Hp n ar fn aT aV bd bT bV cl) {p : Int32 × Int32} {x T V : Int32} (ok : lh_ok n ar p.1 p.2) (hx : x = lh_en ar p.1 p.2) (hq : lh_D bd bT bV p = (T, V))
    (hp : post (lh_en ar T V)) : wpX_dereference post (xR, xB, xU, xC, rt, cl, sr, sc, su, tn) x := by
  refine lx_deref H ok hx ?_
  rw [hq]
  exact hp
theorem lx_bindN {post : Int32 → St2 → Prop} {R : Nat} (hR : R ≤ 8) {p0 p1 : Int32} (hr : ¬ (lh_ro R p0 ∧ lh_ro R p1)) (hp : post (-1) (nI R, xB, xU, xC, rt, cl, sr, sc, su, tn)) : wpX_bind post (nI R, xB, xU, xC, rt, cl, sr, sc, su, tn) p0 p1 := by
  unfold wpX_bind
  dsimp only
  exact lx_isRoot hR p0 (fun j hj e0 => br_f (by decide) (lx_isRoot hR p1 (fun i hi e1 => absurd ⟨⟨j, hj, e0⟩, ⟨i, hi, e1⟩⟩ hr) (fun _ => br_t rfl hp))) (fun _ => br_t rfl hp)
theorem lx_bindA {post : Int32 → St2 → Prop} {R : Nat} (hR : R ≤ 8) (H : lh_Hp n ar fn aT aV bd bT bV cl) (Rt : lh_Rt R n ar rT rV rt) {j i : Nat} (hj : j < R) (hi : i < R) {T V : Int32} (ha : lh_D bd bT bV (rT j, rV j) = (T, V))
    (h1 : ¬ T = 1) (hp : post (-1) (nI R, xB, xU, xC, rt, cl, sr, sc, su, tn)) : wpX_bind post (nI R, xB, xU, xC, rt, cl, sr, sc, su, tn) (nI j) (nI i) := by
  have okD := (lh_D_ok H (p := (rT j, rV j)) (Rt j hj).1).1
  rw [ha] at okD
  unfold wpX_bind
  dsimp only
  refine lx_isRoot hR (nI j) (fun _ _ _ => br_f (by decide) (lx_isRoot hR (nI i) (fun _ _ _ => br_f (by decide) ?_) (fun h => absurd ⟨i, hi, rfl⟩ h))) (fun h => absurd ⟨j, hj, rfl⟩ h)
  rw [nI_clamp (n := j) (by omega)]
  refine ⟨vp_in_nI (by omega) (by omega), lx_derefq H (p := (rT j, rV j)) (Rt j hj).1 (Rt j hj).2 ha (lx_low ?_)⟩
  rw [lh_en_lo okD]
  exact br_f h1 hp
theorem lx_bindB {R : Nat} (hR : R ≤ 8) (H : lh_Hp n ar fn aT aV bd bT bV cl) (Rt : lh_Rt R n ar rT rV rt) {j i : Nat} (hj : j < R) (hi : i < R) {va : Nat} (hva : va < n) {T V : Int32}
    (ha : lh_D bd bT bV (rT j, rV j) = (1, nI va)) (hb : lh_D bd bT bV (rT i, rV i) = (T, V)) :
    ∃ (c : Nat) (tn' : Nat → Int32), lx_P n ar aT aV bd bT bV (T, V) c tn' ∧ ∀ post : Int32 → St2 → Prop,
      (1000 < c → post (-1) (nI R, xB, xU, xC, rt, cl, sr, sc, su, tn')) →
      (c ≤ 1000 → T = 1 ∧ V = nI va → post 1 (nI R, xB, xU, xC, rt, cl, sr, sc, su, tn')) →
      (c ≤ 1000 → ∀ vb, vb < n → vb ≠ va → T = 1 → V = nI vb → (va < vb → post 1 (nI R, xB, xU, xC, rt, upd cl (lh_ad ar vb) (lh_en ar 1 (nI va)), sr, sc, su, tn')) ∧ (vb < va → post 1 (nI R, xB, xU, xC, rt, upd cl (lh_ad ar va) (lh_en ar T V), sr, sc, su, tn'))) →
      (c ≤ 1000 → ¬ T = 1 → ((∃ k, k < c ∧ tn' k = lh_en ar 1 (nI va)) → post 0 (nI R, xB, xU, xC, rt, cl, sr, sc, su, tn')) ∧ (¬ (∃ k, k < c ∧ tn' k = lh_en ar 1 (nI va)) → post 1 (nI R, xB, xU, xC, rt, upd cl (lh_ad ar va) (lh_en ar T V), sr, sc, su, tn'))) →
      wpX_bind post (nI R, xB, xU, xC, rt, cl, sr, sc, su, tn) (nI j) (nI i) := by
  have hn := lh_n240 H.1
  have h0 := H.1
  have okA := (lh_D_ok H (p := (rT j, rV j)) (Rt j hj).1).1
  rw [ha] at okA
  have okB := (lh_D_ok H (p := (rT i, rV i)) (Rt i hi).1).1
  rw [hb] at okB
  dsimp only at okA okB
  have haa := lh_ad_lt ar hva
  have eA : lh_en ar 1 (nI va) >>> ((3 : Int32) &&& 31) = nI (lh_ad ar va) := lh_en_hi (Or.inl rfl) (by omega) (by omega)
  obtain ⟨c, tn', hP, hw⟩ := lx_tree (xR := nI R) (xB := xB) (xU := xU) (xC := xC) (rt := rt) (sr := sr) (sc := sc) (su := su) (tn := tn) H (p := (T, V)) okB
  refine ⟨c, tn', hP, ?_⟩
  intro post k1 k2 k3 k4
  have hc1 := hP.1
  unfold wpX_bind
  dsimp only
  refine lx_isRoot hR (nI j) (fun _ _ _ => br_f (by decide) (lx_isRoot hR (nI i) (fun _ _ _ => br_f (by decide) ?_) (fun h => absurd ⟨i, hi, rfl⟩ h))) (fun h => absurd ⟨j, hj, rfl⟩ h)
  rw [nI_clamp (by omega), nI_clamp (by omega)]
  refine ⟨vp_in_nI (by omega) (by omega), lx_derefq H (p := (rT j, rV j)) (Rt j hj).1 (Rt j hj).2 ha (lx_low ?_)⟩
  rw [lh_en_lo okA]
  refine br_t rfl ⟨vp_in_nI (by omega) (by omega), lx_derefq H (p := (rT i, rV i)) (Rt i hi).1 (Rt i hi).2 hb (hw _ ?_)⟩
  dsimp only
  by_cases hc : c ≤ 1000
  · refine br_t (nI_le (b := 1000) hc (by decide)) ?_
    by_cases hab : T = 1 ∧ V = nI va
    · exact br_t (by rw [hab.1, hab.2]) (k2 hc hab)
    · refine br_f (fun e => hab (lh_en_inj H.1 okB okA e)) (lx_low ?_)
      rw [lh_en_lo okB]
      by_cases hT : T = 1
      · obtain ⟨vb, hvb, hv, _⟩ := lh_node (p := (T, V)) okB (Or.inl rfl) hT
        dsimp only at hv
        have hne : vb ≠ va := fun e => hab ⟨hT, by rw [hv, e]⟩
        have hbb := lh_ad_lt ar hvb
        obtain ⟨m1, m2⟩ := k3 hc vb hvb hne hT hv
        have eB : lh_en ar T V >>> ((3 : Int32) &&& 31) = nI (lh_ad ar vb) := by
          rw [hT, hv]
          exact lh_en_hi (Or.inl rfl) (by omega) (by omega)
        refine br_t hT (lx_young (a := lh_ad ar va) (b := lh_ad ar vb) (by omega) (by omega) eA eB (fun h => m1 ?_) (fun h => m2 ?_))
        · rcases Nat.lt_or_gt_of_ne hne with g | g
          · have := lh_ad_lt ar g
            omega
          · exact g
        · rcases Nat.lt_or_gt_of_ne hne with g | g
          · exact g
          · have := lh_ad_lt ar g
            omega
      · obtain ⟨m1, m2⟩ := k4 hc hT
        refine br_f hT (lx_listed hc (fun hl => br_f (by decide) (m1 hl)) (fun hl => br_t rfl (lx_high ?_)))
        rw [eA, nI_clamp (by omega)]
        exact ⟨vp_in_nI (by omega) (by omega), nm_e (m2 hl)⟩
  · exact br_f (nI_ge (a := 1000) (by omega) (by omega)) (k1 (by omega))
end
