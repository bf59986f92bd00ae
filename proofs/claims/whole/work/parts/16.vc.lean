theorem i_vc_setConst {k : Nat} {u : SX} {v : SY} (I : i_Rel k u v) (hk : k + 5 ≤ 2562) (v1 : Int32) (v2 : Int32) (v3 : Int32) : wpX_setConst (fun r u' => wpY_setConst (fun r' v' => r' = r ∧ i_Rel (k + 5) u' v') v v1 v2 v3) u v1 v2 v3 := by
  obtain ⟨R, B, n, c, M, dT, dV, fd, rt, cl, sr, sc, su, tn, rT, rV, bd, bT, bV, fn, ar, aT, aV, crT, crV, cN, cU, cB, cbT, cbV, sT, sV, rfl, rfl, q⟩ := I
  have hR := q.2.1
  refine lx_setConst hR (fun j hj e hc => ly_setConst hR (fun j' hj' e' _ => ⟨rfl, ?_⟩) (fun h => absurd ⟨⟨j, hj, e⟩, hc⟩ h))
    (fun h => ly_setConst hR (fun j hj e hc => absurd ⟨⟨j, hj, e⟩, hc⟩ h) (fun _ => ⟨rfl, lh_mk rfl rfl rfl q⟩))
  have ej := lh_jj hR hj hj' e e'
  subst ej
  obtain ⟨k1, k2⟩ := lh_cst_ok (n := n) (ar := ar) hc
  exact lh_mk rfl rfl rfl (lq_root q j' k1 k2)
theorem i_vc_newVar {k : Nat} {u : SX} {v : SY} (I : i_Rel k u v) (hk : k + 5 ≤ 2562) (v1 : Int32) : wpX_newVar (fun r u' => wpY_newVar (fun r' v' => r' = r ∧ i_Rel (k + 5) u' v') v v1) u v1 := by
  obtain ⟨R, B, n, c, M, dT, dV, fd, rt, cl, sr, sc, su, tn, rT, rV, bd, bT, bV, fn, ar, aT, aV, crT, crV, cN, cU, cB, cbT, cbV, sT, sV, rfl, rfl, q⟩ := I
  have hR := q.2.1
  have hB := q.2.2.1
  have hU := q.2.2.2.2.1
  have hn := lh_ad_ge ar n
  refine lx_newVar hR hB hU (fun j hj e hc => ly_newVar hR hB hU hn (fun j' hj' e' _ => ⟨rfl, ?_⟩) (fun h => absurd ⟨⟨j, hj, e⟩, hc⟩ h))
    (fun h => ly_newVar hR hB hU hn (fun j hj e hc => absurd ⟨⟨j, hj, e⟩, hc⟩ h) (fun _ => ⟨rfl, lh_mk rfl rfl rfl q⟩))
  have ej := lh_jj hR hj hj' e e'
  subst ej
  exact lh_mk (congrArg nI lq_adv.symm) (congrArg nI lq_adv.symm) rfl (lq_var q j' hc)
theorem i_vc_build {k : Nat} {u : SX} {v : SY} (I : i_Rel k u v) (hk : k + 5 ≤ 2562) (v1 : Int32) (v2 : Int32) (v3 : Int32) (v4 : Int32) : wpX_build (fun r u' => wpY_build (fun r' v' => r' = r ∧ i_Rel (k + 5) u' v') v v1 v2 v3 v4) u v1 v2 v3 v4 := by
  obtain ⟨R, B, n, c, M, dT, dV, fd, rt, cl, sr, sc, su, tn, rT, rV, bd, bT, bV, fn, ar, aT, aV, crT, crV, cN, cU, cB, cbT, cbV, sT, sV, rfl, rfl, q⟩ := I
  have hR := q.2.1
  have hB := q.2.2.1
  have hU := q.2.2.2.2.1
  have hn := lh_ad_ge ar n
  refine lx_build hR hB hU (fun j f m i h1 h2 h3 h4 h5 h6 e0 e1 e2 e3 => ly_build hR hB hU hn (fun j' f' m' i' g1 g2 g3 g4 g5 g6 d0 d1 d2 d3 => ⟨rfl, ?_⟩) (fun h => absurd ⟨j, f, m, i, h1, h2, h3, h4, h5, h6, e0, e1, e2, e3⟩ h))
    (fun h => ly_build hR hB hU hn (fun j f m i h1 h2 h3 h4 h5 h6 e0 e1 e2 e3 => absurd ⟨j, f, m, i, h1, h2, h3, h4, h5, h6, e0, e1, e2, e3⟩ h) (fun _ => ⟨rfl, lh_mk rfl rfl rfl q⟩))
  have x0 := lh_jj hR h1 g1 e0 d0
  have x1 := lh_nn (by omega) (by omega) e1 d1
  have x2 := lh_nn (by omega) (by omega) e2 d2
  have x3 := lh_nn (by omega) (by omega) e3 d3
  subst x0 x1 x2 x3
  exact lh_mk (congrArg nI (lq_adb h4).symm) (congrArg nI (lq_adb h4).symm) rfl (lq_build q j' h2 h3 h4 h5 h6)
theorem i_vc_move {k : Nat} {u : SX} {v : SY} (I : i_Rel k u v) (hk : k + 5 ≤ 2562) (v1 : Int32) (v2 : Int32) : wpX_move (fun r u' => wpY_move (fun r' v' => r' = r ∧ i_Rel (k + 5) u' v') v v1 v2) u v1 v2 := by
  obtain ⟨R, B, n, c, M, dT, dV, fd, rt, cl, sr, sc, su, tn, rT, rV, bd, bT, bV, fn, ar, aT, aV, crT, crV, cN, cU, cB, cbT, cbV, sT, sV, rfl, rfl, q⟩ := I
  have hR := q.2.1
  have Rt := q.2.2.2.2.2.2.1
  refine lx_move hR (fun j i h1 h2 e0 e1 => ly_move hR (fun j' i' g1 g2 d0 d1 => ⟨rfl, ?_⟩) (fun h => absurd ⟨⟨j, h1, e0⟩, ⟨i, h2, e1⟩⟩ h))
    (fun h => ly_move hR (fun j i h1 h2 e0 e1 => absurd ⟨⟨j, h1, e0⟩, ⟨i, h2, e1⟩⟩ h) (fun _ => ⟨rfl, lh_mk rfl rfl rfl q⟩))
  have x0 := lh_jj hR h1 g1 e0 d0
  have x1 := lh_jj hR h2 g2 e1 d1
  subst x0 x1
  exact lh_mk rfl rfl rfl (lq_root q j' (Rt i' h2).1 (Rt i' h2).2)
theorem i_vc_getArg {k : Nat} {u : SX} {v : SY} (I : i_Rel k u v) (hk : k + 5 ≤ 2562) (v1 : Int32) (v2 : Int32) (v3 : Int32) : wpX_getArg (fun r u' => wpY_getArg (fun r' v' => r' = r ∧ i_Rel (k + 5) u' v') v v1 v2 v3) u v1 v2 v3 := by
  obtain ⟨R, B, n, c, M, dT, dV, fd, rt, cl, sr, sc, su, tn, rT, rV, bd, bT, bV, fn, ar, aT, aV, crT, crV, cN, cU, cB, cbT, cbV, sT, sV, rfl, rfl, q⟩ := I
  have hR := q.2.1
  have H := q.2.2.2.2.2.1
  have Rt := q.2.2.2.2.2.2.1
  refine lx_getArg hR H Rt (fun j i k h1 h2 h3 h4 e0 e1 e2 => ly_getArg hR H Rt (fun _ _ j' i' k' g1 g2 g3 g4 d0 d1 d2 => ⟨rfl, ?_⟩) (fun _ _ h => absurd ⟨j, i, k, h1, h2, h3, h4, e0, e1, e2⟩ h))
    (fun h => ly_getArg hR H Rt (fun _ _ j i k h1 h2 h3 h4 e0 e1 e2 => absurd ⟨j, i, k, h1, h2, h3, h4, e0, e1, e2⟩ h) (fun _ _ _ => ⟨rfl, lh_mk rfl rfl rfl q⟩))
  have x0 := lh_jj hR h1 g1 e0 d0
  have x1 := lh_jj hR h2 g2 e1 d1
  subst x0 x1
  have okD := (lh_D_ok H (p := (rT i', rV i')) (Rt i' h2).1).1
  have hn4 := lh_nc4 H okD
  have x2 := lh_nn (by omega) (by omega) e2 d2
  subst x2
  exact lh_mk rfl rfl rfl (lq_root q j' (lh_ch_ok H okD (j := k' - 1) (by omega)) rfl)
theorem i_vc_bind {k : Nat} {u : SX} {v : SY} (I : i_Rel k u v) (hk : k + 5 ≤ 2562) (v1 : Int32) (v2 : Int32) : wpX_bind (fun r u' => wpY_bind (fun r' v' => r' = r ∧ i_Rel (k + 5) u' v') v v1 v2) u v1 v2 := by
  obtain ⟨R, B, n, c, M, dT, dV, fd, rt, cl, sr, sc, su, tn, rT, rV, bd, bT, bV, fn, ar, aT, aV, crT, crV, cN, cU, cB, cbT, cbV, sT, sV, rfl, rfl, q⟩ := I
  have hR := q.2.1
  have H := q.2.2.2.2.2.1
  have Rt := q.2.2.2.2.2.2.1
  by_cases hr : lh_ro R v1 ∧ lh_ro R v2
  · obtain ⟨⟨j, hj, rfl⟩, ⟨i, hi, rfl⟩⟩ := hr
    obtain ⟨⟨T0, V0⟩, ha⟩ : ∃ y, lh_D bd bT bV (rT j, rV j) = y := ⟨_, rfl⟩
    obtain ⟨⟨T, V⟩, hb⟩ : ∃ y, lh_D bd bT bV (rT i, rV i) = y := ⟨_, rfl⟩
    have okA := (lh_D_ok H (p := (rT j, rV j)) (Rt j hj).1)
    rw [ha] at okA
    have okB := (lh_D_ok H (p := (rT i, rV i)) (Rt i hi).1)
    rw [hb] at okB
    dsimp only at okA okB
    by_cases h1 : T0 = 1
    · obtain ⟨va, hva, hv, hz⟩ := lh_node (p := (T0, V0)) okA.1 (Or.inl rfl) h1
      have hz0 : ar va = 0 := by
        rcases hz with hz | hz
        · exact hz.2
        · exact absurd hz.1 (by decide)
      dsimp only at hv
      subst h1 hv
      obtain ⟨cx, tn', hP, hx⟩ := lx_bindB (xB := nI B) (xU := nI (lh_ad ar n)) (xC := nI c) (sr := sr) (sc := sc) (su := su) (tn := tn) hR H Rt hj hi hva ha hb
      obtain ⟨cy, fd', hP', hy⟩ := ly_bindB (yB := nI B) (yN := nI n) (yU := nI (lh_ad ar n)) (yC := nI c) (dT := dT) (dV := dV) (fd := fd) (crT := crT) (crV := crV) (cN := cN) (cU := cU) (cB := cB) (cbT := cbT) (cbV := cbV) (sT := sT) (sV := sV) hR H Rt hj hi hva ha hb
      have hW : ∀ g, lh_W ar aT aV bd bT bV g (T, V) = lh_W ar aT aV bd bT bV g (rT i, rV i) := by
        intro g
        rw [← hb]
        exact lh_W_D H (p := (rT i, rV i)) (Rt i hi).1 g
      have ec : cx = cy := by
        have g1 := hP.2.1
        rw [hW] at g1
        exact lh_An_u g1 hP'.2.1
      subst ec
      refine hx _ (fun h => ?_) (fun h g => ?_) (fun h vb hvb hne hT hV => ⟨fun g => ?_, fun g => ?_⟩) (fun h hT => ⟨fun g => ?_, fun g => ?_⟩)
      · exact hy _ (fun _ _ _ _ _ _ => ⟨rfl, lh_mk rfl rfl rfl q⟩) (fun h' => absurd h' (by omega)) (fun h' => absurd h' (by omega)) (fun h' => absurd h' (by omega))
      · exact hy _ (fun h' => absurd h' (by omega)) (fun _ _ _ _ _ _ _ => ⟨rfl, lh_mk rfl rfl rfl q⟩)
          (fun _ vb _ hne hT hV => absurd (lh_nn (j := va) (j' := vb) (by have := lh_n240 H.1; omega) (by have := lh_n240 H.1; omega) g.2 hV) hne) (fun _ hT => absurd g.1 hT)
      · refine hy _ (fun h' => absurd h' (by omega)) (fun _ g' => absurd (lh_nn (j := va) (j' := vb) (by have := lh_n240 H.1; omega) (by have := lh_n240 H.1; omega) g'.2 hV) hne) (fun _ vb' hvb' _ _ hV' _ _ _ _ _ => ?_) (fun _ hT' => absurd hT hT')
        have e := lh_nn (j := vb) (j' := vb') (by have := lh_n240 H.1; omega) (by have := lh_n240 H.1; omega) hV hV'
        subst e
        refine ⟨fun _ => ⟨rfl, lh_mk rfl rfl rfl (lq_bind q (lh_Hp_b H hvb ?_ okA.1 ?_ rfl))⟩, fun g' => absurd g' (by omega)⟩
        · subst hT hV
          rcases okB.1 with ⟨z, _⟩ | ⟨x, hx1, hx2, z | z⟩
          · exact absurd z (by decide)
          · rw [nI_eq (by have := lh_n240 H.1; omega) (by have := lh_n240 H.1; omega)] at hx2
            rw [hx2]
            exact z.2
          · exact absurd z.1 (by decide)
        · intro _
          rw [nI_clamp (by have := lh_n240 H.1; omega)]
          exact g
      · refine hy _ (fun h' => absurd h' (by omega)) (fun _ g' => absurd (lh_nn (j := va) (j' := vb) (by have := lh_n240 H.1; omega) (by have := lh_n240 H.1; omega) g'.2 hV) hne) (fun _ vb' hvb' _ _ hV' _ _ _ _ _ => ?_) (fun _ hT' => absurd hT hT')
        have e := lh_nn (j := vb) (j' := vb') (by have := lh_n240 H.1; omega) (by have := lh_n240 H.1; omega) hV hV'
        subst e
        refine ⟨fun g' => absurd g' (by omega), fun _ => ⟨rfl, lh_mk rfl rfl rfl (lq_bind q ?_)⟩⟩
        subst hT hV
        refine lh_Hp_b H hva hz0 okB.1 ?_ rfl
        intro _
        rw [nI_clamp (by have := lh_n240 H.1; omega)]
        exact g
      · obtain ⟨A, t1, t2⟩ := hP.2.2 h 1 (nI va) okA.1
        obtain ⟨A', s1, s2⟩ := hP'.2.2 h
        rw [hW] at t1
        have eA := lh_Tot_u t1 s1
        subst eA
        have hA := t2.mp g
        refine hy _ (fun h' => absurd h' (by omega)) (fun _ g' => absurd g'.1 hT) (fun _ _ _ _ hT' => absurd hT' hT) (fun _ _ _ _ _ _ _ => ⟨fun _ => ⟨rfl, lh_mk rfl rfl rfl q⟩, fun g' => ?_⟩)
        rcases s2 with s2 | s2
        · omega
        · rw [s2.1] at g'
          exact absurd g' (by decide)
      · obtain ⟨A, t1, t2⟩ := hP.2.2 h 1 (nI va) okA.1
        obtain ⟨A', s1, s2⟩ := hP'.2.2 h
        rw [hW] at t1
        have eA := lh_Tot_u t1 s1
        subst eA
        have hA : ¬ 0 < A := fun z => g (t2.mpr z)
        refine hy _ (fun h' => absurd h' (by omega)) (fun _ g' => absurd g'.1 hT) (fun _ _ _ _ hT' => absurd hT' hT) (fun _ _ _ _ _ _ _ => ⟨fun g' => ?_, fun _ => ⟨rfl, lh_mk rfl rfl rfl (lq_bind q (lh_Hp_b H hva hz0 okB.1 (fun z => absurd z hT) rfl))⟩⟩)
        rcases s2 with s2 | s2
        · exact absurd s2.1 g'
        · omega
    · exact lx_bindA hR H Rt hj hi ha h1 (ly_bindA hR H Rt hj hi ha h1 ⟨rfl, lh_mk rfl rfl rfl q⟩)
  · exact lx_bindN hR hr (ly_bindN hR hr ⟨rfl, lh_mk rfl rfl rfl q⟩)
theorem i_vc_pushChoice {k : Nat} {u : SX} {v : SY} (I : i_Rel k u v) (hk : k + 5 ≤ 2562) : wpX_pushChoice (fun r u' => wpY_pushChoice (fun r' v' => r' = r ∧ i_Rel (k + 5) u' v') v) u := by
  obtain ⟨R, B, n, c, M, dT, dV, fd, rt, cl, sr, sc, su, tn, rT, rV, bd, bT, bV, fn, ar, aT, aV, crT, crV, cN, cU, cB, cbT, cbV, sT, sV, rfl, rfl, q⟩ := I
  have hR := q.2.1
  have hc := q.2.2.2.1
  have hH := q.2.2.2.2.2.1.1
  refine lx_push hR hH hc (fun h => ly_pushC (lh_n240 hH) hc (fun _ => ⟨rfl, lh_mk rfl rfl rfl (lq_push q h)⟩) (fun h' => absurd h' (by omega)))
    (fun h => ly_pushC (lh_n240 hH) hc (fun h' => absurd h' (by omega)) (fun _ => ⟨rfl, lh_mk rfl rfl rfl q⟩))
theorem i_vc_backtrack {k : Nat} {u : SX} {v : SY} (I : i_Rel k u v) (hk : k + 5 ≤ 2562) : wpX_backtrack (fun r u' => wpY_backtrack (fun r' v' => r' = r ∧ i_Rel (k + 5) u' v') v) u := by
  obtain ⟨R, B, n, c, M, dT, dV, fd, rt, cl, sr, sc, su, tn, rT, rV, bd, bT, bV, fn, ar, aT, aV, crT, crV, cN, cU, cB, cbT, cbV, sT, sV, rfl, rfl, q⟩ := I
  have hR := q.2.1
  have hc := q.2.2.2.1
  cases c with
  | zero => exact lx_back hR hc (fun c' e => absurd e (by omega)) (fun _ => ly_back hc (fun c' e => absurd e (by omega)) (fun _ => ⟨rfl, lh_mk rfl rfl rfl q⟩))
  | succ c =>
    obtain ⟨⟨g1, g2, g3, g4, g5⟩, g6⟩ := lq_back q
    refine lx_back hR hc (fun c' e => ?_) (fun e => absurd e (by omega))
    have e' : c' = c := by omega
    subst e'
    refine ⟨lh_ad ar (M c'), g2, g5, ly_back hc (fun c'' e2 => ?_) (fun e2 => absurd e2 (by omega))⟩
    have e'' : c'' = c' := by omega
    subst e''
    exact ⟨M c'', g1, g3, rfl, lh_mk rfl g4 rfl g6⟩
theorem i_vc_popChoice {k : Nat} {u : SX} {v : SY} (I : i_Rel k u v) (hk : k + 5 ≤ 2562) : wpX_popChoice (fun r u' => wpY_popChoice (fun r' v' => r' = r ∧ i_Rel (k + 5) u' v') v) u := by
  obtain ⟨R, B, n, c, M, dT, dV, fd, rt, cl, sr, sc, su, tn, rT, rV, bd, bT, bV, fn, ar, aT, aV, crT, crV, cN, cU, cB, cbT, cbV, sT, sV, rfl, rfl, q⟩ := I
  have hR := q.2.1
  have hc := q.2.2.2.1
  cases c with
  | zero => exact lx_pop hc (fun c' e => absurd e (by omega)) (fun _ => ly_pop hc (fun c' e => absurd e (by omega)) (fun _ => ⟨rfl, lh_mk rfl rfl rfl q⟩))
  | succ c =>
    refine lx_pop hc (fun c' e => ly_pop hc (fun c'' e2 => ⟨rfl, ?_⟩) (fun e2 => absurd e2 (by omega))) (fun e => absurd e (by omega))
    have e' : c' = c := by omega
    have e'' : c'' = c := by omega
    subst e' e''
    exact lh_mk rfl rfl rfl (lq_pop q)
theorem i_vc_collect {k : Nat} {u : SX} {v : SY} (I : i_Rel k u v) (hk : k + 5 ≤ 2562) : wpX_collect (fun u' => wpY_collect (fun v' => i_Rel (k + 5) u' v') v) u := by
  obtain ⟨R, B, n, c, M, dT, dV, fd, rt, cl, sr, sc, su, tn, rT, rV, bd, bT, bV, fn, ar, aT, aV, crT, crV, cN, cU, cB, cbT, cbV, sT, sV, rfl, rfl, q⟩ := I
  have hR := q.2.1
  exact lh_mk (k := k + 5) rfl rfl rfl q
theorem i_vc_kind {k : Nat} {u : SX} {v : SY} (I : i_Rel k u v) (hk : k + 5 ≤ 2562) (v1 : Int32) : wpX_kind (fun r => wpY_kind (fun r' v' => r' = r ∧ i_Rel (k + 5) u v') v v1) u v1 := by
  obtain ⟨R, B, n, c, M, dT, dV, fd, rt, cl, sr, sc, su, tn, rT, rV, bd, bT, bV, fn, ar, aT, aV, crT, crV, cN, cU, cB, cbT, cbV, sT, sV, rfl, rfl, q⟩ := I
  have hR := q.2.1
  have H := q.2.2.2.2.2.1
  have Rt := q.2.2.2.2.2.2.1
  refine lx_kind hR H Rt (fun j hj e => ly_kind hR H Rt (fun _ _ j' hj' e' => ⟨?_, lh_mk rfl rfl rfl q⟩) (fun h => absurd ⟨j, hj, e⟩ h))
    (fun h => ly_kind hR H Rt (fun _ _ j hj e => absurd ⟨j, hj, e⟩ h) (fun _ => ⟨rfl, lh_mk rfl rfl rfl q⟩))
  rw [lh_jj hR hj hj' e e']
theorem i_vc_value {k : Nat} {u : SX} {v : SY} (I : i_Rel k u v) (hk : k + 5 ≤ 2562) (v1 : Int32) : wpX_value (fun r => wpY_value (fun r' v' => r' = r ∧ i_Rel (k + 5) u v') v v1) u v1 := by
  obtain ⟨R, B, n, c, M, dT, dV, fd, rt, cl, sr, sc, su, tn, rT, rV, bd, bT, bV, fn, ar, aT, aV, crT, crV, cN, cU, cB, cbT, cbV, sT, sV, rfl, rfl, q⟩ := I
  have hR := q.2.1
  have H := q.2.2.2.2.2.1
  have Rt := q.2.2.2.2.2.2.1
  refine lx_value hR H Rt (fun j hj e => ly_value hR H Rt (fun _ _ j' hj' e' => ⟨?_, lh_mk rfl rfl rfl q⟩) (fun h => absurd ⟨j, hj, e⟩ h))
    (fun h => ly_value hR H Rt (fun _ _ j hj e => absurd ⟨j, hj, e⟩ h) (fun _ => ⟨rfl, lh_mk rfl rfl rfl q⟩))
  rw [lh_jj hR hj hj' e e']
theorem i_vc_arity {k : Nat} {u : SX} {v : SY} (I : i_Rel k u v) (hk : k + 5 ≤ 2562) (v1 : Int32) : wpX_arity (fun r => wpY_arity (fun r' v' => r' = r ∧ i_Rel (k + 5) u v') v v1) u v1 := by
  obtain ⟨R, B, n, c, M, dT, dV, fd, rt, cl, sr, sc, su, tn, rT, rV, bd, bT, bV, fn, ar, aT, aV, crT, crV, cN, cU, cB, cbT, cbV, sT, sV, rfl, rfl, q⟩ := I
  have hR := q.2.1
  have H := q.2.2.2.2.2.1
  have Rt := q.2.2.2.2.2.2.1
  refine lx_arity hR H Rt (fun j hj e => ly_arity hR H Rt (fun _ _ j' hj' e' => ⟨?_, lh_mk rfl rfl rfl q⟩) (fun h => absurd ⟨j, hj, e⟩ h))
    (fun h => ly_arity hR H Rt (fun _ _ j hj e => absurd ⟨j, hj, e⟩ h) (fun _ => ⟨rfl, lh_mk rfl rfl rfl q⟩))
  rw [lh_jj hR hj hj' e e']
theorem i_vc_sameVar {k : Nat} {u : SX} {v : SY} (I : i_Rel k u v) (hk : k + 5 ≤ 2562) (v1 : Int32) (v2 : Int32) : wpX_sameVar (fun r => wpY_sameVar (fun r' v' => r' = r ∧ i_Rel (k + 5) u v') v v1 v2) u v1 v2 := by
  obtain ⟨R, B, n, c, M, dT, dV, fd, rt, cl, sr, sc, su, tn, rT, rV, bd, bT, bV, fn, ar, aT, aV, crT, crV, cN, cU, cB, cbT, cbV, sT, sV, rfl, rfl, q⟩ := I
  have hR := q.2.1
  have H := q.2.2.2.2.2.1
  have Rt := q.2.2.2.2.2.2.1
  exact lx_sameVar hR H Rt (fun j i h1 h2 e0 e1 h3 h4 => ly_sameVar hR H Rt (fun _ _ _ _ _ _ _ _ _ _ => ⟨rfl, lh_mk rfl rfl rfl q⟩) (fun _ _ h => absurd ⟨j, i, h1, h2, e0, e1, h3, h4⟩ h))
    (fun h => ly_sameVar hR H Rt (fun _ _ j i h1 h2 e0 e1 h3 h4 => absurd ⟨j, i, h1, h2, e0, e1, h3, h4⟩ h) (fun _ _ _ => ⟨rfl, lh_mk rfl rfl rfl q⟩))
theorem i_vc_treeSize {k : Nat} {u : SX} {v : SY} (I : i_Rel k u v) (hk : k + 5 ≤ 2562) (v1 : Int32) : wpX_treeSize (fun r u' => wpY_treeSize (fun r' v' => r' = r ∧ i_Rel (k + 5) u' v') v v1) u v1 := by
  obtain ⟨R, B, n, c, M, dT, dV, fd, rt, cl, sr, sc, su, tn, rT, rV, bd, bT, bV, fn, ar, aT, aV, crT, crV, cN, cU, cB, cbT, cbV, sT, sV, rfl, rfl, q⟩ := I
  have hR := q.2.1
  have H := q.2.2.2.2.2.1
  have Rt := q.2.2.2.2.2.2.1
  by_cases hr : lh_ro R v1
  · obtain ⟨j, hj, rfl⟩ := hr
    obtain ⟨cx, tn', hP, hx⟩ := lx_treeSize (xB := nI B) (xU := nI (lh_ad ar n)) (xC := nI c) (sr := sr) (sc := sc) (su := su) (tn := tn) hR H Rt hj
    obtain ⟨cy, fd', dT', dV', sT', sV', hP', hy⟩ := ly_treeSize (yB := nI B) (yN := nI n) (yU := nI (lh_ad ar n)) (yC := nI c) (dT := dT) (dV := dV) (fd := fd) (crT := crT) (crV := crV) (cN := cN) (cU := cU) (cB := cB) (cbT := cbT) (cbV := cbV) (sT := sT) (sV := sV) hR H Rt hj
    have ec := lh_An_u hP.2.1 hP'.2.1
    subst ec
    exact hx _ (hy _ ⟨rfl, lh_mk rfl rfl rfl q⟩)
  · exact lx_treeNo hR hr (ly_treeNo hR hr ⟨rfl, lh_mk rfl rfl rfl q⟩)
