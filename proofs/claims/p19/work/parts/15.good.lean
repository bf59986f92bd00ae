/-- a state of the class that is some run's -/
def lj_G (u : St2) : Prop :=
  ∃ (R B n c : Nat) (M : Nat → Nat) (rt cl sr sc su tn rT rV bd bT bV fn ar aT aV crT crV cN cU cB cbT cbV : Nat → Int32),
    u = (nI R, nI B, nI (lh_ad ar n), nI c, rt, cl, sr, sc, su, tn) ∧ lh_Q R B n c M rt cl sr sc su rT rV bd bT bV fn ar aT aV crT crV cN cU cB cbT cbV
theorem lj_mk {R B n c : Nat} {M : Nat → Nat} {xU : Int32} {rt cl sr sc su tn rT rV bd bT bV fn ar aT aV crT crV cN cU cB cbT cbV : Nat → Int32}
    (e1 : xU = nI (lh_ad ar n)) (q : lh_Q R B n c M rt cl sr sc su rT rV bd bT bV fn ar aT aV crT crV cN cU cB cbT cbV) : lj_G (nI R, nI B, xU, nI c, rt, cl, sr, sc, su, tn) := by
  subst e1
  exact ⟨R, B, n, c, M, rt, cl, sr, sc, su, tn, rT, rV, bd, bT, bV, fn, ar, aT, aV, crT, crV, cN, cU, cB, cbT, cbV, rfl, q⟩
theorem lh_jj {R j j' : Nat} {r : Int32} (hR : R ≤ 8) (hj : j < R) (hj' : j' < R) (e : r = nI j) (e' : r = nI j') : j' = j := by
  rw [e, nI_eq (by omega) (by omega)] at e'
  exact e'.symm
theorem lh_nn {j j' : Nat} {r : Int32} (hj : j < 2 ^ 31) (hj' : j' < 2 ^ 31) (e : r = nI j) (e' : r = nI j') : j' = j := by
  rw [e, nI_eq hj hj'] at e'
  exact e'.symm
theorem lh_cst_ok {n : Nat} {ar : Nat → Int32} {k v : Int32} (h : lh_cst k v) : lh_ok n ar k v ∧ lh_pk v k = lh_en ar k v := by
  rcases h with ⟨rfl, h1, h2⟩ | ⟨rfl, h1, h2⟩
  · rw [Int32.le_iff_toInt_le] at h1 h2
    rw [show (0 : Int32).toInt = 0 from rfl] at h1
    rw [show (4095 : Int32).toInt = 4095 from rfl] at h2
    exact ⟨Or.inl ⟨Or.inl rfl, by omega, by omega⟩, (lh_en_k ar (Or.inl rfl)).symm⟩
  · rw [Int32.le_iff_toInt_le] at h1 h2
    rw [show (-32768 : Int32).toInt = -32768 from rfl] at h1
    rw [show (32767 : Int32).toInt = 32767 from rfl] at h2
    exact ⟨Or.inl ⟨Or.inr rfl, by omega, by omega⟩, (lh_en_k ar (Or.inr rfl)).symm⟩
theorem lh_cp_t0 (f : Nat → Int32) (fs : Nat) (t : Nat → Int32) (m : Nat) : upd (lh_cp f fs t 0 m) m (f (fs + m)) = lh_cp f fs t 0 (m + 1) := by
  have h := lh_cp_s f fs t 0 m
  rw [Nat.zero_add] at h
  exact h
theorem lj_setConst {u : St2} (g : lj_G u) (p0 p1 p2 : Int32) : ∃ (r : Int32) (u' : St2), lj_G u' ∧ (r = 0 ∨ r = 1) ∧ ∀ post : Int32 → St2 → Prop, post r u' → wpX_setConst post u p0 p1 p2 := by
  obtain ⟨R, B, n, c, M, rt, cl, sr, sc, su, tn, rT, rV, bd, bT, bV, fn, ar, aT, aV, crT, crV, cN, cU, cB, cbT, cbV, rfl, q⟩ := g
  have hR := q.2.1
  by_cases h : lh_ro R p0 ∧ lh_cst p1 p2
  · obtain ⟨⟨j, hj, rfl⟩, hc⟩ := h
    obtain ⟨k1, k2⟩ := lh_cst_ok (n := n) (ar := ar) hc
    refine ⟨1, (nI R, nI B, nI (lh_ad ar n), nI c, upd rt j (lh_pk p2 p1), cl, sr, sc, su, tn), lj_mk rfl (lq_root q j k1 k2), Or.inr rfl, fun post hp => lx_setConst hR (fun j' hj' e' _ => ?_) (fun h => absurd ⟨⟨j, hj, rfl⟩, hc⟩ h)⟩
    have ej := lh_jj hR hj hj' rfl e'
    subst ej
    exact hp
  · exact ⟨0, (nI R, nI B, nI (lh_ad ar n), nI c, rt, cl, sr, sc, su, tn), lj_mk rfl q, Or.inl rfl, fun post hp => lx_setConst hR (fun j hj e hc => absurd ⟨⟨j, hj, e⟩, hc⟩ h) (fun _ => hp)⟩
theorem lj_newVar {u : St2} (g : lj_G u) (p0 : Int32) : ∃ (r : Int32) (u' : St2), lj_G u' ∧ (r = 0 ∨ r = 1) ∧ ∀ post : Int32 → St2 → Prop, post r u' → wpX_newVar post u p0 := by
  obtain ⟨R, B, n, c, M, rt, cl, sr, sc, su, tn, rT, rV, bd, bT, bV, fn, ar, aT, aV, crT, crV, cN, cU, cB, cbT, cbV, rfl, q⟩ := g
  have hR := q.2.1
  have hB := q.2.2.1
  have hU := q.2.2.2.2.1
  by_cases h : lh_ro R p0 ∧ lh_ad ar n + 1 ≤ B
  · obtain ⟨⟨j, hj, rfl⟩, hc⟩ := h
    refine ⟨1, (nI R, nI B, nI (lh_ad ar n + 1), nI c, upd rt j (lh_pk (nI (lh_ad ar n)) 1), upd cl (lh_ad ar n) (lh_pk (nI (lh_ad ar n)) 1), sr, sc, su, tn), lj_mk (congrArg nI lq_adv.symm) (lq_var q j hc), Or.inr rfl,
      fun post hp => lx_newVar hR hB hU (fun j' hj' e' _ => ?_) (fun h => absurd ⟨⟨j, hj, rfl⟩, hc⟩ h)⟩
    have ej := lh_jj hR hj hj' rfl e'
    subst ej
    exact hp
  · exact ⟨0, (nI R, nI B, nI (lh_ad ar n), nI c, rt, cl, sr, sc, su, tn), lj_mk rfl q, Or.inl rfl, fun post hp => lx_newVar hR hB hU (fun j hj e hc => absurd ⟨⟨j, hj, e⟩, hc⟩ h) (fun _ => hp)⟩
theorem lj_build {u : St2} (g : lj_G u) (p0 p1 p2 p3 : Int32) : ∃ (r : Int32) (u' : St2), lj_G u' ∧ (r = 0 ∨ r = 1) ∧ ∀ post : Int32 → St2 → Prop, post r u' → wpX_build post u p0 p1 p2 p3 := by
  obtain ⟨R, B, n, c, M, rt, cl, sr, sc, su, tn, rT, rV, bd, bT, bV, fn, ar, aT, aV, crT, crV, cN, cU, cB, cbT, cbV, rfl, q⟩ := g
  have hR := q.2.1
  have hB := q.2.2.1
  have hU := q.2.2.2.2.1
  by_cases h : lh_bc R B (lh_ad ar n) p0 p1 p2 p3
  · obtain ⟨j, f, m, i, h1, h2, h3, h4, h5, h6, rfl, rfl, rfl, rfl⟩ := h
    refine ⟨1, (nI R, nI B, nI (lh_ad ar n + (1 + m)), nI c, upd rt j (lh_pk (nI (lh_ad ar n)) 4), lh_cp rt i (upd cl (lh_ad ar n) (lh_pk (nI f) (nI m))) (lh_ad ar n + 1) m, sr, sc, su, tn), lj_mk (congrArg nI (lq_adb h4).symm) (lq_build q j h2 h3 h4 h5 h6), Or.inr rfl,
      fun post hp => lx_build hR hB hU (fun j' f' m' i' g1 g2 g3 g4 g5 g6 d0 d1 d2 d3 => ?_) (fun h => absurd ⟨j, f, m, i, h1, h2, h3, h4, h5, h6, rfl, rfl, rfl, rfl⟩ h)⟩
    have x0 := lh_jj hR h1 g1 rfl d0
    have x1 := lh_nn (by omega) (by omega) rfl d1
    have x2 := lh_nn (by omega) (by omega) rfl d2
    have x3 := lh_nn (by omega) (by omega) rfl d3
    subst x0 x1 x2 x3
    exact hp
  · exact ⟨0, (nI R, nI B, nI (lh_ad ar n), nI c, rt, cl, sr, sc, su, tn), lj_mk rfl q, Or.inl rfl, fun post hp => lx_build hR hB hU (fun j f m i h1 h2 h3 h4 h5 h6 e0 e1 e2 e3 => absurd ⟨j, f, m, i, h1, h2, h3, h4, h5, h6, e0, e1, e2, e3⟩ h) (fun _ => hp)⟩
theorem lj_move {u : St2} (g : lj_G u) (p0 p1 : Int32) : ∃ (r : Int32) (u' : St2), lj_G u' ∧ (r = 0 ∨ r = 1) ∧ ∀ post : Int32 → St2 → Prop, post r u' → wpX_move post u p0 p1 := by
  obtain ⟨R, B, n, c, M, rt, cl, sr, sc, su, tn, rT, rV, bd, bT, bV, fn, ar, aT, aV, crT, crV, cN, cU, cB, cbT, cbV, rfl, q⟩ := g
  have hR := q.2.1
  have Rt := q.2.2.2.2.2.2.1
  by_cases h : lh_ro R p0 ∧ lh_ro R p1
  · obtain ⟨⟨j, hj, rfl⟩, ⟨i, hi, rfl⟩⟩ := h
    refine ⟨1, (nI R, nI B, nI (lh_ad ar n), nI c, upd rt j (rt i), cl, sr, sc, su, tn), lj_mk rfl (lq_root q j (Rt i hi).1 (Rt i hi).2), Or.inr rfl,
      fun post hp => lx_move hR (fun j' i' g1 g2 d0 d1 => ?_) (fun h => absurd ⟨⟨j, hj, rfl⟩, ⟨i, hi, rfl⟩⟩ h)⟩
    have x0 := lh_jj hR hj g1 rfl d0
    have x1 := lh_jj hR hi g2 rfl d1
    subst x0 x1
    exact hp
  · exact ⟨0, (nI R, nI B, nI (lh_ad ar n), nI c, rt, cl, sr, sc, su, tn), lj_mk rfl q, Or.inl rfl, fun post hp => lx_move hR (fun j i h1 h2 e0 e1 => absurd ⟨⟨j, h1, e0⟩, ⟨i, h2, e1⟩⟩ h) (fun _ => hp)⟩
theorem lj_getArg {u : St2} (g : lj_G u) (p0 p1 p2 : Int32) : ∃ (r : Int32) (u' : St2), lj_G u' ∧ (r = 0 ∨ r = 1) ∧ ∀ post : Int32 → St2 → Prop, post r u' → wpX_getArg post u p0 p1 p2 := by
  obtain ⟨R, B, n, c, M, rt, cl, sr, sc, su, tn, rT, rV, bd, bT, bV, fn, ar, aT, aV, crT, crV, cN, cU, cB, cbT, cbV, rfl, q⟩ := g
  have hR := q.2.1
  have H := q.2.2.2.2.2.1
  have Rt := q.2.2.2.2.2.2.1
  by_cases h : ∃ j i k : Nat, j < R ∧ i < R ∧ 1 ≤ k ∧ k ≤ lh_nc ar (lh_D bd bT bV (rT i, rV i)) ∧ p0 = nI j ∧ p1 = nI i ∧ p2 = nI k
  · have h' := h
    obtain ⟨j, i, k, h1, h2, h3, h4, rfl, rfl, rfl⟩ := h
    have okD := (lh_D_ok H (p := (rT i, rV i)) (Rt i h2).1).1
    have hn4 := lh_nc4 H okD
    refine ⟨1, (nI R, nI B, nI (lh_ad ar n), nI c, upd rt j (lh_en ar (lh_ch aT aV (lh_D bd bT bV (rT i, rV i)) (k - 1)).1 (lh_ch aT aV (lh_D bd bT bV (rT i, rV i)) (k - 1)).2), cl, sr, sc, su, tn),
      lj_mk rfl (lq_root q j (lh_ch_ok H okD (j := k - 1) (by omega)) rfl), Or.inr rfl, fun post hp => lx_getArg hR H Rt (fun j' i' k' g1 g2 g3 g4 d0 d1 d2 => ?_) (fun h => absurd h' h)⟩
    have x0 := lh_jj hR h1 g1 rfl d0
    have x1 := lh_jj hR h2 g2 rfl d1
    subst x0 x1
    have x2 := lh_nn (by omega) (by omega) rfl d2
    subst x2
    exact hp
  · exact ⟨0, (nI R, nI B, nI (lh_ad ar n), nI c, rt, cl, sr, sc, su, tn), lj_mk rfl q, Or.inl rfl, fun post hp => lx_getArg hR H Rt (fun j i k h1 h2 h3 h4 e0 e1 e2 => absurd ⟨j, i, k, h1, h2, h3, h4, e0, e1, e2⟩ h) (fun _ => hp)⟩
theorem lj_push {u : St2} (g : lj_G u) : ∃ (r : Int32) (u' : St2), lj_G u' ∧ (r = 0 ∨ r = 1) ∧ ∀ post : Int32 → St2 → Prop, post r u' → wpX_pushChoice post u := by
  obtain ⟨R, B, n, c, M, rt, cl, sr, sc, su, tn, rT, rV, bd, bT, bV, fn, ar, aT, aV, crT, crV, cN, cU, cB, cbT, cbV, rfl, q⟩ := g
  have hR := q.2.1
  have hc := q.2.2.2.1
  have hH := q.2.2.2.2.2.1.1
  by_cases h : c < 8
  · exact ⟨1, (nI R, nI B, nI (lh_ad ar n), nI (c + 1), rt, cl, lh_cp rt 0 sr (c * 8) R, lh_cp cl 0 sc (c * 240) (lh_ad ar n), upd su c (nI (lh_ad ar n)), tn), lj_mk rfl (lq_push q h), Or.inr rfl,
      fun post hp => lx_push hR hH hc (fun _ => hp) (fun h' => absurd h' (by omega))⟩
  · exact ⟨0, (nI R, nI B, nI (lh_ad ar n), nI c, rt, cl, sr, sc, su, tn), lj_mk rfl q, Or.inl rfl, fun post hp => lx_push hR hH hc (fun h' => absurd h' (by omega)) (fun _ => hp)⟩
theorem lj_back {u : St2} (g : lj_G u) : ∃ (r : Int32) (u' : St2), lj_G u' ∧ (r = 0 ∨ r = 1) ∧ ∀ post : Int32 → St2 → Prop, post r u' → wpX_backtrack post u := by
  obtain ⟨R, B, n, c, M, rt, cl, sr, sc, su, tn, rT, rV, bd, bT, bV, fn, ar, aT, aV, crT, crV, cN, cU, cB, cbT, cbV, rfl, q⟩ := g
  have hR := q.2.1
  have hc := q.2.2.2.1
  cases c with
  | zero => exact ⟨0, (nI R, nI B, nI (lh_ad ar n), nI 0, rt, cl, sr, sc, su, tn), lj_mk rfl q, Or.inl rfl, fun post hp => lx_back hR hc (fun c' e => absurd e (by omega)) (fun _ => hp)⟩
  | succ c =>
    obtain ⟨⟨g1, g2, g3, g4, g5⟩, g6⟩ := lq_back q
    refine ⟨1, (nI R, nI B, nI (lh_ad ar (M c)), nI (c + 1), lh_cp sr (c * 8) rt 0 R, lh_cp sc (c * 240) cl 0 (lh_ad ar (M c)), sr, sc, su, tn), lj_mk rfl g6, Or.inr rfl, fun post hp => lx_back hR hc (fun c' e => ?_) (fun e => absurd e (by omega))⟩
    have e' : c' = c := by omega
    subst e'
    exact ⟨lh_ad ar (M c'), g2, g5, hp⟩
theorem lj_pop {u : St2} (g : lj_G u) : ∃ (r : Int32) (u' : St2), lj_G u' ∧ (r = 0 ∨ r = 1) ∧ ∀ post : Int32 → St2 → Prop, post r u' → wpX_popChoice post u := by
  obtain ⟨R, B, n, c, M, rt, cl, sr, sc, su, tn, rT, rV, bd, bT, bV, fn, ar, aT, aV, crT, crV, cN, cU, cB, cbT, cbV, rfl, q⟩ := g
  have hc := q.2.2.2.1
  cases c with
  | zero => exact ⟨0, (nI R, nI B, nI (lh_ad ar n), nI 0, rt, cl, sr, sc, su, tn), lj_mk rfl q, Or.inl rfl, fun post hp => lx_pop hc (fun c' e => absurd e (by omega)) (fun _ => hp)⟩
  | succ c =>
    refine ⟨1, (nI R, nI B, nI (lh_ad ar n), nI c, rt, cl, sr, sc, su, tn), lj_mk rfl (lq_pop q), Or.inr rfl, fun post hp => lx_pop hc (fun c' e => ?_) (fun e => absurd e (by omega))⟩
    have e' : c' = c := by omega
    subst e'
    exact hp
theorem lj_used {u : St2} : ∃ r : Int32, ∀ post : Int32 → Prop, post r → wpX_used post u := by
  obtain ⟨xR, xB, xU, xC, rt, cl, sr, sc, su, tn⟩ := u
  exact ⟨xU, fun post hp => hp⟩
theorem lj_kind {u : St2} (g : lj_G u) (p0 : Int32) : ∃ r : Int32, ∀ post : Int32 → Prop, post r → wpX_kind post u p0 := by
  obtain ⟨R, B, n, c, M, rt, cl, sr, sc, su, tn, rT, rV, bd, bT, bV, fn, ar, aT, aV, crT, crV, cN, cU, cB, cbT, cbV, rfl, q⟩ := g
  have hR := q.2.1
  have H := q.2.2.2.2.2.1
  have Rt := q.2.2.2.2.2.2.1
  by_cases h : lh_ro R p0
  · obtain ⟨j, hj, rfl⟩ := h
    refine ⟨(lh_D bd bT bV (rT j, rV j)).1, fun post hp => lx_kind hR H Rt (fun j' hj' e' => ?_) (fun h => absurd ⟨j, hj, rfl⟩ h)⟩
    have ej := lh_jj hR hj hj' rfl e'
    subst ej
    exact hp
  · exact ⟨0, fun post hp => lx_kind hR H Rt (fun j hj e => absurd ⟨j, hj, e⟩ h) (fun _ => hp)⟩
theorem lj_arity {u : St2} (g : lj_G u) (p0 : Int32) : ∃ r : Int32, ∀ post : Int32 → Prop, post r → wpX_arity post u p0 := by
  obtain ⟨R, B, n, c, M, rt, cl, sr, sc, su, tn, rT, rV, bd, bT, bV, fn, ar, aT, aV, crT, crV, cN, cU, cB, cbT, cbV, rfl, q⟩ := g
  have hR := q.2.1
  have H := q.2.2.2.2.2.1
  have Rt := q.2.2.2.2.2.2.1
  by_cases h : lh_ro R p0
  · obtain ⟨j, hj, rfl⟩ := h
    refine ⟨nI (lh_nc ar (lh_D bd bT bV (rT j, rV j))), fun post hp => lx_arity hR H Rt (fun j' hj' e' => ?_) (fun h => absurd ⟨j, hj, rfl⟩ h)⟩
    have ej := lh_jj hR hj hj' rfl e'
    subst ej
    exact hp
  · exact ⟨0, fun post hp => lx_arity hR H Rt (fun j hj e => absurd ⟨j, hj, e⟩ h) (fun _ => hp)⟩
theorem lj_value {u : St2} (g : lj_G u) (p0 : Int32) : ∃ r : Int32, ∀ post : Int32 → Prop, post r → wpX_value post u p0 := by
  obtain ⟨R, B, n, c, M, rt, cl, sr, sc, su, tn, rT, rV, bd, bT, bV, fn, ar, aT, aV, crT, crV, cN, cU, cB, cbT, cbV, rfl, q⟩ := g
  have hR := q.2.1
  have H := q.2.2.2.2.2.1
  have Rt := q.2.2.2.2.2.2.1
  by_cases h : lh_ro R p0
  · obtain ⟨j, hj, rfl⟩ := h
    refine ⟨lh_val fn (lh_D bd bT bV (rT j, rV j)), fun post hp => lx_value hR H Rt (fun j' hj' e' => ?_) (fun h => absurd ⟨j, hj, rfl⟩ h)⟩
    have ej := lh_jj hR hj hj' rfl e'
    subst ej
    exact hp
  · exact ⟨0, fun post hp => lx_value hR H Rt (fun j hj e => absurd ⟨j, hj, e⟩ h) (fun _ => hp)⟩
theorem lj_sameVar {u : St2} (g : lj_G u) (p0 p1 : Int32) : ∃ r : Int32, ∀ post : Int32 → Prop, post r → wpX_sameVar post u p0 p1 := by
  obtain ⟨R, B, n, c, M, rt, cl, sr, sc, su, tn, rT, rV, bd, bT, bV, fn, ar, aT, aV, crT, crV, cN, cU, cB, cbT, cbV, rfl, q⟩ := g
  have hR := q.2.1
  have H := q.2.2.2.2.2.1
  have Rt := q.2.2.2.2.2.2.1
  by_cases h : ∃ j i : Nat, j < R ∧ i < R ∧ p0 = nI j ∧ p1 = nI i ∧ lh_D bd bT bV (rT j, rV j) = lh_D bd bT bV (rT i, rV i) ∧ (lh_D bd bT bV (rT j, rV j)).1 = 1
  · exact ⟨1, fun post hp => lx_sameVar hR H Rt (fun _ _ _ _ _ _ _ _ => hp) (fun h' => absurd h h')⟩
  · exact ⟨0, fun post hp => lx_sameVar hR H Rt (fun j i h1 h2 e0 e1 h3 h4 => absurd ⟨j, i, h1, h2, e0, e1, h3, h4⟩ h) (fun _ => hp)⟩
theorem lj_treeSize {u : St2} (g : lj_G u) (p0 : Int32) : ∃ (r : Int32) (u' : St2), lj_G u' ∧ ∀ post : Int32 → St2 → Prop, post r u' → wpX_treeSize post u p0 := by
  obtain ⟨R, B, n, c, M, rt, cl, sr, sc, su, tn, rT, rV, bd, bT, bV, fn, ar, aT, aV, crT, crV, cN, cU, cB, cbT, cbV, rfl, q⟩ := g
  have hR := q.2.1
  have H := q.2.2.2.2.2.1
  have Rt := q.2.2.2.2.2.2.1
  by_cases h : lh_ro R p0
  · obtain ⟨j, hj, rfl⟩ := h
    obtain ⟨cx, tn', hP, hx⟩ := lx_treeSize (xB := nI B) (xU := nI (lh_ad ar n)) (xC := nI c) (sr := sr) (sc := sc) (su := su) (tn := tn) hR H Rt hj
    exact ⟨nI cx, _, lj_mk rfl q, hx⟩
  · exact ⟨0, (nI R, nI B, nI (lh_ad ar n), nI c, rt, cl, sr, sc, su, tn), lj_mk rfl q, fun post hp => lx_treeNo hR h hp⟩
theorem lj_bind {u : St2} (g : lj_G u) (p0 p1 : Int32) : ∃ (r : Int32) (u' : St2), lj_G u' ∧ ∀ post : Int32 → St2 → Prop, post r u' → wpX_bind post u p0 p1 := by
  obtain ⟨R, B, n, c, M, rt, cl, sr, sc, su, tn, rT, rV, bd, bT, bV, fn, ar, aT, aV, crT, crV, cN, cU, cB, cbT, cbV, rfl, q⟩ := g
  have hR := q.2.1
  have H := q.2.2.2.2.2.1
  have hn := lh_n240 H.1
  have Rt := q.2.2.2.2.2.2.1
  by_cases hr : lh_ro R p0 ∧ lh_ro R p1
  · obtain ⟨⟨j, hj, rfl⟩, ⟨i, hi, rfl⟩⟩ := hr
    obtain ⟨⟨T0, V0⟩, ha⟩ : ∃ y, lh_D bd bT bV (rT j, rV j) = y := ⟨_, rfl⟩
    obtain ⟨⟨T, V⟩, hb⟩ : ∃ y, lh_D bd bT bV (rT i, rV i) = y := ⟨_, rfl⟩
    have okA := (lh_D_ok H (p := (rT j, rV j)) (Rt j hj).1)
    rw [ha] at okA
    have okB := (lh_D_ok H (p := (rT i, rV i)) (Rt i hi).1)
    rw [hb] at okB
    dsimp only at okA okB
    by_cases h1 : T0 = 1
    · obtain ⟨va, hva, hv, hz⟩ := lh_node (p := (T0, V0)) okA.1 (Or.inl rfl) h1
      have hz0 : ar va = 0 := by
        rcases hz with hz | hz
        · exact hz.2
        · exact absurd hz.1 (by decide)
      dsimp only at hv
      subst h1 hv
      obtain ⟨cx, tn', hP, hx⟩ := lx_bindB (xB := nI B) (xU := nI (lh_ad ar n)) (xC := nI c) (sr := sr) (sc := sc) (su := su) (tn := tn) hR H Rt hj hi hva ha hb
      by_cases hc : cx ≤ 1000
      · by_cases hab : T = 1 ∧ V = nI va
        · exact ⟨1, (nI R, nI B, nI (lh_ad ar n), nI c, rt, cl, sr, sc, su, tn'), lj_mk rfl q, fun post hp => hx post (fun h' => absurd h' (by omega)) (fun _ _ => hp)
            (fun _ vb hvb hne _ hV => absurd (lh_nn (j := va) (j' := vb) (by omega) (by omega) hab.2 hV) hne) (fun _ hT => absurd hab.1 hT)⟩
        · by_cases hT : T = 1
          · obtain ⟨vb, hvb, hv, hz⟩ := lh_node (p := (T, V)) okB.1 (Or.inl rfl) hT
            have hzb : ar vb = 0 := by
              rcases hz with hz | hz
              · exact hz.2
              · exact absurd hz.1 (by decide)
            dsimp only at hv
            have hne : vb ≠ va := fun e => hab ⟨hT, by rw [hv, e]⟩
            by_cases hlt : va < vb
            · refine ⟨1, (nI R, nI B, nI (lh_ad ar n), nI c, rt, upd cl (lh_ad ar vb) (lh_en ar 1 (nI va)), sr, sc, su, tn'), lj_mk rfl (lq_bind q (lh_Hp_b H hvb hzb okA.1 (fun _ => by rw [nI_clamp (by omega)]; exact hlt) rfl)),
                fun post hp => hx post (fun h' => absurd h' (by omega)) (fun _ z => absurd z hab) (fun _ vb' hvb' _ _ hV' => ?_) (fun _ hT' => absurd hT hT')⟩
              have e := lh_nn (j := vb) (j' := vb') (by omega) (by omega) hv hV'
              subst e
              exact ⟨fun _ => hp, fun h' => absurd h' (by omega)⟩
            · have hgt : vb < va := by omega
              subst hT hv
              refine ⟨1, (nI R, nI B, nI (lh_ad ar n), nI c, rt, upd cl (lh_ad ar va) (lh_en ar 1 (nI vb)), sr, sc, su, tn'), lj_mk rfl (lq_bind q (lh_Hp_b H hva hz0 okB.1 (fun _ => by rw [nI_clamp (by omega)]; exact hgt) rfl)),
                fun post hp => hx post (fun h' => absurd h' (by omega)) (fun _ z => absurd z hab) (fun _ vb' hvb' _ _ hV' => ?_) (fun _ hT' => absurd rfl hT')⟩
              have e := lh_nn (j := vb) (j' := vb') (by omega) (by omega) rfl hV'
              subst e
              exact ⟨fun h' => absurd h' (by omega), fun _ => hp⟩
          · by_cases hl : ∃ k, k < cx ∧ tn' k = lh_en ar 1 (nI va)
            · exact ⟨0, (nI R, nI B, nI (lh_ad ar n), nI c, rt, cl, sr, sc, su, tn'), lj_mk rfl q, fun post hp => hx post (fun h' => absurd h' (by omega)) (fun _ z => absurd z hab)
                (fun _ _ _ _ hT' => absurd hT' hT) (fun _ _ => ⟨fun _ => hp, fun h' => absurd hl h'⟩)⟩
            · exact ⟨1, (nI R, nI B, nI (lh_ad ar n), nI c, rt, upd cl (lh_ad ar va) (lh_en ar T V), sr, sc, su, tn'), lj_mk rfl (lq_bind q (lh_Hp_b H hva hz0 okB.1 (fun z => absurd z hT) rfl)),
                fun post hp => hx post (fun h' => absurd h' (by omega)) (fun _ z => absurd z hab) (fun _ _ _ _ hT' => absurd hT' hT) (fun _ _ => ⟨fun h' => absurd h' hl, fun _ => hp⟩)⟩
      · exact ⟨-1, (nI R, nI B, nI (lh_ad ar n), nI c, rt, cl, sr, sc, su, tn'), lj_mk rfl q, fun post hp => hx post (fun _ => hp) (fun h' => absurd h' hc) (fun h' => absurd h' hc) (fun h' => absurd h' hc)⟩
    · exact ⟨-1, (nI R, nI B, nI (lh_ad ar n), nI c, rt, cl, sr, sc, su, tn), lj_mk rfl q, fun post hp => lx_bindA hR H Rt hj hi ha h1 hp⟩
  · exact ⟨-1, (nI R, nI B, nI (lh_ad ar n), nI c, rt, cl, sr, sc, su, tn), lj_mk rfl q, fun post hp => lx_bindN hR hr hp⟩
theorem lq_0 {R B : Nat} (h1 : 2 ≤ R) (h2 : R ≤ 8) (h3 : B ≤ 240) : lh_Q R B 0 0 (fun _ => 0) (lh_cp (fun _ => lh_pk 0 2) 0 (fun _ => 0) 0 8) (fun _ => 0) (fun _ => 0) (fun _ => 0) (fun _ => 0) (lh_cp (fun _ => 2) 0 (fun _ => 0) 0 8) (lh_cp (fun _ => 0) 0 (fun _ => 0) 0 8)
    (fun _ => 0) (fun _ => 0) (fun _ => 0) (fun _ => 0) (fun _ => 0) (fun _ => 0) (fun _ => 0) (fun _ => 0) (fun _ => 0) (fun _ => 0) (fun _ => 0) (fun _ => 0) (fun _ => 0) (fun _ => 0) := by
  refine ⟨h1, h2, h3, by omega, Nat.zero_le _, ⟨Nat.zero_le _, ?_, ?_, ?_, ?_⟩, ?_, ?_⟩
  · exact fun i hi => absurd hi (Nat.not_lt_zero i)
  · exact fun i hi => absurd hi (Nat.not_lt_zero i)
  · exact fun i hi => absurd hi (Nat.not_lt_zero i)
  · exact fun i hi => absurd hi (Nat.not_lt_zero i)
  · intro r hr
    rw [lh_cp_i0 (by omega), lh_cp_i0 (by omega), lh_cp_i0 (by omega)]
    exact ⟨Or.inl ⟨Or.inl rfl, by decide, by decide⟩, (lh_en_k _ (Or.inl rfl)).symm⟩
  · exact fun i hi => absurd hi (Nat.not_lt_zero i)
theorem lj_clamp (x : Int32) {a b : Nat} (hab : a ≤ b) (hb : b < 2 ^ 31) : ∃ j, a ≤ j ∧ j ≤ b ∧ ∀ post : Int32 → Prop, post (nI j) → wpX_clamp post () x (nI a) (nI b) := by
  by_cases h1 : nI a ≤ x
  · by_cases h2 : x ≤ nI b
    · obtain ⟨j, ha, hj, e⟩ := lh_rng hb h1 h2 (by omega)
      refine ⟨j, ha, hj, fun post hp => br_t h1 (br_t h2 ?_)⟩
      rw [e]
      exact hp
    · exact ⟨b, hab, Nat.le_refl b, fun post hp => br_t h1 (br_f h2 hp)⟩
  · exact ⟨a, Nat.le_refl a, hab, fun post hp => br_f h1 hp⟩
theorem lj_init (k0 k1 : Int32) : ∃ u : St2, lj_G u ∧ ∀ post : St2 → Prop, post u → wpX_init post 6 3240 (0, 0, 0, 0) k0 k1 := by
  obtain ⟨R, hR1, hR2, hR⟩ := lj_clamp k0 (a := 2) (b := 8) (by omega) (by omega)
  obtain ⟨B, hB1, hB2, hB⟩ := lj_clamp k1 (a := 16) (b := 240) (by omega) (by omega)
  refine ⟨(nI R, nI B, 0, 0, lh_cp (fun _ => lh_pk 0 2) 0 (fun _ => 0) 0 8, (fun _ => 0), (fun _ => 0), (fun _ => 0), (fun _ => 0), (fun _ => 0)), lj_mk (n := 0) (c := 0) rfl (lq_0 hR1 hR2 hB2), fun post hp => ?_⟩
  unfold wpX_init
  dsimp only
  refine ⟨by omega, by omega, by omega, by omega, by omega, by omega, by omega, by omega, by omega, by omega, by omega, by omega, hR _ (hB _ (lx_pack ?_))⟩
  refine loop_0 (fun g x z => wX_init_98 post 6 3240 (lh_pk 0 2) 6 3240 (nI R) (nI B) 0 0 g (nI x) z (fun _ => 0) (fun _ => 0) (fun _ => 0) (fun _ => 0) (fun _ => 0)) (fun x z => z = lh_cp (fun _ => lh_pk 0 2) 0 (fun _ => 0) 0 x) 8 (fun _ => 0) ?_ ?_ ?_
  · rw [lh_cp_0]
  · intro g z hz
    subst hz
    exact br_t (nI_le (a := 8) (by omega) (by decide)) hp
  · intro g x z hx hz ih
    subst hz
    have e : (nI x).toNatClampNeg = x := nI_clamp (by omega)
    refine br_f (nI_ge (b := 8) hx (by decide)) ⟨vp_in_nI hx (by omega), ?_⟩
    rw [e]
    exact nm_r (lh_cp_t0 (fun _ => lh_pk 0 2) 0 (fun _ => 0) x) (nm_r (nI_1 x) (ih _ rfl))
