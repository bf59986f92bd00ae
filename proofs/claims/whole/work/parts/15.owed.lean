/-- the class's state and the reference's: one picture -/
def i_Rel (k : Nat) (u : SX) (v : SY) : Prop :=
  ∃ (R B n c : Nat) (M : Nat → Nat) (dT dV fd : Int32) (rt cl sr sc su tn rT rV bd bT bV fn ar aT aV crT crV cN cU cB cbT cbV sT sV : Nat → Int32),
    u = (nI R, nI B, nI (lh_ad ar n), nI c, rt, cl, sr, sc, su, tn) ∧ v = (nI R, nI B, nI n, nI (lh_ad ar n), nI c, dT, dV, fd, rT, rV, bd, bT, bV, fn, ar, aT, aV, crT, crV, cN, cU, cB, cbT, cbV, sT, sV) ∧ lh_Q R B n c M rt cl sr sc su rT rV bd bT bV fn ar aT aV crT crV cN cU cB cbT cbV
theorem i_up {k : Nat} {u : SX} {v : SY} (h : i_Rel k u v) : i_Rel (k + 5) u v := h
theorem lh_mk {k R B n c : Nat} {M : Nat → Nat} {xU yN yU dT dV fd : Int32} {rt cl sr sc su tn rT rV bd bT bV fn ar aT aV crT crV cN cU cB cbT cbV sT sV : Nat → Int32}
    (e1 : xU = nI (lh_ad ar n)) (e2 : yU = nI (lh_ad ar n)) (e3 : yN = nI n) (q : lh_Q R B n c M rt cl sr sc su rT rV bd bT bV fn ar aT aV crT crV cN cU cB cbT cbV) : i_Rel k (nI R, nI B, xU, nI c, rt, cl, sr, sc, su, tn) (nI R, nI B, yN, yU, nI c, dT, dV, fd, rT, rV, bd, bT, bV, fn, ar, aT, aV, crT, crV, cN, cU, cB, cbT, cbV, sT, sV) := by
  subst e1 e2 e3
  exact ⟨R, B, n, c, M, dT, dV, fd, rt, cl, sr, sc, su, tn, rT, rV, bd, bT, bV, fn, ar, aT, aV, crT, crV, cN, cU, cB, cbT, cbV, sT, sV, rfl, rfl, q⟩
theorem lh_jj {R j j' : Nat} {r : Int32} (hR : R ≤ 8) (hj : j < R) (hj' : j' < R) (e : r = nI j) (e' : r = nI j') : j' = j := by
  rw [e, nI_eq (by omega) (by omega)] at e'
  exact e'.symm
theorem lh_nn {j j' : Nat} {r : Int32} (hj : j < 2 ^ 31) (hj' : j' < 2 ^ 31) (e : r = nI j) (e' : r = nI j') : j' = j := by
  rw [e, nI_eq hj hj'] at e'
  exact e'.symm
theorem lh_cst_ok {n : Nat} {ar : Nat → Int32} {k v : Int32} (h : lh_cst k v) : lh_ok n ar k v ∧ lh_pk v k = lh_en ar k v := by
  rcases h with ⟨rfl, h1, h2⟩ | ⟨rfl, h1, h2⟩
  · rw [Int32.le_iff_toInt_le] at h1 h2
    rw [show (0 : Int32).toInt = 0 from rfl] at h1
    rw [show (4095 : Int32).toInt = 4095 from rfl] at h2
    exact ⟨Or.inl ⟨Or.inl rfl, by omega, by omega⟩, (lh_en_k ar (Or.inl rfl)).symm⟩
  · rw [Int32.le_iff_toInt_le] at h1 h2
    rw [show (-32768 : Int32).toInt = -32768 from rfl] at h1
    rw [show (32767 : Int32).toInt = 32767 from rfl] at h2
    exact ⟨Or.inl ⟨Or.inr rfl, by omega, by omega⟩, (lh_en_k ar (Or.inr rfl)).symm⟩
/-- clamping -/
def lh_clp (x : Int32) (a b j : Nat) : Prop := a ≤ j ∧ j ≤ b ∧ ((¬ nI a ≤ x ∧ j = a) ∨ (nI a ≤ x ∧ ¬ x ≤ nI b ∧ j = b) ∨ (nI a ≤ x ∧ x ≤ nI b ∧ x = nI j))
theorem lx_clamp {post : Int32 → Prop} {x : Int32} {a b : Nat} (hab : a ≤ b) (hb : b < 2 ^ 31) (h : ∀ j, lh_clp x a b j → post (nI j)) : wpX_clamp post x (nI a) (nI b) := by
  by_cases h1 : nI a ≤ x
  · by_cases h2 : x ≤ nI b
    · obtain ⟨j, ha, hj, e⟩ := lh_rng hb h1 h2 (by omega)
      refine br_t h1 (br_t h2 ?_)
      have hp := h j ⟨ha, hj, Or.inr (Or.inr ⟨h1, h2, e⟩)⟩
      rw [← e] at hp
      exact hp
    · exact br_t h1 (br_f h2 (h b ⟨hab, Nat.le_refl b, Or.inr (Or.inl ⟨h1, h2, rfl⟩)⟩))
  · exact br_f h1 (h a ⟨Nat.le_refl a, hab, Or.inl ⟨h1, rfl⟩⟩)
theorem lx_init {post : SX → Prop} {k0 k1 : Int32} (h : ∀ R B, lh_clp k0 2 8 R → lh_clp k1 16 240 B →
    post (nI R, nI B, 0, 0, lh_cp (fun _ => lh_pk 0 2) 0 (fun _ => 0) 0 8, (fun _ => 0), (fun _ => 0), (fun _ => 0), (fun _ => 0), (fun _ => 0))) : wpX_init post k0 k1 := by
  unfold wpX_init
  refine lx_clamp (a := 2) (b := 8) (by omega) (by omega) (fun R hR => lx_clamp (a := 16) (b := 240) (by omega) (by omega) (fun B hB => lx_pack ?_))
  refine loop_0 (fun g x z => wX_init_98 post (lh_pk 0 2) (nI R) (nI B) 0 0 g (nI x) z (fun _ => 0) (fun _ => 0) (fun _ => 0) (fun _ => 0) (fun _ => 0)) (fun x z => z = lh_cp (fun _ => lh_pk 0 2) 0 (fun _ => 0) 0 x) 8 (fun _ => 0) ?_ ?_ ?_
  · rw [lh_cp_0]
  · intro g z hz
    subst hz
    exact br_t (nI_le (a := 8) (by omega) (by decide)) (h R B hR hB)
  · intro g x z hx hz ih
    subst hz
    have e : (nI x).toNatClampNeg = x := nI_clamp (by omega)
    refine br_f (nI_ge (b := 8) hx (by decide)) ⟨vp_in_nI hx (by omega), ?_⟩
    rw [e]
    exact nm_r (lh_cp_t0 (fun _ => lh_pk 0 2) 0 (fun _ => 0) x) (nm_r (nI_1 x) (ih _ rfl))
theorem ly_init1 {post : SY → Prop} {R B : Int32} (h : post (R, B, 0, 0, 0, 0, 0, 0, lh_cp (fun _ => 2) 0 (fun _ => 0) 0 8, lh_cp (fun _ => 0) 0 (fun _ => 0) 0 8, (fun _ => 0), (fun _ => 0), (fun _ => 0), (fun _ => 0), (fun _ => 0), (fun _ => 0), (fun _ => 0), (fun _ => 0), (fun _ => 0), (fun _ => 0), (fun _ => 0), (fun _ => 0), (fun _ => 0), (fun _ => 0), (fun _ => 0), (fun _ => 0))) :
    ∃ g, wY_init_216 post R B 0 0 0 0 0 0 g 0 ((fun _ => 0)) ((fun _ => 0)) ((fun _ => 0)) ((fun _ => 0)) ((fun _ => 0)) ((fun _ => 0)) ((fun _ => 0)) ((fun _ => 0)) ((fun _ => 0)) ((fun _ => 0)) ((fun _ => 0)) ((fun _ => 0)) ((fun _ => 0)) ((fun _ => 0)) ((fun _ => 0)) ((fun _ => 0)) ((fun _ => 0)) ((fun _ => 0)) := by
  refine loop_0 (fun g x z => wY_init_216 post R B 0 0 0 0 0 0 g (nI x) (z.1) (z.2) ((fun _ => 0)) ((fun _ => 0)) ((fun _ => 0)) ((fun _ => 0)) ((fun _ => 0)) ((fun _ => 0)) ((fun _ => 0)) ((fun _ => 0)) ((fun _ => 0)) ((fun _ => 0)) ((fun _ => 0)) ((fun _ => 0)) ((fun _ => 0)) ((fun _ => 0)) ((fun _ => 0)) ((fun _ => 0)))
    (fun x z => z = (lh_cp (fun _ => 2) 0 (fun _ => 0) 0 x, lh_cp (fun _ => 0) 0 (fun _ => 0) 0 x)) 8 (fun _ => 0, fun _ => 0) ?_ ?_ ?_
  · rw [lh_cp_0, lh_cp_0]
  · intro g z hz
    subst hz
    exact br_t (nI_le (a := 8) (by omega) (by decide)) h
  · intro g x z hx hz ih
    subst hz
    have e : (nI x).toNatClampNeg = x := nI_clamp (by omega)
    have hin : vp_in (nI x) 8 := vp_in_nI hx (by omega)
    have ih' := ih (lh_cp (fun _ => 2) 0 (fun _ => 0) 0 (x + 1), lh_cp (fun _ => 0) 0 (fun _ => 0) 0 (x + 1)) rfl
    dsimp only at ih' ⊢
    refine br_f (nI_ge (b := 8) hx (by decide)) ⟨hin, ?_⟩
    rw [e]
    exact nm_r (lh_cp_t0 (fun _ => 2) 0 (fun _ => 0) x) ⟨hin, nm_r (lh_cp_t0 (fun _ => 0) 0 (fun _ => 0) x) (nm_r (nI_1 x) ih')⟩
theorem lq_0 {R B : Nat} (h1 : 2 ≤ R) (h2 : R ≤ 8) (h3 : B ≤ 240) : lh_Q R B 0 0 (fun _ => 0) (lh_cp (fun _ => lh_pk 0 2) 0 (fun _ => 0) 0 8) (fun _ => 0) (fun _ => 0) (fun _ => 0) (fun _ => 0) (lh_cp (fun _ => 2) 0 (fun _ => 0) 0 8) (lh_cp (fun _ => 0) 0 (fun _ => 0) 0 8)
    (fun _ => 0) (fun _ => 0) (fun _ => 0) (fun _ => 0) (fun _ => 0) (fun _ => 0) (fun _ => 0) (fun _ => 0) (fun _ => 0) (fun _ => 0) (fun _ => 0) (fun _ => 0) (fun _ => 0) (fun _ => 0) := by
  refine ⟨h1, h2, h3, by omega, Nat.zero_le _, ⟨Nat.zero_le _, ?_, ?_, ?_, ?_⟩, ?_, ?_⟩
  · exact fun i hi => absurd hi (Nat.not_lt_zero i)
  · exact fun i hi => absurd hi (Nat.not_lt_zero i)
  · exact fun i hi => absurd hi (Nat.not_lt_zero i)
  · exact fun i hi => absurd hi (Nat.not_lt_zero i)
  · intro r hr
    rw [lh_cp_i0 (by omega), lh_cp_i0 (by omega), lh_cp_i0 (by omega)]
    exact ⟨Or.inl ⟨Or.inl rfl, by decide, by decide⟩, (lh_en_k _ (Or.inl rfl)).symm⟩
  · exact fun i hi => absurd hi (Nat.not_lt_zero i)
theorem i_vc0 (k0 : Int32) (k1 : Int32) : wpX_init (fun u => wpY_init (fun v => i_Rel 2 u v) k0 k1) k0 k1 := by
  refine lx_init (fun R B hR hB => ?_)
  have hp : ∀ R' B' : Int32, R' = nI R → B' = nI B → ∃ g, wY_init_216 (fun v => i_Rel 2 (nI R, nI B, 0, 0, lh_cp (fun _ => lh_pk 0 2) 0 (fun _ => 0) 0 8, (fun _ => 0), (fun _ => 0), (fun _ => 0), (fun _ => 0), (fun _ => 0)) v) R' B' 0 0 0 0 0 0 g 0 ((fun _ => 0)) ((fun _ => 0)) ((fun _ => 0)) ((fun _ => 0)) ((fun _ => 0)) ((fun _ => 0)) ((fun _ => 0)) ((fun _ => 0)) ((fun _ => 0)) ((fun _ => 0)) ((fun _ => 0)) ((fun _ => 0)) ((fun _ => 0)) ((fun _ => 0)) ((fun _ => 0)) ((fun _ => 0)) ((fun _ => 0)) ((fun _ => 0)) := by
    intro R' B' e1 e2
    subst e1 e2
    exact ly_init1 (lh_mk (n := 0) (c := 0) rfl rfl rfl (lq_0 hR.1 hR.2.1 hB.2.1))
  have hq : ∀ R' : Int32, R' = nI R → wY_init_182 (fun v => i_Rel 2 (nI R, nI B, 0, 0, lh_cp (fun _ => lh_pk 0 2) 0 (fun _ => 0) 0 8, (fun _ => 0), (fun _ => 0), (fun _ => 0), (fun _ => 0), (fun _ => 0)) v) k1 R' 0 0 0 0 0 0 0 0 ((fun _ => 0)) ((fun _ => 0)) ((fun _ => 0)) ((fun _ => 0)) ((fun _ => 0)) ((fun _ => 0)) ((fun _ => 0)) ((fun _ => 0)) ((fun _ => 0)) ((fun _ => 0)) ((fun _ => 0)) ((fun _ => 0)) ((fun _ => 0)) ((fun _ => 0)) ((fun _ => 0)) ((fun _ => 0)) ((fun _ => 0)) ((fun _ => 0)) := by
    intro R' e1
    rcases hB.2.2 with ⟨h1, e⟩ | ⟨h1, h2, e⟩ | ⟨h1, h2, e⟩
    · exact br_f h1 (hp R' 16 e1 (by rw [e]; rfl))
    · exact br_t h1 (br_f h2 (hp R' 240 e1 (by rw [e]; rfl)))
    · exact br_t h1 (br_t h2 (hp R' k1 e1 e))
  rcases hR.2.2 with ⟨h1, e⟩ | ⟨h1, h2, e⟩ | ⟨h1, h2, e⟩
  · exact br_f h1 (hq 2 (by rw [e]; rfl))
  · exact br_t h1 (br_f h2 (hq 8 (by rw [e]; rfl)))
  · exact br_t h1 (br_t h2 (hq k0 e))
