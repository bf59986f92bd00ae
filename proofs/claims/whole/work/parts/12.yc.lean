theorem lh_cp_s0 (f t : Nat → Int32) (ts m : Nat) : upd (lh_cp f 0 t ts m) (ts + m) (f m) = lh_cp f 0 t ts (m + 1) := by
  have h := lh_cp_s f 0 t ts m
  rw [Nat.zero_add] at h
  exact h
theorem lh_cp_t0 (f : Nat → Int32) (fs : Nat) (t : Nat → Int32) (m : Nat) : upd (lh_cp f fs t 0 m) m (f (fs + m)) = lh_cp f fs t 0 (m + 1) := by
  have h := lh_cp_s f fs t 0 m
  rw [Nat.zero_add] at h
  exact h
section
variable {yR yB yN yU yC dT dV fd : Int32} {rT rV bd bT bV fn ar aT aV crT crV cN cU cB cbT cbV sT sV cl rt : Nat → Int32} {n : Nat}
theorem ly_pushC {post : Int32 → SY → Prop} {n c : Nat} (hn : n ≤ 240) (hc : c ≤ 8)
    (ht : c < 8 → post 1 (yR, yB, nI n, yU, nI (c + 1), dT, dV, fd, rT, rV, bd, bT, bV, fn, ar, aT, aV, lh_cp rT 0 crT (c * 8) 8, lh_cp rV 0 crV (c * 8) 8, upd cN c (nI n), upd cU c yU, lh_cp (fun i => vp_nar .boolean (bd i)) 0 cB (c * 240) n, lh_cp bT 0 cbT (c * 240) n, lh_cp bV 0 cbV (c * 240) n, sT, sV))
    (hno : 8 ≤ c → post 0 (yR, yB, nI n, yU, nI c, dT, dV, fd, rT, rV, bd, bT, bV, fn, ar, aT, aV, crT, crV, cN, cU, cB, cbT, cbV, sT, sV)) : wpY_pushChoice post (yR, yB, nI n, yU, nI c, dT, dV, fd, rT, rV, bd, bT, bV, fn, ar, aT, aV, crT, crV, cN, cU, cB, cbT, cbV, sT, sV) := by
  by_cases h : c < 8
  · have hp := ht h
    refine br_t (nI_lt (b := 8) h (by decide)) ?_
    refine loop_0 (fun g x z => wY_pushChoice_18 post (nI c) yR yB (nI n) yU (nI c) dT dV fd g (nI x) rT rV bd bT bV fn ar aT aV (z.1) (z.2) cN cU cB cbT cbV sT sV)
      (fun x z => z = (lh_cp rT 0 crT (c * 8) x, lh_cp rV 0 crV (c * 8) x)) 8 (crT, crV) ?_ ?_ ?_
    · rw [lh_cp_0, lh_cp_0]
    · intro g z hz
      subst hz
      dsimp only
      have ec : (nI c).toNatClampNeg = c := nI_clamp (by omega)
      have hin : vp_in (nI c) 8 := vp_in_nI h (by omega)
      refine br_t (nI_le (a := 8) (by omega) (by decide)) ⟨hin, ?_⟩
      rw [ec]
      refine nm_e ⟨hin, nm_e ?_⟩
      refine loop_0 (fun g x z => wY_pushChoice_86 post (nI c) yR yB (nI n) yU (nI c) dT dV fd g (nI x) rT rV bd bT bV fn ar aT aV (lh_cp rT 0 crT (c * 8) 8) (lh_cp rV 0 crV (c * 8) 8) (upd cN c (nI n)) (upd cU c yU) (z.1) (z.2.1) (z.2.2) sT sV)
        (fun x z => z = (lh_cp (fun i => vp_nar .boolean (bd i)) 0 cB (c * 240) x, lh_cp bT 0 cbT (c * 240) x, lh_cp bV 0 cbV (c * 240) x)) n (cB, cbT, cbV) ?_ ?_ ?_
      · rw [lh_cp_0, lh_cp_0, lh_cp_0]
      · intro g z hz
        subst hz
        dsimp only
        exact br_t (nI_le (Nat.le_refl n) (by omega)) (nm_r (nI_1 c) hp)
      · intro g x z hx hz ih
        subst hz
        dsimp only
        have ih' := ih (lh_cp (fun i => vp_nar .boolean (bd i)) 0 cB (c * 240) (x + 1), lh_cp bT 0 cbT (c * 240) (x + 1), lh_cp bV 0 cbV (c * 240) (x + 1)) rfl
        dsimp only at ih'
        have e4 : nI c * 240 + nI x = nI (c * 240 + x) := by
          rw [← nI_add, ← pk_mul]
          rfl
        have i1 : vp_in (nI x) 240 := vp_in_nI (by omega) (by omega)
        have i2 : vp_in (nI (c * 240 + x)) 1920 := vp_in_nI (by omega) (by omega)
        refine br_f (nI_ge hx (by omega)) (br_f (nI_ge (b := 240) (by omega) (by decide)) ?_)
        rw [e4, nI_clamp (by omega), nI_clamp (by omega)]
        exact ⟨i1, i2, nm_r (lh_cp_s0 (fun i => vp_nar .boolean (bd i)) cB (c * 240) x) ⟨i1, i2, nm_r (lh_cp_s0 _ _ _ _) ⟨i1, i2, nm_r (lh_cp_s0 _ _ _ _) (nm_r (nI_1 x) ih')⟩⟩⟩
    · intro g x z hx hz ih
      subst hz
      dsimp only
      have ih' := ih (lh_cp rT 0 crT (c * 8) (x + 1), lh_cp rV 0 crV (c * 8) (x + 1)) rfl
      dsimp only at ih'
      have e4 : nI c * 8 + nI x = nI (c * 8 + x) := by
        rw [← nI_add, ← pk_mul]
        rfl
      have i1 : vp_in (nI x) 8 := vp_in_nI (by omega) (by omega)
      have i2 : vp_in (nI (c * 8 + x)) 64 := vp_in_nI (by omega) (by omega)
      refine br_f (nI_ge (b := 8) hx (by decide)) ?_
      rw [e4, nI_clamp (by omega), nI_clamp (by omega)]
      exact ⟨i1, i2, nm_r (lh_cp_s0 _ _ _ _) ⟨i1, i2, nm_r (lh_cp_s0 _ _ _ _) (nm_r (nI_1 x) ih')⟩⟩
  · exact br_f (nI_nlt (b := 8) (by omega) (by omega)) (hno (by omega))
theorem ly_back {post : Int32 → SY → Prop} {c : Nat} (hc : c ≤ 8)
    (ht : ∀ c', c = c' + 1 → ∃ m, m ≤ 240 ∧ cN c' = nI m ∧ post 1 (yR, yB, nI m, cU c', nI c, dT, dV, fd, lh_cp crT (c' * 8) rT 0 8, lh_cp crV (c' * 8) rV 0 8, lh_cp (fun i => vp_nar .boolean (cB i)) (c' * 240) bd 0 m, lh_cp cbT (c' * 240) bT 0 m, lh_cp cbV (c' * 240) bV 0 m, fn, ar, aT, aV, crT, crV, cN, cU, cB, cbT, cbV, sT, sV))
    (hno : c = 0 → post 0 (yR, yB, yN, yU, nI c, dT, dV, fd, rT, rV, bd, bT, bV, fn, ar, aT, aV, crT, crV, cN, cU, cB, cbT, cbV, sT, sV)) : wpY_backtrack post (yR, yB, yN, yU, nI c, dT, dV, fd, rT, rV, bd, bT, bV, fn, ar, aT, aV, crT, crV, cN, cU, cB, cbT, cbV, sT, sV) := by
  cases c with
  | zero => exact br_f (by decide) (hno rfl)
  | succ c =>
    obtain ⟨m, hm, em, hp⟩ := ht c rfl
    refine br_t (nI_le (a := 1) (by omega) (by omega)) (nm_r (nI_pred c) ?_)
    refine loop_0 (fun g x z => wY_backtrack_19 post (nI c) yR yB yN yU (nI (c + 1)) dT dV fd g (nI x) (z.1) (z.2) bd bT bV fn ar aT aV crT crV cN cU cB cbT cbV sT sV)
      (fun x z => z = (lh_cp crT (c * 8) rT 0 x, lh_cp crV (c * 8) rV 0 x)) 8 (rT, rV) ?_ ?_ ?_
    · rw [lh_cp_0, lh_cp_0]
    · intro g z hz
      subst hz
      dsimp only
      have ec : (nI c).toNatClampNeg = c := nI_clamp (by omega)
      have hin : vp_in (nI c) 8 := vp_in_nI (by omega) (by omega)
      refine br_t (nI_le (a := 8) (by omega) (by decide)) ⟨hin, ?_⟩
      rw [ec]
      refine nm_r em ⟨hin, nm_e ?_⟩
      refine loop_0 (fun g x z => wY_backtrack_87 post (nI c) yR yB (nI m) (cU c) (nI (c + 1)) dT dV fd g (nI x) (lh_cp crT (c * 8) rT 0 8) (lh_cp crV (c * 8) rV 0 8) (z.1) (z.2.1) (z.2.2) fn ar aT aV crT crV cN cU cB cbT cbV sT sV)
        (fun x z => z = (lh_cp (fun i => vp_nar .boolean (cB i)) (c * 240) bd 0 x, lh_cp cbT (c * 240) bT 0 x, lh_cp cbV (c * 240) bV 0 x)) m (bd, bT, bV) ?_ ?_ ?_
      · rw [lh_cp_0, lh_cp_0, lh_cp_0]
      · intro g z hz
        subst hz
        dsimp only
        exact br_t (nI_le (Nat.le_refl m) (by omega)) hp
      · intro g x z hx hz ih
        subst hz
        dsimp only
        have ih' := ih (lh_cp (fun i => vp_nar .boolean (cB i)) (c * 240) bd 0 (x + 1), lh_cp cbT (c * 240) bT 0 (x + 1), lh_cp cbV (c * 240) bV 0 (x + 1)) rfl
        dsimp only at ih'
        have e4 : nI c * 240 + nI x = nI (c * 240 + x) := by
          rw [← nI_add, ← pk_mul]
          rfl
        have i1 : vp_in (nI x) 240 := vp_in_nI (by omega) (by omega)
        have i2 : vp_in (nI (c * 240 + x)) 1920 := vp_in_nI (by omega) (by omega)
        refine br_f (nI_ge hx (by omega)) (br_f (nI_ge (b := 240) (by omega) (by decide)) ?_)
        rw [e4, nI_clamp (by omega), nI_clamp (by omega)]
        exact ⟨i2, i1, nm_r (lh_cp_t0 (fun i => vp_nar .boolean (cB i)) (c * 240) bd x) ⟨i2, i1, nm_r (lh_cp_t0 _ _ _ _) ⟨i2, i1, nm_r (lh_cp_t0 _ _ _ _) (nm_r (nI_1 x) ih')⟩⟩⟩
    · intro g x z hx hz ih
      subst hz
      dsimp only
      have ih' := ih (lh_cp crT (c * 8) rT 0 (x + 1), lh_cp crV (c * 8) rV 0 (x + 1)) rfl
      dsimp only at ih'
      have e4 : nI c * 8 + nI x = nI (c * 8 + x) := by
        rw [← nI_add, ← pk_mul]
        rfl
      have i1 : vp_in (nI x) 8 := vp_in_nI (by omega) (by omega)
      have i2 : vp_in (nI (c * 8 + x)) 64 := vp_in_nI (by omega) (by omega)
      refine br_f (nI_ge (b := 8) hx (by decide)) ?_
      rw [e4, nI_clamp (by omega), nI_clamp (by omega)]
      exact ⟨i2, i1, nm_r (lh_cp_t0 _ _ _ _) ⟨i2, i1, nm_r (lh_cp_t0 _ _ _ _) (nm_r (nI_1 x) ih')⟩⟩
theorem ly_pop {post : Int32 → SY → Prop} {c : Nat} (hc : c ≤ 8) (ht : ∀ c', c = c' + 1 → post 1 (yR, yB, yN, yU, nI c', dT, dV, fd, rT, rV, bd, bT, bV, fn, ar, aT, aV, crT, crV, cN, cU, cB, cbT, cbV, sT, sV)) (hno : c = 0 → post 0 (yR, yB, yN, yU, nI c, dT, dV, fd, rT, rV, bd, bT, bV, fn, ar, aT, aV, crT, crV, cN, cU, cB, cbT, cbV, sT, sV)) : wpY_popChoice post (yR, yB, yN, yU, nI c, dT, dV, fd, rT, rV, bd, bT, bV, fn, ar, aT, aV, crT, crV, cN, cU, cB, cbT, cbV, sT, sV) := by
  cases c with
  | zero => exact br_f (by decide) (hno rfl)
  | succ c => exact br_t (nI_le (a := 1) (by omega) (by omega)) (nm_r (nI_pred c) (ht c rfl))
/-- a getter's opening: the root and its dereferenced term -/
theorem ly_kind {post : Int32 → SY → Prop} {R : Nat} (hR : R ≤ 8) (H : lh_Hp n ar fn aT aV bd bT bV cl) (Rt : lh_Rt R n ar rT rV rt) {p0 : Int32}
    (ht : ∀ (dT dV : Int32) (j : Nat), j < R → p0 = nI j → post (lh_D bd bT bV (rT j, rV j)).1 (nI R, yB, yN, yU, yC, dT, dV, fd, rT, rV, bd, bT, bV, fn, ar, aT, aV, crT, crV, cN, cU, cB, cbT, cbV, sT, sV)) (hno : ¬ lh_ro R p0 → post 0 (nI R, yB, yN, yU, yC, dT, dV, fd, rT, rV, bd, bT, bV, fn, ar, aT, aV, crT, crV, cN, cU, cB, cbT, cbV, sT, sV)) : wpY_kind post (nI R, yB, yN, yU, yC, dT, dV, fd, rT, rV, bd, bT, bV, fn, ar, aT, aV, crT, crV, cN, cU, cB, cbT, cbV, sT, sV) p0 := by
  unfold wpY_kind
  dsimp only
  refine ly_valid hR p0 (fun j hj e0 => ?_) (fun h => br_t rfl (hno h))
  refine br_f (by decide) ?_
  have hin : vp_in (nI j) 8 := vp_in_nI (by omega) (by omega)
  rw [e0, nI_clamp (by omega)]
  exact ⟨hin, hin, ly_deref H (p := (rT j, rV j)) (Rt j hj).1 rfl rfl (ht _ _ j hj e0)⟩
theorem ly_arity {post : Int32 → SY → Prop} {R : Nat} (hR : R ≤ 8) (H : lh_Hp n ar fn aT aV bd bT bV cl) (Rt : lh_Rt R n ar rT rV rt) {p0 : Int32}
    (ht : ∀ (dT dV : Int32) (j : Nat), j < R → p0 = nI j → post (nI (lh_nc ar (lh_D bd bT bV (rT j, rV j)))) (nI R, yB, yN, yU, yC, dT, dV, fd, rT, rV, bd, bT, bV, fn, ar, aT, aV, crT, crV, cN, cU, cB, cbT, cbV, sT, sV)) (hno : ¬ lh_ro R p0 → post 0 (nI R, yB, yN, yU, yC, dT, dV, fd, rT, rV, bd, bT, bV, fn, ar, aT, aV, crT, crV, cN, cU, cB, cbT, cbV, sT, sV)) : wpY_arity post (nI R, yB, yN, yU, yC, dT, dV, fd, rT, rV, bd, bT, bV, fn, ar, aT, aV, crT, crV, cN, cU, cB, cbT, cbV, sT, sV) p0 := by
  have hn := lh_n240 H.1
  unfold wpY_arity
  dsimp only
  refine ly_valid hR p0 (fun j hj e0 => ?_) (fun h => br_t rfl (hno h))
  refine br_f (by decide) ?_
  have hin : vp_in (nI j) 8 := vp_in_nI (by omega) (by omega)
  rw [e0, nI_clamp (by omega)]
  have ok := (Rt j hj).1
  have okD := (lh_D_ok H (p := (rT j, rV j)) ok).1
  refine ⟨hin, hin, ly_deref H (p := (rT j, rV j)) ok rfl rfl ?_⟩
  dsimp only
  have hp := fun dT dV => ht dT dV j hj e0
  by_cases h44 : (lh_D bd bT bV (rT j, rV j)).1 = 4
  · obtain ⟨d, hd, hv, h⟩ := lh_node okD (Or.inr rfl) h44
    have hc2 : (lh_D bd bT bV (rT j, rV j)).2.toNatClampNeg = d := by rw [hv, nI_clamp (by omega)]
    obtain ⟨a, ha4, ea⟩ := H.2.1 d hd
    have en : lh_nc ar (lh_D bd bT bV (rT j, rV j)) = a := by rw [lh_nc, if_pos h44, hc2, ea, nI_clamp (by omega)]
    rw [en] at hp
    refine br_t h44 ?_
    rw [hc2, ea, hv]
    exact br_f (nI_pos (by omega)) (br_f (nI_ge (b := 240) (by omega) (by decide)) ⟨vp_in_nI (by omega) (by omega), hp _ _⟩)
  · rw [lh_nc, if_neg h44] at hp
    exact br_f h44 (hp _ _)
theorem ly_value {post : Int32 → SY → Prop} {R : Nat} (hR : R ≤ 8) (H : lh_Hp n ar fn aT aV bd bT bV cl) (Rt : lh_Rt R n ar rT rV rt) {p0 : Int32}
    (ht : ∀ (dT dV : Int32) (j : Nat), j < R → p0 = nI j → post (lh_val fn (lh_D bd bT bV (rT j, rV j))) (nI R, yB, yN, yU, yC, dT, dV, fd, rT, rV, bd, bT, bV, fn, ar, aT, aV, crT, crV, cN, cU, cB, cbT, cbV, sT, sV)) (hno : ¬ lh_ro R p0 → post 0 (nI R, yB, yN, yU, yC, dT, dV, fd, rT, rV, bd, bT, bV, fn, ar, aT, aV, crT, crV, cN, cU, cB, cbT, cbV, sT, sV)) : wpY_value post (nI R, yB, yN, yU, yC, dT, dV, fd, rT, rV, bd, bT, bV, fn, ar, aT, aV, crT, crV, cN, cU, cB, cbT, cbV, sT, sV) p0 := by
  have hn := lh_n240 H.1
  unfold wpY_value
  dsimp only
  refine ly_valid hR p0 (fun j hj e0 => ?_) (fun h => br_t rfl (hno h))
  refine br_f (by decide) ?_
  have hin : vp_in (nI j) 8 := vp_in_nI (by omega) (by omega)
  rw [e0, nI_clamp (by omega)]
  have ok := (Rt j hj).1
  have okD := (lh_D_ok H (p := (rT j, rV j)) ok).1
  refine ⟨hin, hin, ly_deref H (p := (rT j, rV j)) ok rfl rfl ?_⟩
  dsimp only
  have hp := fun dT dV => ht dT dV j hj e0
  rw [lh_val] at hp
  by_cases h2 : (lh_D bd bT bV (rT j, rV j)).1 = 2
  · rw [if_pos h2] at hp
    exact br_t h2 (hp _ _)
  · rw [if_neg h2] at hp
    refine br_f h2 ?_
    by_cases h3 : (lh_D bd bT bV (rT j, rV j)).1 = 3
    · rw [if_pos h3] at hp
      exact br_t h3 (hp _ _)
    · rw [if_neg h3] at hp
      refine br_f h3 ?_
      by_cases h44 : (lh_D bd bT bV (rT j, rV j)).1 = 4
      · rw [if_pos h44] at hp
        obtain ⟨d, hd, hv, h⟩ := lh_node okD (Or.inr rfl) h44
        rw [hv] at hp ⊢
        exact br_t h44 (br_f (nI_pos (by omega)) (br_f (nI_ge (b := 240) (by omega) (by decide)) ⟨vp_in_nI (by omega) (by omega), hp _ _⟩))
      · rw [if_neg h44] at hp
        exact br_f h44 (hp _ _)
theorem ly_sameVar {post : Int32 → SY → Prop} {R : Nat} (hR : R ≤ 8) (H : lh_Hp n ar fn aT aV bd bT bV cl) (Rt : lh_Rt R n ar rT rV rt) {p0 p1 : Int32}
    (ht : ∀ (dT dV : Int32) (j i : Nat), j < R → i < R → p0 = nI j → p1 = nI i → lh_D bd bT bV (rT j, rV j) = lh_D bd bT bV (rT i, rV i) → (lh_D bd bT bV (rT j, rV j)).1 = 1 → post 1 (nI R, yB, yN, yU, yC, dT, dV, fd, rT, rV, bd, bT, bV, fn, ar, aT, aV, crT, crV, cN, cU, cB, cbT, cbV, sT, sV))
    (hno : ∀ dT dV : Int32, ¬ (∃ j i : Nat, j < R ∧ i < R ∧ p0 = nI j ∧ p1 = nI i ∧ lh_D bd bT bV (rT j, rV j) = lh_D bd bT bV (rT i, rV i) ∧ (lh_D bd bT bV (rT j, rV j)).1 = 1) → post 0 (nI R, yB, yN, yU, yC, dT, dV, fd, rT, rV, bd, bT, bV, fn, ar, aT, aV, crT, crV, cN, cU, cB, cbT, cbV, sT, sV)) :
    wpY_sameVar post (nI R, yB, yN, yU, yC, dT, dV, fd, rT, rV, bd, bT, bV, fn, ar, aT, aV, crT, crV, cN, cU, cB, cbT, cbV, sT, sV) p0 p1 := by
  unfold wpY_sameVar
  dsimp only
  refine ly_valid hR p0 (fun j hj e0 => ?_) (fun h => br_t rfl (hno _ _ (fun ⟨j, i, h1, h2, e0, e1, _⟩ => h ⟨j, h1, e0⟩)))
  refine br_f (by decide) (ly_valid hR p1 (fun i hi e1 => ?_) (fun h => br_t rfl (hno _ _ (fun ⟨j, i, h1, h2, e0, e1, _⟩ => h ⟨i, h2, e1⟩))))
  refine br_f (by decide) ?_
  have i1 : vp_in (nI j) 8 := vp_in_nI (by omega) (by omega)
  have i2 : vp_in (nI i) 8 := vp_in_nI (by omega) (by omega)
  rw [e0, e1, nI_clamp (by omega), nI_clamp (by omega)]
  have hj' : ∀ j' i' : Nat, p0 = nI j' → p1 = nI i' → j' < R → i' < R → j' = j ∧ i' = i := by
    intro j' i' a b c d
    rw [e0, nI_eq (by omega) (by omega)] at a
    rw [e1, nI_eq (by omega) (by omega)] at b
    exact ⟨a.symm, b.symm⟩
  refine ⟨i1, i1, ly_deref H (p := (rT j, rV j)) (Rt j hj).1 rfl rfl ?_⟩
  dsimp only
  refine br_c (fun h1 => ⟨i2, i2, ly_deref H (p := (rT i, rV i)) (Rt i hi).1 rfl rfl ?_⟩) (fun h1 => hno _ _ ?_)
  · dsimp only
    refine br_c (fun h2 => br_c (fun h3 => ht _ _ j i hj hi e0 e1 (Prod.ext (h1.trans h2.symm) h3.symm) h1) (fun h3 => hno _ _ ?_)) (fun h2 => hno _ _ ?_)
    · rintro ⟨j', i', a, b, c, d, e, f⟩
      obtain ⟨rfl, rfl⟩ := hj' j' i' c d a b
      exact h3 (by rw [e])
    · rintro ⟨j', i', a, b, c, d, e, f⟩
      obtain ⟨rfl, rfl⟩ := hj' j' i' c d a b
      exact h2 (by rw [← e]; exact f)
  · rintro ⟨j', i', a, b, c, d, e, f⟩
    obtain ⟨rfl, rfl⟩ := hj' j' i' c d a b
    exact h1 f
theorem ly_treeSize {R : Nat} (hR : R ≤ 8) (H : lh_Hp n ar fn aT aV bd bT bV cl) (Rt : lh_Rt R n ar rT rV rt) {j : Nat} (hj : j < R) :
    ∃ (c : Nat) (fd' dT' dV' : Int32) (sT' sV' : Nat → Int32), ly_P ar aT aV bd bT bV (rT j, rV j) (-1) c fd' ∧
      ∀ post : Int32 → SY → Prop, post (nI c) (nI R, yB, yN, yU, yC, dT', dV', fd', rT, rV, bd, bT, bV, fn, ar, aT, aV, crT, crV, cN, cU, cB, cbT, cbV, sT', sV') → wpY_treeSize post (nI R, yB, yN, yU, yC, dT, dV, fd, rT, rV, bd, bT, bV, fn, ar, aT, aV, crT, crV, cN, cU, cB, cbT, cbV, sT, sV) (nI j) := by
  obtain ⟨c, fd', dT', dV', sT', sV', hP, hw⟩ := ly_walk (yR := nI R) (yB := yB) (yN := yN) (yU := yU) (yC := yC) (dT := dT) (dV := dV) (fd := fd) (rT := rT) (rV := rV) (crT := crT) (crV := crV) (cN := cN) (cU := cU) (cB := cB) (cbT := cbT) (cbV := cbV) (sT := sT) (sV := sV)
    H (p := (rT j, rV j)) (Rt j hj).1 (-1)
  refine ⟨c, fd', dT', dV', sT', sV', hP, fun post hp => ?_⟩
  unfold wpY_treeSize
  dsimp only
  refine ly_valid hR (nI j) (fun i _ _ => br_f (by decide) ?_) (fun h => absurd ⟨j, hj, rfl⟩ h)
  have hin : vp_in (nI j) 8 := vp_in_nI (by omega) (by omega)
  rw [nI_clamp (by omega)]
  exact ⟨hin, hin, hw _ hp⟩
theorem ly_treeNo {post : Int32 → SY → Prop} {R : Nat} (hR : R ≤ 8) {p0 : Int32} (h : ¬ lh_ro R p0) (hp : post 0 (nI R, yB, yN, yU, yC, dT, dV, fd, rT, rV, bd, bT, bV, fn, ar, aT, aV, crT, crV, cN, cU, cB, cbT, cbV, sT, sV)) : wpY_treeSize post (nI R, yB, yN, yU, yC, dT, dV, fd, rT, rV, bd, bT, bV, fn, ar, aT, aV, crT, crV, cN, cU, cB, cbT, cbV, sT, sV) p0 := by
  unfold wpY_treeSize
  dsimp only
  exact ly_valid hR p0 (fun j hj e => absurd ⟨j, hj, e⟩ h) (fun _ => br_t rfl hp)
end
