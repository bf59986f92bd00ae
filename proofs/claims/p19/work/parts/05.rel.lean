/-- the choice points 0 .. c - 1, each with the first M k nodes -/
def lh_S (R n c : Nat) (M : Nat → Nat) (ar fn aT aV sr sc su crT crV cN cU cB cbT cbV : Nat → Int32) : Prop :=
  ∀ k, k < c → M k ≤ n ∧ (∀ k', k ≤ k' → k' < c → M k ≤ M k') ∧ cN k = nI (M k) ∧ cU k = nI (lh_ad ar (M k)) ∧ su k = nI (lh_ad ar (M k)) ∧
    lh_Hp (M k) ar fn aT aV (fun i => cB (k * 240 + i)) (fun i => cbT (k * 240 + i)) (fun i => cbV (k * 240 + i)) (fun i => sc (k * 240 + i)) ∧
    lh_Rt R (M k) ar (fun i => crT (k * 8 + i)) (fun i => crV (k * 8 + i)) (fun i => sr (k * 8 + i))
theorem lh_S_c {R n n' c : Nat} {M : Nat → Nat} {ar fn aT aV ar' fn' aT' aV' sr sc su crT crV cN cU cB cbT cbV : Nat → Int32}
    (H : lh_S R n c M ar fn aT aV sr sc su crT crV cN cU cB cbT cbV) (hn : n ≤ n') (h1 : ∀ i, i < n → ar' i = ar i) (h2 : ∀ i, i < n → fn' i = fn i)
    (h3 : ∀ i, i < n * 4 → aT' i = aT i ∧ aV' i = aV i) : lh_S R n' c M ar' fn' aT' aV' sr sc su crT crV cN cU cB cbT cbV := by
  intro k hk
  obtain ⟨g1, g2, g3, g4, g5, g6, g7⟩ := H k hk
  have ea : lh_ad ar' (M k) = lh_ad ar (M k) := lh_ad_c _ (fun i hi => h1 i (by omega))
  refine ⟨by omega, g2, g3, by rw [ea]; exact g4, by rw [ea]; exact g5, ?_, ?_⟩
  · exact lh_Hp_c g6 (fun i hi => h1 i (by omega)) (fun i hi => h2 i (by omega)) (fun i hi => h3 i (by omega)) (fun i _ _ => ⟨rfl, rfl, rfl⟩) (fun j _ => rfl)
  · exact lh_Rt_c g7 (lh_n240 g6.1) (fun i hi => h1 i (by omega)) (fun r _ => ⟨rfl, rfl, rfl⟩)
theorem lh_S_pop {R n c : Nat} {M : Nat → Nat} {ar fn aT aV sr sc su crT crV cN cU cB cbT cbV : Nat → Int32}
    (H : lh_S R n (c + 1) M ar fn aT aV sr sc su crT crV cN cU cB cbT cbV) : lh_S R n c M ar fn aT aV sr sc su crT crV cN cU cB cbT cbV := by
  intro k hk
  obtain ⟨g1, g2, g⟩ := H k (by omega)
  exact ⟨g1, fun k' h h' => g2 k' h (by omega), g⟩
theorem lh_S_push {R n c : Nat} {M : Nat → Nat} {ar fn aT aV bd bT bV cl rT rV rt sr sc su crT crV cN cU cB cbT cbV sr' sc' su' crT' crV' cN' cU' cB' cbT' cbV' : Nat → Int32}
    (H : lh_S R n c M ar fn aT aV sr sc su crT crV cN cU cB cbT cbV) (hR : R ≤ 8) (Hp : lh_Hp n ar fn aT aV bd bT bV cl) (Rt : lh_Rt R n ar rT rV rt)
    (o1 : ∀ j, j < c * 8 → sr' j = sr j) (o2 : ∀ j, j < c * 8 → crT' j = crT j) (o3 : ∀ j, j < c * 8 → crV' j = crV j)
    (o4 : ∀ j, j < c * 240 → sc' j = sc j) (o5 : ∀ j, j < c * 240 → cB' j = cB j) (o6 : ∀ j, j < c * 240 → cbT' j = cbT j) (o7 : ∀ j, j < c * 240 → cbV' j = cbV j)
    (o8 : ∀ j, j < c → su' j = su j) (o9 : ∀ j, j < c → cN' j = cN j) (o10 : ∀ j, j < c → cU' j = cU j)
    (n1 : ∀ i, i < R → sr' (c * 8 + i) = rt i) (n2 : ∀ i, i < R → crT' (c * 8 + i) = rT i) (n3 : ∀ i, i < R → crV' (c * 8 + i) = rV i)
    (n4 : ∀ i, i < lh_ad ar n → sc' (c * 240 + i) = cl i) (n5 : ∀ i, i < n → ar i = 0 → cB' (c * 240 + i) = bd i) (n6 : ∀ i, i < n → cbT' (c * 240 + i) = bT i) (n7 : ∀ i, i < n → cbV' (c * 240 + i) = bV i)
    (n8 : su' c = nI (lh_ad ar n)) (n9 : cN' c = nI n) (n10 : cU' c = nI (lh_ad ar n)) :
    lh_S R n (c + 1) (fun k => if k = c then n else M k) ar fn aT aV sr' sc' su' crT' crV' cN' cU' cB' cbT' cbV' := by
  intro k hk
  by_cases e : k = c
  · subst e
    dsimp only
    rw [if_pos rfl]
    refine ⟨Nat.le_refl n, ?_, n9, n10, n8, ?_, ?_⟩
    · intro k' h h'
      rw [if_pos (by omega : k' = k)]
      exact Nat.le_refl n
    · exact lh_Hp_c Hp (fun _ _ => rfl) (fun _ _ => rfl) (fun _ _ => ⟨rfl, rfl⟩) (fun i hi hz => ⟨n5 i hi hz, n6 i hi, n7 i hi⟩) (fun j hj => n4 j hj)
    · exact lh_Rt_c Rt (lh_n240 Hp.1) (fun _ _ => rfl) (fun r hr => ⟨n2 r hr, n3 r hr, n1 r hr⟩)
  · have hk' : k < c := by omega
    obtain ⟨g1, g2, g3, g4, g5, g6, g7⟩ := H k hk'
    have g0 := lh_n240 g6.1
    have ga := g6.1
    dsimp only
    rw [if_neg e]
    refine ⟨g1, ?_, by rw [o9 k hk']; exact g3, by rw [o10 k hk']; exact g4, by rw [o8 k hk']; exact g5, ?_, ?_⟩
    · intro k' h h'
      by_cases e' : k' = c
      · rw [if_pos e']; exact g1
      · rw [if_neg e']; exact g2 k' h (by omega)
    · exact lh_Hp_c g6 (fun _ _ => rfl) (fun _ _ => rfl) (fun _ _ => ⟨rfl, rfl⟩) (fun i hi _ => ⟨o5 _ (by omega), o6 _ (by omega), o7 _ (by omega)⟩) (fun j hj => o4 _ (by omega))
    · exact lh_Rt_c g7 g0 (fun _ _ => rfl) (fun r hr => ⟨o2 _ (by omega), o3 _ (by omega), o1 _ (by omega)⟩)
theorem lh_S_back {R n c : Nat} {M : Nat → Nat} {ar fn aT aV sr sc su crT crV cN cU cB cbT cbV bd' bT' bV' cl' rT' rV' rt' : Nat → Int32}
    (H : lh_S R n (c + 1) M ar fn aT aV sr sc su crT crV cN cU cB cbT cbV)
    (n1 : ∀ i, i < R → rt' i = sr (c * 8 + i)) (n2 : ∀ i, i < R → rT' i = crT (c * 8 + i)) (n3 : ∀ i, i < R → rV' i = crV (c * 8 + i))
    (n4 : ∀ i, i < lh_ad ar (M c) → cl' i = sc (c * 240 + i)) (n5 : ∀ i, i < M c → ar i = 0 → bd' i = cB (c * 240 + i)) (n6 : ∀ i, i < M c → bT' i = cbT (c * 240 + i)) (n7 : ∀ i, i < M c → bV' i = cbV (c * 240 + i)) :
    lh_S R (M c) (c + 1) M ar fn aT aV sr sc su crT crV cN cU cB cbT cbV ∧ lh_Hp (M c) ar fn aT aV bd' bT' bV' cl' ∧ lh_Rt R (M c) ar rT' rV' rt' := by
  obtain ⟨g1, g2, g3, g4, g5, g6, g7⟩ := H c (by omega)
  refine ⟨?_, ?_, ?_⟩
  · intro k hk
    obtain ⟨k1, k2, k3⟩ := H k hk
    exact ⟨k2 c (by omega) (by omega), k2, k3⟩
  · exact lh_Hp_c g6 (fun _ _ => rfl) (fun _ _ => rfl) (fun _ _ => ⟨rfl, rfl⟩) (fun i hi hz => ⟨n5 i hi hz, n6 i hi, n7 i hi⟩) (fun j hj => n4 j hj)
  · exact lh_Rt_c g7 (lh_n240 g6.1) (fun _ _ => rfl) (fun r hr => ⟨n2 r hr, n3 r hr, n1 r hr⟩)
/-- a copy of m places -/
def lh_cp (f : Nat → Int32) (fs : Nat) (t : Nat → Int32) (ts m : Nat) : Nat → Int32 := fun j => if ts ≤ j ∧ j < ts + m then f (fs + (j - ts)) else t j
theorem lh_cp_0 (f : Nat → Int32) (fs : Nat) (t : Nat → Int32) (ts : Nat) : lh_cp f fs t ts 0 = t := by
  funext j
  rw [lh_cp, if_neg (by omega)]
theorem lh_cp_s (f : Nat → Int32) (fs : Nat) (t : Nat → Int32) (ts m : Nat) : upd (lh_cp f fs t ts m) (ts + m) (f (fs + m)) = lh_cp f fs t ts (m + 1) := by
  funext j
  by_cases e : j = ts + m
  · subst e
    rw [pk_us, lh_cp, if_pos (by omega), show ts + m - ts = m from by omega]
  · rw [pk_un e]
    by_cases h : ts ≤ j ∧ j < ts + m
    · rw [lh_cp, lh_cp, if_pos h, if_pos (by omega)]
    · rw [lh_cp, lh_cp, if_neg h, if_neg (by omega)]
theorem lh_cp_i {f : Nat → Int32} {fs : Nat} {t : Nat → Int32} {ts m i : Nat} (h : i < m) : lh_cp f fs t ts m (ts + i) = f (fs + i) := by
  rw [lh_cp, if_pos (by omega), show ts + i - ts = i from by omega]
theorem lh_cp_o {f : Nat → Int32} {fs : Nat} {t : Nat → Int32} {ts m j : Nat} (h : j < ts ∨ ts + m ≤ j) : lh_cp f fs t ts m j = t j := by
  rw [lh_cp, if_neg (by omega)]
