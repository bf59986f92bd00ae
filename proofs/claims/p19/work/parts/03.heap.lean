/-- the heap of n nodes (arity, functor, arguments, bindings) and the cells that hold it -/
def lh_Hp (n : Nat) (ar fn aT aV bd bT bV cl : Nat → Int32) : Prop :=
  lh_ad ar n ≤ 240 ∧
  (∀ i, i < n → ∃ a, a ≤ 4 ∧ ar i = nI a) ∧
  (∀ i, i < n → ¬ ar i = 0 → (∃ f, f ≤ 4095 ∧ fn i = nI f) ∧ cl (lh_ad ar i) = lh_pk (fn i) (ar i)) ∧
  (∀ i, i < n → ∀ j, j < (ar i).toNatClampNeg → lh_ok n ar (aT (i * 4 + j)) (aV (i * 4 + j)) ∧ cl (lh_ad ar i + 1 + j) = lh_en ar (aT (i * 4 + j)) (aV (i * 4 + j))) ∧
  (∀ i, i < n → ar i = 0 → (bd i = 0 ∧ cl (lh_ad ar i) = lh_en ar 1 (nI i)) ∨
    (bd i = 1 ∧ lh_ok n ar (bT i) (bV i) ∧ (bT i = 1 → (bV i).toNatClampNeg < i) ∧ cl (lh_ad ar i) = lh_en ar (bT i) (bV i)))
/-- the roots -/
def lh_Rt (R n : Nat) (ar rT rV rt : Nat → Int32) : Prop :=
  ∀ r, r < R → lh_ok n ar (rT r) (rV r) ∧ rt r = lh_en ar (rT r) (rV r)
theorem lh_ar4 {n : Nat} {ar fn aT aV bd bT bV cl : Nat → Int32} (H : lh_Hp n ar fn aT aV bd bT bV cl) {i : Nat} (hi : i < n) : (ar i).toNatClampNeg ≤ 4 := by
  obtain ⟨a, ha, e⟩ := H.2.1 i hi
  rw [e, nI_clamp (by omega)]
  exact ha
theorem lh_n240 {n : Nat} {ar : Nat → Int32} (h : lh_ad ar n ≤ 240) : n ≤ 240 := by
  have := lh_ad_ge ar n
  omega
theorem lh_Hp_c {n : Nat} {ar fn aT aV bd bT bV cl ar' fn' aT' aV' bd' bT' bV' cl' : Nat → Int32} (H : lh_Hp n ar fn aT aV bd bT bV cl)
    (h1 : ∀ i, i < n → ar' i = ar i) (h2 : ∀ i, i < n → fn' i = fn i) (h3 : ∀ i, i < n * 4 → aT' i = aT i ∧ aV' i = aV i)
    (h4 : ∀ i, i < n → ar i = 0 → bd' i = bd i ∧ bT' i = bT i ∧ bV' i = bV i) (h5 : ∀ j, j < lh_ad ar n → cl' j = cl j) :
    lh_Hp n ar' fn' aT' aV' bd' bT' bV' cl' := by
  have H4 := @lh_ar4 _ _ _ _ _ _ _ _ _ H
  obtain ⟨g0, g1, g2, g3, g4⟩ := H
  have hn := lh_n240 g0
  have ea : ∀ i, i ≤ n → lh_ad ar' i = lh_ad ar i := fun i hi => lh_ad_c i (fun j hj => h1 j (by omega))
  have el : ∀ i, i < n → lh_ad ar i + 1 + (ar i).toNatClampNeg ≤ lh_ad ar n := fun i hi => lh_ad_lt ar hi
  refine ⟨by rw [ea n (Nat.le_refl n)]; exact g0, ?_, ?_, ?_, ?_⟩
  · intro i hi
    rw [h1 i hi]
    exact g1 i hi
  · intro i hi hz
    rw [h1 i hi] at hz
    have := el i hi
    rw [h1 i hi, h2 i hi, ea i (by omega), h5 _ (by omega)]
    exact g2 i hi hz
  · intro i hi j hj
    rw [h1 i hi] at hj
    have := el i hi
    have h44 := H4 hi
    have h33 := h3 (i * 4 + j) (by omega)
    obtain ⟨k1, k2⟩ := g3 i hi j hj
    rw [h33.1, h33.2, ea i (by omega), h5 _ (by omega), k2]
    exact ⟨lh_ok_c k1 h1, (lh_en_c k1 hn h1).symm⟩
  · intro i hi hz
    rw [h1 i hi] at hz
    have := el i hi
    obtain ⟨k1, k2, k3⟩ := h4 i hi hz
    rw [k1, k2, k3, ea i (by omega), h5 _ (by omega)]
    rcases g4 i hi hz with ⟨m1, m2⟩ | ⟨m1, m2, m3, m4⟩
    · refine Or.inl ⟨m1, ?_⟩
      rw [m2, lh_en_n _ (by omega) (Or.inl rfl), lh_en_n _ (by omega) (Or.inl rfl), ea i (by omega)]
    · exact Or.inr ⟨m1, lh_ok_c m2 h1, m3, by rw [m4, lh_en_c m2 hn h1]⟩
theorem lh_Rt_c {R n : Nat} {ar rT rV rt ar' rT' rV' rt' : Nat → Int32} (H : lh_Rt R n ar rT rV rt) (hn : n ≤ 240)
    (h1 : ∀ i, i < n → ar' i = ar i) (h2 : ∀ r, r < R → rT' r = rT r ∧ rV' r = rV r ∧ rt' r = rt r) : lh_Rt R n ar' rT' rV' rt' := by
  intro r hr
  obtain ⟨k1, k2, k3⟩ := h2 r hr
  obtain ⟨m1, m2⟩ := H r hr
  rw [k1, k2, k3, m2, lh_en_c m1 hn h1]
  exact ⟨lh_ok_c m1 h1, rfl⟩
theorem lh_Rt_m {R n m : Nat} {ar rT rV rt : Nat → Int32} (H : lh_Rt R n ar rT rV rt) (hm : n ≤ m) : lh_Rt R m ar rT rV rt :=
  fun r hr => ⟨lh_ok_m (H r hr).1 hm, (H r hr).2⟩
/-- one root is laid anew -/
theorem lh_Rt_u {R n : Nat} {ar rT rV rt : Nat → Int32} (H : lh_Rt R n ar rT rV rt) (r : Nat) {t v x : Int32} (h : lh_ok n ar t v) (hx : x = lh_en ar t v) :
    lh_Rt R n ar (upd rT r t) (upd rV r v) (upd rt r x) := by
  intro s hs
  by_cases e : s = r
  · subst e
    rw [pk_us, pk_us, pk_us]
    exact ⟨h, hx⟩
  · rw [pk_un e, pk_un e, pk_un e]
    exact H s hs
/-- one node more -/
theorem lh_Hp_x {n : Nat} {ar fn aT aV bd bT bV cl : Nat → Int32} (H : lh_Hp n ar fn aT aV bd bT bV cl) (h0 : lh_ad ar (n + 1) ≤ 240)
    (h1 : ∃ a, a ≤ 4 ∧ ar n = nI a) (h2 : ¬ ar n = 0 → (∃ f, f ≤ 4095 ∧ fn n = nI f) ∧ cl (lh_ad ar n) = lh_pk (fn n) (ar n))
    (h3 : ∀ j, j < (ar n).toNatClampNeg → lh_ok n ar (aT (n * 4 + j)) (aV (n * 4 + j)) ∧ cl (lh_ad ar n + 1 + j) = lh_en ar (aT (n * 4 + j)) (aV (n * 4 + j)))
    (h4 : ar n = 0 → bd n = 0 ∧ cl (lh_ad ar n) = lh_en ar 1 (nI n)) : lh_Hp (n + 1) ar fn aT aV bd bT bV cl := by
  obtain ⟨g0, g1, g2, g3, g4⟩ := H
  refine ⟨h0, ?_, ?_, ?_, ?_⟩
  · intro i hi
    by_cases e : i = n
    · subst e; exact h1
    · exact g1 i (by omega)
  · intro i hi
    by_cases e : i = n
    · subst e; exact h2
    · exact g2 i (by omega)
  · intro i hi j hj
    by_cases e : i = n
    · subst e; exact ⟨lh_ok_m (h3 j hj).1 (by omega), (h3 j hj).2⟩
    · exact ⟨lh_ok_m (g3 i (by omega) j hj).1 (by omega), (g3 i (by omega) j hj).2⟩
  · intro i hi hz
    by_cases e : i = n
    · subst e; exact Or.inl (h4 hz)
    · rcases g4 i (by omega) hz with m | ⟨m1, m2, m3, m4⟩
      · exact Or.inl m
      · exact Or.inr ⟨m1, lh_ok_m m2 (by omega), m3, m4⟩
/-- a variable is bound -/
theorem lh_Hp_b {n : Nat} {ar fn aT aV bd bT bV cl : Nat → Int32} (H : lh_Hp n ar fn aT aV bd bT bV cl) {b : Nat} (hb : b < n) (hz : ar b = 0)
    {t v x : Int32} (h : lh_ok n ar t v) (hv : t = 1 → v.toNatClampNeg < b) (hx : x = lh_en ar t v) :
    lh_Hp n ar fn aT aV (upd bd b 1) (upd bT b t) (upd bV b v) (upd cl (lh_ad ar b) x) := by
  obtain ⟨g0, g1, g2, g3, g4⟩ := H
  have hc : ∀ i, i ≠ b → ∀ j, j ≤ (ar i).toNatClampNeg → lh_ad ar i + j ≠ lh_ad ar b := by
    intro i hi j hj
    rcases Nat.lt_or_gt_of_ne hi with g | g
    · have := lh_ad_lt ar g; omega
    · have := lh_ad_lt ar g; omega
  refine ⟨g0, g1, ?_, ?_, ?_⟩
  · intro i hi hn
    have e : i ≠ b := fun e => hn (by rw [e]; exact hz)
    rw [pk_un (show lh_ad ar i ≠ lh_ad ar b from hc i e 0 (Nat.zero_le _))]
    exact g2 i hi hn
  · intro i hi j hj
    have e : i ≠ b := by
      intro e
      rw [e, hz] at hj
      exact absurd hj (by simp)
    have := hc i e (1 + j) (by omega)
    rw [pk_un (by omega : lh_ad ar i + 1 + j ≠ lh_ad ar b)]
    exact g3 i hi j hj
  · intro i hi hn
    by_cases e : i = b
    · subst e
      rw [pk_us, pk_us, pk_us, pk_us]
      exact Or.inr ⟨rfl, h, hv, hx⟩
    · rw [pk_un e, pk_un e, pk_un e, pk_un (show lh_ad ar i ≠ lh_ad ar b from hc i e 0 (Nat.zero_le _))]
      exact g4 i hi hn
