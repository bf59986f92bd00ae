section
/-- the first cell of node i -/
def lh_ad (ar : Nat → Int32) : Nat → Nat
  | 0 => 0
  | i + 1 => lh_ad ar i + 1 + (ar i).toNatClampNeg
theorem lh_ad_s (ar : Nat → Int32) (i : Nat) : lh_ad ar (i + 1) = lh_ad ar i + 1 + (ar i).toNatClampNeg := rfl
theorem lh_ad_mono (ar : Nat → Int32) (i : Nat) : ∀ d, lh_ad ar i + d ≤ lh_ad ar (i + d) := by
  intro d
  induction d with
  | zero => exact Nat.le_refl _
  | succ d ih =>
    have h := lh_ad_s ar (i + d)
    show lh_ad ar i + (d + 1) ≤ lh_ad ar (i + d + 1)
    omega
theorem lh_ad_le (ar : Nat → Int32) {i j : Nat} (h : i ≤ j) : lh_ad ar i ≤ lh_ad ar j := by
  have h1 := lh_ad_mono ar i (j - i)
  have e : i + (j - i) = j := by omega
  rw [e] at h1
  omega
theorem lh_ad_lt (ar : Nat → Int32) {i j : Nat} (h : i < j) : lh_ad ar i + 1 + (ar i).toNatClampNeg ≤ lh_ad ar j := by
  have h1 := lh_ad_le ar (i := i + 1) (j := j) h
  rw [lh_ad_s] at h1
  exact h1
theorem lh_ad_ge (ar : Nat → Int32) (i : Nat) : i ≤ lh_ad ar i := by
  have h1 := lh_ad_mono ar 0 i
  have e : lh_ad ar 0 = 0 := rfl
  rw [e, Nat.zero_add] at h1
  exact h1
theorem lh_ad_inj {ar : Nat → Int32} {i j : Nat} (h : lh_ad ar i = lh_ad ar j) : i = j := by
  rcases Nat.lt_trichotomy i j with g | g | g
  · have := lh_ad_lt ar g; omega
  · exact g
  · have := lh_ad_lt ar g; omega
theorem lh_ad_c {ar ar' : Nat → Int32} : ∀ n, (∀ i, i < n → ar' i = ar i) → lh_ad ar' n = lh_ad ar n := by
  intro n
  induction n with
  | zero => exact fun _ => rfl
  | succ n ih =>
    intro h
    rw [lh_ad_s, lh_ad_s, ih (fun i hi => h i (by omega)), h n (by omega)]
/-- a packed int -/
def lh_pk (h l : Int32) : Int32 := (h <<< ((3 : Int32) &&& 31)) ||| l
theorem lh_pk_nat (h : Int32) {l : Nat} (hl : l < 8) : (lh_pk h (nI l)).toBitVec.toNat = h.toBitVec.toNat * 8 % 4294967296 + l := by
  have e : (lh_pk h (nI l)).toBitVec = (h <<< ((3 : Int32) &&& 31)).toBitVec ||| (nI l).toBitVec := Int32.toBitVec_or _ _
  rw [e, BitVec.toNat_or, pk_shl h _ 3 (by decide), pk_tn (by omega)]
  have h1 : h.toBitVec.toNat * 2 ^ 3 % 2 ^ 32 = 2 ^ 3 * (h.toBitVec.toNat % 536870912) := by omega
  rw [h1, ← Nat.two_pow_add_eq_or_of_lt (i := 3) (by omega)]
theorem lh_lo (h : Int32) {l : Nat} (hl : l < 8) : lh_pk h (nI l) &&& 7 = nI l := by
  rw [pk_and _ 3 (by decide), lh_pk_nat h hl]
  exact congrArg nI (by omega)
theorem lh_ti (x : Int32) : (2 * x.toBitVec.toNat < 4294967296 ∧ x.toInt = (x.toBitVec.toNat : Int)) ∨ (4294967296 ≤ 2 * x.toBitVec.toNat ∧ x.toInt = (x.toBitVec.toNat : Int) - 4294967296) := by
  have h : x.toInt = _ := BitVec.toInt_eq_toNat_cond x.toBitVec
  by_cases c : 2 * x.toBitVec.toNat < 2 ^ 32
  · rw [if_pos c] at h
    exact Or.inl ⟨c, h⟩
  · rw [if_neg c] at h
    refine Or.inr ⟨by omega, ?_⟩
    rw [h]
    rfl
theorem lh_hi (h : Int32) {l : Nat} (hl : l < 8) (h1 : -268435456 ≤ h.toInt) (h2 : h.toInt < 268435456) : lh_pk h (nI l) >>> ((3 : Int32) &&& 31) = h := by
  apply Int32.toInt_inj.mp
  rw [pk_shr _ _ 3 (by decide), Int.shiftRight_eq_div_pow]
  have a := lh_ti (lh_pk h (nI l))
  rw [lh_pk_nat h hl] at a
  have b := lh_ti h
  have c := h.toBitVec.isLt
  generalize (lh_pk h (nI l)).toInt = p at *
  generalize h.toInt = q at *
  generalize h.toBitVec.toNat = N at *
  have e : ((2 ^ 3 : Nat) : Int) = 8 := rfl
  rw [e]
  rcases a with ⟨a1, a2⟩ | ⟨a1, a2⟩ <;> rcases b with ⟨b1, b2⟩ | ⟨b1, b2⟩ <;> omega
/-- the packed int of a term of the reference -/
def lh_en (ar : Nat → Int32) (t v : Int32) : Int32 := if t = 1 ∨ t = 4 then lh_pk (nI (lh_ad ar v.toNatClampNeg)) t else lh_pk v t
/-- a term over the first n nodes -/
def lh_ok (n : Nat) (ar : Nat → Int32) (t v : Int32) : Prop :=
  ((t = 2 ∨ t = 3) ∧ -32768 ≤ v.toInt ∧ v.toInt ≤ 32767) ∨ ∃ i, i < n ∧ v = nI i ∧ ((t = 1 ∧ ar i = 0) ∨ (t = 4 ∧ ¬ ar i = 0))
theorem lh_ok_m {n m : Nat} {ar : Nat → Int32} {t v : Int32} (h : lh_ok n ar t v) (hm : n ≤ m) : lh_ok m ar t v := by
  rcases h with h | ⟨i, hi, h⟩
  · exact Or.inl h
  · exact Or.inr ⟨i, by omega, h⟩
theorem lh_ok_c {n : Nat} {ar ar' : Nat → Int32} {t v : Int32} (h : lh_ok n ar t v) (hc : ∀ i, i < n → ar' i = ar i) : lh_ok n ar' t v := by
  rcases h with h | ⟨i, hi, h⟩
  · exact Or.inl h
  · exact Or.inr ⟨i, hi, by rw [hc i hi]; exact h⟩
theorem lh_en_n (ar : Nat → Int32) {i : Nat} (hi : i < 2 ^ 31) {t : Int32} (ht : t = 1 ∨ t = 4) : lh_en ar t (nI i) = lh_pk (nI (lh_ad ar i)) t := by
  rw [lh_en, if_pos ht, nI_clamp hi]
theorem lh_en_k (ar : Nat → Int32) {t v : Int32} (ht : t = 2 ∨ t = 3) : lh_en ar t v = lh_pk v t := by
  rw [lh_en, if_neg]
  rcases ht with rfl | rfl <;> decide
theorem lh_en_c {n : Nat} {ar ar' : Nat → Int32} {t v : Int32} (h : lh_ok n ar t v) (hn : n ≤ 240) (hc : ∀ i, i < n → ar' i = ar i) : lh_en ar' t v = lh_en ar t v := by
  rcases h with ⟨h, _⟩ | ⟨i, hi, rfl, h⟩
  · rw [lh_en_k _ h, lh_en_k _ h]
  · have ht : t = 1 ∨ t = 4 := by rcases h with h | h <;> simp [h.1]
    rw [lh_en_n _ (by omega) ht, lh_en_n _ (by omega) ht, lh_ad_c i (fun j hj => hc j (by omega))]
theorem lh_ok_t {n : Nat} {ar : Nat → Int32} {t v : Int32} (h : lh_ok n ar t v) : ∃ l, l < 8 ∧ t = nI l := by
  rcases h with ⟨h | h, _⟩ | ⟨i, hi, _, h | h⟩
  · exact ⟨2, by omega, h⟩
  · exact ⟨3, by omega, h⟩
  · exact ⟨1, by omega, h.1⟩
  · exact ⟨4, by omega, h.1⟩
theorem lh_en_lo {n : Nat} {ar : Nat → Int32} {t v : Int32} (h : lh_ok n ar t v) : lh_en ar t v &&& 7 = t := by
  obtain ⟨l, hl, rfl⟩ := lh_ok_t h
  rw [lh_en]
  split
  · exact lh_lo _ hl
  · exact lh_lo _ hl
theorem lh_pk_hiN {a l : Nat} (ha : a < 4096) (hl : l < 8) : lh_pk (nI a) (nI l) >>> ((3 : Int32) &&& 31) = nI a :=
  lh_hi _ hl (by rw [nI_toInt (by omega)]; omega) (by rw [nI_toInt (by omega)]; omega)
theorem lh_en_hi {ar : Nat → Int32} {i : Nat} {t : Int32} (ht : t = 1 ∨ t = 4) (hi : i < 2 ^ 31) (ha : lh_ad ar i < 4096) : lh_en ar t (nI i) >>> ((3 : Int32) &&& 31) = nI (lh_ad ar i) := by
  rw [lh_en_n ar hi ht]
  rcases ht with rfl | rfl
  · exact lh_pk_hiN (l := 1) ha (by omega)
  · exact lh_pk_hiN (l := 4) ha (by omega)
theorem lh_en_hk {ar : Nat → Int32} {t v : Int32} (ht : t = 2 ∨ t = 3) (h1 : -32768 ≤ v.toInt) (h2 : v.toInt ≤ 32767) : lh_en ar t v >>> ((3 : Int32) &&& 31) = v := by
  rw [lh_en_k ar ht]
  rcases ht with rfl | rfl
  · exact lh_hi v (l := 2) (by omega) (by omega) (by omega)
  · exact lh_hi v (l := 3) (by omega) (by omega) (by omega)
theorem lh_en_inj {n : Nat} {ar : Nat → Int32} (hn : lh_ad ar n ≤ 240) {t v t' v' : Int32} (h : lh_ok n ar t v) (h' : lh_ok n ar t' v') (e : lh_en ar t v = lh_en ar t' v') : t = t' ∧ v = v' := by
  have et : t = t' := by rw [← lh_en_lo h, ← lh_en_lo h', e]
  subst et
  refine ⟨rfl, ?_⟩
  have hg := lh_ad_ge ar n
  rcases h with ⟨h, h1, h2⟩ | ⟨i, hi, rfl, h⟩
  · rcases h' with ⟨g, g1, g2⟩ | ⟨j, hj, rfl, g⟩
    · rw [← lh_en_hk (ar := ar) h h1 h2, ← lh_en_hk (ar := ar) g g1 g2, e]
    · rcases h with rfl | rfl <;> rcases g with ⟨g, _⟩ | ⟨g, _⟩ <;> exact absurd g (by decide)
  · have ht : t = 1 ∨ t = 4 := by rcases h with h | h <;> simp [h.1]
    rcases h' with ⟨g, g1, g2⟩ | ⟨j, hj, rfl, g⟩
    · rcases g with rfl | rfl <;> rcases h with ⟨h, _⟩ | ⟨h, _⟩ <;> exact absurd h (by decide)
    · have a1 := lh_ad_lt ar hi
      have a2 := lh_ad_lt ar hj
      have e2 : nI (lh_ad ar i) = nI (lh_ad ar j) := by
        rw [← lh_en_hi ht (by omega) (by omega : lh_ad ar i < 4096), ← lh_en_hi ht (by omega) (by omega : lh_ad ar j < 4096), e]
      rw [nI_eq (by omega) (by omega)] at e2
      rw [lh_ad_inj e2]
end
section
/-- the heap of n nodes (arity, functor, arguments, bindings) and the cells that hold it -/
def lh_Hp (n : Nat) (ar fn aT aV bd bT bV cl : Nat → Int32) : Prop :=
  lh_ad ar n ≤ 240 ∧
  (∀ i, i < n → ∃ a, a ≤ 4 ∧ ar i = nI a) ∧
  (∀ i, i < n → ¬ ar i = 0 → (∃ f, f ≤ 4095 ∧ fn i = nI f) ∧ cl (lh_ad ar i) = lh_pk (fn i) (ar i)) ∧
  (∀ i, i < n → ∀ j, j < (ar i).toNatClampNeg → lh_ok n ar (aT (i * 4 + j)) (aV (i * 4 + j)) ∧ cl (lh_ad ar i + 1 + j) = lh_en ar (aT (i * 4 + j)) (aV (i * 4 + j))) ∧
  (∀ i, i < n → ar i = 0 → (bd i = 0 ∧ cl (lh_ad ar i) = lh_en ar 1 (nI i)) ∨
    (bd i = 1 ∧ lh_ok n ar (bT i) (bV i) ∧ (bT i = 1 → (bV i).toNatClampNeg < i) ∧ cl (lh_ad ar i) = lh_en ar (bT i) (bV i)))
/-- the roots -/
def lh_Rt (R n : Nat) (ar rT rV rt : Nat → Int32) : Prop :=
  ∀ r, r < R → lh_ok n ar (rT r) (rV r) ∧ rt r = lh_en ar (rT r) (rV r)
theorem lh_ar4 {n : Nat} {ar fn aT aV bd bT bV cl : Nat → Int32} (H : lh_Hp n ar fn aT aV bd bT bV cl) {i : Nat} (hi : i < n) : (ar i).toNatClampNeg ≤ 4 := by
  obtain ⟨a, ha, e⟩ := H.2.1 i hi
  rw [e, nI_clamp (by omega)]
  exact ha
theorem lh_n240 {n : Nat} {ar : Nat → Int32} (h : lh_ad ar n ≤ 240) : n ≤ 240 := by
  have := lh_ad_ge ar n
  omega
theorem lh_Hp_c {n : Nat} {ar fn aT aV bd bT bV cl ar' fn' aT' aV' bd' bT' bV' cl' : Nat → Int32} (H : lh_Hp n ar fn aT aV bd bT bV cl)
    (h1 : ∀ i, i < n → ar' i = ar i) (h2 : ∀ i, i < n → fn' i = fn i) (h3 : ∀ i, i < n * 4 → aT' i = aT i ∧ aV' i = aV i)
    (h4 : ∀ i, i < n → ar i = 0 → bd' i = bd i ∧ bT' i = bT i ∧ bV' i = bV i) (h5 : ∀ j, j < lh_ad ar n → cl' j = cl j) :
    lh_Hp n ar' fn' aT' aV' bd' bT' bV' cl' := by
  have H4 := @lh_ar4 _ _ _ _ _ _ _ _ _ H
  obtain ⟨g0, g1, g2, g3, g4⟩ := H
  have hn := lh_n240 g0
  have ea : ∀ i, i ≤ n → lh_ad ar' i = lh_ad ar i := fun i hi => lh_ad_c i (fun j hj => h1 j (by omega))
  have el : ∀ i, i < n → lh_ad ar i + 1 + (ar i).toNatClampNeg ≤ lh_ad ar n := fun i hi => lh_ad_lt ar hi
  refine ⟨by rw [ea n (Nat.le_refl n)]; exact g0, ?_, ?_, ?_, ?_⟩
  · intro i hi
    rw [h1 i hi]
    exact g1 i hi
  · intro i hi hz
    rw [h1 i hi] at hz
    have := el i hi
    rw [h1 i hi, h2 i hi, ea i (by omega), h5 _ (by omega)]
    exact g2 i hi hz
  · intro i hi j hj
    rw [h1 i hi] at hj
    have := el i hi
    have h44 := H4 hi
    have h33 := h3 (i * 4 + j) (by omega)
    obtain ⟨k1, k2⟩ := g3 i hi j hj
    rw [h33.1, h33.2, ea i (by omega), h5 _ (by omega), k2]
    exact ⟨lh_ok_c k1 h1, (lh_en_c k1 hn h1).symm⟩
  · intro i hi hz
    rw [h1 i hi] at hz
    have := el i hi
    obtain ⟨k1, k2, k3⟩ := h4 i hi hz
    rw [k1, k2, k3, ea i (by omega), h5 _ (by omega)]
    rcases g4 i hi hz with ⟨m1, m2⟩ | ⟨m1, m2, m3, m4⟩
    · refine Or.inl ⟨m1, ?_⟩
      rw [m2, lh_en_n _ (by omega) (Or.inl rfl), lh_en_n _ (by omega) (Or.inl rfl), ea i (by omega)]
    · exact Or.inr ⟨m1, lh_ok_c m2 h1, m3, by rw [m4, lh_en_c m2 hn h1]⟩
theorem lh_Rt_c {R n : Nat} {ar rT rV rt ar' rT' rV' rt' : Nat → Int32} (H : lh_Rt R n ar rT rV rt) (hn : n ≤ 240)
    (h1 : ∀ i, i < n → ar' i = ar i) (h2 : ∀ r, r < R → rT' r = rT r ∧ rV' r = rV r ∧ rt' r = rt r) : lh_Rt R n ar' rT' rV' rt' := by
  intro r hr
  obtain ⟨k1, k2, k3⟩ := h2 r hr
  obtain ⟨m1, m2⟩ := H r hr
  rw [k1, k2, k3, m2, lh_en_c m1 hn h1]
  exact ⟨lh_ok_c m1 h1, rfl⟩
theorem lh_Rt_m {R n m : Nat} {ar rT rV rt : Nat → Int32} (H : lh_Rt R n ar rT rV rt) (hm : n ≤ m) : lh_Rt R m ar rT rV rt :=
  fun r hr => ⟨lh_ok_m (H r hr).1 hm, (H r hr).2⟩
/-- one root is laid anew -/
theorem lh_Rt_u {R n : Nat} {ar rT rV rt : Nat → Int32} (H : lh_Rt R n ar rT rV rt) (r : Nat) {t v x : Int32} (h : lh_ok n ar t v) (hx : x = lh_en ar t v) :
    lh_Rt R n ar (upd rT r t) (upd rV r v) (upd rt r x) := by
  intro s hs
  by_cases e : s = r
  · subst e
    rw [pk_us, pk_us, pk_us]
    exact ⟨h, hx⟩
  · rw [pk_un e, pk_un e, pk_un e]
    exact H s hs
/-- one node more -/
theorem lh_Hp_x {n : Nat} {ar fn aT aV bd bT bV cl : Nat → Int32} (H : lh_Hp n ar fn aT aV bd bT bV cl) (h0 : lh_ad ar (n + 1) ≤ 240)
    (h1 : ∃ a, a ≤ 4 ∧ ar n = nI a) (h2 : ¬ ar n = 0 → (∃ f, f ≤ 4095 ∧ fn n = nI f) ∧ cl (lh_ad ar n) = lh_pk (fn n) (ar n))
    (h3 : ∀ j, j < (ar n).toNatClampNeg → lh_ok n ar (aT (n * 4 + j)) (aV (n * 4 + j)) ∧ cl (lh_ad ar n + 1 + j) = lh_en ar (aT (n * 4 + j)) (aV (n * 4 + j)))
    (h4 : ar n = 0 → bd n = 0 ∧ cl (lh_ad ar n) = lh_en ar 1 (nI n)) : lh_Hp (n + 1) ar fn aT aV bd bT bV cl := by
  obtain ⟨g0, g1, g2, g3, g4⟩ := H
  refine ⟨h0, ?_, ?_, ?_, ?_⟩
  · intro i hi
    by_cases e : i = n
    · subst e; exact h1
    · exact g1 i (by omega)
  · intro i hi
    by_cases e : i = n
    · subst e; exact h2
    · exact g2 i (by omega)
  · intro i hi j hj
    by_cases e : i = n
    · subst e; exact ⟨lh_ok_m (h3 j hj).1 (by omega), (h3 j hj).2⟩
    · exact ⟨lh_ok_m (g3 i (by omega) j hj).1 (by omega), (g3 i (by omega) j hj).2⟩
  · intro i hi hz
    by_cases e : i = n
    · subst e; exact Or.inl (h4 hz)
    · rcases g4 i (by omega) hz with m | ⟨m1, m2, m3, m4⟩
      · exact Or.inl m
      · exact Or.inr ⟨m1, lh_ok_m m2 (by omega), m3, m4⟩
/-- a variable is bound -/
theorem lh_Hp_b {n : Nat} {ar fn aT aV bd bT bV cl : Nat → Int32} (H : lh_Hp n ar fn aT aV bd bT bV cl) {b : Nat} (hb : b < n) (hz : ar b = 0)
    {t v x : Int32} (h : lh_ok n ar t v) (hv : t = 1 → v.toNatClampNeg < b) (hx : x = lh_en ar t v) :
    lh_Hp n ar fn aT aV (upd bd b 1) (upd bT b t) (upd bV b v) (upd cl (lh_ad ar b) x) := by
  obtain ⟨g0, g1, g2, g3, g4⟩ := H
  have hc : ∀ i, i ≠ b → ∀ j, j ≤ (ar i).toNatClampNeg → lh_ad ar i + j ≠ lh_ad ar b := by
    intro i hi j hj
    rcases Nat.lt_or_gt_of_ne hi with g | g
    · have := lh_ad_lt ar g; omega
    · have := lh_ad_lt ar g; omega
  refine ⟨g0, g1, ?_, ?_, ?_⟩
  · intro i hi hn
    have e : i ≠ b := fun e => hn (by rw [e]; exact hz)
    rw [pk_un (show lh_ad ar i ≠ lh_ad ar b from hc i e 0 (Nat.zero_le _))]
    exact g2 i hi hn
  · intro i hi j hj
    have e : i ≠ b := by
      intro e
      rw [e, hz] at hj
      exact absurd hj (by simp)
    have := hc i e (1 + j) (by omega)
    rw [pk_un (by omega : lh_ad ar i + 1 + j ≠ lh_ad ar b)]
    exact g3 i hi j hj
  · intro i hi hn
    by_cases e : i = b
    · subst e
      rw [pk_us, pk_us, pk_us, pk_us]
      exact Or.inr ⟨rfl, h, hv, hx⟩
    · rw [pk_un e, pk_un e, pk_un e, pk_un (show lh_ad ar i ≠ lh_ad ar b from hc i e 0 (Nat.zero_le _))]
      exact g4 i hi hn
end
section
/-- dereferencing, at most m steps -/
def lh_dr (bd bT bV : Nat → Int32) : Nat → Int32 × Int32 → Int32 × Int32
  | 0, p => p
  | m + 1, p => if p.1 = 1 ∧ ¬ bd p.2.toNatClampNeg = 0 then lh_dr bd bT bV m (bT p.2.toNatClampNeg, bV p.2.toNatClampNeg) else p
theorem lh_dr_t {bd bT bV : Nat → Int32} {m : Nat} {p : Int32 × Int32} (h : p.1 = 1) (hb : ¬ bd p.2.toNatClampNeg = 0) : lh_dr bd bT bV (m + 1) p = lh_dr bd bT bV m (bT p.2.toNatClampNeg, bV p.2.toNatClampNeg) := if_pos ⟨h, hb⟩
theorem lh_dr_f {bd bT bV : Nat → Int32} {m : Nat} {p : Int32 × Int32} (h : ¬ (p.1 = 1 ∧ ¬ bd p.2.toNatClampNeg = 0)) : lh_dr bd bT bV (m + 1) p = p := if_neg h
theorem lh_dr_id {bd bT bV : Nat → Int32} : ∀ (m : Nat) {p : Int32 × Int32}, (p.1 = 1 → bd p.2.toNatClampNeg = 0) → lh_dr bd bT bV m p = p
  | 0, _, _ => rfl
  | m + 1, _, h => lh_dr_f (fun z => z.2 (h z.1))
/-- what a bound variable holds -/
theorem lh_bound {n : Nat} {ar fn aT aV bd bT bV cl : Nat → Int32} (H : lh_Hp n ar fn aT aV bd bT bV cl) {p : Int32 × Int32} (h : lh_ok n ar p.1 p.2) (h1 : p.1 = 1) (hb : ¬ bd p.2.toNatClampNeg = 0) :
    ∃ i, i < n ∧ p.2 = nI i ∧ ar i = 0 ∧ p.2.toNatClampNeg = i ∧ bd i = 1 ∧ lh_ok n ar (bT i) (bV i) ∧ (bT i = 1 → (bV i).toNatClampNeg < i) ∧ cl (lh_ad ar i) = lh_en ar (bT i) (bV i) := by
  have hn := lh_n240 H.1
  rcases h with ⟨h, _⟩ | ⟨i, hi, hv, h⟩
  · rw [h1] at h
    exact absurd h (by decide)
  · have hz : ar i = 0 := by
      rcases h with h | h
      · exact h.2
      · rw [h1] at h
        exact absurd h.1 (by decide)
    have hc : p.2.toNatClampNeg = i := by rw [hv, nI_clamp (by omega)]
    rw [hc] at hb
    rcases H.2.2.2.2 i hi hz with m | m
    · exact absurd m.1 hb
    · exact ⟨i, hi, hv, hz, hc, m⟩
theorem lh_dr_st {n : Nat} {ar fn aT aV bd bT bV cl : Nat → Int32} (H : lh_Hp n ar fn aT aV bd bT bV cl) : ∀ (m : Nat) (p : Int32 × Int32), lh_ok n ar p.1 p.2 → (p.1 = 1 → p.2.toNatClampNeg < m) →
    lh_dr bd bT bV (m + 1) p = lh_dr bd bT bV m p := by
  intro m
  induction m with
  | zero =>
    intro p _ h
    exact lh_dr_f (fun z => absurd (h z.1) (Nat.not_lt_zero _))
  | succ m ih =>
    intro p ok h
    by_cases z : p.1 = 1 ∧ ¬ bd p.2.toNatClampNeg = 0
    · rw [lh_dr_t z.1 z.2, lh_dr_t z.1 z.2]
      obtain ⟨i, hi, hv, hz, hc, h1, h2, h3, h4⟩ := lh_bound H ok z.1 z.2
      rw [hc]
      have hm := h z.1
      exact ih _ h2 (fun e => by have := h3 e; show (bV i).toNatClampNeg < m; omega)
    · rw [lh_dr_f z, lh_dr_f z]
theorem lh_dr_ok {n : Nat} {ar fn aT aV bd bT bV cl : Nat → Int32} (H : lh_Hp n ar fn aT aV bd bT bV cl) : ∀ (m : Nat) (p : Int32 × Int32), lh_ok n ar p.1 p.2 → (p.1 = 1 → p.2.toNatClampNeg < m) →
    lh_ok n ar (lh_dr bd bT bV m p).1 (lh_dr bd bT bV m p).2 ∧ ((lh_dr bd bT bV m p).1 = 1 → bd (lh_dr bd bT bV m p).2.toNatClampNeg = 0) := by
  intro m
  induction m with
  | zero =>
    intro p ok h
    exact ⟨ok, fun e => absurd (h e) (Nat.not_lt_zero _)⟩
  | succ m ih =>
    intro p ok h
    by_cases z : p.1 = 1 ∧ ¬ bd p.2.toNatClampNeg = 0
    · rw [lh_dr_t z.1 z.2]
      obtain ⟨i, hi, hv, hz, hc, h1, h2, h3, h4⟩ := lh_bound H ok z.1 z.2
      rw [hc]
      have hm := h z.1
      exact ih _ h2 (fun e => by have := h3 e; show (bV i).toNatClampNeg < m; omega)
    · rw [lh_dr_f z]
      refine ⟨ok, fun e => ?_⟩
      by_cases y : bd p.2.toNatClampNeg = 0
      · exact y
      · exact absurd ⟨e, y⟩ z
theorem lh_ok240 {n : Nat} {ar : Nat → Int32} (hn : lh_ad ar n ≤ 240) {t v : Int32} (h : lh_ok n ar t v) (h1 : t = 1) : v.toNatClampNeg < 240 := by
  have := lh_n240 hn
  rcases h with ⟨h, _⟩ | ⟨i, hi, rfl, _⟩
  · rw [h1] at h
    exact absurd h (by decide)
  · rw [nI_clamp (by omega)]
    omega
/-- the dereferenced term -/
def lh_D (bd bT bV : Nat → Int32) (p : Int32 × Int32) : Int32 × Int32 := lh_dr bd bT bV 240 p
theorem lh_D_ok {n : Nat} {ar fn aT aV bd bT bV cl : Nat → Int32} (H : lh_Hp n ar fn aT aV bd bT bV cl) {p : Int32 × Int32} (h : lh_ok n ar p.1 p.2) :
    lh_ok n ar (lh_D bd bT bV p).1 (lh_D bd bT bV p).2 ∧ ((lh_D bd bT bV p).1 = 1 → bd (lh_D bd bT bV p).2.toNatClampNeg = 0) :=
  lh_dr_ok H 240 p h (lh_ok240 H.1 h)
theorem lh_D_id {bd bT bV : Nat → Int32} {p : Int32 × Int32} (h : p.1 = 1 → bd p.2.toNatClampNeg = 0) : lh_D bd bT bV p = p := lh_dr_id 240 h
theorem lh_D_41 {n : Nat} {ar fn aT aV bd bT bV cl : Nat → Int32} (H : lh_Hp n ar fn aT aV bd bT bV cl) {p : Int32 × Int32} (h : lh_ok n ar p.1 p.2) : lh_dr bd bT bV 241 p = lh_D bd bT bV p :=
  lh_dr_st H 240 p h (lh_ok240 H.1 h)
/-- a sum -/
def lh_sm (f : Nat → Nat) : Nat → Nat
  | 0 => 0
  | n + 1 => lh_sm f n + f n
theorem lh_sm_s (f : Nat → Nat) (n : Nat) : lh_sm f (n + 1) = lh_sm f n + f n := rfl
theorem lh_sm_c {f g : Nat → Nat} : ∀ n, (∀ i, i < n → f i = g i) → lh_sm f n = lh_sm g n := by
  intro n
  induction n with
  | zero => exact fun _ => rfl
  | succ n ih =>
    intro h
    rw [lh_sm_s, lh_sm_s, ih (fun i hi => h i (by omega)), h n (by omega)]
theorem lh_sm_m {f g : Nat → Nat} : ∀ n, (∀ i, i < n → f i ≤ g i) → lh_sm f n ≤ lh_sm g n := by
  intro n
  induction n with
  | zero => exact fun _ => Nat.le_refl _
  | succ n ih =>
    intro h
    have h1 := ih (fun i hi => h i (by omega))
    have h2 := h n (by omega)
    rw [lh_sm_s, lh_sm_s]
    omega
theorem lh_sm_a (f : Nat → Nat) (a : Nat) : ∀ b, lh_sm f (a + b) = lh_sm f a + lh_sm (fun i => f (a + i)) b := by
  intro b
  induction b with
  | zero => rfl
  | succ b ih =>
    show lh_sm f (a + b) + f (a + b) = lh_sm f a + (lh_sm (fun i => f (a + i)) b + f (a + b))
    omega
theorem lh_sm_f (f : Nat → Nat) (m : Nat) : lh_sm f (m + 1) = f 0 + lh_sm (fun i => f (i + 1)) m := by
  have h := lh_sm_a f 1 m
  rw [Nat.add_comm m 1, h]
  have e : (fun i => f (1 + i)) = (fun i => f (i + 1)) := funext (fun i => by rw [Nat.add_comm])
  rw [e]
  show 0 + f 0 + _ = _
  omega
theorem lh_sm_1 : ∀ n, lh_sm (fun _ => 1) n = n := by
  intro n
  induction n with
  | zero => rfl
  | succ n ih => rw [lh_sm_s, ih]
theorem lh_sm_p {f : Nat → Nat} : ∀ n, 0 < lh_sm f n ↔ ∃ i, i < n ∧ 0 < f i := by
  intro n
  induction n with
  | zero => exact ⟨fun h => absurd h (Nat.lt_irrefl 0), fun ⟨i, h, _⟩ => absurd h (Nat.not_lt_zero i)⟩
  | succ n ih =>
    rw [lh_sm_s]
    constructor
    · intro h
      by_cases z : 0 < f n
      · exact ⟨n, by omega, z⟩
      · obtain ⟨i, hi, h2⟩ := ih.mp (by omega)
        exact ⟨i, by omega, h2⟩
    · rintro ⟨i, hi, h⟩
      by_cases e : i = n
      · subst e; omega
      · have := ih.mpr ⟨i, by omega, h⟩
        omega
/-- the weight of a tree, cut at depth d -/
def lh_w {T : Type} (D : T → T) (nc : T → Nat) (ch : T → Nat → T) (g : T → Nat) : Nat → T → Nat
  | 0, _ => 0
  | d + 1, p => g (D p) + lh_sm (fun j => lh_w D nc ch g d (ch (D p) j)) (nc (D p))
theorem lh_w_s {T : Type} (D : T → T) (nc : T → Nat) (ch : T → Nat → T) (g : T → Nat) (d : Nat) (p : T) : lh_w D nc ch g (d + 1) p = g (D p) + lh_sm (fun j => lh_w D nc ch g d (ch (D p) j)) (nc (D p)) := rfl
theorem lh_w_m {T : Type} (D : T → T) (nc : T → Nat) (ch : T → Nat → T) (g : T → Nat) : ∀ (d : Nat) (p : T), lh_w D nc ch g d p ≤ lh_w D nc ch g (d + 1) p := by
  intro d
  induction d with
  | zero => exact fun p => Nat.zero_le _
  | succ d ih =>
    intro p
    rw [lh_w_s, lh_w_s]
    exact Nat.add_le_add_left (lh_sm_m _ (fun i _ => ih _)) _
/-- a walk through a tree: A is the weight of what has been visited in k steps, pend what is to be visited -/
def lh_T (wp : Nat → Nat) (A k : Nat) (pend : Nat → Nat) : Prop := (∀ d, wp d ≤ A + pend d) ∧ (∀ d, A + pend d ≤ wp (d + k))
theorem lh_step {A k g : Nat} {wp wq rest chs pend pend' : Nat → Nat} (h : lh_T wp A k pend) (hp : ∀ d, pend d = wq d + rest d) (hp' : ∀ d, pend' d = rest d + chs d)
    (hw : ∀ d, wq (d + 1) = g + chs d) (hm : ∀ d, wq d ≤ wq (d + 1)) (hr : ∀ d, rest d ≤ rest (d + 1)) : lh_T wp (A + g) (k + 1) pend' := by
  constructor
  · intro d
    have h1 := h.1 d
    have h2 := hp d
    have h3 := hp' d
    have h4 := hw d
    have h5 := hm d
    omega
  · intro d
    have h1 := h.2 (d + 1)
    have h2 := hp (d + 1)
    have h3 := hp' d
    have h4 := hw d
    have h6 := hr d
    have e : d + 1 + k = d + (k + 1) := by omega
    rw [e] at h1
    omega
def lh_Tot (wp : Nat → Nat) (c : Nat) : Prop := (∀ d, wp d ≤ c) ∧ ∃ d, c ≤ wp d
theorem lh_Tot_u {wp : Nat → Nat} {c c' : Nat} (h : lh_Tot wp c) (h' : lh_Tot wp c') : c = c' := by
  obtain ⟨d, hd⟩ := h.2
  obtain ⟨d', hd'⟩ := h'.2
  have h1 := h'.1 d
  have h2 := h.1 d'
  omega
theorem lh_Tot_e {wp : Nat → Nat} {A k : Nat} {pend : Nat → Nat} (h : lh_T wp A k pend) (h0 : ∀ d, pend d = 0) : lh_Tot wp A := by
  refine ⟨fun d => ?_, 0 + k, ?_⟩
  · have h1 := h.1 d
    have h2 := h0 d
    omega
  · have h1 := h.2 0
    omega
/-- the answer of a walk that counts to 1000 -/
def lh_An (wp : Nat → Nat) (c : Nat) : Prop := (c = 1001 ∧ ∃ d, 1000 < wp d) ∨ (c ≤ 1000 ∧ lh_Tot wp c)
theorem lh_An_u {wp : Nat → Nat} {c c' : Nat} (h : lh_An wp c) (h' : lh_An wp c') : c = c' := by
  rcases h with ⟨h1, d, h2⟩ | ⟨h1, h2⟩ <;> rcases h' with ⟨g1, e, g2⟩ | ⟨g1, g2⟩
  · omega
  · have := g2.1 d; omega
  · have := h2.1 e; omega
  · exact lh_Tot_u h2 g2
theorem lh_An_t {wp : Nat → Nat} {c : Nat} (h : lh_An wp c) (hc : c ≤ 1000) : lh_Tot wp c := by
  rcases h with ⟨h1, _⟩ | ⟨h1, h2⟩
  · omega
  · exact h2
/-- the reference's walk: a stack -/
theorem lh_ystep {T : Type} {D : T → T} {nc : T → Nat} {ch : T → Nat → T} {g : T → Nat} {wp : Nat → Nat} {A k s : Nat} {st st' : Nat → T}
    (h : lh_T wp A k (fun d => lh_sm (fun i => lh_w D nc ch g d (st i)) (s + 1))) (h1 : ∀ i, i < s → st' i = st i) (h2 : ∀ j, j < nc (D (st s)) → st' (s + j) = ch (D (st s)) j) :
    lh_T wp (A + g (D (st s))) (k + 1) (fun d => lh_sm (fun i => lh_w D nc ch g d (st' i)) (s + nc (D (st s)))) := by
  refine lh_step (wq := fun d => lh_w D nc ch g d (st s)) (rest := fun d => lh_sm (fun i => lh_w D nc ch g d (st i)) s)
    (chs := fun d => lh_sm (fun j => lh_w D nc ch g d (ch (D (st s)) j)) (nc (D (st s)))) h ?_ ?_ ?_ ?_ ?_
  · intro d
    show lh_sm _ s + lh_w D nc ch g d (st s) = _
    rw [Nat.add_comm]
  · intro d
    show lh_sm _ (s + _) = _
    rw [lh_sm_a]
    congr 1
    · exact lh_sm_c _ (fun i hi => by rw [h1 i hi])
    · exact lh_sm_c _ (fun j hj => by rw [h2 j hj])
  · exact fun d => rfl
  · exact fun d => lh_w_m D nc ch g d _
  · exact fun d => lh_sm_m _ (fun i _ => lh_w_m D nc ch g d _)
/-- the class's walk: a queue -/
theorem lh_xstep {T : Type} {D : T → T} {nc : T → Nat} {ch : T → Nat → T} {g : T → Nat} {wp : Nat → Nat} {k m : Nat} {L L' : Nat → T}
    (h : lh_T wp (lh_sm (fun i => g (D (L i))) k) k (fun d => lh_sm (fun i => lh_w D nc ch g d (L (k + i))) (m + 1)))
    (h1 : ∀ i, i < k + (m + 1) → L' i = L i) (h2 : ∀ j, j < nc (D (L k)) → L' (k + (m + 1) + j) = ch (D (L k)) j) :
    lh_T wp (lh_sm (fun i => g (D (L' i))) (k + 1)) (k + 1) (fun d => lh_sm (fun i => lh_w D nc ch g d (L' (k + 1 + i))) (m + nc (D (L k)))) := by
  have e : lh_sm (fun i => g (D (L' i))) (k + 1) = lh_sm (fun i => g (D (L i))) k + g (D (L k)) := by
    rw [lh_sm_s]
    congr 1
    · exact lh_sm_c _ (fun i hi => by rw [h1 i (by omega)])
    · rw [h1 k (by omega)]
  rw [e]
  refine lh_step (wq := fun d => lh_w D nc ch g d (L k)) (rest := fun d => lh_sm (fun i => lh_w D nc ch g d (L (k + (i + 1)))) m)
    (chs := fun d => lh_sm (fun j => lh_w D nc ch g d (ch (D (L k)) j)) (nc (D (L k)))) h ?_ ?_ ?_ ?_ ?_
  · intro d
    exact lh_sm_f _ m
  · intro d
    show lh_sm _ (m + _) = _
    rw [lh_sm_a]
    congr 1
    · exact lh_sm_c _ (fun i hi => by
        show lh_w D nc ch g d (L' (k + 1 + i)) = lh_w D nc ch g d (L (k + (i + 1)))
        rw [h1 _ (by omega), show k + 1 + i = k + (i + 1) from by omega])
    · exact lh_sm_c _ (fun j hj => by
        show lh_w D nc ch g d (L' (k + 1 + (m + j))) = lh_w D nc ch g d (ch (D (L k)) j)
        rw [show k + 1 + (m + j) = k + (m + 1) + j from by omega, h2 j hj])
  · exact fun d => rfl
  · exact fun d => lh_w_m D nc ch g d _
  · exact fun d => lh_sm_m _ (fun i _ => lh_w_m D nc ch g d _)
end
section
/-- the choice points 0 .. c - 1, each with the first M k nodes -/
def lh_S (R n c : Nat) (M : Nat → Nat) (ar fn aT aV sr sc su crT crV cN cU cB cbT cbV : Nat → Int32) : Prop :=
  ∀ k, k < c → M k ≤ n ∧ (∀ k', k ≤ k' → k' < c → M k ≤ M k') ∧ cN k = nI (M k) ∧ cU k = nI (lh_ad ar (M k)) ∧ su k = nI (lh_ad ar (M k)) ∧
    lh_Hp (M k) ar fn aT aV (fun i => cB (k * 240 + i)) (fun i => cbT (k * 240 + i)) (fun i => cbV (k * 240 + i)) (fun i => sc (k * 240 + i)) ∧
    lh_Rt R (M k) ar (fun i => crT (k * 8 + i)) (fun i => crV (k * 8 + i)) (fun i => sr (k * 8 + i))
theorem lh_S_c {R n n' c : Nat} {M : Nat → Nat} {ar fn aT aV ar' fn' aT' aV' sr sc su crT crV cN cU cB cbT cbV : Nat → Int32}
    (H : lh_S R n c M ar fn aT aV sr sc su crT crV cN cU cB cbT cbV) (hn : n ≤ n') (h1 : ∀ i, i < n → ar' i = ar i) (h2 : ∀ i, i < n → fn' i = fn i)
    (h3 : ∀ i, i < n * 4 → aT' i = aT i ∧ aV' i = aV i) : lh_S R n' c M ar' fn' aT' aV' sr sc su crT crV cN cU cB cbT cbV := by
  intro k hk
  obtain ⟨g1, g2, g3, g4, g5, g6, g7⟩ := H k hk
  have ea : lh_ad ar' (M k) = lh_ad ar (M k) := lh_ad_c _ (fun i hi => h1 i (by omega))
  refine ⟨by omega, g2, g3, by rw [ea]; exact g4, by rw [ea]; exact g5, ?_, ?_⟩
  · exact lh_Hp_c g6 (fun i hi => h1 i (by omega)) (fun i hi => h2 i (by omega)) (fun i hi => h3 i (by omega)) (fun i _ _ => ⟨rfl, rfl, rfl⟩) (fun j _ => rfl)
  · exact lh_Rt_c g7 (lh_n240 g6.1) (fun i hi => h1 i (by omega)) (fun r _ => ⟨rfl, rfl, rfl⟩)
theorem lh_S_pop {R n c : Nat} {M : Nat → Nat} {ar fn aT aV sr sc su crT crV cN cU cB cbT cbV : Nat → Int32}
    (H : lh_S R n (c + 1) M ar fn aT aV sr sc su crT crV cN cU cB cbT cbV) : lh_S R n c M ar fn aT aV sr sc su crT crV cN cU cB cbT cbV := by
  intro k hk
  obtain ⟨g1, g2, g⟩ := H k (by omega)
  exact ⟨g1, fun k' h h' => g2 k' h (by omega), g⟩
theorem lh_S_push {R n c : Nat} {M : Nat → Nat} {ar fn aT aV bd bT bV cl rT rV rt sr sc su crT crV cN cU cB cbT cbV sr' sc' su' crT' crV' cN' cU' cB' cbT' cbV' : Nat → Int32}
    (H : lh_S R n c M ar fn aT aV sr sc su crT crV cN cU cB cbT cbV) (hR : R ≤ 8) (Hp : lh_Hp n ar fn aT aV bd bT bV cl) (Rt : lh_Rt R n ar rT rV rt)
    (o1 : ∀ j, j < c * 8 → sr' j = sr j) (o2 : ∀ j, j < c * 8 → crT' j = crT j) (o3 : ∀ j, j < c * 8 → crV' j = crV j)
    (o4 : ∀ j, j < c * 240 → sc' j = sc j) (o5 : ∀ j, j < c * 240 → cB' j = cB j) (o6 : ∀ j, j < c * 240 → cbT' j = cbT j) (o7 : ∀ j, j < c * 240 → cbV' j = cbV j)
    (o8 : ∀ j, j < c → su' j = su j) (o9 : ∀ j, j < c → cN' j = cN j) (o10 : ∀ j, j < c → cU' j = cU j)
    (n1 : ∀ i, i < R → sr' (c * 8 + i) = rt i) (n2 : ∀ i, i < R → crT' (c * 8 + i) = rT i) (n3 : ∀ i, i < R → crV' (c * 8 + i) = rV i)
    (n4 : ∀ i, i < lh_ad ar n → sc' (c * 240 + i) = cl i) (n5 : ∀ i, i < n → ar i = 0 → cB' (c * 240 + i) = bd i) (n6 : ∀ i, i < n → cbT' (c * 240 + i) = bT i) (n7 : ∀ i, i < n → cbV' (c * 240 + i) = bV i)
    (n8 : su' c = nI (lh_ad ar n)) (n9 : cN' c = nI n) (n10 : cU' c = nI (lh_ad ar n)) :
    lh_S R n (c + 1) (fun k => if k = c then n else M k) ar fn aT aV sr' sc' su' crT' crV' cN' cU' cB' cbT' cbV' := by
  intro k hk
  by_cases e : k = c
  · subst e
    dsimp only
    rw [if_pos rfl]
    refine ⟨Nat.le_refl n, ?_, n9, n10, n8, ?_, ?_⟩
    · intro k' h h'
      rw [if_pos (by omega : k' = k)]
      exact Nat.le_refl n
    · exact lh_Hp_c Hp (fun _ _ => rfl) (fun _ _ => rfl) (fun _ _ => ⟨rfl, rfl⟩) (fun i hi hz => ⟨n5 i hi hz, n6 i hi, n7 i hi⟩) (fun j hj => n4 j hj)
    · exact lh_Rt_c Rt (lh_n240 Hp.1) (fun _ _ => rfl) (fun r hr => ⟨n2 r hr, n3 r hr, n1 r hr⟩)
  · have hk' : k < c := by omega
    obtain ⟨g1, g2, g3, g4, g5, g6, g7⟩ := H k hk'
    have g0 := lh_n240 g6.1
    have ga := g6.1
    dsimp only
    rw [if_neg e]
    refine ⟨g1, ?_, by rw [o9 k hk']; exact g3, by rw [o10 k hk']; exact g4, by rw [o8 k hk']; exact g5, ?_, ?_⟩
    · intro k' h h'
      by_cases e' : k' = c
      · rw [if_pos e']; exact g1
      · rw [if_neg e']; exact g2 k' h (by omega)
    · exact lh_Hp_c g6 (fun _ _ => rfl) (fun _ _ => rfl) (fun _ _ => ⟨rfl, rfl⟩) (fun i hi _ => ⟨o5 _ (by omega), o6 _ (by omega), o7 _ (by omega)⟩) (fun j hj => o4 _ (by omega))
    · exact lh_Rt_c g7 g0 (fun _ _ => rfl) (fun r hr => ⟨o2 _ (by omega), o3 _ (by omega), o1 _ (by omega)⟩)
theorem lh_S_back {R n c : Nat} {M : Nat → Nat} {ar fn aT aV sr sc su crT crV cN cU cB cbT cbV bd' bT' bV' cl' rT' rV' rt' : Nat → Int32}
    (H : lh_S R n (c + 1) M ar fn aT aV sr sc su crT crV cN cU cB cbT cbV)
    (n1 : ∀ i, i < R → rt' i = sr (c * 8 + i)) (n2 : ∀ i, i < R → rT' i = crT (c * 8 + i)) (n3 : ∀ i, i < R → rV' i = crV (c * 8 + i))
    (n4 : ∀ i, i < lh_ad ar (M c) → cl' i = sc (c * 240 + i)) (n5 : ∀ i, i < M c → ar i = 0 → bd' i = cB (c * 240 + i)) (n6 : ∀ i, i < M c → bT' i = cbT (c * 240 + i)) (n7 : ∀ i, i < M c → bV' i = cbV (c * 240 + i)) :
    lh_S R (M c) (c + 1) M ar fn aT aV sr sc su crT crV cN cU cB cbT cbV ∧ lh_Hp (M c) ar fn aT aV bd' bT' bV' cl' ∧ lh_Rt R (M c) ar rT' rV' rt' := by
  obtain ⟨g1, g2, g3, g4, g5, g6, g7⟩ := H c (by omega)
  refine ⟨?_, ?_, ?_⟩
  · intro k hk
    obtain ⟨k1, k2, k3⟩ := H k hk
    exact ⟨k2 c (by omega) (by omega), k2, k3⟩
  · exact lh_Hp_c g6 (fun _ _ => rfl) (fun _ _ => rfl) (fun _ _ => ⟨rfl, rfl⟩) (fun i hi hz => ⟨n5 i hi hz, n6 i hi, n7 i hi⟩) (fun j hj => n4 j hj)
  · exact lh_Rt_c g7 (lh_n240 g6.1) (fun _ _ => rfl) (fun r hr => ⟨n2 r hr, n3 r hr, n1 r hr⟩)
/-- a copy of m places -/
def lh_cp (f : Nat → Int32) (fs : Nat) (t : Nat → Int32) (ts m : Nat) : Nat → Int32 := fun j => if ts ≤ j ∧ j < ts + m then f (fs + (j - ts)) else t j
theorem lh_cp_0 (f : Nat → Int32) (fs : Nat) (t : Nat → Int32) (ts : Nat) : lh_cp f fs t ts 0 = t := by
  funext j
  rw [lh_cp, if_neg (by omega)]
theorem lh_cp_s (f : Nat → Int32) (fs : Nat) (t : Nat → Int32) (ts m : Nat) : upd (lh_cp f fs t ts m) (ts + m) (f (fs + m)) = lh_cp f fs t ts (m + 1) := by
  funext j
  by_cases e : j = ts + m
  · subst e
    rw [pk_us, lh_cp, if_pos (by omega), show ts + m - ts = m from by omega]
  · rw [pk_un e]
    by_cases h : ts ≤ j ∧ j < ts + m
    · rw [lh_cp, lh_cp, if_pos h, if_pos (by omega)]
    · rw [lh_cp, lh_cp, if_neg h, if_neg (by omega)]
theorem lh_cp_i {f : Nat → Int32} {fs : Nat} {t : Nat → Int32} {ts m i : Nat} (h : i < m) : lh_cp f fs t ts m (ts + i) = f (fs + i) := by
  rw [lh_cp, if_pos (by omega), show ts + i - ts = i from by omega]
theorem lh_cp_o {f : Nat → Int32} {fs : Nat} {t : Nat → Int32} {ts m j : Nat} (h : j < ts ∨ ts + m ≤ j) : lh_cp f fs t ts m j = t j := by
  rw [lh_cp, if_neg (by omega)]
end
section
/-- how many arguments a dereferenced term has, and which -/
def lh_nc (ar : Nat → Int32) (q : Int32 × Int32) : Nat := if q.1 = 4 then (ar q.2.toNatClampNeg).toNatClampNeg else 0
def lh_ch (aT aV : Nat → Int32) (q : Int32 × Int32) (j : Nat) : Int32 × Int32 := (aT (q.2.toNatClampNeg * 4 + j), aV (q.2.toNatClampNeg * 4 + j))
def lh_W (ar aT aV bd bT bV : Nat → Int32) (g : Int32 × Int32 → Nat) (p : Int32 × Int32) (d : Nat) : Nat := lh_w (lh_D bd bT bV) (lh_nc ar) (lh_ch aT aV) g d p
/-- counts every node -/
def lh_one (_ : Int32 × Int32) : Nat := 1
/-- counts one term -/
def lh_ind (t q : Int32 × Int32) : Nat := if q = t then 1 else 0
theorem lh_W_D {n : Nat} {ar fn aT aV bd bT bV cl : Nat → Int32} (H : lh_Hp n ar fn aT aV bd bT bV cl) {p : Int32 × Int32} (h : lh_ok n ar p.1 p.2) (g : Int32 × Int32 → Nat) :
    lh_W ar aT aV bd bT bV g (lh_D bd bT bV p) = lh_W ar aT aV bd bT bV g p := by
  funext d
  cases d with
  | zero => rfl
  | succ d =>
    show lh_w _ _ _ g (d + 1) _ = lh_w _ _ _ g (d + 1) _
    rw [lh_w_s, lh_w_s, lh_D_id (lh_D_ok H h).2]
theorem lh_W_1 (ar aT aV bd bT bV : Nat → Int32) (p : Int32 × Int32) : lh_W ar aT aV bd bT bV lh_one p 1 = 1 := by
  show lh_w _ _ _ lh_one (0 + 1) _ = 1
  rw [lh_w_s]
  have h : ∀ m, lh_sm (fun j => lh_w (lh_D bd bT bV) (lh_nc ar) (lh_ch aT aV) lh_one 0 (lh_ch aT aV (lh_D bd bT bV p) j)) m = 0 := by
    intro m
    induction m with
    | zero => rfl
    | succ m ih => rw [lh_sm_s, ih]; rfl
  rw [h]
  rfl
theorem lh_nc4 {n : Nat} {ar fn aT aV bd bT bV cl : Nat → Int32} (H : lh_Hp n ar fn aT aV bd bT bV cl) {q : Int32 × Int32} (h : lh_ok n ar q.1 q.2) : lh_nc ar q ≤ 4 := by
  have hn := lh_n240 H.1
  rw [lh_nc]
  split
  · rename_i e
    rcases h with ⟨h, _⟩ | ⟨i, hi, hv, _⟩
    · rw [e] at h
      exact absurd h (by decide)
    · rw [hv, nI_clamp (by omega)]
      exact lh_ar4 H hi
  · omega
theorem lh_ch_ok {n : Nat} {ar fn aT aV bd bT bV cl : Nat → Int32} (H : lh_Hp n ar fn aT aV bd bT bV cl) {q : Int32 × Int32} (h : lh_ok n ar q.1 q.2) {j : Nat} (hj : j < lh_nc ar q) :
    lh_ok n ar (lh_ch aT aV q j).1 (lh_ch aT aV q j).2 := by
  have hn := lh_n240 H.1
  rw [lh_nc] at hj
  split at hj
  · rename_i e
    rcases h with ⟨h, _⟩ | ⟨i, hi, hv, _⟩
    · rw [e] at h
      exact absurd h (by decide)
    · have hc : q.2.toNatClampNeg = i := by rw [hv, nI_clamp (by omega)]
      rw [hc] at hj
      rw [lh_ch, hc]
      exact (H.2.2.2.1 i hi j hj).1
  · omega
/-- the class's queue: k nodes visited, c nodes listed -/
def lx_I (n : Nat) (ar aT aV bd bT bV : Nat → Int32) (p : Int32 × Int32) (k c : Nat) (tn : Nat → Int32) : Prop :=
  ∃ L : Nat → Int32 × Int32, k ≤ c ∧ 1 ≤ c ∧ c ≤ 1000 ∧ (∀ i, i < c → lh_ok n ar (L i).1 (L i).2) ∧
    (∀ i, i < k → tn i = lh_en ar (lh_D bd bT bV (L i)).1 (lh_D bd bT bV (L i)).2) ∧ (∀ i, k ≤ i → i < c → tn i = lh_en ar (L i).1 (L i).2) ∧
    ∀ g, lh_T (lh_W ar aT aV bd bT bV g p) (lh_sm (fun i => g (lh_D bd bT bV (L i))) k) k (fun d => lh_sm (fun i => lh_W ar aT aV bd bT bV g (L (k + i)) d) (c - k))
theorem lx_I0 {n : Nat} {ar aT aV bd bT bV : Nat → Int32} {p : Int32 × Int32} (h : lh_ok n ar p.1 p.2) {tn : Nat → Int32} (h0 : tn 0 = lh_en ar p.1 p.2) : lx_I n ar aT aV bd bT bV p 0 1 tn := by
  refine ⟨fun _ => p, by omega, by omega, by omega, fun _ _ => h, fun i hi => absurd hi (Nat.not_lt_zero i), ?_, ?_⟩
  · intro i _ hi
    have e : i = 0 := by omega
    rw [e]
    exact h0
  · intro g
    constructor
    · intro d
      show _ ≤ 0 + (0 + lh_W ar aT aV bd bT bV g p d)
      omega
    · intro d
      show 0 + (0 + lh_W ar aT aV bd bT bV g p d) ≤ lh_W ar aT aV bd bT bV g p d
      omega
theorem lx_Is {n : Nat} {ar fn aT aV bd bT bV cl : Nat → Int32} (H : lh_Hp n ar fn aT aV bd bT bV cl) {p : Int32 × Int32} {k c : Nat} {tn : Nat → Int32} (hk : k < c) (I : lx_I n ar aT aV bd bT bV p k c tn) :
    ∃ q : Int32 × Int32, lh_ok n ar q.1 q.2 ∧ tn k = lh_en ar q.1 q.2 ∧
      (1000 < c + lh_nc ar (lh_D bd bT bV q) → ∃ d, 1000 < lh_W ar aT aV bd bT bV lh_one p d) ∧
      (c + lh_nc ar (lh_D bd bT bV q) ≤ 1000 → ∀ tn' : Nat → Int32, tn' k = lh_en ar (lh_D bd bT bV q).1 (lh_D bd bT bV q).2 → (∀ i, i < c → i ≠ k → tn' i = tn i) →
        (∀ j, j < lh_nc ar (lh_D bd bT bV q) → tn' (c + j) = lh_en ar (lh_ch aT aV (lh_D bd bT bV q) j).1 (lh_ch aT aV (lh_D bd bT bV q) j).2) →
        lx_I n ar aT aV bd bT bV p (k + 1) (c + lh_nc ar (lh_D bd bT bV q)) tn') := by
  obtain ⟨L, h1, h2, h3, h4, h5, h6, h7⟩ := I
  obtain ⟨m, rfl⟩ : ∃ m, c = k + (m + 1) := ⟨c - k - 1, by omega⟩
  have hL : ∃ L' : Nat → Int32 × Int32, (∀ i, i < k + (m + 1) → L' i = L i) ∧ ∀ j, L' (k + (m + 1) + j) = lh_ch aT aV (lh_D bd bT bV (L k)) j := by
    refine ⟨fun i => if i < k + (m + 1) then L i else lh_ch aT aV (lh_D bd bT bV (L k)) (i - (k + (m + 1))), ?_, ?_⟩
    · intro i hi
      exact if_pos hi
    · intro j
      show (if _ then _ else _) = _
      rw [if_neg (by omega), show k + (m + 1) + j - (k + (m + 1)) = j from by omega]
  obtain ⟨L', hL1, hL2⟩ := hL
  have hs : ∀ g, lh_T (lh_W ar aT aV bd bT bV g p) (lh_sm (fun i => g (lh_D bd bT bV (L' i))) (k + 1)) (k + 1)
      (fun d => lh_sm (fun i => lh_W ar aT aV bd bT bV g (L' (k + 1 + i)) d) (m + lh_nc ar (lh_D bd bT bV (L k)))) := by
    intro g
    have h8 := h7 g
    rw [show k + (m + 1) - k = m + 1 from by omega] at h8
    exact lh_xstep (D := lh_D bd bT bV) (nc := lh_nc ar) (ch := lh_ch aT aV) h8 hL1 (fun j _ => hL2 j)
  refine ⟨L k, h4 k (by omega), h6 k (Nat.le_refl k) (by omega), ?_, ?_⟩
  · intro hb
    have h8 := (hs lh_one).2 1
    refine ⟨1 + (k + 1), ?_⟩
    have e1 : lh_sm (fun i => lh_one (lh_D bd bT bV (L' i))) (k + 1) = k + 1 := lh_sm_1 (k + 1)
    have e2 : lh_sm (fun i => lh_W ar aT aV bd bT bV lh_one (L' (k + 1 + i)) 1) (m + lh_nc ar (lh_D bd bT bV (L k))) = m + lh_nc ar (lh_D bd bT bV (L k)) := by
      rw [lh_sm_c (g := fun _ => 1) _ (fun i _ => lh_W_1 ar aT aV bd bT bV _)]
      exact lh_sm_1 _
    dsimp only at h8
    rw [e1, e2] at h8
    omega
  · intro hc tn' t1 t2 t3
    refine ⟨L', by omega, by omega, hc, ?_, ?_, ?_, ?_⟩
    · intro i hi
      by_cases g : i < k + (m + 1)
      · rw [hL1 i g]
        exact h4 i g
      · obtain ⟨j, rfl⟩ : ∃ j, i = k + (m + 1) + j := ⟨i - (k + (m + 1)), by omega⟩
        rw [hL2 j]
        exact lh_ch_ok H (lh_D_ok H (h4 k (by omega))).1 (by omega)
    · intro i hi
      by_cases e : i = k
      · subst e
        rw [hL1 i (by omega)]
        exact t1
      · rw [t2 i (by omega) e, hL1 i (by omega)]
        exact h5 i (by omega)
    · intro i hi hi2
      by_cases g : i < k + (m + 1)
      · rw [t2 i g (by omega), hL1 i g]
        exact h6 i (by omega) g
      · obtain ⟨j, rfl⟩ : ∃ j, i = k + (m + 1) + j := ⟨i - (k + (m + 1)), by omega⟩
        rw [t3 j (by omega), hL2 j]
    · intro g
      have h8 := hs g
      rw [show k + (m + 1) + lh_nc ar (lh_D bd bT bV (L k)) - (k + 1) = m + lh_nc ar (lh_D bd bT bV (L k)) from by omega]
      exact h8
theorem lx_Ie {n : Nat} {ar fn aT aV bd bT bV cl : Nat → Int32} (H : lh_Hp n ar fn aT aV bd bT bV cl) {p : Int32 × Int32} {c : Nat} {tn : Nat → Int32} (I : lx_I n ar aT aV bd bT bV p c c tn) :
    1 ≤ c ∧ c ≤ 1000 ∧ lh_Tot (lh_W ar aT aV bd bT bV lh_one p) c ∧ ∀ t v : Int32, lh_ok n ar t v →
      ∃ A, lh_Tot (lh_W ar aT aV bd bT bV (lh_ind (t, v)) p) A ∧ ((∃ i, i < c ∧ tn i = lh_en ar t v) ↔ 0 < A) := by
  obtain ⟨L, h1, h2, h3, h4, h5, h6, h7⟩ := I
  have h8 : ∀ g, lh_Tot (lh_W ar aT aV bd bT bV g p) (lh_sm (fun i => g (lh_D bd bT bV (L i))) c) := by
    intro g
    refine lh_Tot_e (h7 g) (fun d => ?_)
    show lh_sm _ (c - c) = 0
    rw [Nat.sub_self]
    rfl
  refine ⟨h2, h3, ?_, ?_⟩
  · have h9 := h8 lh_one
    rw [show lh_sm (fun i => lh_one (lh_D bd bT bV (L i))) c = c from lh_sm_1 c] at h9
    exact h9
  · intro t v hok
    refine ⟨_, h8 (lh_ind (t, v)), ?_⟩
    rw [lh_sm_p]
    constructor
    · rintro ⟨i, hi, e⟩
      rw [h5 i hi] at e
      obtain ⟨e1, e2⟩ := lh_en_inj H.1 (lh_D_ok H (h4 i hi)).1 hok e
      refine ⟨i, hi, ?_⟩
      show 0 < lh_ind (t, v) (lh_D bd bT bV (L i))
      rw [lh_ind, if_pos (Prod.ext e1 e2)]
      omega
    · rintro ⟨i, hi, e⟩
      refine ⟨i, hi, ?_⟩
      rw [h5 i hi]
      have e' : lh_D bd bT bV (L i) = (t, v) := by
        by_cases z : lh_D bd bT bV (L i) = (t, v)
        · exact z
        · exfalso
          have e2 : 0 < lh_ind (t, v) (lh_D bd bT bV (L i)) := e
          rw [lh_ind, if_neg z] at e2
          omega
      rw [e']
/-- the reference's stack: it nodes visited, s to be visited -/
def ly_I (n : Nat) (ar aT aV bd bT bV : Nat → Int32) (p t : Int32 × Int32) (it s A : Nat) (sT sV : Nat → Int32) : Prop :=
  s ≤ 1 + 3 * it ∧ (∀ i, i < s → lh_ok n ar (sT i) (sV i)) ∧
    lh_T (lh_W ar aT aV bd bT bV lh_one p) it it (fun d => lh_sm (fun i => lh_W ar aT aV bd bT bV lh_one (sT i, sV i) d) s) ∧
    lh_T (lh_W ar aT aV bd bT bV (lh_ind t) p) A it (fun d => lh_sm (fun i => lh_W ar aT aV bd bT bV (lh_ind t) (sT i, sV i) d) s)
theorem ly_I0 {n : Nat} {ar aT aV bd bT bV : Nat → Int32} {p t : Int32 × Int32} (h : lh_ok n ar p.1 p.2) {sT sV : Nat → Int32} (h0 : sT 0 = p.1) (h1 : sV 0 = p.2) : ly_I n ar aT aV bd bT bV p t 0 1 0 sT sV := by
  have e : (sT 0, sV 0) = p := by rw [h0, h1]
  have k : ∀ g, lh_T (lh_W ar aT aV bd bT bV g p) 0 0 (fun d => lh_sm (fun i => lh_W ar aT aV bd bT bV g (sT i, sV i) d) 1) := by
    intro g
    constructor
    · intro d
      show _ ≤ 0 + (0 + lh_W ar aT aV bd bT bV g (sT 0, sV 0) d)
      rw [e]
      omega
    · intro d
      show 0 + (0 + lh_W ar aT aV bd bT bV g (sT 0, sV 0) d) ≤ lh_W ar aT aV bd bT bV g p d
      rw [e]
      omega
  refine ⟨by omega, ?_, k _, k _⟩
  intro i hi
  have e0 : i = 0 := by omega
  rw [e0, h0, h1]
  exact h
theorem ly_Is {n : Nat} {ar fn aT aV bd bT bV cl : Nat → Int32} (H : lh_Hp n ar fn aT aV bd bT bV cl) {p t : Int32 × Int32} {it s A : Nat} {sT sV sT' sV' : Nat → Int32} (I : ly_I n ar aT aV bd bT bV p t it (s + 1) A sT sV)
    (h1 : ∀ i, i < s → sT' i = sT i ∧ sV' i = sV i)
    (h2 : ∀ j, j < lh_nc ar (lh_D bd bT bV (sT s, sV s)) → (sT' (s + j), sV' (s + j)) = lh_ch aT aV (lh_D bd bT bV (sT s, sV s)) j) :
    ly_I n ar aT aV bd bT bV p t (it + 1) (s + lh_nc ar (lh_D bd bT bV (sT s, sV s))) (A + lh_ind t (lh_D bd bT bV (sT s, sV s))) sT' sV' := by
  obtain ⟨g1, g2, g3, g4⟩ := I
  have hok := g2 s (by omega)
  have hD := lh_D_ok H (p := (sT s, sV s)) hok
  have h4 := lh_nc4 H hD.1
  refine ⟨by omega, ?_, ?_, ?_⟩
  · intro i hi
    by_cases e : i < s
    · rw [(h1 i e).1, (h1 i e).2]
      exact g2 i (by omega)
    · obtain ⟨j, rfl⟩ : ∃ j, i = s + j := ⟨i - s, by omega⟩
      have e2 := h2 j (by omega)
      have e3 := lh_ch_ok H hD.1 (j := j) (by omega)
      rw [← e2] at e3
      exact e3
  · exact lh_ystep (D := lh_D bd bT bV) (nc := lh_nc ar) (ch := lh_ch aT aV) (g := lh_one) (st := fun i => (sT i, sV i)) (st' := fun i => (sT' i, sV' i)) g3
      (fun i hi => Prod.ext (h1 i hi).1 (h1 i hi).2) h2
  · exact lh_ystep (D := lh_D bd bT bV) (nc := lh_nc ar) (ch := lh_ch aT aV) (g := lh_ind t) (st := fun i => (sT i, sV i)) (st' := fun i => (sT' i, sV' i)) g4
      (fun i hi => Prod.ext (h1 i hi).1 (h1 i hi).2) h2
theorem ly_Ib {n : Nat} {ar aT aV bd bT bV : Nat → Int32} {p t : Int32 × Int32} {s A : Nat} {sT sV : Nat → Int32} (I : ly_I n ar aT aV bd bT bV p t 1000 (s + 1) A sT sV) : ∃ d, 1000 < lh_W ar aT aV bd bT bV lh_one p d := by
  have h := I.2.2.1.2 1
  refine ⟨1 + 1000, ?_⟩
  have e2 : lh_sm (fun i => lh_W ar aT aV bd bT bV lh_one (sT i, sV i) 1) (s + 1) = s + 1 := by
    rw [lh_sm_c (g := fun _ => 1) _ (fun i _ => lh_W_1 ar aT aV bd bT bV _)]
    exact lh_sm_1 _
  dsimp only at h
  rw [e2] at h
  omega
theorem ly_Ie {n : Nat} {ar aT aV bd bT bV : Nat → Int32} {p t : Int32 × Int32} {it A : Nat} {sT sV : Nat → Int32} (I : ly_I n ar aT aV bd bT bV p t it 0 A sT sV) :
    lh_Tot (lh_W ar aT aV bd bT bV lh_one p) it ∧ lh_Tot (lh_W ar aT aV bd bT bV (lh_ind t) p) A :=
  ⟨lh_Tot_e I.2.2.1 (fun _ => rfl), lh_Tot_e I.2.2.2 (fun _ => rfl)⟩
end
section
/-- a root's number -/
def lh_ro (R : Nat) (r : Int32) : Prop := ∃ j, j < R ∧ r = nI j
def lh_cst (k v : Int32) : Prop := (k = 2 ∧ 0 ≤ v ∧ v ≤ 4095) ∨ (k = 3 ∧ -32768 ≤ v ∧ v ≤ 32767)
theorem lh_rng {x : Int32} {a b : Nat} (hb : b < 2 ^ 31) (h1 : nI a ≤ x) (h2 : x ≤ nI b) (ha : a < 2 ^ 31) : ∃ j, a ≤ j ∧ j ≤ b ∧ x = nI j := by
  have h0 : ¬ x < 0 := by
    intro h
    rw [Int32.lt_iff_toInt_lt, show (0 : Int32).toInt = 0 from rfl] at h
    rw [Int32.le_iff_toInt_le, nI_toInt ha] at h1
    omega
  obtain ⟨j, hj, rfl⟩ := nI_of h0
  rw [nI_leI ha hj] at h1
  rw [nI_leI hj hb] at h2
  exact ⟨j, h1, h2, rfl⟩
theorem lh_suble {f R m : Nat} (hf : f < 2 ^ 31) (hR : R ≤ 8) (hm : m ≤ 4) : nI f ≤ nI R - nI m ↔ f + m ≤ R := by
  rw [Int32.le_iff_toInt_le, pk_sub_toInt (by omega) (by omega), nI_toInt hf]
  omega
section
variable {xR xB xU xC : Int32} {rt cl sr sc su tn : Nat → Int32}
theorem lx_pack {post : Int32 → Prop} {a b : Int32} (h : post (lh_pk a b)) : wpX_pack post () a b := h
theorem lx_low {post : Int32 → Prop} {a : Int32} (h : post (a &&& 7)) : wpX_lowPart post () a := h
theorem lx_high {post : Int32 → Prop} {a : Int32} (h : post (a >>> ((3 : Int32) &&& 31))) : wpX_highPart post () a := h
theorem lx_isRoot {post : Int32 → Prop} {R : Nat} (hR : R ≤ 8) (r : Int32) (ht : ∀ j, j < R → r = nI j → post 1) (hf : ¬ lh_ro R r → post 0) : wpX_isRoot post (nI R, xB, xU, xC, rt, cl, sr, sc, su, tn) r := by
  by_cases h0 : r < 0
  · refine br_t h0 (hf ?_)
    rintro ⟨j, hj, e⟩
    rw [e] at h0
    exact nI_pos (by omega) h0
  · obtain ⟨j, hj, rfl⟩ := nI_of h0
    by_cases h : j < R
    · exact br_f h0 (br_f (nI_ge h (by omega)) (ht j h rfl))
    · refine br_f h0 (br_t (nI_le (by omega) hj) (hf ?_))
      rintro ⟨i, hi, e⟩
      rw [nI_eq hj (by omega)] at e
      omega
theorem lx_within {post : Int32 → Prop} {x a b : Int32} (ht : a ≤ x → x ≤ b → post 1) (hf : ¬ (a ≤ x ∧ x ≤ b) → post 0) : wpX_isWithin post () x a b :=
  br_c (fun h => hf (fun z => Int32.not_lt.mpr z.1 h)) (fun h => br_c (fun g => hf (fun z => Int32.not_lt.mpr z.2 g)) (fun g => ht (Int32.not_lt.mp h) (Int32.not_lt.mp g)))
theorem lx_isConstant {post : Int32 → Prop} {k v : Int32} (ht : lh_cst k v → post 1) (hf : ¬ lh_cst k v → post 0) : wpX_isConstant post () k v := by
  by_cases h2 : k = 2
  · subst h2
    refine br_t rfl (lx_within (fun h1 h2 => ⟨rfl, ht (Or.inl ⟨rfl, h1, h2⟩)⟩) (fun h => ⟨rfl, hf ?_⟩))
    rintro (z | z)
    · exact h z.2
    · exact absurd z.1 (by decide)
  · refine br_f h2 ?_
    by_cases h3 : k = 3
    · subst h3
      refine br_t rfl (lx_within (fun h1 h2 => br_f (by decide) (ht (Or.inr ⟨rfl, h1, h2⟩))) (fun h => br_t rfl (hf ?_)))
      rintro (z | z)
      · exact absurd z.1 (by decide)
      · exact h z.2
    · refine br_f h3 (hf ?_)
      rintro (z | z)
      · exact h2 z.1
      · exact h3 z.1
theorem lx_room {post : Int32 → Prop} {U c B : Nat} (h1 : U + c < 2 ^ 31) (h2 : B < 2 ^ 31) (ht : U + c ≤ B → post 1) (hf : B < U + c → post 0) : wpX_hasRoomFor post (xR, nI B, nI U, xC, rt, cl, sr, sc, su, tn) (nI c) :=
  pk_lt B (U + c) hf ht rfl (nI_add U c) h2 h1
theorem lx_setConst {post : Int32 → St2 → Prop} {R : Nat} (hR : R ≤ 8) {r k v : Int32} (ht : ∀ j, j < R → r = nI j → lh_cst k v → post 1 (nI R, xB, xU, xC, upd rt j (lh_pk v k), cl, sr, sc, su, tn))
    (hf : ¬ (lh_ro R r ∧ lh_cst k v) → post 0 (nI R, xB, xU, xC, rt, cl, sr, sc, su, tn)) : wpX_setConst post (nI R, xB, xU, xC, rt, cl, sr, sc, su, tn) r k v := by
  unfold wpX_setConst
  dsimp only
  refine lx_isRoot hR r (fun j hj e => ?_) (fun h => br_t rfl (hf (fun z => h z.1)))
  refine br_f (by decide) (lx_isConstant (fun hc => ?_) (fun hc => br_t rfl (hf (fun z => hc z.2))))
  refine br_f (by decide) (lx_pack ?_)
  subst e
  rw [nI_clamp (by omega)]
  exact ⟨vp_in_nI (by omega) (by omega), nm_e (ht j hj rfl hc)⟩
theorem lx_newVar {post : Int32 → St2 → Prop} {R B U : Nat} (hR : R ≤ 8) (hB : B ≤ 240) (hU : U ≤ B) {r : Int32}
    (ht : ∀ j, j < R → r = nI j → U + 1 ≤ B → post 1 (nI R, nI B, nI (U + 1), xC, upd rt j (lh_pk (nI U) 1), upd cl U (lh_pk (nI U) 1), sr, sc, su, tn))
    (hf : ¬ (lh_ro R r ∧ U + 1 ≤ B) → post 0 (nI R, nI B, nI U, xC, rt, cl, sr, sc, su, tn)) : wpX_newVar post (nI R, nI B, nI U, xC, rt, cl, sr, sc, su, tn) r := by
  unfold wpX_newVar
  dsimp only
  refine lx_isRoot hR r (fun j hj e => ?_) (fun h => br_t rfl (hf (fun z => h z.1)))
  refine br_f (by decide) (lx_room (c := 1) (by omega) (by omega) (fun hc => ?_) (fun hc => br_t rfl (hf (fun z => by omega))))
  refine br_f (by decide) (lx_pack ?_)
  subst e
  rw [nI_clamp (by omega), nI_clamp (by omega)]
  exact ⟨vp_in_nI (by omega) (by omega), nm_e (nm_r (nI_1 U) ⟨vp_in_nI (by omega) (by omega), nm_e (ht j hj rfl hc)⟩)⟩
theorem lx_copy_rt_cl {post : St3 → Prop} {g t : Nat → Int32} {a b m : Nat} (ha : a + m ≤ 8) (hb : b + m ≤ 240) (h : post (g, lh_cp g a t b m)) : wpX_copy post (g, t) (nI a) (nI b) (nI m) := by
  refine loop_0 (fun n i s => wX_copy_3 post (nI a) (nI b) (nI m) n (nI i) g s) (fun i s => s = lh_cp g a t b i) m t (lh_cp_0 _ _ _ _).symm ?_ ?_
  · intro n s hs
    subst hs
    exact br_t (nI_le (Nat.le_refl m) (by omega)) h
  · intro n i s hi hs ih
    subst hs
    refine br_f (nI_ge hi (by omega)) ?_
    rw [nI_add, nI_add, nI_clamp (by omega), nI_clamp (by omega)]
    exact ⟨vp_in_nI (by omega) (by omega), vp_in_nI (by omega) (by omega), nm_r (lh_cp_s _ _ _ _ _) (nm_r (nI_1 i) (ih _ rfl))⟩
theorem lx_copy_cl_tn {post : St4 → Prop} {g t : Nat → Int32} {a b m : Nat} (ha : a + m ≤ 240) (hb : b + m ≤ 1000) (h : post (g, lh_cp g a t b m)) : wpX_copy_2 post (g, t) (nI a) (nI b) (nI m) := by
  refine loop_0 (fun n i s => wX_copy_2_3 post (nI a) (nI b) (nI m) n (nI i) g s) (fun i s => s = lh_cp g a t b i) m t (lh_cp_0 _ _ _ _).symm ?_ ?_
  · intro n s hs
    subst hs
    exact br_t (nI_le (Nat.le_refl m) (by omega)) h
  · intro n i s hi hs ih
    subst hs
    refine br_f (nI_ge hi (by omega)) ?_
    rw [nI_add, nI_add, nI_clamp (by omega), nI_clamp (by omega)]
    exact ⟨vp_in_nI (by omega) (by omega), vp_in_nI (by omega) (by omega), nm_r (lh_cp_s _ _ _ _ _) (nm_r (nI_1 i) (ih _ rfl))⟩
theorem lx_copy_rt_sr {post : St5 → Prop} {g t : Nat → Int32} {a b m : Nat} (ha : a + m ≤ 8) (hb : b + m ≤ 64) (h : post (g, lh_cp g a t b m)) : wpX_copy_3 post (g, t) (nI a) (nI b) (nI m) := by
  refine loop_0 (fun n i s => wX_copy_3_3 post (nI a) (nI b) (nI m) n (nI i) g s) (fun i s => s = lh_cp g a t b i) m t (lh_cp_0 _ _ _ _).symm ?_ ?_
  · intro n s hs
    subst hs
    exact br_t (nI_le (Nat.le_refl m) (by omega)) h
  · intro n i s hi hs ih
    subst hs
    refine br_f (nI_ge hi (by omega)) ?_
    rw [nI_add, nI_add, nI_clamp (by omega), nI_clamp (by omega)]
    exact ⟨vp_in_nI (by omega) (by omega), vp_in_nI (by omega) (by omega), nm_r (lh_cp_s _ _ _ _ _) (nm_r (nI_1 i) (ih _ rfl))⟩
theorem lx_copy_cl_sc {post : St6 → Prop} {g t : Nat → Int32} {a b m : Nat} (ha : a + m ≤ 240) (hb : b + m ≤ 1920) (h : post (g, lh_cp g a t b m)) : wpX_copy_4 post (g, t) (nI a) (nI b) (nI m) := by
  refine loop_0 (fun n i s => wX_copy_4_3 post (nI a) (nI b) (nI m) n (nI i) g s) (fun i s => s = lh_cp g a t b i) m t (lh_cp_0 _ _ _ _).symm ?_ ?_
  · intro n s hs
    subst hs
    exact br_t (nI_le (Nat.le_refl m) (by omega)) h
  · intro n i s hi hs ih
    subst hs
    refine br_f (nI_ge hi (by omega)) ?_
    rw [nI_add, nI_add, nI_clamp (by omega), nI_clamp (by omega)]
    exact ⟨vp_in_nI (by omega) (by omega), vp_in_nI (by omega) (by omega), nm_r (lh_cp_s _ _ _ _ _) (nm_r (nI_1 i) (ih _ rfl))⟩
theorem lx_copy_sr_rt {post : St7 → Prop} {g t : Nat → Int32} {a b m : Nat} (ha : a + m ≤ 64) (hb : b + m ≤ 8) (h : post (g, lh_cp g a t b m)) : wpX_copy_5 post (g, t) (nI a) (nI b) (nI m) := by
  refine loop_0 (fun n i s => wX_copy_5_3 post (nI a) (nI b) (nI m) n (nI i) g s) (fun i s => s = lh_cp g a t b i) m t (lh_cp_0 _ _ _ _).symm ?_ ?_
  · intro n s hs
    subst hs
    exact br_t (nI_le (Nat.le_refl m) (by omega)) h
  · intro n i s hi hs ih
    subst hs
    refine br_f (nI_ge hi (by omega)) ?_
    rw [nI_add, nI_add, nI_clamp (by omega), nI_clamp (by omega)]
    exact ⟨vp_in_nI (by omega) (by omega), vp_in_nI (by omega) (by omega), nm_r (lh_cp_s _ _ _ _ _) (nm_r (nI_1 i) (ih _ rfl))⟩
theorem lx_copy_sc_cl {post : St8 → Prop} {g t : Nat → Int32} {a b m : Nat} (ha : a + m ≤ 1920) (hb : b + m ≤ 240) (h : post (g, lh_cp g a t b m)) : wpX_copy_6 post (g, t) (nI a) (nI b) (nI m) := by
  refine loop_0 (fun n i s => wX_copy_6_3 post (nI a) (nI b) (nI m) n (nI i) g s) (fun i s => s = lh_cp g a t b i) m t (lh_cp_0 _ _ _ _).symm ?_ ?_
  · intro n s hs
    subst hs
    exact br_t (nI_le (Nat.le_refl m) (by omega)) h
  · intro n i s hi hs ih
    subst hs
    refine br_f (nI_ge hi (by omega)) ?_
    rw [nI_add, nI_add, nI_clamp (by omega), nI_clamp (by omega)]
    exact ⟨vp_in_nI (by omega) (by omega), vp_in_nI (by omega) (by omega), nm_r (lh_cp_s _ _ _ _ _) (nm_r (nI_1 i) (ih _ rfl))⟩
theorem lx_copy_0 {post : St4 → Prop} {g t : Nat → Int32} {x y : Int32} (h : post (g, t)) : wpX_copy_2 post (g, t) x y 0 :=
  ⟨1, br_t (by decide) h⟩
end
end
section
section
variable {xR xB xU xC : Int32} {rt cl sr sc su tn : Nat → Int32} {n : Nat} {ar fn aT aV bd bT bV : Nat → Int32}
/-- a node's term: which node -/
theorem lh_node {p : Int32 × Int32} (h : lh_ok n ar p.1 p.2) {t : Int32} (ht : t = 1 ∨ t = 4) (h1 : p.1 = t) : ∃ i, i < n ∧ p.2 = nI i ∧ ((t = 1 ∧ ar i = 0) ∨ (t = 4 ∧ ¬ ar i = 0)) := by
  rcases h with ⟨h, _⟩ | ⟨i, hi, hv, h⟩
  · rw [h1] at h
    rcases ht with rfl | rfl <;> exact absurd h (by decide)
  · rw [h1] at h
    exact ⟨i, hi, hv, h⟩
theorem lx_deref_l {post : Int32 → Prop} (H : lh_Hp n ar fn aT aV bd bT bV cl) : ∀ (m s : Nat) (p : Int32 × Int32), s + m = 240 → lh_ok n ar p.1 p.2 →
    post (lh_en ar (lh_dr bd bT bV m p).1 (lh_dr bd bT bV m p).2) → wX_dereference_4 post xR xB xU xC rt cl sr sc su tn (m + 1) (lh_en ar p.1 p.2) (nI s) := by
  intro m
  have hn := lh_n240 H.1
  induction m with
  | zero =>
    intro s p hs ok hp
    exact br_t (nI_le (a := 240) (by omega) (by omega)) hp
  | succ m ih =>
    intro s p hs ok hp
    refine br_f (nI_ge (b := 240) (by omega) (by decide)) (lx_low ?_)
    rw [lh_en_lo ok]
    by_cases h1 : p.1 = 1
    · obtain ⟨i, hi, hv, h⟩ := lh_node ok (Or.inl rfl) h1
      have hz : ar i = 0 := by
        rcases h with h | h
        · exact h.2
        · exact absurd h.1 (by decide)
      have ha := lh_ad_lt ar hi
      have h0 := H.1
      have hc : p.2.toNatClampNeg = i := by rw [hv, nI_clamp (by omega)]
      refine br_t h1 (lx_high ?_)
      have e : lh_en ar p.1 p.2 >>> ((3 : Int32) &&& 31) = nI (lh_ad ar i) := by
        rw [h1, hv]
        exact lh_en_hi (Or.inl rfl) (by omega) (by omega)
      rw [e, nI_clamp (by omega)]
      refine ⟨vp_in_nI (by omega) (by omega), ?_⟩
      rcases H.2.2.2.2 i hi hz with ⟨k1, k2⟩ | ⟨k1, k2, k3, k4⟩
      · rw [lh_dr_f (fun z => z.2 (by rw [hc]; exact k1))] at hp
        have e2 : lh_en ar p.1 p.2 = lh_en ar 1 (nI i) := by rw [h1, hv]
        rw [e2] at hp ⊢
        exact nm_r k2 (br_t rfl hp)
      · have hb : ¬ bd p.2.toNatClampNeg = 0 := by rw [hc, k1]; decide
        rw [lh_dr_t h1 hb, hc] at hp
        refine nm_r k4 (br_f ?_ (nm_r (nI_1 s) (ih (s + 1) (bT i, bV i) (by omega) k2 hp)))
        intro e3
        obtain ⟨e4, e5⟩ := lh_en_inj H.1 k2 ok e3
        have k5 := k3 (e4.trans h1)
        rw [e5, hc] at k5
        omega
    · refine br_f h1 ?_
      rw [lh_dr_f (fun z => h1 z.1)] at hp
      exact hp
theorem lx_deref {post : Int32 → Prop} (H : lh_Hp n ar fn aT aV bd bT bV cl) {p : Int32 × Int32} {x : Int32} (ok : lh_ok n ar p.1 p.2) (hx : x = lh_en ar p.1 p.2)
    (hp : post (lh_en ar (lh_D bd bT bV p).1 (lh_D bd bT bV p).2)) : wpX_dereference post (xR, xB, xU, xC, rt, cl, sr, sc, su, tn) x := by
  subst hx
  exact ⟨241, lx_deref_l H 240 0 p (by omega) ok hp⟩
theorem lx_argc {post : Int32 → Prop} (H : lh_Hp n ar fn aT aV bd bT bV cl) {q : Int32 × Int32} (ok : lh_ok n ar q.1 q.2) (hp : post (nI (lh_nc ar q))) : wpX_argumentCount post (xR, xB, xU, xC, rt, cl, sr, sc, su, tn) (lh_en ar q.1 q.2) := by
  have hn := lh_n240 H.1
  unfold wpX_argumentCount
  dsimp only
  refine lx_low ?_
  rw [lh_en_lo ok]
  by_cases h1 : q.1 = 4
  · obtain ⟨i, hi, hv, h⟩ := lh_node ok (Or.inr rfl) h1
    have hz : ¬ ar i = 0 := by
      rcases h with h | h
      · exact absurd h.1 (by decide)
      · exact h.2
    have ha := lh_ad_lt ar hi
    have h0 := H.1
    have hc : q.2.toNatClampNeg = i := by rw [hv, nI_clamp (by omega)]
    refine br_t h1 (lx_high ?_)
    have e : lh_en ar q.1 q.2 >>> ((3 : Int32) &&& 31) = nI (lh_ad ar i) := by
      rw [h1, hv]
      exact lh_en_hi (Or.inr rfl) (by omega) (by omega)
    rw [e, nI_clamp (by omega)]
    refine ⟨vp_in_nI (by omega) (by omega), nm_r (H.2.2.1 i hi hz).2 (lx_low ?_)⟩
    obtain ⟨a, ha4, ea⟩ := H.2.1 i hi
    rw [lh_nc, if_pos h1, hc] at hp
    rw [ea, nI_clamp (by omega)] at hp
    rw [ea, lh_lo _ (by omega)]
    exact hp
  · refine br_f h1 ?_
    rw [lh_nc, if_neg h1] at hp
    exact hp
/-- what a listed tree says -/
def lx_P (n : Nat) (ar aT aV bd bT bV : Nat → Int32) (p : Int32 × Int32) (c : Nat) (tn : Nat → Int32) : Prop :=
  c ≤ 1001 ∧ lh_An (lh_W ar aT aV bd bT bV lh_one p) c ∧ (c ≤ 1000 → ∀ t v : Int32, lh_ok n ar t v →
    ∃ A, lh_Tot (lh_W ar aT aV bd bT bV (lh_ind (t, v)) p) A ∧ ((∃ i, i < c ∧ tn i = lh_en ar t v) ↔ 0 < A))
theorem lx_tree_l (H : lh_Hp n ar fn aT aV bd bT bV cl) (p : Int32 × Int32) : ∀ (m k c : Nat) (tn : Nat → Int32), k + m = 1000 → lx_I n ar aT aV bd bT bV p k c tn →
    ∃ (c' : Nat) (tn' : Nat → Int32), lx_P n ar aT aV bd bT bV p c' tn' ∧ ∀ (post : Int32 → St2 → Prop) (f : Nat), m < f → post (nI c') (xR, xB, xU, xC, rt, cl, sr, sc, su, tn') → wX_listTree_11 post f (nI c) (nI k) xR xB xU xC rt cl sr sc su tn := by
  intro m
  have hn := lh_n240 H.1
  have h0 := H.1
  induction m with
  | zero =>
    intro k c tn hk I
    have hkc : k ≤ c ∧ c ≤ 1000 := by
      obtain ⟨L, h1, h2, h3, _⟩ := I
      exact ⟨h1, h3⟩
    have e : c = k := by omega
    subst e
    obtain ⟨g1, g2, g3, g4⟩ := lx_Ie H I
    refine ⟨c, tn, ⟨by omega, Or.inr ⟨g2, g3⟩, fun _ => g4⟩, ?_⟩
    intro post f hf hp
    obtain ⟨f, rfl⟩ : ∃ f', f = f' + 1 := ⟨f - 1, by omega⟩
    exact br_t (nI_le (Nat.le_refl c) (by omega)) hp
  | succ m ih =>
    intro k c tn hk I
    have hkc : k ≤ c ∧ c ≤ 1000 := by
      obtain ⟨L, h1, h2, h3, _⟩ := I
      exact ⟨h1, h3⟩
    by_cases e : k = c
    · subst e
      obtain ⟨g1, g2, g3, g4⟩ := lx_Ie H I
      refine ⟨k, tn, ⟨by omega, Or.inr ⟨g2, g3⟩, fun _ => g4⟩, ?_⟩
      intro post f hf hp
      obtain ⟨f, rfl⟩ : ∃ f', f = f' + 1 := ⟨f - 1, by omega⟩
      exact br_t (nI_le (Nat.le_refl k) (by omega)) hp
    · have hlt : k < c := by omega
      obtain ⟨q, ok, hq, hbig, hsm⟩ := lx_Is H hlt I
      have okD := (lh_D_ok H ok).1
      have h4 := lh_nc4 H okD
      generalize hm : lh_nc ar (lh_D bd bT bV q) = e at *
      by_cases hc : c + e ≤ 1000
      · -- which cells are copied
        have hcp : ∃ tn1 : Nat → Int32, tn1 k = lh_en ar (lh_D bd bT bV q).1 (lh_D bd bT bV q).2 ∧ (∀ i, i < c → i ≠ k → tn1 i = tn i) ∧
            (∀ j, j < e → tn1 (c + j) = lh_en ar (lh_ch aT aV (lh_D bd bT bV q) j).1 (lh_ch aT aV (lh_D bd bT bV q) j).2) ∧
            ∀ post : St4 → Prop, post (cl, tn1) → wpX_copy_2 post (cl, upd tn k (lh_en ar (lh_D bd bT bV q).1 (lh_D bd bT bV q).2))
              ((lh_en ar (lh_D bd bT bV q).1 (lh_D bd bT bV q).2) >>> ((3 : Int32) &&& 31) + 1) (nI c) (nI e) := by
          by_cases he : e = 0
          · subst he
            refine ⟨upd tn k (lh_en ar (lh_D bd bT bV q).1 (lh_D bd bT bV q).2), pk_us, fun i _ hi => pk_un hi, fun j hj => absurd hj (Nat.not_lt_zero j), ?_⟩
            intro post hp
            exact lx_copy_0 hp
          · have h44 : (lh_D bd bT bV q).1 = 4 := by
              by_cases z : (lh_D bd bT bV q).1 = 4
              · exact z
              · rw [lh_nc, if_neg z] at hm
                omega
            obtain ⟨i, hi, hv, h⟩ := lh_node okD (Or.inr rfl) h44
            have hz : ¬ ar i = 0 := by
              rcases h with h | h
              · exact absurd h.1 (by decide)
              · exact h.2
            have hc2 : (lh_D bd bT bV q).2.toNatClampNeg = i := by rw [hv, nI_clamp (by omega)]
            have hm2 : (ar i).toNatClampNeg = e := by
              rw [lh_nc, if_pos h44, hc2] at hm
              exact hm
            have ha := lh_ad_lt ar hi
            have e1 : (lh_en ar (lh_D bd bT bV q).1 (lh_D bd bT bV q).2) >>> ((3 : Int32) &&& 31) + 1 = nI (lh_ad ar i + 1) := by
              rw [h44, hv, lh_en_hi (Or.inr rfl) (by omega) (by omega), nI_1]
            rw [e1]
            refine ⟨lh_cp cl (lh_ad ar i + 1) (upd tn k (lh_en ar (lh_D bd bT bV q).1 (lh_D bd bT bV q).2)) c e, ?_, ?_, ?_, ?_⟩
            · rw [lh_cp_o (by omega), pk_us]
            · intro i' hi' hne
              rw [lh_cp_o (by omega), pk_un hne]
            · intro j hj
              rw [lh_cp_i hj, lh_ch, hc2]
              exact (H.2.2.2.1 i hi j (by omega)).2
            · intro post hp
              exact lx_copy_cl_tn (by omega) (by omega) hp
        obtain ⟨tn1, t1, t2, t3, t4⟩ := hcp
        obtain ⟨c', tn', hP, hw⟩ := ih (k + 1) (c + e) tn1 (by omega) (hsm hc tn1 t1 t2 t3)
        refine ⟨c', tn', hP, ?_⟩
        intro post f hf hp
        obtain ⟨f, rfl⟩ : ∃ f', f = f' + 1 := ⟨f - 1, by omega⟩
        refine br_f (nI_ge hlt (by omega)) (br_f (nI_ge (b := 1000) (by omega) (by decide)) ⟨vp_in_nI (by omega) (by omega), ?_⟩)
        rw [nI_clamp (by omega)]
        refine lx_deref H ok hq ⟨vp_in_nI (by omega) (by omega), nm_e (lx_argc H okD ?_)⟩
        rw [hm]
        refine br_t ?_ (lx_high (t4 _ (nm_r (nI_add c e) (nm_r (nI_1 k) (hw post f (by omega) hp)))))
        rw [nI_add]
        exact nI_le (b := 1000) (by omega) (by decide)
      · refine ⟨1001, upd tn k (lh_en ar (lh_D bd bT bV q).1 (lh_D bd bT bV q).2), ⟨by omega, Or.inl ⟨rfl, hbig (by omega)⟩, fun z => absurd z (by omega)⟩, ?_⟩
        intro post f hf hp
        obtain ⟨f, rfl⟩ : ∃ f', f = f' + 1 := ⟨f - 1, by omega⟩
        refine br_f (nI_ge hlt (by omega)) (br_f (nI_ge (b := 1000) (by omega) (by decide)) ⟨vp_in_nI (by omega) (by omega), ?_⟩)
        rw [nI_clamp (by omega)]
        refine lx_deref H ok hq ⟨vp_in_nI (by omega) (by omega), nm_e (lx_argc H okD ?_)⟩
        rw [hm]
        refine br_f ?_ hp
        rw [nI_add]
        exact nI_ge (a := 1000) (by omega) (by omega)
theorem lx_tree (H : lh_Hp n ar fn aT aV bd bT bV cl) {p : Int32 × Int32} (ok : lh_ok n ar p.1 p.2) :
    ∃ (c : Nat) (tn' : Nat → Int32), lx_P n ar aT aV bd bT bV p c tn' ∧ ∀ post : Int32 → St2 → Prop, post (nI c) (xR, xB, xU, xC, rt, cl, sr, sc, su, tn') → wpX_listTree post (xR, xB, xU, xC, rt, cl, sr, sc, su, tn) (lh_en ar p.1 p.2) := by
  obtain ⟨c, tn', hP, hw⟩ := lx_tree_l (xR := xR) (xB := xB) (xU := xU) (xC := xC) (rt := rt) (sr := sr) (sc := sc) (su := su) H p 1000 0 1 (upd tn 0 (lh_en ar p.1 p.2)) (by omega) (lx_I0 ok pk_us)
  exact ⟨c, tn', hP, fun post hp => nm_e ⟨1001, hw post 1001 (by omega) hp⟩⟩
theorem lx_listed {post : Int32 → Prop} {c : Nat} (hc : c ≤ 1000) {x : Int32} (ht : (∃ i, i < c ∧ tn i = x) → post 1) (hf : ¬ (∃ i, i < c ∧ tn i = x) → post 0) : wpX_isListed post (xR, xB, xU, xC, rt, cl, sr, sc, su, tn) x (nI c) := by
  have k : ∀ m i, i + m = c → (∀ j, j < i → ¬ tn j = x) → wX_isListed_2 post x (nI c) xR xB xU xC rt cl sr sc su tn (m + 1) (nI i) := by
    intro m
    induction m with
    | zero =>
      intro i hi hj
      refine br_t (nI_le (by omega) (by omega)) (hf ?_)
      rintro ⟨j, h1, h2⟩
      exact hj j (by omega) h2
    | succ m ih =>
      intro i hi hj
      refine br_f (nI_ge (by omega) (by omega)) ⟨vp_in_nI (by omega) (by omega), ?_⟩
      rw [nI_clamp (by omega)]
      by_cases e : tn i = x
      · exact br_t e (ht ⟨i, by omega, e⟩)
      · refine br_f e (nm_r (nI_1 i) (ih (i + 1) (by omega) ?_))
        intro j h1
        by_cases e2 : j = i
        · rw [e2]; exact e
        · exact hj j (by omega)
  exact ⟨c + 1, k c 0 (by omega) (fun j hj => absurd hj (Nat.not_lt_zero j))⟩
theorem lx_young {post : St2 → Prop} {a b : Nat} (ha : a < 240) (hb : b < 240) {p0 p1 : Int32} (e0 : p0 >>> ((3 : Int32) &&& 31) = nI a) (e1 : p1 >>> ((3 : Int32) &&& 31) = nI b)
    (h1 : a ≤ b → post (xR, xB, xU, xC, rt, upd cl b p0, sr, sc, su, tn)) (h2 : b < a → post (xR, xB, xU, xC, rt, upd cl a p1, sr, sc, su, tn)) : wpX_bindYoungerToOlder post (xR, xB, xU, xC, rt, cl, sr, sc, su, tn) p0 p1 := by
  unfold wpX_bindYoungerToOlder
  dsimp only
  refine lx_high (lx_high ?_)
  rw [e0, e1, nI_clamp (by omega), nI_clamp (by omega)]
  exact pk_le a b (fun h => ⟨vp_in_nI hb (by omega), nm_e (h1 h)⟩) (fun h => ⟨vp_in_nI ha (by omega), nm_e (h2 h)⟩)
end
end
section
/-- what build asks for -/
def lh_bc (R B U : Nat) (p0 p1 p2 p3 : Int32) : Prop := ∃ j f m i : Nat, j < R ∧ f ≤ 4095 ∧ 1 ≤ m ∧ m ≤ 4 ∧ i + m ≤ R ∧ U + 1 + m ≤ B ∧ p0 = nI j ∧ p1 = nI f ∧ p2 = nI m ∧ p3 = nI i
/-- what value answers of a dereferenced term -/
def lh_val (fn : Nat → Int32) (q : Int32 × Int32) : Int32 := if q.1 = 2 then q.2 else if q.1 = 3 then q.2 else if q.1 = 4 then fn q.2.toNatClampNeg else 0
section
variable {xR xB xU xC : Int32} {rt cl sr sc su tn : Nat → Int32} {n : Nat} {ar fn aT aV bd bT bV rT rV : Nat → Int32}
theorem lx_build {post : Int32 → St2 → Prop} {R B U : Nat} (hR : R ≤ 8) (hB : B ≤ 240) (hU : U ≤ B) {p0 p1 p2 p3 : Int32}
    (ht : ∀ j f m i : Nat, j < R → f ≤ 4095 → 1 ≤ m → m ≤ 4 → i + m ≤ R → U + 1 + m ≤ B → p0 = nI j → p1 = nI f → p2 = nI m → p3 = nI i →
      post 1 (nI R, nI B, nI (U + (1 + m)), xC, upd rt j (lh_pk (nI U) 4), lh_cp rt i (upd cl U (lh_pk (nI f) (nI m))) (U + 1) m, sr, sc, su, tn))
    (hno : ¬ lh_bc R B U p0 p1 p2 p3 → post 0 (nI R, nI B, nI U, xC, rt, cl, sr, sc, su, tn)) : wpX_build post (nI R, nI B, nI U, xC, rt, cl, sr, sc, su, tn) p0 p1 p2 p3 := by
  unfold wpX_build
  dsimp only
  refine lx_isRoot hR p0 (fun j hj e0 => ?_) (fun h => br_t rfl (hno ?_))
  rotate_left
  · rintro ⟨j, f, m, i, h1, h2, h3, h4, h5, h6, e0, e1, e2, e3⟩
    exact h ⟨j, h1, e0⟩
  refine br_f (by decide) (lx_within (fun a1 a2 => ?_) (fun h => br_t rfl (hno ?_)))
  rotate_left
  · rintro ⟨j, f, m, i, h1, h2, h3, h4, h5, h6, e0, e1, e2, e3⟩
    refine h ⟨?_, ?_⟩
    · rw [e1]; exact nI_pos' (by omega)
    · rw [e1]; exact nI_le (b := 4095) h2 (by decide)
  obtain ⟨f, _, hf, e1⟩ := lh_rng (a := 0) (b := 4095) (by decide) a1 a2 (by decide)
  refine br_f (by decide) (lx_within (fun a1 a2 => ?_) (fun h => br_t rfl (hno ?_)))
  rotate_left
  · rintro ⟨j, f, m, i, h1, h2, h3, h4, h5, h6, e0, e1, e2, e3⟩
    refine h ⟨?_, ?_⟩
    · rw [e2]; exact nI_le (a := 1) h3 (by omega)
    · rw [e2]; exact nI_le (b := 4) h4 (by decide)
  obtain ⟨m, hm1, hm4, e2⟩ := lh_rng (a := 1) (b := 4) (by decide) a1 a2 (by decide)
  refine br_f (by decide) (lx_within (fun a1 a2 => ?_) (fun h => br_t rfl (hno ?_)))
  rotate_left
  · rintro ⟨j, f, m', i, h1, h2, h3, h4, h5, h6, e0, e1, e2', e3⟩
    refine h ⟨?_, ?_⟩
    · rw [e3]; exact nI_pos' (by omega)
    · rw [e3, e2']; exact (lh_suble (by omega) hR h4).mpr h5
  obtain ⟨i, hi, e3⟩ := nI_of (Int32.not_lt.mpr a1)
  rw [e3, e2, lh_suble hi hR hm4] at a2
  have e4 : (1 : Int32) + nI m = nI (1 + m) := nI_add 1 m
  rw [e2, e4]
  refine br_f (by decide) (lx_room (c := 1 + m) (by omega) (by omega) (fun hc => ?_) (fun h => br_t rfl (hno ?_)))
  rotate_left
  · rintro ⟨j, f, m', i, h1, h2, h3, h4, h5, h6, e0, e1, e2', e3⟩
    rw [e2', nI_eq (by omega) (by omega)] at e2
    omega
  refine br_f (by decide) (lx_pack ?_)
  rw [nI_clamp (by omega), nI_1 U, e3]
  refine ⟨vp_in_nI (by omega) (by omega), nm_e (lx_copy_rt_cl (by omega) (by omega) ?_)⟩
  refine nm_r (nI_add U (1 + m)) (lx_pack ?_)
  rw [e0, nI_clamp (by omega), e1]
  exact ⟨vp_in_nI (by omega) (by omega), nm_e (ht j f m i hj hf hm1 hm4 a2 (by omega) e0 e1 e2 e3)⟩
theorem lx_move {post : Int32 → St2 → Prop} {R : Nat} (hR : R ≤ 8) {p0 p1 : Int32} (ht : ∀ j i : Nat, j < R → i < R → p0 = nI j → p1 = nI i → post 1 (nI R, xB, xU, xC, upd rt j (rt i), cl, sr, sc, su, tn))
    (hno : ¬ (lh_ro R p0 ∧ lh_ro R p1) → post 0 (nI R, xB, xU, xC, rt, cl, sr, sc, su, tn)) : wpX_move post (nI R, xB, xU, xC, rt, cl, sr, sc, su, tn) p0 p1 := by
  unfold wpX_move
  dsimp only
  refine lx_isRoot hR p0 (fun j hj e0 => ?_) (fun h => br_t rfl (hno (fun z => h z.1)))
  refine br_f (by decide) (lx_isRoot hR p1 (fun i hi e1 => ?_) (fun h => br_t rfl (hno (fun z => h z.2))))
  refine br_f (by decide) ?_
  rw [e0, e1, nI_clamp (by omega), nI_clamp (by omega)]
  exact ⟨vp_in_nI (by omega) (by omega), vp_in_nI (by omega) (by omega), nm_e (ht j i hj hi e0 e1)⟩
theorem lx_getArg {post : Int32 → St2 → Prop} {R : Nat} (hR : R ≤ 8) (H : lh_Hp n ar fn aT aV bd bT bV cl) (Rt : lh_Rt R n ar rT rV rt) {p0 p1 p2 : Int32}
    (ht : ∀ j i k : Nat, j < R → i < R → 1 ≤ k → k ≤ lh_nc ar (lh_D bd bT bV (rT i, rV i)) → p0 = nI j → p1 = nI i → p2 = nI k →
      post 1 (nI R, xB, xU, xC, upd rt j (lh_en ar (lh_ch aT aV (lh_D bd bT bV (rT i, rV i)) (k - 1)).1 (lh_ch aT aV (lh_D bd bT bV (rT i, rV i)) (k - 1)).2), cl, sr, sc, su, tn))
    (hno : ¬ (∃ j i k : Nat, j < R ∧ i < R ∧ 1 ≤ k ∧ k ≤ lh_nc ar (lh_D bd bT bV (rT i, rV i)) ∧ p0 = nI j ∧ p1 = nI i ∧ p2 = nI k) → post 0 (nI R, xB, xU, xC, rt, cl, sr, sc, su, tn)) : wpX_getArg post (nI R, xB, xU, xC, rt, cl, sr, sc, su, tn) p0 p1 p2 := by
  have hn := lh_n240 H.1
  have h0 := H.1
  unfold wpX_getArg
  dsimp only
  refine lx_isRoot hR p0 (fun j hj e0 => ?_) (fun h => br_t rfl (hno ?_))
  rotate_left
  · rintro ⟨j, i, k, h1, h2, h3, h4, e0, e1, e2⟩
    exact h ⟨j, h1, e0⟩
  refine br_f (by decide) (lx_isRoot hR p1 (fun i hi e1 => ?_) (fun h => br_t rfl (hno ?_)))
  rotate_left
  · rintro ⟨j, i, k, h1, h2, h3, h4, e0, e1, e2⟩
    exact h ⟨i, h2, e1⟩
  refine br_f (by decide) ?_
  rw [e0, e1, nI_clamp (by omega), nI_clamp (by omega)]
  have ok := (Rt i hi).1
  have okD := (lh_D_ok H (p := (rT i, rV i)) ok).1
  have h4 := lh_nc4 H okD
  refine ⟨vp_in_nI (by omega) (by omega), lx_deref H (p := (rT i, rV i)) ok (Rt i hi).2 (lx_argc H okD (lx_within (fun a1 a2 => ?_) (fun h => br_t rfl (hno ?_))))⟩
  · obtain ⟨k, hk1, hk2, e2⟩ := lh_rng (a := 1) (by omega) a1 a2 (by decide)
    refine br_f (by decide) (lx_high ?_)
    have h44 : (lh_D bd bT bV (rT i, rV i)).1 = 4 := by
      by_cases z : (lh_D bd bT bV (rT i, rV i)).1 = 4
      · exact z
      · rw [lh_nc, if_neg z] at hk2
        omega
    obtain ⟨d, hd, hv, h⟩ := lh_node okD (Or.inr rfl) h44
    have hc2 : (lh_D bd bT bV (rT i, rV i)).2.toNatClampNeg = d := by rw [hv, nI_clamp (by omega)]
    have hk3 := hk2
    rw [lh_nc, if_pos h44, hc2] at hk3
    have ha := lh_ad_lt ar hd
    have e3 : (lh_en ar (lh_D bd bT bV (rT i, rV i)).1 (lh_D bd bT bV (rT i, rV i)).2) >>> ((3 : Int32) &&& 31) + p2 = nI (lh_ad ar d + k) := by
      rw [h44, hv, lh_en_hi (Or.inr rfl) (by omega) (by omega), e2, nI_add]
    rw [e3, nI_clamp (by omega)]
    have e4 : cl (lh_ad ar d + k) = lh_en ar (lh_ch aT aV (lh_D bd bT bV (rT i, rV i)) (k - 1)).1 (lh_ch aT aV (lh_D bd bT bV (rT i, rV i)) (k - 1)).2 := by
      rw [lh_ch, hc2]
      have h5 := (H.2.2.2.1 d hd (k - 1) (by omega)).2
      rw [show lh_ad ar d + 1 + (k - 1) = lh_ad ar d + k from by omega] at h5
      exact h5
    rw [e4]
    exact ⟨vp_in_nI (by omega) (by omega), vp_in_nI (by omega) (by omega), nm_e (ht j i k hj hi hk1 hk2 e0 e1 e2)⟩
  · rintro ⟨j', i', k, h1, h2, h3, h4', e0', e1', e2⟩
    rw [e1', nI_eq (by omega) (by omega)] at e1
    subst e1
    refine h ⟨?_, ?_⟩
    · rw [e2]; exact nI_le (a := 1) h3 (by omega)
    · rw [e2]; exact nI_le h4' (by omega)
theorem lx_push {post : Int32 → St2 → Prop} {R U c : Nat} (hR : R ≤ 8) (hU : U ≤ 240) (hc : c ≤ 8)
    (ht : c < 8 → post 1 (nI R, xB, nI U, nI (c + 1), rt, cl, lh_cp rt 0 sr (c * 8) R, lh_cp cl 0 sc (c * 240) U, upd su c (nI U), tn))
    (hno : 8 ≤ c → post 0 (nI R, xB, nI U, nI c, rt, cl, sr, sc, su, tn)) : wpX_pushChoice post (nI R, xB, nI U, nI c, rt, cl, sr, sc, su, tn) := by
  by_cases h : c < 8
  · refine br_t (nI_lt (b := 8) h (by decide)) ?_
    have e1 : nI c * 8 = nI (c * 8) := pk_mul c 8
    have e2 : nI c * 240 = nI (c * 240) := pk_mul c 240
    rw [e1]
    refine lx_copy_rt_sr (a := 0) (by omega) (by omega) ?_
    dsimp only
    rw [e2]
    refine lx_copy_cl_sc (a := 0) (by omega) (by omega) ?_
    dsimp only
    rw [nI_clamp (by omega)]
    exact ⟨vp_in_nI h (by omega), nm_e (nm_r (nI_1 c) (ht h))⟩
  · exact br_f (nI_nlt (b := 8) (by omega) (by omega)) (hno (by omega))
theorem lx_back {post : Int32 → St2 → Prop} {R c : Nat} (hR : R ≤ 8) (hc : c ≤ 8)
    (ht : ∀ c', c = c' + 1 → ∃ U, U ≤ 240 ∧ su c' = nI U ∧ post 1 (nI R, xB, nI U, nI c, lh_cp sr (c' * 8) rt 0 R, lh_cp sc (c' * 240) cl 0 U, sr, sc, su, tn))
    (hno : c = 0 → post 0 (nI R, xB, xU, nI c, rt, cl, sr, sc, su, tn)) : wpX_backtrack post (nI R, xB, xU, nI c, rt, cl, sr, sc, su, tn) := by
  cases c with
  | zero => exact br_f (by decide) (hno rfl)
  | succ c =>
    obtain ⟨U, hU, e, h⟩ := ht c rfl
    refine br_t (nI_lt (a := 0) (by omega) (by omega)) (nm_r (nI_pred c) ?_)
    have e1 : nI c * 8 = nI (c * 8) := pk_mul c 8
    have e2 : nI c * 240 = nI (c * 240) := pk_mul c 240
    rw [nI_clamp (by omega), e1, e2]
    refine ⟨vp_in_nI (by omega) (by omega), nm_r e (lx_copy_sr_rt (b := 0) (by omega) (by omega) ?_)⟩
    exact lx_copy_sc_cl (b := 0) (by omega) (by omega) h
theorem lx_pop {post : Int32 → St2 → Prop} {c : Nat} (hc : c ≤ 8) (ht : ∀ c', c = c' + 1 → post 1 (xR, xB, xU, nI c', rt, cl, sr, sc, su, tn)) (hno : c = 0 → post 0 (xR, xB, xU, nI c, rt, cl, sr, sc, su, tn)) : wpX_popChoice post (xR, xB, xU, nI c, rt, cl, sr, sc, su, tn) := by
  cases c with
  | zero => exact br_f (by decide) (hno rfl)
  | succ c => exact br_t (nI_lt (a := 0) (by omega) (by omega)) (nm_r (nI_pred c) (ht c rfl))
theorem lx_kind {post : Int32 → Prop} {R : Nat} (hR : R ≤ 8) (H : lh_Hp n ar fn aT aV bd bT bV cl) (Rt : lh_Rt R n ar rT rV rt) {p0 : Int32}
    (ht : ∀ j : Nat, j < R → p0 = nI j → post (lh_D bd bT bV (rT j, rV j)).1) (hno : ¬ lh_ro R p0 → post 0) : wpX_kind post (nI R, xB, xU, xC, rt, cl, sr, sc, su, tn) p0 := by
  unfold wpX_kind
  dsimp only
  refine lx_isRoot hR p0 (fun j hj e0 => ?_) (fun h => br_t rfl (hno h))
  refine br_f (by decide) ?_
  rw [e0, nI_clamp (by omega)]
  have ok := (Rt j hj).1
  refine ⟨vp_in_nI (by omega) (by omega), lx_deref H (p := (rT j, rV j)) ok (Rt j hj).2 (lx_low ?_)⟩
  rw [lh_en_lo (lh_D_ok H (p := (rT j, rV j)) ok).1]
  exact ht j hj e0
theorem lx_arity {post : Int32 → Prop} {R : Nat} (hR : R ≤ 8) (H : lh_Hp n ar fn aT aV bd bT bV cl) (Rt : lh_Rt R n ar rT rV rt) {p0 : Int32}
    (ht : ∀ j : Nat, j < R → p0 = nI j → post (nI (lh_nc ar (lh_D bd bT bV (rT j, rV j))))) (hno : ¬ lh_ro R p0 → post 0) : wpX_arity post (nI R, xB, xU, xC, rt, cl, sr, sc, su, tn) p0 := by
  unfold wpX_arity
  dsimp only
  refine lx_isRoot hR p0 (fun j hj e0 => ?_) (fun h => br_t rfl (hno h))
  refine br_f (by decide) ?_
  rw [e0, nI_clamp (by omega)]
  have ok := (Rt j hj).1
  exact ⟨vp_in_nI (by omega) (by omega), lx_deref H (p := (rT j, rV j)) ok (Rt j hj).2 (lx_argc H (lh_D_ok H (p := (rT j, rV j)) ok).1 (ht j hj e0))⟩
theorem lx_value {post : Int32 → Prop} {R : Nat} (hR : R ≤ 8) (H : lh_Hp n ar fn aT aV bd bT bV cl) (Rt : lh_Rt R n ar rT rV rt) {p0 : Int32}
    (ht : ∀ j : Nat, j < R → p0 = nI j → post (lh_val fn (lh_D bd bT bV (rT j, rV j)))) (hno : ¬ lh_ro R p0 → post 0) : wpX_value post (nI R, xB, xU, xC, rt, cl, sr, sc, su, tn) p0 := by
  have hn := lh_n240 H.1
  have h0 := H.1
  unfold wpX_value
  dsimp only
  refine lx_isRoot hR p0 (fun j hj e0 => ?_) (fun h => br_t rfl (hno h))
  refine br_f (by decide) ?_
  rw [e0, nI_clamp (by omega)]
  have ok := (Rt j hj).1
  have okD := (lh_D_ok H (p := (rT j, rV j)) ok).1
  have hp := ht j hj e0
  refine ⟨vp_in_nI (by omega) (by omega), lx_deref H (p := (rT j, rV j)) ok (Rt j hj).2 (lx_high (lx_low ?_))⟩
  rw [lh_en_lo okD]
  generalize lh_D bd bT bV (rT j, rV j) = q at *
  obtain ⟨t, v⟩ := q
  dsimp only at *
  rcases okD with ⟨h | h, h1, h2⟩ | ⟨i, hi, hv, ⟨h, hz⟩ | ⟨h, hz⟩⟩
  · subst h
    rw [lh_en_hk (Or.inl rfl) h1 h2]
    exact br_f (by decide) (br_f (by decide) (br_t rfl hp))
  · subst h
    rw [lh_en_hk (Or.inr rfl) h1 h2]
    exact br_f (by decide) (br_f (by decide) (br_f (by decide) (br_t rfl hp)))
  · subst h
    exact br_t (by decide) hp
  · subst h hv
    have ha := lh_ad_lt ar hi
    obtain ⟨⟨f, hf, ef⟩, ec⟩ := H.2.2.1 i hi hz
    obtain ⟨a, ha4, ea⟩ := H.2.1 i hi
    rw [lh_en_hi (Or.inr rfl) (by omega) (by omega), nI_clamp (by omega), ec, ef, ea]
    refine br_f (by decide) (br_f (by decide) (br_f (by decide) (br_f (by decide) (br_t rfl ⟨vp_in_nI (by omega) (by omega), lx_high ?_⟩))))
    rw [lh_pk_hiN (by omega) (by omega)]
    have e : lh_val fn (4, nI i) = nI f := by
      show fn (nI i).toNatClampNeg = nI f
      rw [nI_clamp (by omega), ef]
    rw [e] at hp
    exact hp
theorem lx_sameVar {post : Int32 → Prop} {R : Nat} (hR : R ≤ 8) (H : lh_Hp n ar fn aT aV bd bT bV cl) (Rt : lh_Rt R n ar rT rV rt) {p0 p1 : Int32}
    (ht : ∀ j i : Nat, j < R → i < R → p0 = nI j → p1 = nI i → lh_D bd bT bV (rT j, rV j) = lh_D bd bT bV (rT i, rV i) → (lh_D bd bT bV (rT j, rV j)).1 = 1 → post 1)
    (hno : ¬ (∃ j i : Nat, j < R ∧ i < R ∧ p0 = nI j ∧ p1 = nI i ∧ lh_D bd bT bV (rT j, rV j) = lh_D bd bT bV (rT i, rV i) ∧ (lh_D bd bT bV (rT j, rV j)).1 = 1) → post 0) :
    wpX_sameVar post (nI R, xB, xU, xC, rt, cl, sr, sc, su, tn) p0 p1 := by
  unfold wpX_sameVar
  dsimp only
  refine lx_isRoot hR p0 (fun j hj e0 => ?_) (fun h => br_t rfl (hno (fun ⟨j, i, h1, h2, e0, e1, _⟩ => h ⟨j, h1, e0⟩)))
  refine br_f (by decide) (lx_isRoot hR p1 (fun i hi e1 => ?_) (fun h => br_t rfl (hno (fun ⟨j, i, h1, h2, e0, e1, _⟩ => h ⟨i, h2, e1⟩))))
  refine br_f (by decide) ?_
  rw [e0, e1, nI_clamp (by omega), nI_clamp (by omega)]
  have ok1 := (Rt j hj).1
  have ok2 := (Rt i hi).1
  have okD1 := (lh_D_ok H (p := (rT j, rV j)) ok1).1
  have okD2 := (lh_D_ok H (p := (rT i, rV i)) ok2).1
  refine ⟨vp_in_nI (by omega) (by omega), lx_deref H (p := (rT j, rV j)) ok1 (Rt j hj).2 ⟨vp_in_nI (by omega) (by omega), lx_deref H (p := (rT i, rV i)) ok2 (Rt i hi).2 ?_⟩⟩
  have hj' : ∀ j' i' : Nat, p0 = nI j' → p1 = nI i' → j' < R → i' < R → j' = j ∧ i' = i := by
    intro j' i' a b c d
    rw [e0, nI_eq (by omega) (by omega)] at a
    rw [e1, nI_eq (by omega) (by omega)] at b
    exact ⟨a.symm, b.symm⟩
  refine br_c (fun h => lx_low ?_) (fun h => hno ?_)
  · rw [lh_en_lo okD1]
    obtain ⟨g1, g2⟩ := lh_en_inj H.1 okD1 okD2 h
    refine br_c (fun h1 => ht j i hj hi e0 e1 (Prod.ext g1 g2) h1) (fun h1 => hno ?_)
    rintro ⟨j', i', a, b, c, d, e, f⟩
    obtain ⟨rfl, rfl⟩ := hj' j' i' c d a b
    exact h1 f
  · rintro ⟨j', i', a, b, c, d, e, f⟩
    obtain ⟨rfl, rfl⟩ := hj' j' i' c d a b
    exact h (by rw [e])
theorem lx_treeSize {R : Nat} (hR : R ≤ 8) (H : lh_Hp n ar fn aT aV bd bT bV cl) (Rt : lh_Rt R n ar rT rV rt) {j : Nat} (hj : j < R) :
    ∃ (c : Nat) (tn' : Nat → Int32), lx_P n ar aT aV bd bT bV (rT j, rV j) c tn' ∧ ∀ post : Int32 → St2 → Prop, post (nI c) (nI R, xB, xU, xC, rt, cl, sr, sc, su, tn') → wpX_treeSize post (nI R, xB, xU, xC, rt, cl, sr, sc, su, tn) (nI j) := by
  obtain ⟨c, tn', hP, hw⟩ := lx_tree (xR := nI R) (xB := xB) (xU := xU) (xC := xC) (rt := rt) (sr := sr) (sc := sc) (su := su) (tn := tn) H (p := (rT j, rV j)) (Rt j hj).1
  refine ⟨c, tn', hP, fun post hp => ?_⟩
  unfold wpX_treeSize
  dsimp only
  refine lx_isRoot hR (nI j) (fun i _ _ => br_f (by decide) ?_) (fun h => absurd ⟨j, hj, rfl⟩ h)
  rw [nI_clamp (by omega), (Rt j hj).2]
  exact ⟨vp_in_nI (by omega) (by omega), hw _ hp⟩
theorem lx_treeNo {post : Int32 → St2 → Prop} {R : Nat} (hR : R ≤ 8) {p0 : Int32} (h : ¬ lh_ro R p0) (hp : post 0 (nI R, xB, xU, xC, rt, cl, sr, sc, su, tn)) : wpX_treeSize post (nI R, xB, xU, xC, rt, cl, sr, sc, su, tn) p0 := by
  unfold wpX_treeSize
  dsimp only
  exact lx_isRoot hR p0 (fun j hj e => absurd ⟨j, hj, e⟩ h) (fun _ => br_t rfl hp)
end
end
section
section
variable {xR xB xU xC : Int32} {rt cl sr sc su tn : Nat → Int32} {n : Nat} {ar fn aT aV bd bT bV rT rV : Nat → Int32}
theorem lx_derefq {post : Int32 → Prop} (H : lh_Hp n ar fn aT aV bd bT bV cl) {p : Int32 × Int32} {x T V : Int32} (ok : lh_ok n ar p.1 p.2) (hx : x = lh_en ar p.1 p.2) (hq : lh_D bd bT bV p = (T, V))
    (hp : post (lh_en ar T V)) : wpX_dereference post (xR, xB, xU, xC, rt, cl, sr, sc, su, tn) x := by
  refine lx_deref H ok hx ?_
  rw [hq]
  exact hp
theorem lx_bindN {post : Int32 → St2 → Prop} {R : Nat} (hR : R ≤ 8) {p0 p1 : Int32} (hr : ¬ (lh_ro R p0 ∧ lh_ro R p1)) (hp : post (-1) (nI R, xB, xU, xC, rt, cl, sr, sc, su, tn)) : wpX_bind post (nI R, xB, xU, xC, rt, cl, sr, sc, su, tn) p0 p1 := by
  unfold wpX_bind
  dsimp only
  exact lx_isRoot hR p0 (fun j hj e0 => br_f (by decide) (lx_isRoot hR p1 (fun i hi e1 => absurd ⟨⟨j, hj, e0⟩, ⟨i, hi, e1⟩⟩ hr) (fun _ => br_t rfl hp))) (fun _ => br_t rfl hp)
theorem lx_bindA {post : Int32 → St2 → Prop} {R : Nat} (hR : R ≤ 8) (H : lh_Hp n ar fn aT aV bd bT bV cl) (Rt : lh_Rt R n ar rT rV rt) {j i : Nat} (hj : j < R) (hi : i < R) {T V : Int32} (ha : lh_D bd bT bV (rT j, rV j) = (T, V))
    (h1 : ¬ T = 1) (hp : post (-1) (nI R, xB, xU, xC, rt, cl, sr, sc, su, tn)) : wpX_bind post (nI R, xB, xU, xC, rt, cl, sr, sc, su, tn) (nI j) (nI i) := by
  have okD := (lh_D_ok H (p := (rT j, rV j)) (Rt j hj).1).1
  rw [ha] at okD
  unfold wpX_bind
  dsimp only
  refine lx_isRoot hR (nI j) (fun _ _ _ => br_f (by decide) (lx_isRoot hR (nI i) (fun _ _ _ => br_f (by decide) ?_) (fun h => absurd ⟨i, hi, rfl⟩ h))) (fun h => absurd ⟨j, hj, rfl⟩ h)
  rw [nI_clamp (n := j) (by omega)]
  refine ⟨vp_in_nI (by omega) (by omega), lx_derefq H (p := (rT j, rV j)) (Rt j hj).1 (Rt j hj).2 ha (lx_low ?_)⟩
  rw [lh_en_lo okD]
  exact br_f h1 hp
theorem lx_bindB {R : Nat} (hR : R ≤ 8) (H : lh_Hp n ar fn aT aV bd bT bV cl) (Rt : lh_Rt R n ar rT rV rt) {j i : Nat} (hj : j < R) (hi : i < R) {va : Nat} (hva : va < n) {T V : Int32}
    (ha : lh_D bd bT bV (rT j, rV j) = (1, nI va)) (hb : lh_D bd bT bV (rT i, rV i) = (T, V)) :
    ∃ (c : Nat) (tn' : Nat → Int32), lx_P n ar aT aV bd bT bV (T, V) c tn' ∧ ∀ post : Int32 → St2 → Prop,
      (1000 < c → post (-1) (nI R, xB, xU, xC, rt, cl, sr, sc, su, tn')) →
      (c ≤ 1000 → T = 1 ∧ V = nI va → post 1 (nI R, xB, xU, xC, rt, cl, sr, sc, su, tn')) →
      (c ≤ 1000 → ∀ vb, vb < n → vb ≠ va → T = 1 → V = nI vb → (va < vb → post 1 (nI R, xB, xU, xC, rt, upd cl (lh_ad ar vb) (lh_en ar 1 (nI va)), sr, sc, su, tn')) ∧ (vb < va → post 1 (nI R, xB, xU, xC, rt, upd cl (lh_ad ar va) (lh_en ar T V), sr, sc, su, tn'))) →
      (c ≤ 1000 → ¬ T = 1 → ((∃ k, k < c ∧ tn' k = lh_en ar 1 (nI va)) → post 0 (nI R, xB, xU, xC, rt, cl, sr, sc, su, tn')) ∧ (¬ (∃ k, k < c ∧ tn' k = lh_en ar 1 (nI va)) → post 1 (nI R, xB, xU, xC, rt, upd cl (lh_ad ar va) (lh_en ar T V), sr, sc, su, tn'))) →
      wpX_bind post (nI R, xB, xU, xC, rt, cl, sr, sc, su, tn) (nI j) (nI i) := by
  have hn := lh_n240 H.1
  have h0 := H.1
  have okA := (lh_D_ok H (p := (rT j, rV j)) (Rt j hj).1).1
  rw [ha] at okA
  have okB := (lh_D_ok H (p := (rT i, rV i)) (Rt i hi).1).1
  rw [hb] at okB
  dsimp only at okA okB
  have haa := lh_ad_lt ar hva
  have eA : lh_en ar 1 (nI va) >>> ((3 : Int32) &&& 31) = nI (lh_ad ar va) := lh_en_hi (Or.inl rfl) (by omega) (by omega)
  obtain ⟨c, tn', hP, hw⟩ := lx_tree (xR := nI R) (xB := xB) (xU := xU) (xC := xC) (rt := rt) (sr := sr) (sc := sc) (su := su) (tn := tn) H (p := (T, V)) okB
  refine ⟨c, tn', hP, ?_⟩
  intro post k1 k2 k3 k4
  have hc1 := hP.1
  unfold wpX_bind
  dsimp only
  refine lx_isRoot hR (nI j) (fun _ _ _ => br_f (by decide) (lx_isRoot hR (nI i) (fun _ _ _ => br_f (by decide) ?_) (fun h => absurd ⟨i, hi, rfl⟩ h))) (fun h => absurd ⟨j, hj, rfl⟩ h)
  rw [nI_clamp (by omega), nI_clamp (by omega)]
  refine ⟨vp_in_nI (by omega) (by omega), lx_derefq H (p := (rT j, rV j)) (Rt j hj).1 (Rt j hj).2 ha (lx_low ?_)⟩
  rw [lh_en_lo okA]
  refine br_t rfl ⟨vp_in_nI (by omega) (by omega), lx_derefq H (p := (rT i, rV i)) (Rt i hi).1 (Rt i hi).2 hb (hw _ ?_)⟩
  dsimp only
  by_cases hc : c ≤ 1000
  · refine br_t (nI_le (b := 1000) hc (by decide)) ?_
    by_cases hab : T = 1 ∧ V = nI va
    · exact br_t (by rw [hab.1, hab.2]) (k2 hc hab)
    · refine br_f (fun e => hab (lh_en_inj H.1 okB okA e)) (lx_low ?_)
      rw [lh_en_lo okB]
      by_cases hT : T = 1
      · obtain ⟨vb, hvb, hv, _⟩ := lh_node (p := (T, V)) okB (Or.inl rfl) hT
        dsimp only at hv
        have hne : vb ≠ va := fun e => hab ⟨hT, by rw [hv, e]⟩
        have hbb := lh_ad_lt ar hvb
        obtain ⟨m1, m2⟩ := k3 hc vb hvb hne hT hv
        have eB : lh_en ar T V >>> ((3 : Int32) &&& 31) = nI (lh_ad ar vb) := by
          rw [hT, hv]
          exact lh_en_hi (Or.inl rfl) (by omega) (by omega)
        refine br_t hT (lx_young (a := lh_ad ar va) (b := lh_ad ar vb) (by omega) (by omega) eA eB (fun h => m1 ?_) (fun h => m2 ?_))
        · rcases Nat.lt_or_gt_of_ne hne with g | g
          · have := lh_ad_lt ar g
            omega
          · exact g
        · rcases Nat.lt_or_gt_of_ne hne with g | g
          · exact g
          · have := lh_ad_lt ar g
            omega
      · obtain ⟨m1, m2⟩ := k4 hc hT
        refine br_f hT (lx_listed hc (fun hl => br_f (by decide) (m1 hl)) (fun hl => br_t rfl (lx_high ?_)))
        rw [eA, nI_clamp (by omega)]
        exact ⟨vp_in_nI (by omega) (by omega), nm_e (m2 hl)⟩
  · exact br_f (nI_ge (a := 1000) (by omega) (by omega)) (k1 (by omega))
end
end
section
/-- the relation without the scalars -/
def lh_Q (R B n c : Nat) (M : Nat → Nat) (rt cl sr sc su rT rV bd bT bV fn ar aT aV crT crV cN cU cB cbT cbV : Nat → Int32) : Prop :=
  2 ≤ R ∧ R ≤ 8 ∧ B ≤ 240 ∧ c ≤ 8 ∧ lh_ad ar n ≤ B ∧ lh_Hp n ar fn aT aV bd bT bV cl ∧ lh_Rt R n ar rT rV rt ∧ lh_S R n c M ar fn aT aV sr sc su crT crV cN cU cB cbT cbV
section
variable {R B n c : Nat} {M : Nat → Nat} {rt cl sr sc su rT rV bd bT bV fn ar aT aV crT crV cN cU cB cbT cbV : Nat → Int32}
theorem lq_root (h : lh_Q R B n c M rt cl sr sc su rT rV bd bT bV fn ar aT aV crT crV cN cU cB cbT cbV) (j : Nat) {t v x : Int32} (ok : lh_ok n ar t v) (hx : x = lh_en ar t v) : lh_Q R B n c M (upd rt j x) cl sr sc su (upd rT j t) (upd rV j v) bd bT bV fn ar aT aV crT crV cN cU cB cbT cbV := by
  obtain ⟨h1, h2, h3, h4, h5, h6, h7, h8⟩ := h
  exact ⟨h1, h2, h3, h4, h5, h6, lh_Rt_u h7 j ok hx, h8⟩
theorem lq_bind (h : lh_Q R B n c M rt cl sr sc su rT rV bd bT bV fn ar aT aV crT crV cN cU cB cbT cbV) {bd' bT' bV' cl' : Nat → Int32} (H : lh_Hp n ar fn aT aV bd' bT' bV' cl') : lh_Q R B n c M rt cl' sr sc su rT rV bd' bT' bV' fn ar aT aV crT crV cN cU cB cbT cbV := by
  obtain ⟨h1, h2, h3, h4, h5, h6, h7, h8⟩ := h
  exact ⟨h1, h2, h3, h4, h5, H, h7, h8⟩
theorem lq_adv : lh_ad (upd ar n 0) (n + 1) = lh_ad ar n + 1 := by
  rw [lh_ad_s, lh_ad_c n (fun i hi => pk_un (by omega)), pk_us]
  rfl
theorem lq_adb {m : Nat} (hm : m ≤ 4) : lh_ad (upd ar n (nI m)) (n + 1) = lh_ad ar n + (1 + m) := by
  rw [lh_ad_s, lh_ad_c (ar := ar) n (fun i hi => pk_un (by omega)), pk_us, nI_clamp (by omega)]
  omega
theorem lq_var (h : lh_Q R B n c M rt cl sr sc su rT rV bd bT bV fn ar aT aV crT crV cN cU cB cbT cbV) (j : Nat) (hB : lh_ad ar n + 1 ≤ B) :
    lh_Q R B (n + 1) c M (upd rt j (lh_pk (nI (lh_ad ar n)) 1)) (upd cl (lh_ad ar n) (lh_pk (nI (lh_ad ar n)) 1)) sr sc su (upd rT j 1) (upd rV j (nI n)) (upd bd n 0) (upd bT n 0) (upd bV n 0) fn (upd ar n 0) aT aV crT crV cN cU cB cbT cbV := by
  obtain ⟨h1, h2, h3, h4, h5, h6, h7, h8⟩ := h
  have hn := lh_n240 h6.1
  have ear : ∀ i, i < n → upd ar n 0 i = ar i := fun i hi => pk_un (by omega)
  have ead : lh_ad (upd ar n 0) n = lh_ad ar n := lh_ad_c n ear
  have een : lh_en (upd ar n 0) 1 (nI n) = lh_pk (nI (lh_ad ar n)) 1 := by rw [lh_en_n _ (by omega) (Or.inl rfl), ead]
  have H1 : lh_Hp n (upd ar n 0) fn aT aV (upd bd n 0) (upd bT n 0) (upd bV n 0) (upd cl (lh_ad ar n) (lh_pk (nI (lh_ad ar n)) 1)) :=
    lh_Hp_c h6 ear (fun _ _ => rfl) (fun _ _ => ⟨rfl, rfl⟩) (fun i hi _ => ⟨pk_un (by omega), pk_un (by omega), pk_un (by omega)⟩) (fun j hj => pk_un (by omega))
  refine ⟨h1, h2, h3, h4, by rw [lq_adv]; exact hB, ?_, ?_, ?_⟩
  · refine lh_Hp_x H1 (by rw [lq_adv]; omega) ⟨0, by omega, pk_us⟩ (fun z => absurd pk_us z) ?_ (fun _ => ⟨pk_us, ?_⟩)
    · intro k hk
      rw [pk_us] at hk
      exact absurd hk (by simp)
    · rw [ead, pk_us, een]
  · exact lh_Rt_u (lh_Rt_m (lh_Rt_c h7 hn ear (fun r _ => ⟨rfl, rfl, rfl⟩)) (by omega)) j (Or.inr ⟨n, by omega, rfl, Or.inl ⟨rfl, pk_us⟩⟩) een.symm
  · exact lh_S_c h8 (by omega) ear (fun _ _ => rfl) (fun _ _ => ⟨rfl, rfl⟩)
theorem lq_build (h : lh_Q R B n c M rt cl sr sc su rT rV bd bT bV fn ar aT aV crT crV cN cU cB cbT cbV) (j : Nat) {f m i : Nat} (hf : f ≤ 4095) (hm1 : 1 ≤ m) (hm4 : m ≤ 4) (hi : i + m ≤ R) (hB : lh_ad ar n + 1 + m ≤ B) :
    lh_Q R B (n + 1) c M (upd rt j (lh_pk (nI (lh_ad ar n)) 4)) (lh_cp rt i (upd cl (lh_ad ar n) (lh_pk (nI f) (nI m))) (lh_ad ar n + 1) m) sr sc su (upd rT j 4) (upd rV j (nI n)) (upd bd n 0) bT bV (upd fn n (nI f)) (upd ar n (nI m)) (lh_cp rT i aT (n * 4) m) (lh_cp rV i aV (n * 4) m) crT crV cN cU cB cbT cbV := by
  obtain ⟨h1, h2, h3, h4, h5, h6, h7, h8⟩ := h
  have hn := lh_n240 h6.1
  have ear : ∀ i, i < n → upd ar n (nI m) i = ar i := fun i hi => pk_un (by omega)
  have ead : lh_ad (upd ar n (nI m)) n = lh_ad ar n := lh_ad_c n ear
  have een : lh_en (upd ar n (nI m)) 4 (nI n) = lh_pk (nI (lh_ad ar n)) 4 := by rw [lh_en_n _ (by omega) (Or.inr rfl), ead]
  have ea3 : ∀ k, k < n * 4 → lh_cp rT i aT (n * 4) m k = aT k ∧ lh_cp rV i aV (n * 4) m k = aV k := fun k hk => ⟨lh_cp_o (Or.inl hk), lh_cp_o (Or.inl hk)⟩
  have ef : ∀ k, k < n → upd fn n (nI f) k = fn k := fun k hk => pk_un (by omega)
  have hz : ¬ nI m = 0 := nI_ne0 (by omega) (by omega)
  have H1 : lh_Hp n (upd ar n (nI m)) (upd fn n (nI f)) (lh_cp rT i aT (n * 4) m) (lh_cp rV i aV (n * 4) m) (upd bd n 0) bT bV (lh_cp rt i (upd cl (lh_ad ar n) (lh_pk (nI f) (nI m))) (lh_ad ar n + 1) m) :=
    lh_Hp_c h6 ear ef ea3 (fun k hk _ => ⟨pk_un (by omega), rfl, rfl⟩) (fun k hk => by rw [lh_cp_o (by omega), pk_un (by omega)])
  refine ⟨h1, h2, h3, h4, by rw [lq_adb hm4]; omega, ?_, ?_, ?_⟩
  · refine lh_Hp_x H1 (by rw [lq_adb hm4]; omega) ⟨m, hm4, pk_us⟩ (fun _ => ⟨⟨f, hf, pk_us⟩, ?_⟩) ?_ (fun z => absurd (pk_us.symm.trans z) hz)
    · rw [ead, lh_cp_o (by omega), pk_us, pk_us, pk_us]
    · intro k hk
      rw [pk_us, nI_clamp (by omega)] at hk
      obtain ⟨g1, g2⟩ := h7 (i + k) (by omega)
      rw [ead, lh_cp_i hk, lh_cp_i hk, lh_cp_i hk, g2, lh_en_c g1 hn ear]
      exact ⟨lh_ok_c g1 ear, rfl⟩
  · exact lh_Rt_u (lh_Rt_m (lh_Rt_c h7 hn ear (fun r _ => ⟨rfl, rfl, rfl⟩)) (by omega)) j (Or.inr ⟨n, by omega, rfl, Or.inr ⟨rfl, by rw [pk_us]; exact hz⟩⟩) een.symm
  · exact lh_S_c h8 (by omega) ear ef ea3
theorem lq_b01 {x : Int32} (h : x = 0 ∨ x = 1) : vp_nar .boolean x = x := by
  rcases h with rfl | rfl <;> decide
theorem lq_bd (H : lh_Hp n ar fn aT aV bd bT bV cl) {i : Nat} (hi : i < n) (hz : ar i = 0) : bd i = 0 ∨ bd i = 1 := by
  rcases H.2.2.2.2 i hi hz with h | h
  · exact Or.inl h.1
  · exact Or.inr h.1
theorem lq_push (h : lh_Q R B n c M rt cl sr sc su rT rV bd bT bV fn ar aT aV crT crV cN cU cB cbT cbV) (hc : c < 8) :
    lh_Q R B n (c + 1) (fun k => if k = c then n else M k) rt cl (lh_cp rt 0 sr (c * 8) R) (lh_cp cl 0 sc (c * 240) (lh_ad ar n)) (upd su c (nI (lh_ad ar n))) rT rV bd bT bV fn ar aT aV (lh_cp rT 0 crT (c * 8) 8) (lh_cp rV 0 crV (c * 8) 8) (upd cN c (nI n)) (upd cU c (nI (lh_ad ar n))) (lh_cp (fun i => vp_nar .boolean (bd i)) 0 cB (c * 240) n) (lh_cp bT 0 cbT (c * 240) n) (lh_cp bV 0 cbV (c * 240) n) := by
  obtain ⟨h1, h2, h3, h4, h5, h6, h7, h8⟩ := h
  refine ⟨h1, h2, h3, by omega, h5, h6, h7, ?_⟩
  refine lh_S_push h8 h2 h6 h7 ?_ ?_ ?_ ?_ ?_ ?_ ?_ ?_ ?_ ?_ ?_ ?_ ?_ ?_ ?_ ?_ ?_ pk_us pk_us pk_us
  · exact fun j hj => lh_cp_o (Or.inl hj)
  · exact fun j hj => lh_cp_o (Or.inl hj)
  · exact fun j hj => lh_cp_o (Or.inl hj)
  · exact fun j hj => lh_cp_o (Or.inl hj)
  · exact fun j hj => lh_cp_o (Or.inl hj)
  · exact fun j hj => lh_cp_o (Or.inl hj)
  · exact fun j hj => lh_cp_o (Or.inl hj)
  · exact fun j hj => pk_un (by omega)
  · exact fun j hj => pk_un (by omega)
  · exact fun j hj => pk_un (by omega)
  · exact fun i hi => by rw [lh_cp_i hi, Nat.zero_add]
  · exact fun i hi => by rw [lh_cp_i (by omega), Nat.zero_add]
  · exact fun i hi => by rw [lh_cp_i (by omega), Nat.zero_add]
  · exact fun i hi => by rw [lh_cp_i hi, Nat.zero_add]
  · exact fun i hi hz => by
      rw [lh_cp_i hi, Nat.zero_add]
      exact lq_b01 (lq_bd h6 hi hz)
  · exact fun i hi => by rw [lh_cp_i hi, Nat.zero_add]
  · exact fun i hi => by rw [lh_cp_i hi, Nat.zero_add]
theorem lq_pop (h : lh_Q R B n (c + 1) M rt cl sr sc su rT rV bd bT bV fn ar aT aV crT crV cN cU cB cbT cbV) : lh_Q R B n c M rt cl sr sc su rT rV bd bT bV fn ar aT aV crT crV cN cU cB cbT cbV := by
  obtain ⟨h1, h2, h3, h4, h5, h6, h7, h8⟩ := h
  exact ⟨h1, h2, h3, by omega, h5, h6, h7, lh_S_pop h8⟩
theorem lh_cp_i0 {f : Nat → Int32} {fs : Nat} {t : Nat → Int32} {m i : Nat} (h : i < m) : lh_cp f fs t 0 m i = f (fs + i) := by
  have h1 := lh_cp_i (f := f) (fs := fs) (t := t) (ts := 0) h
  rw [Nat.zero_add] at h1
  exact h1
theorem lq_back (h : lh_Q R B n (c + 1) M rt cl sr sc su rT rV bd bT bV fn ar aT aV crT crV cN cU cB cbT cbV) :
    (M c ≤ 240 ∧ lh_ad ar (M c) ≤ 240 ∧ cN c = nI (M c) ∧ cU c = nI (lh_ad ar (M c)) ∧ su c = nI (lh_ad ar (M c))) ∧
    lh_Q R B (M c) (c + 1) M (lh_cp sr (c * 8) rt 0 R) (lh_cp sc (c * 240) cl 0 (lh_ad ar (M c))) sr sc su (lh_cp crT (c * 8) rT 0 8) (lh_cp crV (c * 8) rV 0 8) (lh_cp (fun i => vp_nar .boolean (cB i)) (c * 240) bd 0 (M c)) (lh_cp cbT (c * 240) bT 0 (M c)) (lh_cp cbV (c * 240) bV 0 (M c)) fn ar aT aV crT crV cN cU cB cbT cbV := by
  obtain ⟨h1, h2, h3, h4, h5, h6, h7, h8⟩ := h
  obtain ⟨g1, g2, g3, g4, g5, g6, g7⟩ := h8 c (by omega)
  have ha := lh_ad_le ar g1
  have hs := lh_S_back (rt' := lh_cp sr (c * 8) rt 0 R) (cl' := lh_cp sc (c * 240) cl 0 (lh_ad ar (M c))) (rT' := lh_cp crT (c * 8) rT 0 8) (rV' := lh_cp crV (c * 8) rV 0 8)
    (bd' := lh_cp (fun i => vp_nar .boolean (cB i)) (c * 240) bd 0 (M c)) (bT' := lh_cp cbT (c * 240) bT 0 (M c)) (bV' := lh_cp cbV (c * 240) bV 0 (M c)) h8
    (fun i hi => lh_cp_i0 hi) (fun i hi => lh_cp_i0 (by omega)) (fun i hi => lh_cp_i0 (by omega)) (fun i hi => lh_cp_i0 hi)
    (fun i hi hz => by rw [lh_cp_i0 hi]; exact lq_b01 (lq_bd g6 hi hz)) (fun i hi => lh_cp_i0 hi) (fun i hi => lh_cp_i0 hi)
  exact ⟨⟨lh_n240 g6.1, g6.1, g3, g4, g5⟩, h1, h2, h3, h4, by omega, hs.2.1, hs.2.2, hs.1⟩
end
end
section
/-- a state of the class that is some run's -/
def lj_G (u : St2) : Prop :=
  ∃ (R B n c : Nat) (M : Nat → Nat) (rt cl sr sc su tn rT rV bd bT bV fn ar aT aV crT crV cN cU cB cbT cbV : Nat → Int32),
    u = (nI R, nI B, nI (lh_ad ar n), nI c, rt, cl, sr, sc, su, tn) ∧ lh_Q R B n c M rt cl sr sc su rT rV bd bT bV fn ar aT aV crT crV cN cU cB cbT cbV
theorem lj_mk {R B n c : Nat} {M : Nat → Nat} {xU : Int32} {rt cl sr sc su tn rT rV bd bT bV fn ar aT aV crT crV cN cU cB cbT cbV : Nat → Int32}
    (e1 : xU = nI (lh_ad ar n)) (q : lh_Q R B n c M rt cl sr sc su rT rV bd bT bV fn ar aT aV crT crV cN cU cB cbT cbV) : lj_G (nI R, nI B, xU, nI c, rt, cl, sr, sc, su, tn) := by
  subst e1
  exact ⟨R, B, n, c, M, rt, cl, sr, sc, su, tn, rT, rV, bd, bT, bV, fn, ar, aT, aV, crT, crV, cN, cU, cB, cbT, cbV, rfl, q⟩
theorem lh_jj {R j j' : Nat} {r : Int32} (hR : R ≤ 8) (hj : j < R) (hj' : j' < R) (e : r = nI j) (e' : r = nI j') : j' = j := by
  rw [e, nI_eq (by omega) (by omega)] at e'
  exact e'.symm
theorem lh_nn {j j' : Nat} {r : Int32} (hj : j < 2 ^ 31) (hj' : j' < 2 ^ 31) (e : r = nI j) (e' : r = nI j') : j' = j := by
  rw [e, nI_eq hj hj'] at e'
  exact e'.symm
theorem lh_cst_ok {n : Nat} {ar : Nat → Int32} {k v : Int32} (h : lh_cst k v) : lh_ok n ar k v ∧ lh_pk v k = lh_en ar k v := by
  rcases h with ⟨rfl, h1, h2⟩ | ⟨rfl, h1, h2⟩
  · rw [Int32.le_iff_toInt_le] at h1 h2
    rw [show (0 : Int32).toInt = 0 from rfl] at h1
    rw [show (4095 : Int32).toInt = 4095 from rfl] at h2
    exact ⟨Or.inl ⟨Or.inl rfl, by omega, by omega⟩, (lh_en_k ar (Or.inl rfl)).symm⟩
  · rw [Int32.le_iff_toInt_le] at h1 h2
    rw [show (-32768 : Int32).toInt = -32768 from rfl] at h1
    rw [show (32767 : Int32).toInt = 32767 from rfl] at h2
    exact ⟨Or.inl ⟨Or.inr rfl, by omega, by omega⟩, (lh_en_k ar (Or.inr rfl)).symm⟩
theorem lh_cp_t0 (f : Nat → Int32) (fs : Nat) (t : Nat → Int32) (m : Nat) : upd (lh_cp f fs t 0 m) m (f (fs + m)) = lh_cp f fs t 0 (m + 1) := by
  have h := lh_cp_s f fs t 0 m
  rw [Nat.zero_add] at h
  exact h
theorem lj_setConst {u : St2} (g : lj_G u) (p0 p1 p2 : Int32) : ∃ (r : Int32) (u' : St2), lj_G u' ∧ (r = 0 ∨ r = 1) ∧ ∀ post : Int32 → St2 → Prop, post r u' → wpX_setConst post u p0 p1 p2 := by
  obtain ⟨R, B, n, c, M, rt, cl, sr, sc, su, tn, rT, rV, bd, bT, bV, fn, ar, aT, aV, crT, crV, cN, cU, cB, cbT, cbV, rfl, q⟩ := g
  have hR := q.2.1
  by_cases h : lh_ro R p0 ∧ lh_cst p1 p2
  · obtain ⟨⟨j, hj, rfl⟩, hc⟩ := h
    obtain ⟨k1, k2⟩ := lh_cst_ok (n := n) (ar := ar) hc
    refine ⟨1, (nI R, nI B, nI (lh_ad ar n), nI c, upd rt j (lh_pk p2 p1), cl, sr, sc, su, tn), lj_mk rfl (lq_root q j k1 k2), Or.inr rfl, fun post hp => lx_setConst hR (fun j' hj' e' _ => ?_) (fun h => absurd ⟨⟨j, hj, rfl⟩, hc⟩ h)⟩
    have ej := lh_jj hR hj hj' rfl e'
    subst ej
    exact hp
  · exact ⟨0, (nI R, nI B, nI (lh_ad ar n), nI c, rt, cl, sr, sc, su, tn), lj_mk rfl q, Or.inl rfl, fun post hp => lx_setConst hR (fun j hj e hc => absurd ⟨⟨j, hj, e⟩, hc⟩ h) (fun _ => hp)⟩
theorem lj_newVar {u : St2} (g : lj_G u) (p0 : Int32) : ∃ (r : Int32) (u' : St2), lj_G u' ∧ (r = 0 ∨ r = 1) ∧ ∀ post : Int32 → St2 → Prop, post r u' → wpX_newVar post u p0 := by
  obtain ⟨R, B, n, c, M, rt, cl, sr, sc, su, tn, rT, rV, bd, bT, bV, fn, ar, aT, aV, crT, crV, cN, cU, cB, cbT, cbV, rfl, q⟩ := g
  have hR := q.2.1
  have hB := q.2.2.1
  have hU := q.2.2.2.2.1
  by_cases h : lh_ro R p0 ∧ lh_ad ar n + 1 ≤ B
  · obtain ⟨⟨j, hj, rfl⟩, hc⟩ := h
    refine ⟨1, (nI R, nI B, nI (lh_ad ar n + 1), nI c, upd rt j (lh_pk (nI (lh_ad ar n)) 1), upd cl (lh_ad ar n) (lh_pk (nI (lh_ad ar n)) 1), sr, sc, su, tn), lj_mk (congrArg nI lq_adv.symm) (lq_var q j hc), Or.inr rfl,
      fun post hp => lx_newVar hR hB hU (fun j' hj' e' _ => ?_) (fun h => absurd ⟨⟨j, hj, rfl⟩, hc⟩ h)⟩
    have ej := lh_jj hR hj hj' rfl e'
    subst ej
    exact hp
  · exact ⟨0, (nI R, nI B, nI (lh_ad ar n), nI c, rt, cl, sr, sc, su, tn), lj_mk rfl q, Or.inl rfl, fun post hp => lx_newVar hR hB hU (fun j hj e hc => absurd ⟨⟨j, hj, e⟩, hc⟩ h) (fun _ => hp)⟩
theorem lj_build {u : St2} (g : lj_G u) (p0 p1 p2 p3 : Int32) : ∃ (r : Int32) (u' : St2), lj_G u' ∧ (r = 0 ∨ r = 1) ∧ ∀ post : Int32 → St2 → Prop, post r u' → wpX_build post u p0 p1 p2 p3 := by
  obtain ⟨R, B, n, c, M, rt, cl, sr, sc, su, tn, rT, rV, bd, bT, bV, fn, ar, aT, aV, crT, crV, cN, cU, cB, cbT, cbV, rfl, q⟩ := g
  have hR := q.2.1
  have hB := q.2.2.1
  have hU := q.2.2.2.2.1
  by_cases h : lh_bc R B (lh_ad ar n) p0 p1 p2 p3
  · obtain ⟨j, f, m, i, h1, h2, h3, h4, h5, h6, rfl, rfl, rfl, rfl⟩ := h
    refine ⟨1, (nI R, nI B, nI (lh_ad ar n + (1 + m)), nI c, upd rt j (lh_pk (nI (lh_ad ar n)) 4), lh_cp rt i (upd cl (lh_ad ar n) (lh_pk (nI f) (nI m))) (lh_ad ar n + 1) m, sr, sc, su, tn), lj_mk (congrArg nI (lq_adb h4).symm) (lq_build q j h2 h3 h4 h5 h6), Or.inr rfl,
      fun post hp => lx_build hR hB hU (fun j' f' m' i' g1 g2 g3 g4 g5 g6 d0 d1 d2 d3 => ?_) (fun h => absurd ⟨j, f, m, i, h1, h2, h3, h4, h5, h6, rfl, rfl, rfl, rfl⟩ h)⟩
    have x0 := lh_jj hR h1 g1 rfl d0
    have x1 := lh_nn (by omega) (by omega) rfl d1
    have x2 := lh_nn (by omega) (by omega) rfl d2
    have x3 := lh_nn (by omega) (by omega) rfl d3
    subst x0 x1 x2 x3
    exact hp
  · exact ⟨0, (nI R, nI B, nI (lh_ad ar n), nI c, rt, cl, sr, sc, su, tn), lj_mk rfl q, Or.inl rfl, fun post hp => lx_build hR hB hU (fun j f m i h1 h2 h3 h4 h5 h6 e0 e1 e2 e3 => absurd ⟨j, f, m, i, h1, h2, h3, h4, h5, h6, e0, e1, e2, e3⟩ h) (fun _ => hp)⟩
theorem lj_move {u : St2} (g : lj_G u) (p0 p1 : Int32) : ∃ (r : Int32) (u' : St2), lj_G u' ∧ (r = 0 ∨ r = 1) ∧ ∀ post : Int32 → St2 → Prop, post r u' → wpX_move post u p0 p1 := by
  obtain ⟨R, B, n, c, M, rt, cl, sr, sc, su, tn, rT, rV, bd, bT, bV, fn, ar, aT, aV, crT, crV, cN, cU, cB, cbT, cbV, rfl, q⟩ := g
  have hR := q.2.1
  have Rt := q.2.2.2.2.2.2.1
  by_cases h : lh_ro R p0 ∧ lh_ro R p1
  · obtain ⟨⟨j, hj, rfl⟩, ⟨i, hi, rfl⟩⟩ := h
    refine ⟨1, (nI R, nI B, nI (lh_ad ar n), nI c, upd rt j (rt i), cl, sr, sc, su, tn), lj_mk rfl (lq_root q j (Rt i hi).1 (Rt i hi).2), Or.inr rfl,
      fun post hp => lx_move hR (fun j' i' g1 g2 d0 d1 => ?_) (fun h => absurd ⟨⟨j, hj, rfl⟩, ⟨i, hi, rfl⟩⟩ h)⟩
    have x0 := lh_jj hR hj g1 rfl d0
    have x1 := lh_jj hR hi g2 rfl d1
    subst x0 x1
    exact hp
  · exact ⟨0, (nI R, nI B, nI (lh_ad ar n), nI c, rt, cl, sr, sc, su, tn), lj_mk rfl q, Or.inl rfl, fun post hp => lx_move hR (fun j i h1 h2 e0 e1 => absurd ⟨⟨j, h1, e0⟩, ⟨i, h2, e1⟩⟩ h) (fun _ => hp)⟩
theorem lj_getArg {u : St2} (g : lj_G u) (p0 p1 p2 : Int32) : ∃ (r : Int32) (u' : St2), lj_G u' ∧ (r = 0 ∨ r = 1) ∧ ∀ post : Int32 → St2 → Prop, post r u' → wpX_getArg post u p0 p1 p2 := by
  obtain ⟨R, B, n, c, M, rt, cl, sr, sc, su, tn, rT, rV, bd, bT, bV, fn, ar, aT, aV, crT, crV, cN, cU, cB, cbT, cbV, rfl, q⟩ := g
  have hR := q.2.1
  have H := q.2.2.2.2.2.1
  have Rt := q.2.2.2.2.2.2.1
  by_cases h : ∃ j i k : Nat, j < R ∧ i < R ∧ 1 ≤ k ∧ k ≤ lh_nc ar (lh_D bd bT bV (rT i, rV i)) ∧ p0 = nI j ∧ p1 = nI i ∧ p2 = nI k
  · have h' := h
    obtain ⟨j, i, k, h1, h2, h3, h4, rfl, rfl, rfl⟩ := h
    have okD := (lh_D_ok H (p := (rT i, rV i)) (Rt i h2).1).1
    have hn4 := lh_nc4 H okD
    refine ⟨1, (nI R, nI B, nI (lh_ad ar n), nI c, upd rt j (lh_en ar (lh_ch aT aV (lh_D bd bT bV (rT i, rV i)) (k - 1)).1 (lh_ch aT aV (lh_D bd bT bV (rT i, rV i)) (k - 1)).2), cl, sr, sc, su, tn),
      lj_mk rfl (lq_root q j (lh_ch_ok H okD (j := k - 1) (by omega)) rfl), Or.inr rfl, fun post hp => lx_getArg hR H Rt (fun j' i' k' g1 g2 g3 g4 d0 d1 d2 => ?_) (fun h => absurd h' h)⟩
    have x0 := lh_jj hR h1 g1 rfl d0
    have x1 := lh_jj hR h2 g2 rfl d1
    subst x0 x1
    have x2 := lh_nn (by omega) (by omega) rfl d2
    subst x2
    exact hp
  · exact ⟨0, (nI R, nI B, nI (lh_ad ar n), nI c, rt, cl, sr, sc, su, tn), lj_mk rfl q, Or.inl rfl, fun post hp => lx_getArg hR H Rt (fun j i k h1 h2 h3 h4 e0 e1 e2 => absurd ⟨j, i, k, h1, h2, h3, h4, e0, e1, e2⟩ h) (fun _ => hp)⟩
theorem lj_push {u : St2} (g : lj_G u) : ∃ (r : Int32) (u' : St2), lj_G u' ∧ (r = 0 ∨ r = 1) ∧ ∀ post : Int32 → St2 → Prop, post r u' → wpX_pushChoice post u := by
  obtain ⟨R, B, n, c, M, rt, cl, sr, sc, su, tn, rT, rV, bd, bT, bV, fn, ar, aT, aV, crT, crV, cN, cU, cB, cbT, cbV, rfl, q⟩ := g
  have hR := q.2.1
  have hc := q.2.2.2.1
  have hH := q.2.2.2.2.2.1.1
  by_cases h : c < 8
  · exact ⟨1, (nI R, nI B, nI (lh_ad ar n), nI (c + 1), rt, cl, lh_cp rt 0 sr (c * 8) R, lh_cp cl 0 sc (c * 240) (lh_ad ar n), upd su c (nI (lh_ad ar n)), tn), lj_mk rfl (lq_push q h), Or.inr rfl,
      fun post hp => lx_push hR hH hc (fun _ => hp) (fun h' => absurd h' (by omega))⟩
  · exact ⟨0, (nI R, nI B, nI (lh_ad ar n), nI c, rt, cl, sr, sc, su, tn), lj_mk rfl q, Or.inl rfl, fun post hp => lx_push hR hH hc (fun h' => absurd h' (by omega)) (fun _ => hp)⟩
theorem lj_back {u : St2} (g : lj_G u) : ∃ (r : Int32) (u' : St2), lj_G u' ∧ (r = 0 ∨ r = 1) ∧ ∀ post : Int32 → St2 → Prop, post r u' → wpX_backtrack post u := by
  obtain ⟨R, B, n, c, M, rt, cl, sr, sc, su, tn, rT, rV, bd, bT, bV, fn, ar, aT, aV, crT, crV, cN, cU, cB, cbT, cbV, rfl, q⟩ := g
  have hR := q.2.1
  have hc := q.2.2.2.1
  cases c with
  | zero => exact ⟨0, (nI R, nI B, nI (lh_ad ar n), nI 0, rt, cl, sr, sc, su, tn), lj_mk rfl q, Or.inl rfl, fun post hp => lx_back hR hc (fun c' e => absurd e (by omega)) (fun _ => hp)⟩
  | succ c =>
    obtain ⟨⟨g1, g2, g3, g4, g5⟩, g6⟩ := lq_back q
    refine ⟨1, (nI R, nI B, nI (lh_ad ar (M c)), nI (c + 1), lh_cp sr (c * 8) rt 0 R, lh_cp sc (c * 240) cl 0 (lh_ad ar (M c)), sr, sc, su, tn), lj_mk rfl g6, Or.inr rfl, fun post hp => lx_back hR hc (fun c' e => ?_) (fun e => absurd e (by omega))⟩
    have e' : c' = c := by omega
    subst e'
    exact ⟨lh_ad ar (M c'), g2, g5, hp⟩
theorem lj_pop {u : St2} (g : lj_G u) : ∃ (r : Int32) (u' : St2), lj_G u' ∧ (r = 0 ∨ r = 1) ∧ ∀ post : Int32 → St2 → Prop, post r u' → wpX_popChoice post u := by
  obtain ⟨R, B, n, c, M, rt, cl, sr, sc, su, tn, rT, rV, bd, bT, bV, fn, ar, aT, aV, crT, crV, cN, cU, cB, cbT, cbV, rfl, q⟩ := g
  have hc := q.2.2.2.1
  cases c with
  | zero => exact ⟨0, (nI R, nI B, nI (lh_ad ar n), nI 0, rt, cl, sr, sc, su, tn), lj_mk rfl q, Or.inl rfl, fun post hp => lx_pop hc (fun c' e => absurd e (by omega)) (fun _ => hp)⟩
  | succ c =>
    refine ⟨1, (nI R, nI B, nI (lh_ad ar n), nI c, rt, cl, sr, sc, su, tn), lj_mk rfl (lq_pop q), Or.inr rfl, fun post hp => lx_pop hc (fun c' e => ?_) (fun e => absurd e (by omega))⟩
    have e' : c' = c := by omega
    subst e'
    exact hp
theorem lj_used {u : St2} : ∃ r : Int32, ∀ post : Int32 → Prop, post r → wpX_used post u := by
  obtain ⟨xR, xB, xU, xC, rt, cl, sr, sc, su, tn⟩ := u
  exact ⟨xU, fun post hp => hp⟩
theorem lj_kind {u : St2} (g : lj_G u) (p0 : Int32) : ∃ r : Int32, ∀ post : Int32 → Prop, post r → wpX_kind post u p0 := by
  obtain ⟨R, B, n, c, M, rt, cl, sr, sc, su, tn, rT, rV, bd, bT, bV, fn, ar, aT, aV, crT, crV, cN, cU, cB, cbT, cbV, rfl, q⟩ := g
  have hR := q.2.1
  have H := q.2.2.2.2.2.1
  have Rt := q.2.2.2.2.2.2.1
  by_cases h : lh_ro R p0
  · obtain ⟨j, hj, rfl⟩ := h
    refine ⟨(lh_D bd bT bV (rT j, rV j)).1, fun post hp => lx_kind hR H Rt (fun j' hj' e' => ?_) (fun h => absurd ⟨j, hj, rfl⟩ h)⟩
    have ej := lh_jj hR hj hj' rfl e'
    subst ej
    exact hp
  · exact ⟨0, fun post hp => lx_kind hR H Rt (fun j hj e => absurd ⟨j, hj, e⟩ h) (fun _ => hp)⟩
theorem lj_arity {u : St2} (g : lj_G u) (p0 : Int32) : ∃ r : Int32, ∀ post : Int32 → Prop, post r → wpX_arity post u p0 := by
  obtain ⟨R, B, n, c, M, rt, cl, sr, sc, su, tn, rT, rV, bd, bT, bV, fn, ar, aT, aV, crT, crV, cN, cU, cB, cbT, cbV, rfl, q⟩ := g
  have hR := q.2.1
  have H := q.2.2.2.2.2.1
  have Rt := q.2.2.2.2.2.2.1
  by_cases h : lh_ro R p0
  · obtain ⟨j, hj, rfl⟩ := h
    refine ⟨nI (lh_nc ar (lh_D bd bT bV (rT j, rV j))), fun post hp => lx_arity hR H Rt (fun j' hj' e' => ?_) (fun h => absurd ⟨j, hj, rfl⟩ h)⟩
    have ej := lh_jj hR hj hj' rfl e'
    subst ej
    exact hp
  · exact ⟨0, fun post hp => lx_arity hR H Rt (fun j hj e => absurd ⟨j, hj, e⟩ h) (fun _ => hp)⟩
theorem lj_value {u : St2} (g : lj_G u) (p0 : Int32) : ∃ r : Int32, ∀ post : Int32 → Prop, post r → wpX_value post u p0 := by
  obtain ⟨R, B, n, c, M, rt, cl, sr, sc, su, tn, rT, rV, bd, bT, bV, fn, ar, aT, aV, crT, crV, cN, cU, cB, cbT, cbV, rfl, q⟩ := g
  have hR := q.2.1
  have H := q.2.2.2.2.2.1
  have Rt := q.2.2.2.2.2.2.1
  by_cases h : lh_ro R p0
  · obtain ⟨j, hj, rfl⟩ := h
    refine ⟨lh_val fn (lh_D bd bT bV (rT j, rV j)), fun post hp => lx_value hR H Rt (fun j' hj' e' => ?_) (fun h => absurd ⟨j, hj, rfl⟩ h)⟩
    have ej := lh_jj hR hj hj' rfl e'
    subst ej
    exact hp
  · exact ⟨0, fun post hp => lx_value hR H Rt (fun j hj e => absurd ⟨j, hj, e⟩ h) (fun _ => hp)⟩
theorem lj_sameVar {u : St2} (g : lj_G u) (p0 p1 : Int32) : ∃ r : Int32, ∀ post : Int32 → Prop, post r → wpX_sameVar post u p0 p1 := by
  obtain ⟨R, B, n, c, M, rt, cl, sr, sc, su, tn, rT, rV, bd, bT, bV, fn, ar, aT, aV, crT, crV, cN, cU, cB, cbT, cbV, rfl, q⟩ := g
  have hR := q.2.1
  have H := q.2.2.2.2.2.1
  have Rt := q.2.2.2.2.2.2.1
  by_cases h : ∃ j i : Nat, j < R ∧ i < R ∧ p0 = nI j ∧ p1 = nI i ∧ lh_D bd bT bV (rT j, rV j) = lh_D bd bT bV (rT i, rV i) ∧ (lh_D bd bT bV (rT j, rV j)).1 = 1
  · exact ⟨1, fun post hp => lx_sameVar hR H Rt (fun _ _ _ _ _ _ _ _ => hp) (fun h' => absurd h h')⟩
  · exact ⟨0, fun post hp => lx_sameVar hR H Rt (fun j i h1 h2 e0 e1 h3 h4 => absurd ⟨j, i, h1, h2, e0, e1, h3, h4⟩ h) (fun _ => hp)⟩
theorem lj_treeSize {u : St2} (g : lj_G u) (p0 : Int32) : ∃ (r : Int32) (u' : St2), lj_G u' ∧ ∀ post : Int32 → St2 → Prop, post r u' → wpX_treeSize post u p0 := by
  obtain ⟨R, B, n, c, M, rt, cl, sr, sc, su, tn, rT, rV, bd, bT, bV, fn, ar, aT, aV, crT, crV, cN, cU, cB, cbT, cbV, rfl, q⟩ := g
  have hR := q.2.1
  have H := q.2.2.2.2.2.1
  have Rt := q.2.2.2.2.2.2.1
  by_cases h : lh_ro R p0
  · obtain ⟨j, hj, rfl⟩ := h
    obtain ⟨cx, tn', hP, hx⟩ := lx_treeSize (xB := nI B) (xU := nI (lh_ad ar n)) (xC := nI c) (sr := sr) (sc := sc) (su := su) (tn := tn) hR H Rt hj
    exact ⟨nI cx, _, lj_mk rfl q, hx⟩
  · exact ⟨0, (nI R, nI B, nI (lh_ad ar n), nI c, rt, cl, sr, sc, su, tn), lj_mk rfl q, fun post hp => lx_treeNo hR h hp⟩
theorem lj_bind {u : St2} (g : lj_G u) (p0 p1 : Int32) : ∃ (r : Int32) (u' : St2), lj_G u' ∧ ∀ post : Int32 → St2 → Prop, post r u' → wpX_bind post u p0 p1 := by
  obtain ⟨R, B, n, c, M, rt, cl, sr, sc, su, tn, rT, rV, bd, bT, bV, fn, ar, aT, aV, crT, crV, cN, cU, cB, cbT, cbV, rfl, q⟩ := g
  have hR := q.2.1
  have H := q.2.2.2.2.2.1
  have hn := lh_n240 H.1
  have Rt := q.2.2.2.2.2.2.1
  by_cases hr : lh_ro R p0 ∧ lh_ro R p1
  · obtain ⟨⟨j, hj, rfl⟩, ⟨i, hi, rfl⟩⟩ := hr
    obtain ⟨⟨T0, V0⟩, ha⟩ : ∃ y, lh_D bd bT bV (rT j, rV j) = y := ⟨_, rfl⟩
    obtain ⟨⟨T, V⟩, hb⟩ : ∃ y, lh_D bd bT bV (rT i, rV i) = y := ⟨_, rfl⟩
    have okA := (lh_D_ok H (p := (rT j, rV j)) (Rt j hj).1)
    rw [ha] at okA
    have okB := (lh_D_ok H (p := (rT i, rV i)) (Rt i hi).1)
    rw [hb] at okB
    dsimp only at okA okB
    by_cases h1 : T0 = 1
    · obtain ⟨va, hva, hv, hz⟩ := lh_node (p := (T0, V0)) okA.1 (Or.inl rfl) h1
      have hz0 : ar va = 0 := by
        rcases hz with hz | hz
        · exact hz.2
        · exact absurd hz.1 (by decide)
      dsimp only at hv
      subst h1 hv
      obtain ⟨cx, tn', hP, hx⟩ := lx_bindB (xB := nI B) (xU := nI (lh_ad ar n)) (xC := nI c) (sr := sr) (sc := sc) (su := su) (tn := tn) hR H Rt hj hi hva ha hb
      by_cases hc : cx ≤ 1000
      · by_cases hab : T = 1 ∧ V = nI va
        · exact ⟨1, (nI R, nI B, nI (lh_ad ar n), nI c, rt, cl, sr, sc, su, tn'), lj_mk rfl q, fun post hp => hx post (fun h' => absurd h' (by omega)) (fun _ _ => hp)
            (fun _ vb hvb hne _ hV => absurd (lh_nn (j := va) (j' := vb) (by omega) (by omega) hab.2 hV) hne) (fun _ hT => absurd hab.1 hT)⟩
        · by_cases hT : T = 1
          · obtain ⟨vb, hvb, hv, hz⟩ := lh_node (p := (T, V)) okB.1 (Or.inl rfl) hT
            have hzb : ar vb = 0 := by
              rcases hz with hz | hz
              · exact hz.2
              · exact absurd hz.1 (by decide)
            dsimp only at hv
            have hne : vb ≠ va := fun e => hab ⟨hT, by rw [hv, e]⟩
            by_cases hlt : va < vb
            · refine ⟨1, (nI R, nI B, nI (lh_ad ar n), nI c, rt, upd cl (lh_ad ar vb) (lh_en ar 1 (nI va)), sr, sc, su, tn'), lj_mk rfl (lq_bind q (lh_Hp_b H hvb hzb okA.1 (fun _ => by rw [nI_clamp (by omega)]; exact hlt) rfl)),
                fun post hp => hx post (fun h' => absurd h' (by omega)) (fun _ z => absurd z hab) (fun _ vb' hvb' _ _ hV' => ?_) (fun _ hT' => absurd hT hT')⟩
              have e := lh_nn (j := vb) (j' := vb') (by omega) (by omega) hv hV'
              subst e
              exact ⟨fun _ => hp, fun h' => absurd h' (by omega)⟩
            · have hgt : vb < va := by omega
              subst hT hv
              refine ⟨1, (nI R, nI B, nI (lh_ad ar n), nI c, rt, upd cl (lh_ad ar va) (lh_en ar 1 (nI vb)), sr, sc, su, tn'), lj_mk rfl (lq_bind q (lh_Hp_b H hva hz0 okB.1 (fun _ => by rw [nI_clamp (by omega)]; exact hgt) rfl)),
                fun post hp => hx post (fun h' => absurd h' (by omega)) (fun _ z => absurd z hab) (fun _ vb' hvb' _ _ hV' => ?_) (fun _ hT' => absurd rfl hT')⟩
              have e := lh_nn (j := vb) (j' := vb') (by omega) (by omega) rfl hV'
              subst e
              exact ⟨fun h' => absurd h' (by omega), fun _ => hp⟩
          · by_cases hl : ∃ k, k < cx ∧ tn' k = lh_en ar 1 (nI va)
            · exact ⟨0, (nI R, nI B, nI (lh_ad ar n), nI c, rt, cl, sr, sc, su, tn'), lj_mk rfl q, fun post hp => hx post (fun h' => absurd h' (by omega)) (fun _ z => absurd z hab)
                (fun _ _ _ _ hT' => absurd hT' hT) (fun _ _ => ⟨fun _ => hp, fun h' => absurd hl h'⟩)⟩
            · exact ⟨1, (nI R, nI B, nI (lh_ad ar n), nI c, rt, upd cl (lh_ad ar va) (lh_en ar T V), sr, sc, su, tn'), lj_mk rfl (lq_bind q (lh_Hp_b H hva hz0 okB.1 (fun z => absurd z hT) rfl)),
                fun post hp => hx post (fun h' => absurd h' (by omega)) (fun _ z => absurd z hab) (fun _ _ _ _ hT' => absurd hT' hT) (fun _ _ => ⟨fun h' => absurd h' hl, fun _ => hp⟩)⟩
      · exact ⟨-1, (nI R, nI B, nI (lh_ad ar n), nI c, rt, cl, sr, sc, su, tn'), lj_mk rfl q, fun post hp => hx post (fun _ => hp) (fun h' => absurd h' hc) (fun h' => absurd h' hc) (fun h' => absurd h' hc)⟩
    · exact ⟨-1, (nI R, nI B, nI (lh_ad ar n), nI c, rt, cl, sr, sc, su, tn), lj_mk rfl q, fun post hp => lx_bindA hR H Rt hj hi ha h1 hp⟩
  · exact ⟨-1, (nI R, nI B, nI (lh_ad ar n), nI c, rt, cl, sr, sc, su, tn), lj_mk rfl q, fun post hp => lx_bindN hR hr hp⟩
theorem lq_0 {R B : Nat} (h1 : 2 ≤ R) (h2 : R ≤ 8) (h3 : B ≤ 240) : lh_Q R B 0 0 (fun _ => 0) (lh_cp (fun _ => lh_pk 0 2) 0 (fun _ => 0) 0 8) (fun _ => 0) (fun _ => 0) (fun _ => 0) (fun _ => 0) (lh_cp (fun _ => 2) 0 (fun _ => 0) 0 8) (lh_cp (fun _ => 0) 0 (fun _ => 0) 0 8)
    (fun _ => 0) (fun _ => 0) (fun _ => 0) (fun _ => 0) (fun _ => 0) (fun _ => 0) (fun _ => 0) (fun _ => 0) (fun _ => 0) (fun _ => 0) (fun _ => 0) (fun _ => 0) (fun _ => 0) (fun _ => 0) := by
  refine ⟨h1, h2, h3, by omega, Nat.zero_le _, ⟨Nat.zero_le _, ?_, ?_, ?_, ?_⟩, ?_, ?_⟩
  · exact fun i hi => absurd hi (Nat.not_lt_zero i)
  · exact fun i hi => absurd hi (Nat.not_lt_zero i)
  · exact fun i hi => absurd hi (Nat.not_lt_zero i)
  · exact fun i hi => absurd hi (Nat.not_lt_zero i)
  · intro r hr
    rw [lh_cp_i0 (by omega), lh_cp_i0 (by omega), lh_cp_i0 (by omega)]
    exact ⟨Or.inl ⟨Or.inl rfl, by decide, by decide⟩, (lh_en_k _ (Or.inl rfl)).symm⟩
  · exact fun i hi => absurd hi (Nat.not_lt_zero i)
theorem lj_clamp (x : Int32) {a b : Nat} (hab : a ≤ b) (hb : b < 2 ^ 31) : ∃ j, a ≤ j ∧ j ≤ b ∧ ∀ post : Int32 → Prop, post (nI j) → wpX_clamp post () x (nI a) (nI b) := by
  by_cases h1 : nI a ≤ x
  · by_cases h2 : x ≤ nI b
    · obtain ⟨j, ha, hj, e⟩ := lh_rng hb h1 h2 (by omega)
      refine ⟨j, ha, hj, fun post hp => br_t h1 (br_t h2 ?_)⟩
      rw [e]
      exact hp
    · exact ⟨b, hab, Nat.le_refl b, fun post hp => br_t h1 (br_f h2 hp)⟩
  · exact ⟨a, Nat.le_refl a, hab, fun post hp => br_f h1 hp⟩
theorem lj_init (k0 k1 : Int32) : ∃ u : St2, lj_G u ∧ ∀ post : St2 → Prop, post u → wpX_init post 6 3240 (0, 0, 0, 0) k0 k1 := by
  obtain ⟨R, hR1, hR2, hR⟩ := lj_clamp k0 (a := 2) (b := 8) (by omega) (by omega)
  obtain ⟨B, hB1, hB2, hB⟩ := lj_clamp k1 (a := 16) (b := 240) (by omega) (by omega)
  refine ⟨(nI R, nI B, 0, 0, lh_cp (fun _ => lh_pk 0 2) 0 (fun _ => 0) 0 8, (fun _ => 0), (fun _ => 0), (fun _ => 0), (fun _ => 0), (fun _ => 0)), lj_mk (n := 0) (c := 0) rfl (lq_0 hR1 hR2 hB2), fun post hp => ?_⟩
  unfold wpX_init
  dsimp only
  refine ⟨by omega, by omega, by omega, by omega, by omega, by omega, by omega, by omega, by omega, by omega, by omega, by omega, hR _ (hB _ (lx_pack ?_))⟩
  refine loop_0 (fun g x z => wX_init_98 post 6 3240 (lh_pk 0 2) 6 3240 (nI R) (nI B) 0 0 g (nI x) z (fun _ => 0) (fun _ => 0) (fun _ => 0) (fun _ => 0) (fun _ => 0)) (fun x z => z = lh_cp (fun _ => lh_pk 0 2) 0 (fun _ => 0) 0 x) 8 (fun _ => 0) ?_ ?_ ?_
  · rw [lh_cp_0]
  · intro g z hz
    subst hz
    exact br_t (nI_le (a := 8) (by omega) (by decide)) hp
  · intro g x z hx hz ih
    subst hz
    have e : (nI x).toNatClampNeg = x := nI_clamp (by omega)
    refine br_f (nI_ge (b := 8) hx (by decide)) ⟨vp_in_nI hx (by omega), ?_⟩
    rw [e]
    exact nm_r (lh_cp_t0 (fun _ => lh_pk 0 2) 0 (fun _ => 0) x) (nm_r (nI_1 x) (ih _ rfl))
end
section
abbrev lj_T80 : Type := Int32 → Int32 → Int32 → Int32 → Int32 → (Nat → Int32) → (Nat → Int32) → (Nat → Int32) → (Nat → Int32) → (Nat → Int32) → (Nat → Int32) → Int32 → Int32 → Int32 → Int32 → (Nat → Int32) → (Nat → Int32) → (Nat → Int32) → (Nat → Int32) → (Nat → Int32) → (Nat → Int32) → Prop
abbrev lj_T344 : Type := Int32 → Int32 → Int32 → Int32 → Int32 → Int32 → Int32 → (Nat → Int32) → (Nat → Int32) → (Nat → Int32) → (Nat → Int32) → (Nat → Int32) → (Nat → Int32) → Int32 → Int32 → Int32 → Int32 → (Nat → Int32) → (Nat → Int32) → (Nat → Int32) → (Nat → Int32) → (Nat → Int32) → (Nat → Int32) → Prop
/-- an operation, on the first object and on the second -/
def lj_Op (k : Nat) (x10 x11 x12 x13 : Int32) (xR xB xU xC : Int32) (rt cl sr sc su tn : Nat → Int32) : Prop :=
  ∃ (r xR' xB' xU' xC' : Int32) (rt' cl' sr' sc' su' tn' : Nat → Int32), lj_G (xR', xB', xU', xC', rt', cl', sr', sc', su', tn') ∧
    (∀ (post : Int32 → Prop) (L : Nat) (xs : Nat → Int32) (J80 : lj_T80) (J344 : lj_T344) (x3 x4 x7 x14 x15 : Int32) (kc ks : Nat) (zR zB zU zC : Int32) (z1 z2 z3 z4 z5 z6 : Nat → Int32), J344 r x15 1 xR' xB' xU' xC' rt' cl' sr' sc' su' tn' zR zB zU zC z1 z2 z3 z4 z5 z6 →
      wL_law_362_2 post L xs J80 J344 x3 x4 x7 (nI k) x10 x11 x12 x13 x14 x15 0 kc ks xR xB xU xC rt cl sr sc su tn zR zB zU zC z1 z2 z3 z4 z5 z6) ∧
    (∀ (post : Int32 → Prop) (L : Nat) (xs : Nat → Int32) (J80 : lj_T80) (J344 : lj_T344) (x3 x4 x7 x14 x15 : Int32) (kc ks : Nat) (zR zB zU zC : Int32) (z1 z2 z3 z4 z5 z6 : Nat → Int32), J344 x14 r 2 zR zB zU zC z1 z2 z3 z4 z5 z6 xR' xB' xU' xC' rt' cl' sr' sc' su' tn' →
      wL_law_362 post L xs J80 J344 x3 x4 x7 (nI k) x10 x11 x12 x13 x14 x15 1 kc ks zR zB zU zC z1 z2 z3 z4 z5 z6 xR xB xU xC rt cl sr sc su tn)
theorem lj_e1 : (0 : Int32) + 1 = 1 := by decide
theorem lj_e2 : (1 : Int32) + 1 = 2 := by decide
section
variable {xR xB xU xC : Int32} {rt cl sr sc su tn : Nat → Int32}
theorem lj_op0 (g : lj_G (xR, xB, xU, xC, rt, cl, sr, sc, su, tn)) (x10 x11 x12 x13 : Int32) : lj_Op 0 x10 x11 x12 x13 xR xB xU xC rt cl sr sc su tn := by
  obtain ⟨r, ⟨xR', xB', xU', xC', rt', cl', sr', sc', su', tn'⟩, g', h01, hw⟩ := lj_newVar g (x10 &&& 7)
  rcases h01 with rfl | rfl
  · refine ⟨0, xR', xB', xU', xC', rt', cl', sr', sc', su', tn', g', ?_, ?_⟩
    · intro post L xs J80 J344 x3 x4 x7 x14 x15 kc ks zR zB zU zC z1 z2 z3 z4 z5 z6 hJ
      refine br_f (by decide) (br_f (by decide) (br_t rfl ?_))
      unfold wL_law_440_2
      exact hw _ (br_t rfl (br_t rfl (nm_r lj_e1 hJ)))
    · intro post L xs J80 J344 x3 x4 x7 x14 x15 kc ks zR zB zU zC z1 z2 z3 z4 z5 z6 hJ
      refine br_f (by decide) (br_f (by decide) (br_t rfl ?_))
      unfold wL_law_440
      exact hw _ (br_t rfl (br_f (by decide) (nm_r lj_e2 hJ)))
  · refine ⟨1, xR', xB', xU', xC', rt', cl', sr', sc', su', tn', g', ?_, ?_⟩
    · intro post L xs J80 J344 x3 x4 x7 x14 x15 kc ks zR zB zU zC z1 z2 z3 z4 z5 z6 hJ
      refine br_f (by decide) (br_f (by decide) (br_t rfl ?_))
      unfold wL_law_440_2
      exact hw _ (br_f (by decide) (br_t rfl (nm_r lj_e1 hJ)))
    · intro post L xs J80 J344 x3 x4 x7 x14 x15 kc ks zR zB zU zC z1 z2 z3 z4 z5 z6 hJ
      refine br_f (by decide) (br_f (by decide) (br_t rfl ?_))
      unfold wL_law_440
      exact hw _ (br_f (by decide) (br_f (by decide) (nm_r lj_e2 hJ)))
theorem lj_op1 (g : lj_G (xR, xB, xU, xC, rt, cl, sr, sc, su, tn)) (x10 x11 x12 x13 : Int32) : lj_Op 1 x10 x11 x12 x13 xR xB xU xC rt cl sr sc su tn := by
  obtain ⟨r, ⟨xR', xB', xU', xC', rt', cl', sr', sc', su', tn'⟩, g', h01, hw⟩ := lj_newVar g (x10 &&& 7)
  rcases h01 with rfl | rfl
  · refine ⟨0, xR', xB', xU', xC', rt', cl', sr', sc', su', tn', g', ?_, ?_⟩
    · intro post L xs J80 J344 x3 x4 x7 x14 x15 kc ks zR zB zU zC z1 z2 z3 z4 z5 z6 hJ
      refine br_f (by decide) (br_f (by decide) (br_f (by decide) (br_t rfl ?_)))
      unfold wL_law_440_2
      exact hw _ (br_t rfl (br_t rfl (nm_r lj_e1 hJ)))
    · intro post L xs J80 J344 x3 x4 x7 x14 x15 kc ks zR zB zU zC z1 z2 z3 z4 z5 z6 hJ
      refine br_f (by decide) (br_f (by decide) (br_f (by decide) (br_t rfl ?_)))
      unfold wL_law_440
      exact hw _ (br_t rfl (br_f (by decide) (nm_r lj_e2 hJ)))
  · refine ⟨1, xR', xB', xU', xC', rt', cl', sr', sc', su', tn', g', ?_, ?_⟩
    · intro post L xs J80 J344 x3 x4 x7 x14 x15 kc ks zR zB zU zC z1 z2 z3 z4 z5 z6 hJ
      refine br_f (by decide) (br_f (by decide) (br_f (by decide) (br_t rfl ?_)))
      unfold wL_law_440_2
      exact hw _ (br_f (by decide) (br_t rfl (nm_r lj_e1 hJ)))
    · intro post L xs J80 J344 x3 x4 x7 x14 x15 kc ks zR zB zU zC z1 z2 z3 z4 z5 z6 hJ
      refine br_f (by decide) (br_f (by decide) (br_f (by decide) (br_t rfl ?_)))
      unfold wL_law_440
      exact hw _ (br_f (by decide) (br_f (by decide) (nm_r lj_e2 hJ)))
theorem lj_op2 (g : lj_G (xR, xB, xU, xC, rt, cl, sr, sc, su, tn)) (x10 x11 x12 x13 : Int32) : lj_Op 2 x10 x11 x12 x13 xR xB xU xC rt cl sr sc su tn := by
  obtain ⟨r, ⟨xR', xB', xU', xC', rt', cl', sr', sc', su', tn'⟩, g', h01, hw⟩ := lj_build g (x10 &&& 7) (x11 &&& 7) (1 + (x12 &&& 3)) (x13 &&& 7)
  rcases h01 with rfl | rfl
  · refine ⟨0, xR', xB', xU', xC', rt', cl', sr', sc', su', tn', g', ?_, ?_⟩
    · intro post L xs J80 J344 x3 x4 x7 x14 x15 kc ks zR zB zU zC z1 z2 z3 z4 z5 z6 hJ
      refine br_f (by decide) (br_f (by decide) (br_f (by decide) (br_f (by decide) (br_t rfl ?_))))
      unfold wL_law_463_2
      exact hw _ (br_t rfl (br_t rfl (nm_r lj_e1 hJ)))
    · intro post L xs J80 J344 x3 x4 x7 x14 x15 kc ks zR zB zU zC z1 z2 z3 z4 z5 z6 hJ
      refine br_f (by decide) (br_f (by decide) (br_f (by decide) (br_f (by decide) (br_t rfl ?_))))
      unfold wL_law_463
      exact hw _ (br_t rfl (br_f (by decide) (nm_r lj_e2 hJ)))
  · refine ⟨1, xR', xB', xU', xC', rt', cl', sr', sc', su', tn', g', ?_, ?_⟩
    · intro post L xs J80 J344 x3 x4 x7 x14 x15 kc ks zR zB zU zC z1 z2 z3 z4 z5 z6 hJ
      refine br_f (by decide) (br_f (by decide) (br_f (by decide) (br_f (by decide) (br_t rfl ?_))))
      unfold wL_law_463_2
      exact hw _ (br_f (by decide) (br_t rfl (nm_r lj_e1 hJ)))
    · intro post L xs J80 J344 x3 x4 x7 x14 x15 kc ks zR zB zU zC z1 z2 z3 z4 z5 z6 hJ
      refine br_f (by decide) (br_f (by decide) (br_f (by decide) (br_f (by decide) (br_t rfl ?_))))
      unfold wL_law_463
      exact hw _ (br_f (by decide) (br_f (by decide) (nm_r lj_e2 hJ)))
theorem lj_op3 (g : lj_G (xR, xB, xU, xC, rt, cl, sr, sc, su, tn)) (x10 x11 x12 x13 : Int32) : lj_Op 3 x10 x11 x12 x13 xR xB xU xC rt cl sr sc su tn := by
  obtain ⟨r, ⟨xR', xB', xU', xC', rt', cl', sr', sc', su', tn'⟩, g', h01, hw⟩ := lj_build g (x10 &&& 7) (x11 &&& 7) (1 + (x12 &&& 3)) (x13 &&& 7)
  rcases h01 with rfl | rfl
  · refine ⟨0, xR', xB', xU', xC', rt', cl', sr', sc', su', tn', g', ?_, ?_⟩
    · intro post L xs J80 J344 x3 x4 x7 x14 x15 kc ks zR zB zU zC z1 z2 z3 z4 z5 z6 hJ
      refine br_f (by decide) (br_f (by decide) (br_f (by decide) (br_f (by decide) (br_f (by decide) (br_t rfl ?_)))))
      unfold wL_law_463_2
      exact hw _ (br_t rfl (br_t rfl (nm_r lj_e1 hJ)))
    · intro post L xs J80 J344 x3 x4 x7 x14 x15 kc ks zR zB zU zC z1 z2 z3 z4 z5 z6 hJ
      refine br_f (by decide) (br_f (by decide) (br_f (by decide) (br_f (by decide) (br_f (by decide) (br_t rfl ?_)))))
      unfold wL_law_463
      exact hw _ (br_t rfl (br_f (by decide) (nm_r lj_e2 hJ)))
  · refine ⟨1, xR', xB', xU', xC', rt', cl', sr', sc', su', tn', g', ?_, ?_⟩
    · intro post L xs J80 J344 x3 x4 x7 x14 x15 kc ks zR zB zU zC z1 z2 z3 z4 z5 z6 hJ
      refine br_f (by decide) (br_f (by decide) (br_f (by decide) (br_f (by decide) (br_f (by decide) (br_t rfl ?_)))))
      unfold wL_law_463_2
      exact hw _ (br_f (by decide) (br_t rfl (nm_r lj_e1 hJ)))
    · intro post L xs J80 J344 x3 x4 x7 x14 x15 kc ks zR zB zU zC z1 z2 z3 z4 z5 z6 hJ
      refine br_f (by decide) (br_f (by decide) (br_f (by decide) (br_f (by decide) (br_f (by decide) (br_t rfl ?_)))))
      unfold wL_law_463
      exact hw _ (br_f (by decide) (br_f (by decide) (nm_r lj_e2 hJ)))
theorem lj_op4 (g : lj_G (xR, xB, xU, xC, rt, cl, sr, sc, su, tn)) (x10 x11 x12 x13 : Int32) : lj_Op 4 x10 x11 x12 x13 xR xB xU xC rt cl sr sc su tn := by
  by_cases h4 : (x11 &&& 1) = 0
  · obtain ⟨r, ⟨xR', xB', xU', xC', rt', cl', sr', sc', su', tn'⟩, g', h01, hw⟩ := lj_setConst g (x10 &&& 7) 2 (x12 &&& 7)
    rcases h01 with rfl | rfl
    · refine ⟨0, xR', xB', xU', xC', rt', cl', sr', sc', su', tn', g', ?_, ?_⟩
      · intro post L xs J80 J344 x3 x4 x7 x14 x15 kc ks zR zB zU zC z1 z2 z3 z4 z5 z6 hJ
        refine br_f (by decide) (br_f (by decide) (br_f (by decide) (br_f (by decide) (br_f (by decide) (br_f (by decide) (br_t rfl (br_t h4 ?_)))))))
        exact hw _ (br_t rfl (br_t rfl (nm_r lj_e1 hJ)))
      · intro post L xs J80 J344 x3 x4 x7 x14 x15 kc ks zR zB zU zC z1 z2 z3 z4 z5 z6 hJ
        refine br_f (by decide) (br_f (by decide) (br_f (by decide) (br_f (by decide) (br_f (by decide) (br_f (by decide) (br_t rfl (br_t h4 ?_)))))))
        exact hw _ (br_t rfl (br_f (by decide) (nm_r lj_e2 hJ)))
    · refine ⟨1, xR', xB', xU', xC', rt', cl', sr', sc', su', tn', g', ?_, ?_⟩
      · intro post L xs J80 J344 x3 x4 x7 x14 x15 kc ks zR zB zU zC z1 z2 z3 z4 z5 z6 hJ
        refine br_f (by decide) (br_f (by decide) (br_f (by decide) (br_f (by decide) (br_f (by decide) (br_f (by decide) (br_t rfl (br_t h4 ?_)))))))
        exact hw _ (br_f (by decide) (br_t rfl (nm_r lj_e1 hJ)))
      · intro post L xs J80 J344 x3 x4 x7 x14 x15 kc ks zR zB zU zC z1 z2 z3 z4 z5 z6 hJ
        refine br_f (by decide) (br_f (by decide) (br_f (by decide) (br_f (by decide) (br_f (by decide) (br_f (by decide) (br_t rfl (br_t h4 ?_)))))))
        exact hw _ (br_f (by decide) (br_f (by decide) (nm_r lj_e2 hJ)))
  · obtain ⟨r, ⟨xR', xB', xU', xC', rt', cl', sr', sc', su', tn'⟩, g', h01, hw⟩ := lj_setConst g (x10 &&& 7) 3 ((x12 &&& 7) - 4)
    rcases h01 with rfl | rfl
    · refine ⟨0, xR', xB', xU', xC', rt', cl', sr', sc', su', tn', g', ?_, ?_⟩
      · intro post L xs J80 J344 x3 x4 x7 x14 x15 kc ks zR zB zU zC z1 z2 z3 z4 z5 z6 hJ
        refine br_f (by decide) (br_f (by decide) (br_f (by decide) (br_f (by decide) (br_f (by decide) (br_f (by decide) (br_t rfl (br_f h4 ?_)))))))
        exact hw _ (br_t rfl (br_t rfl (nm_r lj_e1 hJ)))
      · intro post L xs J80 J344 x3 x4 x7 x14 x15 kc ks zR zB zU zC z1 z2 z3 z4 z5 z6 hJ
        refine br_f (by decide) (br_f (by decide) (br_f (by decide) (br_f (by decide) (br_f (by decide) (br_f (by decide) (br_t rfl (br_f h4 ?_)))))))
        exact hw _ (br_t rfl (br_f (by decide) (nm_r lj_e2 hJ)))
    · refine ⟨1, xR', xB', xU', xC', rt', cl', sr', sc', su', tn', g', ?_, ?_⟩
      · intro post L xs J80 J344 x3 x4 x7 x14 x15 kc ks zR zB zU zC z1 z2 z3 z4 z5 z6 hJ
        refine br_f (by decide) (br_f (by decide) (br_f (by decide) (br_f (by decide) (br_f (by decide) (br_f (by decide) (br_t rfl (br_f h4 ?_)))))))
        exact hw _ (br_f (by decide) (br_t rfl (nm_r lj_e1 hJ)))
      · intro post L xs J80 J344 x3 x4 x7 x14 x15 kc ks zR zB zU zC z1 z2 z3 z4 z5 z6 hJ
        refine br_f (by decide) (br_f (by decide) (br_f (by decide) (br_f (by decide) (br_f (by decide) (br_f (by decide) (br_t rfl (br_f h4 ?_)))))))
        exact hw _ (br_f (by decide) (br_f (by decide) (nm_r lj_e2 hJ)))
theorem lj_op5 (g : lj_G (xR, xB, xU, xC, rt, cl, sr, sc, su, tn)) (x10 x11 x12 x13 : Int32) : lj_Op 5 x10 x11 x12 x13 xR xB xU xC rt cl sr sc su tn := by
  obtain ⟨r, ⟨xR', xB', xU', xC', rt', cl', sr', sc', su', tn'⟩, g', h01, hw⟩ := lj_move g (x10 &&& 7) (x11 &&& 7)
  rcases h01 with rfl | rfl
  · refine ⟨0, xR', xB', xU', xC', rt', cl', sr', sc', su', tn', g', ?_, ?_⟩
    · intro post L xs J80 J344 x3 x4 x7 x14 x15 kc ks zR zB zU zC z1 z2 z3 z4 z5 z6 hJ
      refine br_f (by decide) (br_f (by decide) (br_f (by decide) (br_f (by decide) (br_f (by decide) (br_f (by decide) (br_f (by decide) (br_t rfl ?_)))))))
      exact hw _ (br_t rfl (br_t rfl (nm_r lj_e1 hJ)))
    · intro post L xs J80 J344 x3 x4 x7 x14 x15 kc ks zR zB zU zC z1 z2 z3 z4 z5 z6 hJ
      refine br_f (by decide) (br_f (by decide) (br_f (by decide) (br_f (by decide) (br_f (by decide) (br_f (by decide) (br_f (by decide) (br_t rfl ?_)))))))
      exact hw _ (br_t rfl (br_f (by decide) (nm_r lj_e2 hJ)))
  · refine ⟨1, xR', xB', xU', xC', rt', cl', sr', sc', su', tn', g', ?_, ?_⟩
    · intro post L xs J80 J344 x3 x4 x7 x14 x15 kc ks zR zB zU zC z1 z2 z3 z4 z5 z6 hJ
      refine br_f (by decide) (br_f (by decide) (br_f (by decide) (br_f (by decide) (br_f (by decide) (br_f (by decide) (br_f (by decide) (br_t rfl ?_)))))))
      exact hw _ (br_f (by decide) (br_t rfl (nm_r lj_e1 hJ)))
    · intro post L xs J80 J344 x3 x4 x7 x14 x15 kc ks zR zB zU zC z1 z2 z3 z4 z5 z6 hJ
      refine br_f (by decide) (br_f (by decide) (br_f (by decide) (br_f (by decide) (br_f (by decide) (br_f (by decide) (br_f (by decide) (br_t rfl ?_)))))))
      exact hw _ (br_f (by decide) (br_f (by decide) (nm_r lj_e2 hJ)))
theorem lj_op6 (g : lj_G (xR, xB, xU, xC, rt, cl, sr, sc, su, tn)) (x10 x11 x12 x13 : Int32) : lj_Op 6 x10 x11 x12 x13 xR xB xU xC rt cl sr sc su tn := by
  obtain ⟨r, ⟨xR', xB', xU', xC', rt', cl', sr', sc', su', tn'⟩, g', h01, hw⟩ := lj_getArg g (x10 &&& 7) (x11 &&& 7) (1 + (x12 &&& 3))
  rcases h01 with rfl | rfl
  · refine ⟨0, xR', xB', xU', xC', rt', cl', sr', sc', su', tn', g', ?_, ?_⟩
    · intro post L xs J80 J344 x3 x4 x7 x14 x15 kc ks zR zB zU zC z1 z2 z3 z4 z5 z6 hJ
      refine br_f (by decide) (br_f (by decide) (br_f (by decide) (br_f (by decide) (br_f (by decide) (br_f (by decide) (br_f (by decide) (br_f (by decide) (br_t rfl ?_))))))))
      exact hw _ (br_t rfl (br_t rfl (nm_r lj_e1 hJ)))
    · intro post L xs J80 J344 x3 x4 x7 x14 x15 kc ks zR zB zU zC z1 z2 z3 z4 z5 z6 hJ
      refine br_f (by decide) (br_f (by decide) (br_f (by decide) (br_f (by decide) (br_f (by decide) (br_f (by decide) (br_f (by decide) (br_f (by decide) (br_t rfl ?_))))))))
      exact hw _ (br_t rfl (br_f (by decide) (nm_r lj_e2 hJ)))
  · refine ⟨1, xR', xB', xU', xC', rt', cl', sr', sc', su', tn', g', ?_, ?_⟩
    · intro post L xs J80 J344 x3 x4 x7 x14 x15 kc ks zR zB zU zC z1 z2 z3 z4 z5 z6 hJ
      refine br_f (by decide) (br_f (by decide) (br_f (by decide) (br_f (by decide) (br_f (by decide) (br_f (by decide) (br_f (by decide) (br_f (by decide) (br_t rfl ?_))))))))
      exact hw _ (br_f (by decide) (br_t rfl (nm_r lj_e1 hJ)))
    · intro post L xs J80 J344 x3 x4 x7 x14 x15 kc ks zR zB zU zC z1 z2 z3 z4 z5 z6 hJ
      refine br_f (by decide) (br_f (by decide) (br_f (by decide) (br_f (by decide) (br_f (by decide) (br_f (by decide) (br_f (by decide) (br_f (by decide) (br_t rfl ?_))))))))
      exact hw _ (br_f (by decide) (br_f (by decide) (nm_r lj_e2 hJ)))
theorem lj_op7 (g : lj_G (xR, xB, xU, xC, rt, cl, sr, sc, su, tn)) (x10 x11 x12 x13 : Int32) : lj_Op 7 x10 x11 x12 x13 xR xB xU xC rt cl sr sc su tn := by
  obtain ⟨r, ⟨xR', xB', xU', xC', rt', cl', sr', sc', su', tn'⟩, g', hw⟩ := lj_bind g (x10 &&& 7) (x11 &&& 7)
  refine ⟨r, xR', xB', xU', xC', rt', cl', sr', sc', su', tn', g', ?_, ?_⟩
  · intro post L xs J80 J344 x3 x4 x7 x14 x15 kc ks zR zB zU zC z1 z2 z3 z4 z5 z6 hJ
    refine br_f (by decide) (br_f (by decide) (br_f (by decide) (br_f (by decide) (br_f (by decide) (br_f (by decide) (br_f (by decide) (br_f (by decide) (br_f (by decide) (br_t rfl ?_)))))))))
    unfold wL_law_631_2
    exact hw _ (br_t rfl (nm_r lj_e1 hJ))
  · intro post L xs J80 J344 x3 x4 x7 x14 x15 kc ks zR zB zU zC z1 z2 z3 z4 z5 z6 hJ
    refine br_f (by decide) (br_f (by decide) (br_f (by decide) (br_f (by decide) (br_f (by decide) (br_f (by decide) (br_f (by decide) (br_f (by decide) (br_f (by decide) (br_t rfl ?_)))))))))
    unfold wL_law_631
    exact hw _ (br_f (by decide) (nm_r lj_e2 hJ))
theorem lj_op8 (g : lj_G (xR, xB, xU, xC, rt, cl, sr, sc, su, tn)) (x10 x11 x12 x13 : Int32) : lj_Op 8 x10 x11 x12 x13 xR xB xU xC rt cl sr sc su tn := by
  obtain ⟨r, ⟨xR', xB', xU', xC', rt', cl', sr', sc', su', tn'⟩, g', hw⟩ := lj_bind g (x10 &&& 7) (x11 &&& 7)
  refine ⟨r, xR', xB', xU', xC', rt', cl', sr', sc', su', tn', g', ?_, ?_⟩
  · intro post L xs J80 J344 x3 x4 x7 x14 x15 kc ks zR zB zU zC z1 z2 z3 z4 z5 z6 hJ
    refine br_f (by decide) (br_f (by decide) (br_f (by decide) (br_f (by decide) (br_f (by decide) (br_f (by decide) (br_f (by decide) (br_f (by decide) (br_f (by decide) (br_f (by decide) (br_t rfl ?_))))))))))
    unfold wL_law_631_2
    exact hw _ (br_t rfl (nm_r lj_e1 hJ))
  · intro post L xs J80 J344 x3 x4 x7 x14 x15 kc ks zR zB zU zC z1 z2 z3 z4 z5 z6 hJ
    refine br_f (by decide) (br_f (by decide) (br_f (by decide) (br_f (by decide) (br_f (by decide) (br_f (by decide) (br_f (by decide) (br_f (by decide) (br_f (by decide) (br_f (by decide) (br_t rfl ?_))))))))))
    unfold wL_law_631
    exact hw _ (br_f (by decide) (nm_r lj_e2 hJ))
theorem lj_op9 (g : lj_G (xR, xB, xU, xC, rt, cl, sr, sc, su, tn)) (x10 x11 x12 x13 : Int32) : lj_Op 9 x10 x11 x12 x13 xR xB xU xC rt cl sr sc su tn := by
  obtain ⟨r, ⟨xR', xB', xU', xC', rt', cl', sr', sc', su', tn'⟩, g', hw⟩ := lj_bind g (x10 &&& 7) (x11 &&& 7)
  refine ⟨r, xR', xB', xU', xC', rt', cl', sr', sc', su', tn', g', ?_, ?_⟩
  · intro post L xs J80 J344 x3 x4 x7 x14 x15 kc ks zR zB zU zC z1 z2 z3 z4 z5 z6 hJ
    refine br_f (by decide) (br_f (by decide) (br_f (by decide) (br_f (by decide) (br_f (by decide) (br_f (by decide) (br_f (by decide) (br_f (by decide) (br_f (by decide) (br_f (by decide) (br_f (by decide) (br_t rfl ?_)))))))))))
    unfold wL_law_631_2
    exact hw _ (br_t rfl (nm_r lj_e1 hJ))
  · intro post L xs J80 J344 x3 x4 x7 x14 x15 kc ks zR zB zU zC z1 z2 z3 z4 z5 z6 hJ
    refine br_f (by decide) (br_f (by decide) (br_f (by decide) (br_f (by decide) (br_f (by decide) (br_f (by decide) (br_f (by decide) (br_f (by decide) (br_f (by decide) (br_f (by decide) (br_f (by decide) (br_t rfl ?_)))))))))))
    unfold wL_law_631
    exact hw _ (br_f (by decide) (nm_r lj_e2 hJ))
theorem lj_op10 (g : lj_G (xR, xB, xU, xC, rt, cl, sr, sc, su, tn)) (x10 x11 x12 x13 : Int32) : lj_Op 10 x10 x11 x12 x13 xR xB xU xC rt cl sr sc su tn := by
  obtain ⟨r, ⟨xR', xB', xU', xC', rt', cl', sr', sc', su', tn'⟩, g', h01, hw⟩ := lj_push g 
  rcases h01 with rfl | rfl
  · refine ⟨0, xR', xB', xU', xC', rt', cl', sr', sc', su', tn', g', ?_, ?_⟩
    · intro post L xs J80 J344 x3 x4 x7 x14 x15 kc ks zR zB zU zC z1 z2 z3 z4 z5 z6 hJ
      refine br_f (by decide) (br_f (by decide) (br_f (by decide) (br_f (by decide) (br_f (by decide) (br_f (by decide) (br_f (by decide) (br_f (by decide) (br_f (by decide) (br_f (by decide) (br_f (by decide) (br_f (by decide) (br_t rfl ?_))))))))))))
      unfold wL_law_651_2
      exact hw _ (br_t rfl (br_t rfl (nm_r lj_e1 hJ)))
    · intro post L xs J80 J344 x3 x4 x7 x14 x15 kc ks zR zB zU zC z1 z2 z3 z4 z5 z6 hJ
      refine br_f (by decide) (br_f (by decide) (br_f (by decide) (br_f (by decide) (br_f (by decide) (br_f (by decide) (br_f (by decide) (br_f (by decide) (br_f (by decide) (br_f (by decide) (br_f (by decide) (br_f (by decide) (br_t rfl ?_))))))))))))
      unfold wL_law_651
      exact hw _ (br_t rfl (br_f (by decide) (nm_r lj_e2 hJ)))
  · refine ⟨1, xR', xB', xU', xC', rt', cl', sr', sc', su', tn', g', ?_, ?_⟩
    · intro post L xs J80 J344 x3 x4 x7 x14 x15 kc ks zR zB zU zC z1 z2 z3 z4 z5 z6 hJ
      refine br_f (by decide) (br_f (by decide) (br_f (by decide) (br_f (by decide) (br_f (by decide) (br_f (by decide) (br_f (by decide) (br_f (by decide) (br_f (by decide) (br_f (by decide) (br_f (by decide) (br_f (by decide) (br_t rfl ?_))))))))))))
      unfold wL_law_651_2
      exact hw _ (br_f (by decide) (br_t rfl (nm_r lj_e1 hJ)))
    · intro post L xs J80 J344 x3 x4 x7 x14 x15 kc ks zR zB zU zC z1 z2 z3 z4 z5 z6 hJ
      refine br_f (by decide) (br_f (by decide) (br_f (by decide) (br_f (by decide) (br_f (by decide) (br_f (by decide) (br_f (by decide) (br_f (by decide) (br_f (by decide) (br_f (by decide) (br_f (by decide) (br_f (by decide) (br_t rfl ?_))))))))))))
      unfold wL_law_651
      exact hw _ (br_f (by decide) (br_f (by decide) (nm_r lj_e2 hJ)))
theorem lj_op11 (g : lj_G (xR, xB, xU, xC, rt, cl, sr, sc, su, tn)) (x10 x11 x12 x13 : Int32) : lj_Op 11 x10 x11 x12 x13 xR xB xU xC rt cl sr sc su tn := by
  obtain ⟨r, ⟨xR', xB', xU', xC', rt', cl', sr', sc', su', tn'⟩, g', h01, hw⟩ := lj_push g 
  rcases h01 with rfl | rfl
  · refine ⟨0, xR', xB', xU', xC', rt', cl', sr', sc', su', tn', g', ?_, ?_⟩
    · intro post L xs J80 J344 x3 x4 x7 x14 x15 kc ks zR zB zU zC z1 z2 z3 z4 z5 z6 hJ
      refine br_f (by decide) (br_f (by decide) (br_f (by decide) (br_f (by decide) (br_f (by decide) (br_f (by decide) (br_f (by decide) (br_f (by decide) (br_f (by decide) (br_f (by decide) (br_f (by decide) (br_f (by decide) (br_f (by decide) (br_t rfl ?_)))))))))))))
      unfold wL_law_651_2
      exact hw _ (br_t rfl (br_t rfl (nm_r lj_e1 hJ)))
    · intro post L xs J80 J344 x3 x4 x7 x14 x15 kc ks zR zB zU zC z1 z2 z3 z4 z5 z6 hJ
      refine br_f (by decide) (br_f (by decide) (br_f (by decide) (br_f (by decide) (br_f (by decide) (br_f (by decide) (br_f (by decide) (br_f (by decide) (br_f (by decide) (br_f (by decide) (br_f (by decide) (br_f (by decide) (br_f (by decide) (br_t rfl ?_)))))))))))))
      unfold wL_law_651
      exact hw _ (br_t rfl (br_f (by decide) (nm_r lj_e2 hJ)))
  · refine ⟨1, xR', xB', xU', xC', rt', cl', sr', sc', su', tn', g', ?_, ?_⟩
    · intro post L xs J80 J344 x3 x4 x7 x14 x15 kc ks zR zB zU zC z1 z2 z3 z4 z5 z6 hJ
      refine br_f (by decide) (br_f (by decide) (br_f (by decide) (br_f (by decide) (br_f (by decide) (br_f (by decide) (br_f (by decide) (br_f (by decide) (br_f (by decide) (br_f (by decide) (br_f (by decide) (br_f (by decide) (br_f (by decide) (br_t rfl ?_)))))))))))))
      unfold wL_law_651_2
      exact hw _ (br_f (by decide) (br_t rfl (nm_r lj_e1 hJ)))
    · intro post L xs J80 J344 x3 x4 x7 x14 x15 kc ks zR zB zU zC z1 z2 z3 z4 z5 z6 hJ
      refine br_f (by decide) (br_f (by decide) (br_f (by decide) (br_f (by decide) (br_f (by decide) (br_f (by decide) (br_f (by decide) (br_f (by decide) (br_f (by decide) (br_f (by decide) (br_f (by decide) (br_f (by decide) (br_f (by decide) (br_t rfl ?_)))))))))))))
      unfold wL_law_651
      exact hw _ (br_f (by decide) (br_f (by decide) (nm_r lj_e2 hJ)))
theorem lj_op12 (g : lj_G (xR, xB, xU, xC, rt, cl, sr, sc, su, tn)) (x10 x11 x12 x13 : Int32) : lj_Op 12 x10 x11 x12 x13 xR xB xU xC rt cl sr sc su tn := by
  obtain ⟨r, ⟨xR', xB', xU', xC', rt', cl', sr', sc', su', tn'⟩, g', h01, hw⟩ := lj_back g 
  rcases h01 with rfl | rfl
  · refine ⟨0, xR', xB', xU', xC', rt', cl', sr', sc', su', tn', g', ?_, ?_⟩
    · intro post L xs J80 J344 x3 x4 x7 x14 x15 kc ks zR zB zU zC z1 z2 z3 z4 z5 z6 hJ
      refine br_f (by decide) (br_f (by decide) (br_f (by decide) (br_f (by decide) (br_f (by decide) (br_f (by decide) (br_f (by decide) (br_f (by decide) (br_f (by decide) (br_f (by decide) (br_f (by decide) (br_f (by decide) (br_f (by decide) (br_f (by decide) (br_t rfl ?_))))))))))))))
      unfold wL_law_669_2
      exact hw _ (br_t rfl (br_t rfl (nm_r lj_e1 hJ)))
    · intro post L xs J80 J344 x3 x4 x7 x14 x15 kc ks zR zB zU zC z1 z2 z3 z4 z5 z6 hJ
      refine br_f (by decide) (br_f (by decide) (br_f (by decide) (br_f (by decide) (br_f (by decide) (br_f (by decide) (br_f (by decide) (br_f (by decide) (br_f (by decide) (br_f (by decide) (br_f (by decide) (br_f (by decide) (br_f (by decide) (br_f (by decide) (br_t rfl ?_))))))))))))))
      unfold wL_law_669
      exact hw _ (br_t rfl (br_f (by decide) (nm_r lj_e2 hJ)))
  · refine ⟨1, xR', xB', xU', xC', rt', cl', sr', sc', su', tn', g', ?_, ?_⟩
    · intro post L xs J80 J344 x3 x4 x7 x14 x15 kc ks zR zB zU zC z1 z2 z3 z4 z5 z6 hJ
      refine br_f (by decide) (br_f (by decide) (br_f (by decide) (br_f (by decide) (br_f (by decide) (br_f (by decide) (br_f (by decide) (br_f (by decide) (br_f (by decide) (br_f (by decide) (br_f (by decide) (br_f (by decide) (br_f (by decide) (br_f (by decide) (br_t rfl ?_))))))))))))))
      unfold wL_law_669_2
      exact hw _ (br_f (by decide) (br_t rfl (nm_r lj_e1 hJ)))
    · intro post L xs J80 J344 x3 x4 x7 x14 x15 kc ks zR zB zU zC z1 z2 z3 z4 z5 z6 hJ
      refine br_f (by decide) (br_f (by decide) (br_f (by decide) (br_f (by decide) (br_f (by decide) (br_f (by decide) (br_f (by decide) (br_f (by decide) (br_f (by decide) (br_f (by decide) (br_f (by decide) (br_f (by decide) (br_f (by decide) (br_f (by decide) (br_t rfl ?_))))))))))))))
      unfold wL_law_669
      exact hw _ (br_f (by decide) (br_f (by decide) (nm_r lj_e2 hJ)))
theorem lj_op13 (g : lj_G (xR, xB, xU, xC, rt, cl, sr, sc, su, tn)) (x10 x11 x12 x13 : Int32) : lj_Op 13 x10 x11 x12 x13 xR xB xU xC rt cl sr sc su tn := by
  obtain ⟨r, ⟨xR', xB', xU', xC', rt', cl', sr', sc', su', tn'⟩, g', h01, hw⟩ := lj_back g 
  rcases h01 with rfl | rfl
  · refine ⟨0, xR', xB', xU', xC', rt', cl', sr', sc', su', tn', g', ?_, ?_⟩
    · intro post L xs J80 J344 x3 x4 x7 x14 x15 kc ks zR zB zU zC z1 z2 z3 z4 z5 z6 hJ
      refine br_f (by decide) (br_f (by decide) (br_f (by decide) (br_f (by decide) (br_f (by decide) (br_f (by decide) (br_f (by decide) (br_f (by decide) (br_f (by decide) (br_f (by decide) (br_f (by decide) (br_f (by decide) (br_f (by decide) (br_f (by decide) (br_f (by decide) (br_t rfl ?_)))))))))))))))
      unfold wL_law_669_2
      exact hw _ (br_t rfl (br_t rfl (nm_r lj_e1 hJ)))
    · intro post L xs J80 J344 x3 x4 x7 x14 x15 kc ks zR zB zU zC z1 z2 z3 z4 z5 z6 hJ
      refine br_f (by decide) (br_f (by decide) (br_f (by decide) (br_f (by decide) (br_f (by decide) (br_f (by decide) (br_f (by decide) (br_f (by decide) (br_f (by decide) (br_f (by decide) (br_f (by decide) (br_f (by decide) (br_f (by decide) (br_f (by decide) (br_f (by decide) (br_t rfl ?_)))))))))))))))
      unfold wL_law_669
      exact hw _ (br_t rfl (br_f (by decide) (nm_r lj_e2 hJ)))
  · refine ⟨1, xR', xB', xU', xC', rt', cl', sr', sc', su', tn', g', ?_, ?_⟩
    · intro post L xs J80 J344 x3 x4 x7 x14 x15 kc ks zR zB zU zC z1 z2 z3 z4 z5 z6 hJ
      refine br_f (by decide) (br_f (by decide) (br_f (by decide) (br_f (by decide) (br_f (by decide) (br_f (by decide) (br_f (by decide) (br_f (by decide) (br_f (by decide) (br_f (by decide) (br_f (by decide) (br_f (by decide) (br_f (by decide) (br_f (by decide) (br_f (by decide) (br_t rfl ?_)))))))))))))))
      unfold wL_law_669_2
      exact hw _ (br_f (by decide) (br_t rfl (nm_r lj_e1 hJ)))
    · intro post L xs J80 J344 x3 x4 x7 x14 x15 kc ks zR zB zU zC z1 z2 z3 z4 z5 z6 hJ
      refine br_f (by decide) (br_f (by decide) (br_f (by decide) (br_f (by decide) (br_f (by decide) (br_f (by decide) (br_f (by decide) (br_f (by decide) (br_f (by decide) (br_f (by decide) (br_f (by decide) (br_f (by decide) (br_f (by decide) (br_f (by decide) (br_f (by decide) (br_t rfl ?_)))))))))))))))
      unfold wL_law_669
      exact hw _ (br_f (by decide) (br_f (by decide) (nm_r lj_e2 hJ)))
theorem lj_op14 (g : lj_G (xR, xB, xU, xC, rt, cl, sr, sc, su, tn)) (x10 x11 x12 x13 : Int32) : lj_Op 14 x10 x11 x12 x13 xR xB xU xC rt cl sr sc su tn := by
  obtain ⟨r, ⟨xR', xB', xU', xC', rt', cl', sr', sc', su', tn'⟩, g', h01, hw⟩ := lj_pop g 
  rcases h01 with rfl | rfl
  · refine ⟨0, xR', xB', xU', xC', rt', cl', sr', sc', su', tn', g', ?_, ?_⟩
    · intro post L xs J80 J344 x3 x4 x7 x14 x15 kc ks zR zB zU zC z1 z2 z3 z4 z5 z6 hJ
      refine br_f (by decide) (br_f (by decide) (br_f (by decide) (br_f (by decide) (br_f (by decide) (br_f (by decide) (br_f (by decide) (br_f (by decide) (br_f (by decide) (br_f (by decide) (br_f (by decide) (br_f (by decide) (br_f (by decide) (br_f (by decide) (br_f (by decide) (br_f (by decide) (br_t rfl ?_))))))))))))))))
      exact hw _ (br_t rfl (br_t rfl (nm_r lj_e1 hJ)))
    · intro post L xs J80 J344 x3 x4 x7 x14 x15 kc ks zR zB zU zC z1 z2 z3 z4 z5 z6 hJ
      refine br_f (by decide) (br_f (by decide) (br_f (by decide) (br_f (by decide) (br_f (by decide) (br_f (by decide) (br_f (by decide) (br_f (by decide) (br_f (by decide) (br_f (by decide) (br_f (by decide) (br_f (by decide) (br_f (by decide) (br_f (by decide) (br_f (by decide) (br_f (by decide) (br_t rfl ?_))))))))))))))))
      exact hw _ (br_t rfl (br_f (by decide) (nm_r lj_e2 hJ)))
  · refine ⟨1, xR', xB', xU', xC', rt', cl', sr', sc', su', tn', g', ?_, ?_⟩
    · intro post L xs J80 J344 x3 x4 x7 x14 x15 kc ks zR zB zU zC z1 z2 z3 z4 z5 z6 hJ
      refine br_f (by decide) (br_f (by decide) (br_f (by decide) (br_f (by decide) (br_f (by decide) (br_f (by decide) (br_f (by decide) (br_f (by decide) (br_f (by decide) (br_f (by decide) (br_f (by decide) (br_f (by decide) (br_f (by decide) (br_f (by decide) (br_f (by decide) (br_f (by decide) (br_t rfl ?_))))))))))))))))
      exact hw _ (br_f (by decide) (br_t rfl (nm_r lj_e1 hJ)))
    · intro post L xs J80 J344 x3 x4 x7 x14 x15 kc ks zR zB zU zC z1 z2 z3 z4 z5 z6 hJ
      refine br_f (by decide) (br_f (by decide) (br_f (by decide) (br_f (by decide) (br_f (by decide) (br_f (by decide) (br_f (by decide) (br_f (by decide) (br_f (by decide) (br_f (by decide) (br_f (by decide) (br_f (by decide) (br_f (by decide) (br_f (by decide) (br_f (by decide) (br_f (by decide) (br_t rfl ?_))))))))))))))))
      exact hw _ (br_f (by decide) (br_f (by decide) (nm_r lj_e2 hJ)))
theorem lj_op15 (g : lj_G (xR, xB, xU, xC, rt, cl, sr, sc, su, tn)) (x10 x11 x12 x13 : Int32) : lj_Op 15 x10 x11 x12 x13 xR xB xU xC rt cl sr sc su tn := by
  refine ⟨xU, xR, xB, xU, xC, rt, cl, sr, sc, su, tn, g, ?_, ?_⟩
  · intro post L xs J80 J344 x3 x4 x7 x14 x15 kc ks zR zB zU zC z1 z2 z3 z4 z5 z6 hJ
    exact br_f (by decide) (br_t (by decide) (br_t rfl (nm_r lj_e1 hJ)))
  · intro post L xs J80 J344 x3 x4 x7 x14 x15 kc ks zR zB zU zC z1 z2 z3 z4 z5 z6 hJ
    exact br_f (by decide) (br_t (by decide) (br_f (by decide) (nm_r lj_e2 hJ)))
theorem lj_op (g : lj_G (xR, xB, xU, xC, rt, cl, sr, sc, su, tn)) (x10 x11 x12 x13 : Int32) {k : Nat} (hk : k < 16) : lj_Op k x10 x11 x12 x13 xR xB xU xC rt cl sr sc su tn := by
  have h : k = 0 ∨ k = 1 ∨ k = 2 ∨ k = 3 ∨ k = 4 ∨ k = 5 ∨ k = 6 ∨ k = 7 ∨ k = 8 ∨ k = 9 ∨ k = 10 ∨ k = 11 ∨ k = 12 ∨ k = 13 ∨ k = 14 ∨ k = 15 := by omega
  rcases h with rfl | rfl | rfl | rfl | rfl | rfl | rfl | rfl | rfl | rfl | rfl | rfl | rfl | rfl | rfl | rfl
  · exact lj_op0 g x10 x11 x12 x13
  · exact lj_op1 g x10 x11 x12 x13
  · exact lj_op2 g x10 x11 x12 x13
  · exact lj_op3 g x10 x11 x12 x13
  · exact lj_op4 g x10 x11 x12 x13
  · exact lj_op5 g x10 x11 x12 x13
  · exact lj_op6 g x10 x11 x12 x13
  · exact lj_op7 g x10 x11 x12 x13
  · exact lj_op8 g x10 x11 x12 x13
  · exact lj_op9 g x10 x11 x12 x13
  · exact lj_op10 g x10 x11 x12 x13
  · exact lj_op11 g x10 x11 x12 x13
  · exact lj_op12 g x10 x11 x12 x13
  · exact lj_op13 g x10 x11 x12 x13
  · exact lj_op14 g x10 x11 x12 x13
  · exact lj_op15 g x10 x11 x12 x13
end
end
section
section
variable {xR xB xU xC : Int32} {rt cl sr sc su tn : Nat → Int32}
theorem lj_cell {post : Int32 → Prop} {L : Nat} {xs : Nat → Int32} (hL : L ≤ 260) {k : Nat} (hk : k < 2 ^ 31) (h : ∀ y, post y) : wpL_cell post L xs () (nI k) :=
  pk_le L k (fun _ => h 0) (fun hlt => ⟨vp_in_nI hlt (by omega), h _⟩) rfl rfl (by omega) hk
/-- one operation on both objects -/
theorem lj_turn (g : lj_G (xR, xB, xU, xC, rt, cl, sr, sc, su, tn)) (x10 x11 x12 x13 : Int32) {k : Nat} (hk : k < 16) :
    ∃ (xR' xB' xU' xC' : Int32) (rt' cl' sr' sc' su' tn' : Nat → Int32), lj_G (xR', xB', xU', xC', rt', cl', sr', sc', su', tn') ∧ ∀ (post : Int32 → Prop) (L : Nat) (xs : Nat → Int32) (J80 : lj_T80) (x3 x4 x7 : Int32) (kc ks : Nat),
      J80 (x7 + 1) xR' xB' xU' xC' rt' cl' sr' sc' su' tn' xR' xB' xU' xC' rt' cl' sr' sc' su' tn' → ∃ f, wL_law_344 post L xs J80 x3 x4 x7 (nI k) x10 x11 x12 x13 kc ks f 0 0 0 xR xB xU xC rt cl sr sc su tn xR xB xU xC rt cl sr sc su tn := by
  obtain ⟨r, xR', xB', xU', xC', rt', cl', sr', sc', su', tn', g', h1, h2⟩ := lj_op g x10 x11 x12 x13 hk
  refine ⟨xR', xB', xU', xC', rt', cl', sr', sc', su', tn', g', ?_⟩
  intro post L xs J80 x3 x4 x7 kc ks hJ
  refine ⟨3, br_f (by decide) (br_t rfl (h1 _ _ _ _ _ _ _ _ _ _ _ _ _ _ _ _ _ _ _ _ _ _ ?_))⟩
  refine br_f (by decide) (br_f (by decide) (h2 _ _ _ _ _ _ _ _ _ _ _ _ _ _ _ _ _ _ _ _ _ _ ?_))
  exact br_t (by decide) (br_c (fun _ => nm_e hJ) (fun _ => br_t rfl (nm_e hJ)))
theorem lj_267 {post : Int32 → Prop} {L : Nat} {xs : Nat → Int32} {J80 : lj_T80} {x3 x4 : Int32} {i : Nat} {kc ks : Nat} (hL : L ≤ 260) (hi : i ≤ 80) (hp : post 1) (g : lj_G (xR, xB, xU, xC, rt, cl, sr, sc, su, tn))
    (hJ : ∀ (xR xB xU xC : Int32) (rt cl sr sc su tn : Nat → Int32), lj_G (xR, xB, xU, xC, rt, cl, sr, sc, su, tn) → J80 (nI i + 1) xR xB xU xC rt cl sr sc su tn xR xB xU xC rt cl sr sc su tn) : wL_law_267 post L xs J80 x3 x4 (nI i) kc ks xR xB xU xC rt cl sr sc su tn xR xB xU xC rt cl sr sc su tn := by
  refine br_c (fun _ => hp) (fun _ => ?_)
  have e : (3 : Int32) + 5 * nI i = nI (3 + 5 * i) := by
    rw [← nI_add, ← pk_mul]
    rfl
  refine nm_r e (lj_cell hL (by omega) (fun y => ?_))
  have e1 : nI (3 + 5 * i) + 1 = nI (3 + 5 * i + 1) := nI_1 _
  have e2 : nI (3 + 5 * i) + 2 = nI (3 + 5 * i + 2) := nI_add _ 2
  have e3 : nI (3 + 5 * i) + 3 = nI (3 + 5 * i + 3) := nI_add _ 3
  have e4 : nI (3 + 5 * i) + 4 = nI (3 + 5 * i + 4) := nI_add _ 4
  rw [e1, e2, e3, e4]
  refine nm_r (pk_and y 4 (by decide)) (lj_cell hL (by omega) (fun y1 => lj_cell hL (by omega) (fun y2 => lj_cell hL (by omega) (fun y3 => lj_cell hL (by omega) (fun y4 => ?_)))))
  obtain ⟨xR', xB', xU', xC', rt', cl', sr', sc', su', tn', g', h⟩ := lj_turn g y1 y2 y3 y4 (k := y.toBitVec.toNat % 2 ^ 4) (by omega)
  exact h _ _ _ _ _ _ _ _ _ (hJ _ _ _ _ _ _ _ _ _ _ g')
theorem lj_200 {post : Int32 → Prop} {L : Nat} {xs : Nat → Int32} {J80 : lj_T80} {x3 x4 x7 : Int32} {kc ks : Nat} (g : lj_G (xR, xB, xU, xC, rt, cl, sr, sc, su, tn))
    (h : wL_law_267 post L xs J80 x3 x4 x7 kc ks xR xB xU xC rt cl sr sc su tn xR xB xU xC rt cl sr sc su tn) : ∃ f, wL_law_200 post L xs J80 x3 x4 x7 kc ks xR xB xU xC rt cl sr sc su tn xR xB xU xC rt cl sr sc su tn f 0 := by
  refine loop_0 (fun f i (_ : Unit) => wL_law_200 post L xs J80 x3 x4 x7 kc ks xR xB xU xC rt cl sr sc su tn xR xB xU xC rt cl sr sc su tn f (nI i)) (fun _ _ => True) 8 () trivial ?_ ?_
  · intro f _ _
    exact br_t (nI_le (a := 8) (by omega) (by decide)) (br_t rfl h)
  · intro f i _ hi _ ih
    refine br_f (nI_ge (b := 8) hi (by decide)) ?_
    refine loop_0 (fun f' j (_ : Unit) => wL_law_210 post L xs J80 (wL_law_200 post L xs J80 x3 x4 x7 kc ks xR xB xU xC rt cl sr sc su tn xR xB xU xC rt cl sr sc su tn f) x3 x4 x7 (nI i) kc ks xR xB xU xC rt cl sr sc su tn xR xB xU xC rt cl sr sc su tn f' (nI j)) (fun _ _ => True) 8 () trivial ?_ ?_
    · intro f' _ _
      exact br_t (nI_le (a := 8) (by omega) (by decide)) (nm_r (nI_1 i) (ih () trivial))
    · intro f' j _ hj _ ih'
      obtain ⟨r, hr⟩ := lj_sameVar g (nI i) (nI j)
      exact br_f (nI_ge (b := 8) hj (by decide)) (hr _ (hr _ (br_t rfl (nm_r (nI_1 j) (ih' () trivial)))))
theorem lj_108s {post : Int32 → Prop} {L : Nat} {xs : Nat → Int32} {J80 : lj_T80} {x3 x4 x7 x8 : Int32} {kc ks f : Nat} (g : lj_G (xR, xB, xU, xC, rt, cl, sr, sc, su, tn)) (h8 : ¬ 8 < x8)
    (h : ∀ (xR xB xU xC : Int32) (rt cl sr sc su tn : Nat → Int32), lj_G (xR, xB, xU, xC, rt, cl, sr, sc, su, tn) → wL_law_108 post L xs J80 x3 x4 x7 kc ks f (x8 + 1) xR xB xU xC rt cl sr sc su tn xR xB xU xC rt cl sr sc su tn) : wL_law_108 post L xs J80 x3 x4 x7 kc ks (f + 1) x8 xR xB xU xC rt cl sr sc su tn xR xB xU xC rt cl sr sc su tn := by
  obtain ⟨r1, h1⟩ := lj_kind g x8
  obtain ⟨r2, h2⟩ := lj_value g x8
  obtain ⟨r3, h3⟩ := lj_arity g x8
  obtain ⟨r4, ⟨xR', xB', xU', xC', rt', cl', sr', sc', su', tn'⟩, g', h4⟩ := lj_treeSize g x8
  refine br_f h8 (h1 _ (h1 _ (br_t rfl (h2 _ (h2 _ (br_t rfl (h3 _ (h3 _ (br_t rfl (h4 _ ?_))))))))))
  refine h4 _ ?_
  exact br_t rfl (nm_e (h _ _ _ _ _ _ _ _ _ _ g'))
theorem lj_108 {post : Int32 → Prop} {L : Nat} {xs : Nat → Int32} {J80 : lj_T80} {x3 x4 x7 : Int32} {kc ks : Nat}
    (h : ∀ (xR xB xU xC : Int32) (rt cl sr sc su tn : Nat → Int32), lj_G (xR, xB, xU, xC, rt, cl, sr, sc, su, tn) → wL_law_267 post L xs J80 x3 x4 x7 kc ks xR xB xU xC rt cl sr sc su tn xR xB xU xC rt cl sr sc su tn) :
    ∀ (m i : Nat) (xR xB xU xC : Int32) (rt cl sr sc su tn : Nat → Int32), i + m = 9 → lj_G (xR, xB, xU, xC, rt, cl, sr, sc, su, tn) → wL_law_108 post L xs J80 x3 x4 x7 kc ks (m + 1) (nI i) xR xB xU xC rt cl sr sc su tn xR xB xU xC rt cl sr sc su tn := by
  intro m
  induction m with
  | zero =>
    intro i xR xB xU xC rt cl sr sc su tn hi g
    exact br_t (nI_lt (a := 8) (by omega) (by omega)) (lj_200 g (h _ _ _ _ _ _ _ _ _ _ g))
  | succ m ih =>
    intro i xR xB xU xC rt cl sr sc su tn hi g
    refine lj_108s g (nI_nlt (a := 8) (by omega) (by decide)) ?_
    intro xR xB xU xC rt cl sr sc su tn g
    rw [nI_1]
    exact ih (i + 1) _ _ _ _ _ _ _ _ _ _ (by omega) g
theorem lj_98 {post : Int32 → Prop} {L : Nat} {xs : Nat → Int32} {J80 : lj_T80} {x3 x4 : Int32} {i : Nat} {kc ks : Nat} (hL : L ≤ 260) (hi : i ≤ 80) (hp : post 1) (g : lj_G (xR, xB, xU, xC, rt, cl, sr, sc, su, tn))
    (hJ : ∀ (xR xB xU xC : Int32) (rt cl sr sc su tn : Nat → Int32), lj_G (xR, xB, xU, xC, rt, cl, sr, sc, su, tn) → J80 (nI i + 1) xR xB xU xC rt cl sr sc su tn xR xB xU xC rt cl sr sc su tn) : wL_law_98 post L xs J80 x3 x4 (nI i) kc ks xR xB xU xC rt cl sr sc su tn xR xB xU xC rt cl sr sc su tn := by
  have h : ∀ (xR xB xU xC : Int32) (rt cl sr sc su tn : Nat → Int32), lj_G (xR, xB, xU, xC, rt, cl, sr, sc, su, tn) → wL_law_267 post L xs J80 x3 x4 (nI i) kc ks xR xB xU xC rt cl sr sc su tn xR xB xU xC rt cl sr sc su tn := fun _ _ _ _ _ _ _ _ _ _ g => lj_267 hL hi hp g hJ
  refine br_c (fun _ => h _ _ _ _ _ _ _ _ _ _ g) (fun _ => ⟨11, lj_108s g (by decide) ?_⟩)
  intro xR xB xU xC rt cl sr sc su tn g
  rw [show (-1 : Int32) + 1 = nI 0 from by decide]
  exact lj_108 h 9 0 _ _ _ _ _ _ _ _ _ _ (by omega) g
end
theorem lj_80 {post : Int32 → Prop} {L : Nat} {xs : Nat → Int32} {x4 : Int32} {N kc ks : Nat} (hL : L ≤ 260) (hN : N ≤ 80) (hp : post 1) :
    ∀ (m i : Nat) (xR xB xU xC : Int32) (rt cl sr sc su tn : Nat → Int32), i + m = N + 1 → lj_G (xR, xB, xU, xC, rt, cl, sr, sc, su, tn) → wL_law_80 post L xs (nI N) x4 kc ks (m + 1) (nI i) xR xB xU xC rt cl sr sc su tn xR xB xU xC rt cl sr sc su tn := by
  intro m
  induction m with
  | zero =>
    intro i xR xB xU xC rt cl sr sc su tn hi g
    exact br_t (nI_lt (by omega) (by omega)) hp
  | succ m ih =>
    intro i xR xB xU xC rt cl sr sc su tn hi g
    have hJ : ∀ (xR xB xU xC : Int32) (rt cl sr sc su tn : Nat → Int32), lj_G (xR, xB, xU, xC, rt, cl, sr, sc, su, tn) → wL_law_80 post L xs (nI N) x4 kc ks (m + 1) (nI i + 1) xR xB xU xC rt cl sr sc su tn xR xB xU xC rt cl sr sc su tn := by
      intro xR xB xU xC rt cl sr sc su tn g
      rw [nI_1]
      exact ih (i + 1) _ _ _ _ _ _ _ _ _ _ (by omega) g
    have h := lj_98 (x3 := nI N) (x4 := x4) (kc := kc) (ks := ks) (xs := xs) hL (by omega : i ≤ 80) hp g hJ
    exact br_f (nI_nlt (by omega) (by omega)) (br_c (fun _ => h) (fun _ => h))
theorem lj_41 {post : Int32 → Prop} {L : Nat} {xs : Nat → Int32} {N : Nat} (hL : L ≤ 260) (hN : N ≤ 80) (hp : post 1) (x1 x2 : Int32) : wL_law_41 post L xs x1 x2 (nI N) 0 0 := by
  unfold wL_law_41
  refine lj_cell (k := 2) hL (by omega) (fun y => ?_)
  obtain ⟨⟨xR, xB, xU, xC, rt, cl, sr, sc, su, tn⟩, g, hw⟩ := lj_init x1 x2
  refine ⟨?_, nm_e ⟨by omega, by omega, 6, 3240, by omega, by omega, hw _ ?_⟩⟩
  · rw [nI_1]
    exact nI_ne0 (by omega) (by omega)
  · refine ⟨by omega, by omega, 6, 3240, by omega, by omega, hw _ ?_⟩
    exact ⟨N + 2, lj_80 hL hN hp (N + 1) 0 _ _ _ _ _ _ _ _ _ _ (by omega) g⟩
theorem lj_32 {post : Int32 → Prop} {L : Nat} {xs : Nat → Int32} {x3 : Int32} (hL : L ≤ 260) (h0 : 0 ≤ x3) (hp : post 1) (x1 x2 : Int32) : wL_law_32 post L xs x1 x2 x3 0 0 := by
  by_cases h : x3 ≤ 80
  · obtain ⟨N, _, hN, e⟩ := lh_rng (a := 0) (b := 80) (by decide) h0 h (by decide)
    refine br_t h ?_
    rw [e]
    exact lj_41 hL hN hp x1 x2
  · exact br_f h (lj_41 (N := 80) hL (by omega) hp x1 x2)
end
section
theorem i_vc (xs : Nat → Int32) (L : Nat) (hL : L ≤ 260) : wpL_law (fun r => r = 1) L xs := by
  unfold wpL_law
  refine lj_cell (k := 0) hL (by omega) (fun y => nm_e (lj_cell (k := 1) hL (by omega) (fun z => nm_e ⟨by decide, nm_e ?_⟩)))
  exact br_c (fun h => lj_32 (post := fun r => r = 1) hL h rfl _ _) (fun _ => lj_32 (post := fun r => r = 1) (x3 := 0) hL (by decide) rfl _ _)
end
