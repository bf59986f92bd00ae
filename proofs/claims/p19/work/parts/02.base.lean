/-- the first cell of node i -/
def lh_ad (ar : Nat → Int32) : Nat → Nat
  | 0 => 0
  | i + 1 => lh_ad ar i + 1 + (ar i).toNatClampNeg
theorem lh_ad_s (ar : Nat → Int32) (i : Nat) : lh_ad ar (i + 1) = lh_ad ar i + 1 + (ar i).toNatClampNeg := rfl
theorem lh_ad_mono (ar : Nat → Int32) (i : Nat) : ∀ d, lh_ad ar i + d ≤ lh_ad ar (i + d) := by
  intro d
  induction d with
  | zero => exact Nat.le_refl _
  | succ d ih =>
    have h := lh_ad_s ar (i + d)
    show lh_ad ar i + (d + 1) ≤ lh_ad ar (i + d + 1)
    omega
theorem lh_ad_le (ar : Nat → Int32) {i j : Nat} (h : i ≤ j) : lh_ad ar i ≤ lh_ad ar j := by
  have h1 := lh_ad_mono ar i (j - i)
  have e : i + (j - i) = j := by omega
  rw [e] at h1
  omega
theorem lh_ad_lt (ar : Nat → Int32) {i j : Nat} (h : i < j) : lh_ad ar i + 1 + (ar i).toNatClampNeg ≤ lh_ad ar j := by
  have h1 := lh_ad_le ar (i := i + 1) (j := j) h
  rw [lh_ad_s] at h1
  exact h1
theorem lh_ad_ge (ar : Nat → Int32) (i : Nat) : i ≤ lh_ad ar i := by
  have h1 := lh_ad_mono ar 0 i
  have e : lh_ad ar 0 = 0 := rfl
  rw [e, Nat.zero_add] at h1
  exact h1
theorem lh_ad_inj {ar : Nat → Int32} {i j : Nat} (h : lh_ad ar i = lh_ad ar j) : i = j := by
  rcases Nat.lt_trichotomy i j with g | g | g
  · have := lh_ad_lt ar g; omega
  · exact g
  · have := lh_ad_lt ar g; omega
theorem lh_ad_c {ar ar' : Nat → Int32} : ∀ n, (∀ i, i < n → ar' i = ar i) → lh_ad ar' n = lh_ad ar n := by
  intro n
  induction n with
  | zero => exact fun _ => rfl
  | succ n ih =>
    intro h
    rw [lh_ad_s, lh_ad_s, ih (fun i hi => h i (by omega)), h n (by omega)]
/-- a packed int -/
def lh_pk (h l : Int32) : Int32 := (h <<< ((3 : Int32) &&& 31)) ||| l
theorem lh_pk_nat (h : Int32) {l : Nat} (hl : l < 8) : (lh_pk h (nI l)).toBitVec.toNat = h.toBitVec.toNat * 8 % 4294967296 + l := by
  have e : (lh_pk h (nI l)).toBitVec = (h <<< ((3 : Int32) &&& 31)).toBitVec ||| (nI l).toBitVec := Int32.toBitVec_or _ _
  rw [e, BitVec.toNat_or, pk_shl h _ 3 (by decide), pk_tn (by omega)]
  have h1 : h.toBitVec.toNat * 2 ^ 3 % 2 ^ 32 = 2 ^ 3 * (h.toBitVec.toNat % 536870912) := by omega
  rw [h1, ← Nat.two_pow_add_eq_or_of_lt (i := 3) (by omega)]
theorem lh_lo (h : Int32) {l : Nat} (hl : l < 8) : lh_pk h (nI l) &&& 7 = nI l := by
  rw [pk_and _ 3 (by decide), lh_pk_nat h hl]
  exact congrArg nI (by omega)
theorem lh_ti (x : Int32) : (2 * x.toBitVec.toNat < 4294967296 ∧ x.toInt = (x.toBitVec.toNat : Int)) ∨ (4294967296 ≤ 2 * x.toBitVec.toNat ∧ x.toInt = (x.toBitVec.toNat : Int) - 4294967296) := by
  have h : x.toInt = _ := BitVec.toInt_eq_toNat_cond x.toBitVec
  by_cases c : 2 * x.toBitVec.toNat < 2 ^ 32
  · rw [if_pos c] at h
    exact Or.inl ⟨c, h⟩
  · rw [if_neg c] at h
    refine Or.inr ⟨by omega, ?_⟩
    rw [h]
    rfl
theorem lh_hi (h : Int32) {l : Nat} (hl : l < 8) (h1 : -268435456 ≤ h.toInt) (h2 : h.toInt < 268435456) : lh_pk h (nI l) >>> ((3 : Int32) &&& 31) = h := by
  apply Int32.toInt_inj.mp
  rw [pk_shr _ _ 3 (by decide), Int.shiftRight_eq_div_pow]
  have a := lh_ti (lh_pk h (nI l))
  rw [lh_pk_nat h hl] at a
  have b := lh_ti h
  have c := h.toBitVec.isLt
  generalize (lh_pk h (nI l)).toInt = p at *
  generalize h.toInt = q at *
  generalize h.toBitVec.toNat = N at *
  have e : ((2 ^ 3 : Nat) : Int) = 8 := rfl
  rw [e]
  rcases a with ⟨a1, a2⟩ | ⟨a1, a2⟩ <;> rcases b with ⟨b1, b2⟩ | ⟨b1, b2⟩ <;> omega
/-- the packed int of a term of the reference -/
def lh_en (ar : Nat → Int32) (t v : Int32) : Int32 := if t = 1 ∨ t = 4 then lh_pk (nI (lh_ad ar v.toNatClampNeg)) t else lh_pk v t
/-- a term over the first n nodes -/
def lh_ok (n : Nat) (ar : Nat → Int32) (t v : Int32) : Prop :=
  ((t = 2 ∨ t = 3) ∧ -32768 ≤ v.toInt ∧ v.toInt ≤ 32767) ∨ ∃ i, i < n ∧ v = nI i ∧ ((t = 1 ∧ ar i = 0) ∨ (t = 4 ∧ ¬ ar i = 0))
theorem lh_ok_m {n m : Nat} {ar : Nat → Int32} {t v : Int32} (h : lh_ok n ar t v) (hm : n ≤ m) : lh_ok m ar t v := by
  rcases h with h | ⟨i, hi, h⟩
  · exact Or.inl h
  · exact Or.inr ⟨i, by omega, h⟩
theorem lh_ok_c {n : Nat} {ar ar' : Nat → Int32} {t v : Int32} (h : lh_ok n ar t v) (hc : ∀ i, i < n → ar' i = ar i) : lh_ok n ar' t v := by
  rcases h with h | ⟨i, hi, h⟩
  · exact Or.inl h
  · exact Or.inr ⟨i, hi, by rw [hc i hi]; exact h⟩
theorem lh_en_n (ar : Nat → Int32) {i : Nat} (hi : i < 2 ^ 31) {t : Int32} (ht : t = 1 ∨ t = 4) : lh_en ar t (nI i) = lh_pk (nI (lh_ad ar i)) t := by
  rw [lh_en, if_pos ht, nI_clamp hi]
theorem lh_en_k (ar : Nat → Int32) {t v : Int32} (ht : t = 2 ∨ t = 3) : lh_en ar t v = lh_pk v t := by
  rw [lh_en, if_neg]
  rcases ht with rfl | rfl <;> decide
theorem lh_en_c {n : Nat} {ar ar' : Nat → Int32} {t v : Int32} (h : lh_ok n ar t v) (hn : n ≤ 240) (hc : ∀ i, i < n → ar' i = ar i) : lh_en ar' t v = lh_en ar t v := by
  rcases h with ⟨h, _⟩ | ⟨i, hi, rfl, h⟩
  · rw [lh_en_k _ h, lh_en_k _ h]
  · have ht : t = 1 ∨ t = 4 := by rcases h with h | h <;> simp [h.1]
    rw [lh_en_n _ (by omega) ht, lh_en_n _ (by omega) ht, lh_ad_c i (fun j hj => hc j (by omega))]
theorem lh_ok_t {n : Nat} {ar : Nat → Int32} {t v : Int32} (h : lh_ok n ar t v) : ∃ l, l < 8 ∧ t = nI l := by
  rcases h with ⟨h | h, _⟩ | ⟨i, hi, _, h | h⟩
  · exact ⟨2, by omega, h⟩
  · exact ⟨3, by omega, h⟩
  · exact ⟨1, by omega, h.1⟩
  · exact ⟨4, by omega, h.1⟩
theorem lh_en_lo {n : Nat} {ar : Nat → Int32} {t v : Int32} (h : lh_ok n ar t v) : lh_en ar t v &&& 7 = t := by
  obtain ⟨l, hl, rfl⟩ := lh_ok_t h
  rw [lh_en]
  split
  · exact lh_lo _ hl
  · exact lh_lo _ hl
theorem lh_pk_hiN {a l : Nat} (ha : a < 4096) (hl : l < 8) : lh_pk (nI a) (nI l) >>> ((3 : Int32) &&& 31) = nI a :=
  lh_hi _ hl (by rw [nI_toInt (by omega)]; omega) (by rw [nI_toInt (by omega)]; omega)
theorem lh_en_hi {ar : Nat → Int32} {i : Nat} {t : Int32} (ht : t = 1 ∨ t = 4) (hi : i < 2 ^ 31) (ha : lh_ad ar i < 4096) : lh_en ar t (nI i) >>> ((3 : Int32) &&& 31) = nI (lh_ad ar i) := by
  rw [lh_en_n ar hi ht]
  rcases ht with rfl | rfl
  · exact lh_pk_hiN (l := 1) ha (by omega)
  · exact lh_pk_hiN (l := 4) ha (by omega)
theorem lh_en_hk {ar : Nat → Int32} {t v : Int32} (ht : t = 2 ∨ t = 3) (h1 : -32768 ≤ v.toInt) (h2 : v.toInt ≤ 32767) : lh_en ar t v >>> ((3 : Int32) &&& 31) = v := by
  rw [lh_en_k ar ht]
  rcases ht with rfl | rfl
  · exact lh_hi v (l := 2) (by omega) (by omega) (by omega)
  · exact lh_hi v (l := 3) (by omega) (by omega) (by omega)
theorem lh_en_inj {n : Nat} {ar : Nat → Int32} (hn : lh_ad ar n ≤ 240) {t v t' v' : Int32} (h : lh_ok n ar t v) (h' : lh_ok n ar t' v') (e : lh_en ar t v = lh_en ar t' v') : t = t' ∧ v = v' := by
  have et : t = t' := by rw [← lh_en_lo h, ← lh_en_lo h', e]
  subst et
  refine ⟨rfl, ?_⟩
  have hg := lh_ad_ge ar n
  rcases h with ⟨h, h1, h2⟩ | ⟨i, hi, rfl, h⟩
  · rcases h' with ⟨g, g1, g2⟩ | ⟨j, hj, rfl, g⟩
    · rw [← lh_en_hk (ar := ar) h h1 h2, ← lh_en_hk (ar := ar) g g1 g2, e]
    · rcases h with rfl | rfl <;> rcases g with ⟨g, _⟩ | ⟨g, _⟩ <;> exact absurd g (by decide)
  · have ht : t = 1 ∨ t = 4 := by rcases h with h | h <;> simp [h.1]
    rcases h' with ⟨g, g1, g2⟩ | ⟨j, hj, rfl, g⟩
    · rcases g with rfl | rfl <;> rcases h with ⟨h, _⟩ | ⟨h, _⟩ <;> exact absurd h (by decide)
    · have a1 := lh_ad_lt ar hi
      have a2 := lh_ad_lt ar hj
      have e2 : nI (lh_ad ar i) = nI (lh_ad ar j) := by
        rw [← lh_en_hi ht (by omega) (by omega : lh_ad ar i < 4096), ← lh_en_hi ht (by omega) (by omega : lh_ad ar j < 4096), e]
      rw [nI_eq (by omega) (by omega)] at e2
      rw [lh_ad_inj e2]
