/-- a root's number -/
def lh_ro (R : Nat) (r : Int32) : Prop := ∃ j, j < R ∧ r = nI j
def lh_cst (k v : Int32) : Prop := (k = 2 ∧ 0 ≤ v ∧ v ≤ 4095) ∨ (k = 3 ∧ -32768 ≤ v ∧ v ≤ 32767)
theorem lh_rng {x : Int32} {a b : Nat} (hb : b < 2 ^ 31) (h1 : nI a ≤ x) (h2 : x ≤ nI b) (ha : a < 2 ^ 31) : ∃ j, a ≤ j ∧ j ≤ b ∧ x = nI j := by
  have h0 : ¬ x < 0 := by
    intro h
    rw [Int32.lt_iff_toInt_lt, show (0 : Int32).toInt = 0 from rfl] at h
    rw [Int32.le_iff_toInt_le, nI_toInt ha] at h1
    omega
  obtain ⟨j, hj, rfl⟩ := nI_of h0
  rw [nI_leI ha hj] at h1
  rw [nI_leI hj hb] at h2
  exact ⟨j, h1, h2, rfl⟩
theorem lh_suble {f R m : Nat} (hf : f < 2 ^ 31) (hR : R ≤ 8) (hm : m ≤ 4) : nI f ≤ nI R - nI m ↔ f + m ≤ R := by
  rw [Int32.le_iff_toInt_le, pk_sub_toInt (by omega) (by omega), nI_toInt hf]
  omega
section
variable {xR xB xU xC : Int32} {rt cl sr sc su tn : Nat → Int32}
theorem lx_pack {post : Int32 → Prop} {a b : Int32} (h : post (lh_pk a b)) : wpX_pack post () a b := h
theorem lx_low {post : Int32 → Prop} {a : Int32} (h : post (a &&& 7)) : wpX_lowPart post () a := h
theorem lx_high {post : Int32 → Prop} {a : Int32} (h : post (a >>> ((3 : Int32) &&& 31))) : wpX_highPart post () a := h
theorem lx_isRoot {post : Int32 → Prop} {R : Nat} (hR : R ≤ 8) (r : Int32) (ht : ∀ j, j < R → r = nI j → post 1) (hf : ¬ lh_ro R r → post 0) : wpX_isRoot post (nI R, xB, xU, xC, rt, cl, sr, sc, su, tn) r := by
  by_cases h0 : r < 0
  · refine br_t h0 (hf ?_)
    rintro ⟨j, hj, e⟩
    rw [e] at h0
    exact nI_pos (by omega) h0
  · obtain ⟨j, hj, rfl⟩ := nI_of h0
    by_cases h : j < R
    · exact br_f h0 (br_f (nI_ge h (by omega)) (ht j h rfl))
    · refine br_f h0 (br_t (nI_le (by omega) hj) (hf ?_))
      rintro ⟨i, hi, e⟩
      rw [nI_eq hj (by omega)] at e
      omega
theorem lx_within {post : Int32 → Prop} {x a b : Int32} (ht : a ≤ x → x ≤ b → post 1) (hf : ¬ (a ≤ x ∧ x ≤ b) → post 0) : wpX_isWithin post () x a b :=
  br_c (fun h => hf (fun z => Int32.not_lt.mpr z.1 h)) (fun h => br_c (fun g => hf (fun z => Int32.not_lt.mpr z.2 g)) (fun g => ht (Int32.not_lt.mp h) (Int32.not_lt.mp g)))
theorem lx_isConstant {post : Int32 → Prop} {k v : Int32} (ht : lh_cst k v → post 1) (hf : ¬ lh_cst k v → post 0) : wpX_isConstant post () k v := by
  by_cases h2 : k = 2
  · subst h2
    refine br_t rfl (lx_within (fun h1 h2 => ⟨rfl, ht (Or.inl ⟨rfl, h1, h2⟩)⟩) (fun h => ⟨rfl, hf ?_⟩))
    rintro (z | z)
    · exact h z.2
    · exact absurd z.1 (by decide)
  · refine br_f h2 ?_
    by_cases h3 : k = 3
    · subst h3
      refine br_t rfl (lx_within (fun h1 h2 => br_f (by decide) (ht (Or.inr ⟨rfl, h1, h2⟩))) (fun h => br_t rfl (hf ?_)))
      rintro (z | z)
      · exact absurd z.1 (by decide)
      · exact h z.2
    · refine br_f h3 (hf ?_)
      rintro (z | z)
      · exact h2 z.1
      · exact h3 z.1
theorem lx_room {post : Int32 → Prop} {U c B : Nat} (h1 : U + c < 2 ^ 31) (h2 : B < 2 ^ 31) (ht : U + c ≤ B → post 1) (hf : B < U + c → post 0) : wpX_hasRoomFor post (xR, nI B, nI U, xC, rt, cl, sr, sc, su, tn) (nI c) :=
  pk_lt B (U + c) hf ht rfl (nI_add U c) h2 h1
theorem lx_setConst {post : Int32 → St2 → Prop} {R : Nat} (hR : R ≤ 8) {r k v : Int32} (ht : ∀ j, j < R → r = nI j → lh_cst k v → post 1 (nI R, xB, xU, xC, upd rt j (lh_pk v k), cl, sr, sc, su, tn))
    (hf : ¬ (lh_ro R r ∧ lh_cst k v) → post 0 (nI R, xB, xU, xC, rt, cl, sr, sc, su, tn)) : wpX_setConst post (nI R, xB, xU, xC, rt, cl, sr, sc, su, tn) r k v := by
  unfold wpX_setConst
  dsimp only
  refine lx_isRoot hR r (fun j hj e => ?_) (fun h => br_t rfl (hf (fun z => h z.1)))
  refine br_f (by decide) (lx_isConstant (fun hc => ?_) (fun hc => br_t rfl (hf (fun z => hc z.2))))
  refine br_f (by decide) (lx_pack ?_)
  subst e
  rw [nI_clamp (by omega)]
  exact ⟨vp_in_nI (by omega) (by omega), nm_e (ht j hj rfl hc)⟩
theorem lx_newVar {post : Int32 → St2 → Prop} {R B U : Nat} (hR : R ≤ 8) (hB : B ≤ 240) (hU : U ≤ B) {r : Int32}
    (ht : ∀ j, j < R → r = nI j → U + 1 ≤ B → post 1 (nI R, nI B, nI (U + 1), xC, upd rt j (lh_pk (nI U) 1), upd cl U (lh_pk (nI U) 1), sr, sc, su, tn))
    (hf : ¬ (lh_ro R r ∧ U + 1 ≤ B) → post 0 (nI R, nI B, nI U, xC, rt, cl, sr, sc, su, tn)) : wpX_newVar post (nI R, nI B, nI U, xC, rt, cl, sr, sc, su, tn) r := by
  unfold wpX_newVar
  dsimp only
  refine lx_isRoot hR r (fun j hj e => ?_) (fun h => br_t rfl (hf (fun z => h z.1)))
  refine br_f (by decide) (lx_room (c := 1) (by omega) (by omega) (fun hc => ?_) (fun hc => br_t rfl (hf (fun z => by omega))))
  refine br_f (by decide) (lx_pack ?_)
  subst e
  rw [nI_clamp (by omega), nI_clamp (by omega)]
  exact ⟨vp_in_nI (by omega) (by omega), nm_e (nm_r (nI_1 U) ⟨vp_in_nI (by omega) (by omega), nm_e (ht j hj rfl hc)⟩)⟩
theorem lx_copy_rt_cl {post : St3 → Prop} {g t : Nat → Int32} {a b m : Nat} (ha : a + m ≤ 8) (hb : b + m ≤ 240) (h : post (g, lh_cp g a t b m)) : wpX_copy post (g, t) (nI a) (nI b) (nI m) := by
  refine loop_0 (fun n i s => wX_copy_3 post (nI a) (nI b) (nI m) n (nI i) g s) (fun i s => s = lh_cp g a t b i) m t (lh_cp_0 _ _ _ _).symm ?_ ?_
  · intro n s hs
    subst hs
    exact br_t (nI_le (Nat.le_refl m) (by omega)) h
  · intro n i s hi hs ih
    subst hs
    refine br_f (nI_ge hi (by omega)) ?_
    rw [nI_add, nI_add, nI_clamp (by omega), nI_clamp (by omega)]
    exact ⟨vp_in_nI (by omega) (by omega), vp_in_nI (by omega) (by omega), nm_r (lh_cp_s _ _ _ _ _) (nm_r (nI_1 i) (ih _ rfl))⟩
theorem lx_copy_cl_tn {post : St4 → Prop} {g t : Nat → Int32} {a b m : Nat} (ha : a + m ≤ 240) (hb : b + m ≤ 1000) (h : post (g, lh_cp g a t b m)) : wpX_copy_2 post (g, t) (nI a) (nI b) (nI m) := by
  refine loop_0 (fun n i s => wX_copy_2_3 post (nI a) (nI b) (nI m) n (nI i) g s) (fun i s => s = lh_cp g a t b i) m t (lh_cp_0 _ _ _ _).symm ?_ ?_
  · intro n s hs
    subst hs
    exact br_t (nI_le (Nat.le_refl m) (by omega)) h
  · intro n i s hi hs ih
    subst hs
    refine br_f (nI_ge hi (by omega)) ?_
    rw [nI_add, nI_add, nI_clamp (by omega), nI_clamp (by omega)]
    exact ⟨vp_in_nI (by omega) (by omega), vp_in_nI (by omega) (by omega), nm_r (lh_cp_s _ _ _ _ _) (nm_r (nI_1 i) (ih _ rfl))⟩
theorem lx_copy_rt_sr {post : St5 → Prop} {g t : Nat → Int32} {a b m : Nat} (ha : a + m ≤ 8) (hb : b + m ≤ 64) (h : post (g, lh_cp g a t b m)) : wpX_copy_3 post (g, t) (nI a) (nI b) (nI m) := by
  refine loop_0 (fun n i s => wX_copy_3_3 post (nI a) (nI b) (nI m) n (nI i) g s) (fun i s => s = lh_cp g a t b i) m t (lh_cp_0 _ _ _ _).symm ?_ ?_
  · intro n s hs
    subst hs
    exact br_t (nI_le (Nat.le_refl m) (by omega)) h
  · intro n i s hi hs ih
    subst hs
    refine br_f (nI_ge hi (by omega)) ?_
    rw [nI_add, nI_add, nI_clamp (by omega), nI_clamp (by omega)]
    exact ⟨vp_in_nI (by omega) (by omega), vp_in_nI (by omega) (by omega), nm_r (lh_cp_s _ _ _ _ _) (nm_r (nI_1 i) (ih _ rfl))⟩
theorem lx_copy_cl_sc {post : St6 → Prop} {g t : Nat → Int32} {a b m : Nat} (ha : a + m ≤ 240) (hb : b + m ≤ 1920) (h : post (g, lh_cp g a t b m)) : wpX_copy_4 post (g, t) (nI a) (nI b) (nI m) := by
  refine loop_0 (fun n i s => wX_copy_4_3 post (nI a) (nI b) (nI m) n (nI i) g s) (fun i s => s = lh_cp g a t b i) m t (lh_cp_0 _ _ _ _).symm ?_ ?_
  · intro n s hs
    subst hs
    exact br_t (nI_le (Nat.le_refl m) (by omega)) h
  · intro n i s hi hs ih
    subst hs
    refine br_f (nI_ge hi (by omega)) ?_
    rw [nI_add, nI_add, nI_clamp (by omega), nI_clamp (by omega)]
    exact ⟨vp_in_nI (by omega) (by omega), vp_in_nI (by omega) (by omega), nm_r (lh_cp_s _ _ _ _ _) (nm_r (nI_1 i) (ih _ rfl))⟩
theorem lx_copy_sr_rt {post : St7 → Prop} {g t : Nat → Int32} {a b m : Nat} (ha : a + m ≤ 64) (hb : b + m ≤ 8) (h : post (g, lh_cp g a t b m)) : wpX_copy_5 post (g, t) (nI a) (nI b) (nI m) := by
  refine loop_0 (fun n i s => wX_copy_5_3 post (nI a) (nI b) (nI m) n (nI i) g s) (fun i s => s = lh_cp g a t b i) m t (lh_cp_0 _ _ _ _).symm ?_ ?_
  · intro n s hs
    subst hs
    exact br_t (nI_le (Nat.le_refl m) (by omega)) h
  · intro n i s hi hs ih
    subst hs
    refine br_f (nI_ge hi (by omega)) ?_
    rw [nI_add, nI_add, nI_clamp (by omega), nI_clamp (by omega)]
    exact ⟨vp_in_nI (by omega) (by omega), vp_in_nI (by omega) (by omega), nm_r (lh_cp_s _ _ _ _ _) (nm_r (nI_1 i) (ih _ rfl))⟩
theorem lx_copy_sc_cl {post : St8 → Prop} {g t : Nat → Int32} {a b m : Nat} (ha : a + m ≤ 1920) (hb : b + m ≤ 240) (h : post (g, lh_cp g a t b m)) : wpX_copy_6 post (g, t) (nI a) (nI b) (nI m) := by
  refine loop_0 (fun n i s => wX_copy_6_3 post (nI a) (nI b) (nI m) n (nI i) g s) (fun i s => s = lh_cp g a t b i) m t (lh_cp_0 _ _ _ _).symm ?_ ?_
  · intro n s hs
    subst hs
    exact br_t (nI_le (Nat.le_refl m) (by omega)) h
  · intro n i s hi hs ih
    subst hs
    refine br_f (nI_ge hi (by omega)) ?_
    rw [nI_add, nI_add, nI_clamp (by omega), nI_clamp (by omega)]
    exact ⟨vp_in_nI (by omega) (by omega), vp_in_nI (by omega) (by omega), nm_r (lh_cp_s _ _ _ _ _) (nm_r (nI_1 i) (ih _ rfl))⟩
theorem lx_copy_0 {post : St4 → Prop} {g t : Nat → Int32} {x y : Int32} (h : post (g, t)) : wpX_copy_2 post (g, t) x y 0 :=
  ⟨1, br_t (by decide) h⟩
end
