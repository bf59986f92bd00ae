/-- what build asks for -/
def lh_bc (R B U : Nat) (p0 p1 p2 p3 : Int32) : Prop := ∃ j f m i : Nat, j < R ∧ f ≤ 4095 ∧ 1 ≤ m ∧ m ≤ 4 ∧ i + m ≤ R ∧ U + 1 + m ≤ B ∧ p0 = nI j ∧ p1 = nI f ∧ p2 = nI m ∧ p3 = nI i
/-- what value answers of a dereferenced term -/
def lh_val (fn : Nat → Int32) (q : Int32 × Int32) : Int32 := if q.1 = 2 then q.2 else if q.1 = 3 then q.2 else if q.1 = 4 then fn q.2.toNatClampNeg else 0
section
variable {xR xB xU xC : Int32} {rt cl sr sc su tn : Nat → Int32} {n : Nat} {ar fn aT aV bd bT bV rT rV : Nat → Int32}
theorem lx_build {post : Int32 → St2 → Prop} {R B U : Nat} (hR : R ≤ 8) (hB : B ≤ 240) (hU : U ≤ B) {p0 p1 p2 p3 : Int32}
    (ht : ∀ j f m i : Nat, j < R → f ≤ 4095 → 1 ≤ m → m ≤ 4 → i + m ≤ R → U + 1 + m ≤ B → p0 = nI j → p1 = nI f → p2 = nI m → p3 = nI i →
      post 1 (nI R, nI B, nI (U + (1 + m)), xC, upd rt j (lh_pk (nI U) 4), lh_cp rt i (upd cl U (lh_pk (nI f) (nI m))) (U + 1) m, sr, sc, su, tn))
    (hno : ¬ lh_bc R B U p0 p1 p2 p3 → post 0 (nI R, nI B, nI U, xC, rt, cl, sr, sc, su, tn)) : wpX_build post (nI R, nI B, nI U, xC, rt, cl, sr, sc, su, tn) p0 p1 p2 p3 := by
  unfold wpX_build
  dsimp only
  refine lx_isRoot hR p0 (fun j hj e0 => ?_) (fun h => br_t rfl (hno ?_))
  rotate_left
  · rintro ⟨j, f, m, i, h1, h2, h3, h4, h5, h6, e0, e1, e2, e3⟩
    exact h ⟨j, h1, e0⟩
  refine br_f (by decide) (lx_within (fun a1 a2 => ?_) (fun h => br_t rfl (hno ?_)))
  rotate_left
  · rintro ⟨j, f, m, i, h1, h2, h3, h4, h5, h6, e0, e1, e2, e3⟩
    refine h ⟨?_, ?_⟩
    · rw [e1]; exact nI_pos' (by omega)
    · rw [e1]; exact nI_le (b := 4095) h2 (by decide)
  obtain ⟨f, _, hf, e1⟩ := lh_rng (a := 0) (b := 4095) (by decide) a1 a2 (by decide)
  refine br_f (by decide) (lx_within (fun a1 a2 => ?_) (fun h => br_t rfl (hno ?_)))
  rotate_left
  · rintro ⟨j, f, m, i, h1, h2, h3, h4, h5, h6, e0, e1, e2, e3⟩
    refine h ⟨?_, ?_⟩
    · rw [e2]; exact nI_le (a := 1) h3 (by omega)
    · rw [e2]; exact nI_le (b := 4) h4 (by decide)
  obtain ⟨m, hm1, hm4, e2⟩ := lh_rng (a := 1) (b := 4) (by decide) a1 a2 (by decide)
  refine br_f (by decide) (lx_within (fun a1 a2 => ?_) (fun h => br_t rfl (hno ?_)))
  rotate_left
  · rintro ⟨j, f, m', i, h1, h2, h3, h4, h5, h6, e0, e1, e2', e3⟩
    refine h ⟨?_, ?_⟩
    · rw [e3]; exact nI_pos' (by omega)
    · rw [e3, e2']; exact (lh_suble (by omega) hR h4).mpr h5
  obtain ⟨i, hi, e3⟩ := nI_of (Int32.not_lt.mpr a1)
  rw [e3, e2, lh_suble hi hR hm4] at a2
  have e4 : (1 : Int32) + nI m = nI (1 + m) := nI_add 1 m
  rw [e2, e4]
  refine br_f (by decide) (lx_room (c := 1 + m) (by omega) (by omega) (fun hc => ?_) (fun h => br_t rfl (hno ?_)))
  rotate_left
  · rintro ⟨j, f, m', i, h1, h2, h3, h4, h5, h6, e0, e1, e2', e3⟩
    rw [e2', nI_eq (by omega) (by omega)] at e2
    omega
  refine br_f (by decide) (lx_pack ?_)
  rw [nI_clamp (by omega), nI_1 U, e3]
  refine ⟨vp_in_nI (by omega) (by omega), nm_e (lx_copy_rt_cl (by omega) (by omega) ?_)⟩
  refine nm_r (nI_add U (1 + m)) (lx_pack ?_)
  rw [e0, nI_clamp (by omega), e1]
  exact ⟨vp_in_nI (by omega) (by omega), nm_e (ht j f m i hj hf hm1 hm4 a2 (by omega) e0 e1 e2 e3)⟩
theorem lx_move {post : Int32 → St2 → Prop} {R : Nat} (hR : R ≤ 8) {p0 p1 : Int32} (ht : ∀ j i : Nat, j < R → i < R → p0 = nI j → p1 = nI i → post 1 (nI R, xB, xU, xC, upd rt j (rt i), cl, sr, sc, su, tn))
    (hno : ¬ (lh_ro R p0 ∧ lh_ro R p1) → post 0 (nI R, xB, xU, xC, rt, cl, sr, sc, su, tn)) : wpX_move post (nI R, xB, xU, xC, rt, cl, sr, sc, su, tn) p0 p1 := by
  unfold wpX_move
  dsimp only
  refine lx_isRoot hR p0 (fun j hj e0 => ?_) (fun h => br_t rfl (hno (fun z => h z.1)))
  refine br_f (by decide) (lx_isRoot hR p1 (fun i hi e1 => ?_) (fun h => br_t rfl (hno (fun z => h z.2))))
  refine br_f (by decide) ?_
  rw [e0, e1, nI_clamp (by omega), nI_clamp (by omega)]
  exact ⟨vp_in_nI (by omega) (by omega), vp_in_nI (by omega) (by omega), nm_e (ht j i hj hi e0 e1)⟩
theorem lx_getArg {post : Int32 → St2 → Prop} {R : Nat} (hR : R ≤ 8) (H : lh_Hp n ar fn aT aV bd bT bV cl) (Rt : lh_Rt R n ar rT rV rt) {p0 p1 p2 : Int32}
    (ht : ∀ j i k : Nat, j < R → i < R → 1 ≤ k → k ≤ lh_nc ar (lh_D bd bT bV (rT i, rV i)) → p0 = nI j → p1 = nI i → p2 = nI k →
      post 1 (nI R, xB, xU, xC, upd rt j (lh_en ar (lh_ch aT aV (lh_D bd bT bV (rT i, rV i)) (k - 1)).1 (lh_ch aT aV (lh_D bd bT bV (rT i, rV i)) (k - 1)).2), cl, sr, sc, su, tn))
    (hno : ¬ (∃ j i k : Nat, j < R ∧ i < R ∧ 1 ≤ k ∧ k ≤ lh_nc ar (lh_D bd bT bV (rT i, rV i)) ∧ p0 = nI j ∧ p1 = nI i ∧ p2 = nI k) → post 0 (nI R, xB, xU, xC, rt, cl, sr, sc, su, tn)) : wpX_getArg post (nI R, xB, xU, xC, rt, cl, sr, sc, su, tn) p0 p1 p2 := by
  have hn := lh_n240 H.1
  have h0 := H.1
  unfold wpX_getArg
  dsimp only
  refine lx_isRoot hR p0 (fun j hj e0 => ?_) (fun h => br_t rfl (hno ?_))
  rotate_left
  · rintro ⟨j, i, k, h1, h2, h3, h4, e0, e1, e2⟩
    exact h ⟨j, h1, e0⟩
  refine br_f (by decide) (lx_isRoot hR p1 (fun i hi e1 => ?_) (fun h => br_t rfl (hno ?_)))
  rotate_left
  · rintro ⟨j, i, k, h1, h2, h3, h4, e0, e1, e2⟩
    exact h ⟨i, h2, e1⟩
  refine br_f (by decide) ?_
  rw [e0, e1, nI_clamp (by omega), nI_clamp (by omega)]
  have ok := (Rt i hi).1
  have okD := (lh_D_ok H (p := (rT i, rV i)) ok).1
  have h4 := lh_nc4 H okD
  refine ⟨vp_in_nI (by omega) (by omega), lx_deref H (p := (rT i, rV i)) ok (Rt i hi).2 (lx_argc H okD (lx_within (fun a1 a2 => ?_) (fun h => br_t rfl (hno ?_))))⟩
  · obtain ⟨k, hk1, hk2, e2⟩ := lh_rng (a := 1) (by omega) a1 a2 (by decide)
    refine br_f (by decide) (lx_high ?_)
    have h44 : (lh_D bd bT bV (rT i, rV i)).1 = 4 := by
      by_cases z : (lh_D bd bT bV (rT i, rV i)).1 = 4
      · exact z
      · rw [lh_nc, if_neg z] at hk2
        omega
    obtain ⟨d, hd, hv, h⟩ := lh_node okD (Or.inr rfl) h44
    have hc2 : (lh_D bd bT bV (rT i, rV i)).2.toNatClampNeg = d := by rw [hv, nI_clamp (by omega)]
    have hk3 := hk2
    rw [lh_nc, if_pos h44, hc2] at hk3
    have ha := lh_ad_lt ar hd
    have e3 : (lh_en ar (lh_D bd bT bV (rT i, rV i)).1 (lh_D bd bT bV (rT i, rV i)).2) >>> ((3 : Int32) &&& 31) + p2 = nI (lh_ad ar d + k) := by
      rw [h44, hv, lh_en_hi (Or.inr rfl) (by omega) (by omega), e2, nI_add]
    rw [e3, nI_clamp (by omega)]
    have e4 : cl (lh_ad ar d + k) = lh_en ar (lh_ch aT aV (lh_D bd bT bV (rT i, rV i)) (k - 1)).1 (lh_ch aT aV (lh_D bd bT bV (rT i, rV i)) (k - 1)).2 := by
      rw [lh_ch, hc2]
      have h5 := (H.2.2.2.1 d hd (k - 1) (by omega)).2
      rw [show lh_ad ar d + 1 + (k - 1) = lh_ad ar d + k from by omega] at h5
      exact h5
    rw [e4]
    exact ⟨vp_in_nI (by omega) (by omega), vp_in_nI (by omega) (by omega), nm_e (ht j i k hj hi hk1 hk2 e0 e1 e2)⟩
  · rintro ⟨j', i', k, h1, h2, h3, h4', e0', e1', e2⟩
    rw [e1', nI_eq (by omega) (by omega)] at e1
    subst e1
    refine h ⟨?_, ?_⟩
    · rw [e2]; exact nI_le (a := 1) h3 (by omega)
    · rw [e2]; exact nI_le h4' (by omega)
theorem lx_push {post : Int32 → St2 → Prop} {R U c : Nat} (hR : R ≤ 8) (hU : U ≤ 240) (hc : c ≤ 8)
    (ht : c < 8 → post 1 (nI R, xB, nI U, nI (c + 1), rt, cl, lh_cp rt 0 sr (c * 8) R, lh_cp cl 0 sc (c * 240) U, upd su c (nI U), tn))
    (hno : 8 ≤ c → post 0 (nI R, xB, nI U, nI c, rt, cl, sr, sc, su, tn)) : wpX_pushChoice post (nI R, xB, nI U, nI c, rt, cl, sr, sc, su, tn) := by
  by_cases h : c < 8
  · refine br_t (nI_lt (b := 8) h (by decide)) ?_
    have e1 : nI c * 8 = nI (c * 8) := pk_mul c 8
    have e2 : nI c * 240 = nI (c * 240) := pk_mul c 240
    rw [e1]
    refine lx_copy_rt_sr (a := 0) (by omega) (by omega) ?_
    dsimp only
    rw [e2]
    refine lx_copy_cl_sc (a := 0) (by omega) (by omega) ?_
    dsimp only
    rw [nI_clamp (by omega)]
    exact ⟨vp_in_nI h (by omega), nm_e (nm_r (nI_1 c) (ht h))⟩
  · exact br_f (nI_nlt (b := 8) (by omega) (by omega)) (hno (by omega))
theorem lx_back {post : Int32 → St2 → Prop} {R c : Nat} (hR : R ≤ 8) (hc : c ≤ 8)
    (ht : ∀ c', c = c' + 1 → ∃ U, U ≤ 240 ∧ su c' = nI U ∧ post 1 (nI R, xB, nI U, nI c, lh_cp sr (c' * 8) rt 0 R, lh_cp sc (c' * 240) cl 0 U, sr, sc, su, tn))
    (hno : c = 0 → post 0 (nI R, xB, xU, nI c, rt, cl, sr, sc, su, tn)) : wpX_backtrack post (nI R, xB, xU, nI c, rt, cl, sr, sc, su, tn) := by
  cases c with
  | zero => exact br_f (by decide) (hno rfl)
  | succ c =>
    obtain ⟨U, hU, e, h⟩ := ht c rfl
    refine br_t (nI_lt (a := 0) (by omega) (by omega)) (nm_r (nI_pred c) ?_)
    have e1 : nI c * 8 = nI (c * 8) := pk_mul c 8
    have e2 : nI c * 240 = nI (c * 240) := pk_mul c 240
    rw [nI_clamp (by omega), e1, e2]
    refine ⟨vp_in_nI (by omega) (by omega), nm_r e (lx_copy_sr_rt (b := 0) (by omega) (by omega) ?_)⟩
    exact lx_copy_sc_cl (b := 0) (by omega) (by omega) h
theorem lx_pop {post : Int32 → St2 → Prop} {c : Nat} (hc : c ≤ 8) (ht : ∀ c', c = c' + 1 → post 1 (xR, xB, xU, nI c', rt, cl, sr, sc, su, tn)) (hno : c = 0 → post 0 (xR, xB, xU, nI c, rt, cl, sr, sc, su, tn)) : wpX_popChoice post (xR, xB, xU, nI c, rt, cl, sr, sc, su, tn) := by
  cases c with
  | zero => exact br_f (by decide) (hno rfl)
  | succ c => exact br_t (nI_lt (a := 0) (by omega) (by omega)) (nm_r (nI_pred c) (ht c rfl))
theorem lx_kind {post : Int32 → Prop} {R : Nat} (hR : R ≤ 8) (H : lh_Hp n ar fn aT aV bd bT bV cl) (Rt : lh_Rt R n ar rT rV rt) {p0 : Int32}
    (ht : ∀ j : Nat, j < R → p0 = nI j → post (lh_D bd bT bV (rT j, rV j)).1) (hno : ¬ lh_ro R p0 → post 0) : wpX_kind post (nI R, xB, xU, xC, rt, cl, sr, sc, su, tn) p0 := by
  unfold wpX_kind
  dsimp only
  refine lx_isRoot hR p0 (fun j hj e0 => ?_) (fun h => br_t rfl (hno h))
  refine br_f (by decide) ?_
  rw [e0, nI_clamp (by omega)]
  have ok := (Rt j hj).1
  refine ⟨vp_in_nI (by omega) (by omega), lx_deref H (p := (rT j, rV j)) ok (Rt j hj).2 (lx_low ?_)⟩
  rw [lh_en_lo (lh_D_ok H (p := (rT j, rV j)) ok).1]
  exact ht j hj e0
theorem lx_arity {post : Int32 → Prop} {R : Nat} (hR : R ≤ 8) (H : lh_Hp n ar fn aT aV bd bT bV cl) (Rt : lh_Rt R n ar rT rV rt) {p0 : Int32}
    (ht : ∀ j : Nat, j < R → p0 = nI j → post (nI (lh_nc ar (lh_D bd bT bV (rT j, rV j))))) (hno : ¬ lh_ro R p0 → post 0) : wpX_arity post (nI R, xB, xU, xC, rt, cl, sr, sc, su, tn) p0 := by
  unfold wpX_arity
  dsimp only
  refine lx_isRoot hR p0 (fun j hj e0 => ?_) (fun h => br_t rfl (hno h))
  refine br_f (by decide) ?_
  rw [e0, nI_clamp (by omega)]
  have ok := (Rt j hj).1
  exact ⟨vp_in_nI (by omega) (by omega), lx_deref H (p := (rT j, rV j)) ok (Rt j hj).2 (lx_argc H (lh_D_ok H (p := (rT j, rV j)) ok).1 (ht j hj e0))⟩
theorem lx_value {post : Int32 → Prop} {R : Nat} (hR : R ≤ 8) (H : lh_Hp n ar fn aT aV bd bT bV cl) (Rt : lh_Rt R n ar rT rV rt) {p0 : Int32}
    (ht : ∀ j : Nat, j < R → p0 = nI j → post (lh_val fn (lh_D bd bT bV (rT j, rV j)))) (hno : ¬ lh_ro R p0 → post 0) : wpX_value post (nI R, xB, xU, xC, rt, cl, sr, sc, su, tn) p0 := by
  have hn := lh_n240 H.1
  have h0 := H.1
  unfold wpX_value
  dsimp only
  refine lx_isRoot hR p0 (fun j hj e0 => ?_) (fun h => br_t rfl (hno h))
  refine br_f (by decide) ?_
  rw [e0, nI_clamp (by omega)]
  have ok := (Rt j hj).1
  have okD := (lh_D_ok H (p := (rT j, rV j)) ok).1
  have hp := ht j hj e0
  refine ⟨vp_in_nI (by omega) (by omega), lx_deref H (p := (rT j, rV j)) ok (Rt j hj).2 (lx_high (lx_low ?_))⟩
  rw [lh_en_lo okD]
  generalize lh_D bd bT bV (rT j, rV j) = q at *
  obtain ⟨t, v⟩ := q
  dsimp only at *
  rcases okD with ⟨h | h, h1, h2⟩ | ⟨i, hi, hv, ⟨h, hz⟩ | ⟨h, hz⟩⟩
  · subst h
    rw [lh_en_hk (Or.inl rfl) h1 h2]
    exact br_f (by decide) (br_f (by decide) (br_t rfl hp))
  · subst h
    rw [lh_en_hk (Or.inr rfl) h1 h2]
    exact br_f (by decide) (br_f (by decide) (br_f (by decide) (br_t rfl hp)))
  · subst h
    exact br_t (by decide) hp
  · subst h hv
    have ha := lh_ad_lt ar hi
    obtain ⟨⟨f, hf, ef⟩, ec⟩ := H.2.2.1 i hi hz
    obtain ⟨a, ha4, ea⟩ := H.2.1 i hi
    rw [lh_en_hi (Or.inr rfl) (by omega) (by omega), nI_clamp (by omega), ec, ef, ea]
    refine br_f (by decide) (br_f (by decide) (br_f (by decide) (br_f (by decide) (br_t rfl ⟨vp_in_nI (by omega) (by omega), lx_high ?_⟩))))
    rw [lh_pk_hiN (by omega) (by omega)]
    have e : lh_val fn (4, nI i) = nI f := by
      show fn (nI i).toNatClampNeg = nI f
      rw [nI_clamp (by omega), ef]
    rw [e] at hp
    exact hp
theorem lx_sameVar {post : Int32 → Prop} {R : Nat} (hR : R ≤ 8) (H : lh_Hp n ar fn aT aV bd bT bV cl) (Rt : lh_Rt R n ar rT rV rt) {p0 p1 : Int32}
    (ht : ∀ j i : Nat, j < R → i < R → p0 = nI j → p1 = nI i → lh_D bd bT bV (rT j, rV j) = lh_D bd bT bV (rT i, rV i) → (lh_D bd bT bV (rT j, rV j)).1 = 1 → post 1)
    (hno : ¬ (∃ j i : Nat, j < R ∧ i < R ∧ p0 = nI j ∧ p1 = nI i ∧ lh_D bd bT bV (rT j, rV j) = lh_D bd bT bV (rT i, rV i) ∧ (lh_D bd bT bV (rT j, rV j)).1 = 1) → post 0) :
    wpX_sameVar post (nI R, xB, xU, xC, rt, cl, sr, sc, su, tn) p0 p1 := by
  unfold wpX_sameVar
  dsimp only
  refine lx_isRoot hR p0 (fun j hj e0 => ?_) (fun h => br_t rfl (hno (fun ⟨j, i, h1, h2, e0, e1, _⟩ => h ⟨j, h1, e0⟩)))
  refine br_f (by decide) (lx_isRoot hR p1 (fun i hi e1 => ?_) (fun h => br_t rfl (hno (fun ⟨j, i, h1, h2, e0, e1, _⟩ => h ⟨i, h2, e1⟩))))
  refine br_f (by decide) ?_
  rw [e0, e1, nI_clamp (by omega), nI_clamp (by omega)]
  have ok1 := (Rt j hj).1
  have ok2 := (Rt i hi).1
  have okD1 := (lh_D_ok H (p := (rT j, rV j)) ok1).1
  have okD2 := (lh_D_ok H (p := (rT i, rV i)) ok2).1
  refine ⟨vp_in_nI (by omega) (by omega), lx_deref H (p := (rT j, rV j)) ok1 (Rt j hj).2 ⟨vp_in_nI (by omega) (by omega), lx_deref H (p := (rT i, rV i)) ok2 (Rt i hi).2 ?_⟩⟩
  have hj' : ∀ j' i' : Nat, p0 = nI j' → p1 = nI i' → j' < R → i' < R → j' = j ∧ i' = i := by
    intro j' i' a b c d
    rw [e0, nI_eq (by omega) (by omega)] at a
    rw [e1, nI_eq (by omega) (by omega)] at b
    exact ⟨a.symm, b.symm⟩
  refine br_c (fun h => lx_low ?_) (fun h => hno ?_)
  · rw [lh_en_lo okD1]
    obtain ⟨g1, g2⟩ := lh_en_inj H.1 okD1 okD2 h
    refine br_c (fun h1 => ht j i hj hi e0 e1 (Prod.ext g1 g2) h1) (fun h1 => hno ?_)
    rintro ⟨j', i', a, b, c, d, e, f⟩
    obtain ⟨rfl, rfl⟩ := hj' j' i' c d a b
    exact h1 f
  · rintro ⟨j', i', a, b, c, d, e, f⟩
    obtain ⟨rfl, rfl⟩ := hj' j' i' c d a b
    exact h (by rw [e])
theorem lx_treeSize {R : Nat} (hR : R ≤ 8) (H : lh_Hp n ar fn aT aV bd bT bV cl) (Rt : lh_Rt R n ar rT rV rt) {j : Nat} (hj : j < R) :
    ∃ (c : Nat) (tn' : Nat → Int32), lx_P n ar aT aV bd bT bV (rT j, rV j) c tn' ∧ ∀ post : Int32 → St2 → Prop, post (nI c) (nI R, xB, xU, xC, rt, cl, sr, sc, su, tn') → wpX_treeSize post (nI R, xB, xU, xC, rt, cl, sr, sc, su, tn) (nI j) := by
  obtain ⟨c, tn', hP, hw⟩ := lx_tree (xR := nI R) (xB := xB) (xU := xU) (xC := xC) (rt := rt) (sr := sr) (sc := sc) (su := su) (tn := tn) H (p := (rT j, rV j)) (Rt j hj).1
  refine ⟨c, tn', hP, fun post hp => ?_⟩
  unfold wpX_treeSize
  dsimp only
  refine lx_isRoot hR (nI j) (fun i _ _ => br_f (by decide) ?_) (fun h => absurd ⟨j, hj, rfl⟩ h)
  rw [nI_clamp (by omega), (Rt j hj).2]
  exact ⟨vp_in_nI (by omega) (by omega), hw _ hp⟩
theorem lx_treeNo {post : Int32 → St2 → Prop} {R : Nat} (hR : R ≤ 8) {p0 : Int32} (h : ¬ lh_ro R p0) (hp : post 0 (nI R, xB, xU, xC, rt, cl, sr, sc, su, tn)) : wpX_treeSize post (nI R, xB, xU, xC, rt, cl, sr, sc, su, tn) p0 := by
  unfold wpX_treeSize
  dsimp only
  exact lx_isRoot hR p0 (fun j hj e => absurd ⟨j, hj, e⟩ h) (fun _ => br_t rfl hp)
end
