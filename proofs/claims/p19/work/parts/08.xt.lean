section
variable {xR xB xU xC : Int32} {rt cl sr sc su tn : Nat → Int32} {n : Nat} {ar fn aT aV bd bT bV : Nat → Int32}
/-- a node's term: which node -/
theorem lh_node {p : Int32 × Int32} (h : lh_ok n ar p.1 p.2) {t : Int32} (ht : t = 1 ∨ t = 4) (h1 : p.1 = t) : ∃ i, i < n ∧ p.2 = nI i ∧ ((t = 1 ∧ ar i = 0) ∨ (t = 4 ∧ ¬ ar i = 0)) := by
  rcases h with ⟨h, _⟩ | ⟨i, hi, hv, h⟩
  · rw [h1] at h
    rcases ht with rfl | rfl <;> exact absurd h (by decide)
  · rw [h1] at h
    exact ⟨i, hi, hv, h⟩
theorem lx_deref_l {post : Int32 → Prop} (H : lh_Hp n ar fn aT aV bd bT bV cl) : ∀ (m s : Nat) (p : Int32 × Int32), s + m = 240 → lh_ok n ar p.1 p.2 →
    post (lh_en ar (lh_dr bd bT bV m p).1 (lh_dr bd bT bV m p).2) → wX_dereference_4 post xR xB xU xC rt cl sr sc su tn (m + 1) (lh_en ar p.1 p.2) (nI s) := by
  intro m
  have hn := lh_n240 H.1
  induction m with
  | zero =>
    intro s p hs ok hp
    exact br_t (nI_le (a := 240) (by omega) (by omega)) hp
  | succ m ih =>
    intro s p hs ok hp
    refine br_f (nI_ge (b := 240) (by omega) (by decide)) (lx_low ?_)
    rw [lh_en_lo ok]
    by_cases h1 : p.1 = 1
    · obtain ⟨i, hi, hv, h⟩ := lh_node ok (Or.inl rfl) h1
      have hz : ar i = 0 := by
        rcases h with h | h
        · exact h.2
        · exact absurd h.1 (by decide)
      have ha := lh_ad_lt ar hi
      have h0 := H.1
      have hc : p.2.toNatClampNeg = i := by rw [hv, nI_clamp (by omega)]
      refine br_t h1 (lx_high ?_)
      have e : lh_en ar p.1 p.2 >>> ((3 : Int32) &&& 31) = nI (lh_ad ar i) := by
        rw [h1, hv]
        exact lh_en_hi (Or.inl rfl) (by omega) (by omega)
      rw [e, nI_clamp (by omega)]
      refine ⟨vp_in_nI (by omega) (by omega), ?_⟩
      rcases H.2.2.2.2 i hi hz with ⟨k1, k2⟩ | ⟨k1, k2, k3, k4⟩
      · rw [lh_dr_f (fun z => z.2 (by rw [hc]; exact k1))] at hp
        have e2 : lh_en ar p.1 p.2 = lh_en ar 1 (nI i) := by rw [h1, hv]
        rw [e2] at hp ⊢
        exact nm_r k2 (br_t rfl hp)
      · have hb : ¬ bd p.2.toNatClampNeg = 0 := by rw [hc, k1]; decide
        rw [lh_dr_t h1 hb, hc] at hp
        refine nm_r k4 (br_f ?_ (nm_r (nI_1 s) (ih (s + 1) (bT i, bV i) (by omega) k2 hp)))
        intro e3
        obtain ⟨e4, e5⟩ := lh_en_inj H.1 k2 ok e3
        have k5 := k3 (e4.trans h1)
        rw [e5, hc] at k5
        omega
    · refine br_f h1 ?_
      rw [lh_dr_f (fun z => h1 z.1)] at hp
      exact hp
theorem lx_deref {post : Int32 → Prop} (H : lh_Hp n ar fn aT aV bd bT bV cl) {p : Int32 × Int32} {x : Int32} (ok : lh_ok n ar p.1 p.2) (hx : x = lh_en ar p.1 p.2)
    (hp : post (lh_en ar (lh_D bd bT bV p).1 (lh_D bd bT bV p).2)) : wpX_dereference post (xR, xB, xU, xC, rt, cl, sr, sc, su, tn) x := by
  subst hx
  exact ⟨241, lx_deref_l H 240 0 p (by omega) ok hp⟩
theorem lx_argc {post : Int32 → Prop} (H : lh_Hp n ar fn aT aV bd bT bV cl) {q : Int32 × Int32} (ok : lh_ok n ar q.1 q.2) (hp : post (nI (lh_nc ar q))) : wpX_argumentCount post (xR, xB, xU, xC, rt, cl, sr, sc, su, tn) (lh_en ar q.1 q.2) := by
  have hn := lh_n240 H.1
  unfold wpX_argumentCount
  dsimp only
  refine lx_low ?_
  rw [lh_en_lo ok]
  by_cases h1 : q.1 = 4
  · obtain ⟨i, hi, hv, h⟩ := lh_node ok (Or.inr rfl) h1
    have hz : ¬ ar i = 0 := by
      rcases h with h | h
      · exact absurd h.1 (by decide)
      · exact h.2
    have ha := lh_ad_lt ar hi
    have h0 := H.1
    have hc : q.2.toNatClampNeg = i := by rw [hv, nI_clamp (by omega)]
    refine br_t h1 (lx_high ?_)
    have e : lh_en ar q.1 q.2 >>> ((3 : Int32) &&& 31) = nI (lh_ad ar i) := by
      rw [h1, hv]
      exact lh_en_hi (Or.inr rfl) (by omega) (by omega)
    rw [e, nI_clamp (by omega)]
    refine ⟨vp_in_nI (by omega) (by omega), nm_r (H.2.2.1 i hi hz).2 (lx_low ?_)⟩
    obtain ⟨a, ha4, ea⟩ := H.2.1 i hi
    rw [lh_nc, if_pos h1, hc] at hp
    rw [ea, nI_clamp (by omega)] at hp
    rw [ea, lh_lo _ (by omega)]
    exact hp
  · refine br_f h1 ?_
    rw [lh_nc, if_neg h1] at hp
    exact hp
/-- what a listed tree says -/
def lx_P (n : Nat) (ar aT aV bd bT bV : Nat → Int32) (p : Int32 × Int32) (c : Nat) (tn : Nat → Int32) : Prop :=
  c ≤ 1001 ∧ lh_An (lh_W ar aT aV bd bT bV lh_one p) c ∧ (c ≤ 1000 → ∀ t v : Int32, lh_ok n ar t v →
    ∃ A, lh_Tot (lh_W ar aT aV bd bT bV (lh_ind (t, v)) p) A ∧ ((∃ i, i < c ∧ tn i = lh_en ar t v) ↔ 0 < A))
theorem lx_tree_l (H : lh_Hp n ar fn aT aV bd bT bV cl) (p : Int32 × Int32) : ∀ (m k c : Nat) (tn : Nat → Int32), k + m = 1000 → lx_I n ar aT aV bd bT bV p k c tn →
    ∃ (c' : Nat) (tn' : Nat → Int32), lx_P n ar aT aV bd bT bV p c' tn' ∧ ∀ (post : Int32 → St2 → Prop) (f : Nat), m < f → post (nI c') (xR, xB, xU, xC, rt, cl, sr, sc, su, tn') → wX_listTree_11 post f (nI c) (nI k) xR xB xU xC rt cl sr sc su tn := by
  intro m
  have hn := lh_n240 H.1
  have h0 := H.1
  induction m with
  | zero =>
    intro k c tn hk I
    have hkc : k ≤ c ∧ c ≤ 1000 := by
      obtain ⟨L, h1, h2, h3, _⟩ := I
      exact ⟨h1, h3⟩
    have e : c = k := by omega
    subst e
    obtain ⟨g1, g2, g3, g4⟩ := lx_Ie H I
    refine ⟨c, tn, ⟨by omega, Or.inr ⟨g2, g3⟩, fun _ => g4⟩, ?_⟩
    intro post f hf hp
    obtain ⟨f, rfl⟩ : ∃ f', f = f' + 1 := ⟨f - 1, by omega⟩
    exact br_t (nI_le (Nat.le_refl c) (by omega)) hp
  | succ m ih =>
    intro k c tn hk I
    have hkc : k ≤ c ∧ c ≤ 1000 := by
      obtain ⟨L, h1, h2, h3, _⟩ := I
      exact ⟨h1, h3⟩
    by_cases e : k = c
    · subst e
      obtain ⟨g1, g2, g3, g4⟩ := lx_Ie H I
      refine ⟨k, tn, ⟨by omega, Or.inr ⟨g2, g3⟩, fun _ => g4⟩, ?_⟩
      intro post f hf hp
      obtain ⟨f, rfl⟩ : ∃ f', f = f' + 1 := ⟨f - 1, by omega⟩
      exact br_t (nI_le (Nat.le_refl k) (by omega)) hp
    · have hlt : k < c := by omega
      obtain ⟨q, ok, hq, hbig, hsm⟩ := lx_Is H hlt I
      have okD := (lh_D_ok H ok).1
      have h4 := lh_nc4 H okD
      generalize hm : lh_nc ar (lh_D bd bT bV q) = e at *
      by_cases hc : c + e ≤ 1000
      · -- which cells are copied
        have hcp : ∃ tn1 : Nat → Int32, tn1 k = lh_en ar (lh_D bd bT bV q).1 (lh_D bd bT bV q).2 ∧ (∀ i, i < c → i ≠ k → tn1 i = tn i) ∧
            (∀ j, j < e → tn1 (c + j) = lh_en ar (lh_ch aT aV (lh_D bd bT bV q) j).1 (lh_ch aT aV (lh_D bd bT bV q) j).2) ∧
            ∀ post : St4 → Prop, post (cl, tn1) → wpX_copy_2 post (cl, upd tn k (lh_en ar (lh_D bd bT bV q).1 (lh_D bd bT bV q).2))
              ((lh_en ar (lh_D bd bT bV q).1 (lh_D bd bT bV q).2) >>> ((3 : Int32) &&& 31) + 1) (nI c) (nI e) := by
          by_cases he : e = 0
          · subst he
            refine ⟨upd tn k (lh_en ar (lh_D bd bT bV q).1 (lh_D bd bT bV q).2), pk_us, fun i _ hi => pk_un hi, fun j hj => absurd hj (Nat.not_lt_zero j), ?_⟩
            intro post hp
            exact lx_copy_0 hp
          · have h44 : (lh_D bd bT bV q).1 = 4 := by
              by_cases z : (lh_D bd bT bV q).1 = 4
              · exact z
              · rw [lh_nc, if_neg z] at hm
                omega
            obtain ⟨i, hi, hv, h⟩ := lh_node okD (Or.inr rfl) h44
            have hz : ¬ ar i = 0 := by
              rcases h with h | h
              · exact absurd h.1 (by decide)
              · exact h.2
            have hc2 : (lh_D bd bT bV q).2.toNatClampNeg = i := by rw [hv, nI_clamp (by omega)]
            have hm2 : (ar i).toNatClampNeg = e := by
              rw [lh_nc, if_pos h44, hc2] at hm
              exact hm
            have ha := lh_ad_lt ar hi
            have e1 : (lh_en ar (lh_D bd bT bV q).1 (lh_D bd bT bV q).2) >>> ((3 : Int32) &&& 31) + 1 = nI (lh_ad ar i + 1) := by
              rw [h44, hv, lh_en_hi (Or.inr rfl) (by omega) (by omega), nI_1]
            rw [e1]
            refine ⟨lh_cp cl (lh_ad ar i + 1) (upd tn k (lh_en ar (lh_D bd bT bV q).1 (lh_D bd bT bV q).2)) c e, ?_, ?_, ?_, ?_⟩
            · rw [lh_cp_o (by omega), pk_us]
            · intro i' hi' hne
              rw [lh_cp_o (by omega), pk_un hne]
            · intro j hj
              rw [lh_cp_i hj, lh_ch, hc2]
              exact (H.2.2.2.1 i hi j (by omega)).2
            · intro post hp
              exact lx_copy_cl_tn (by omega) (by omega) hp
        obtain ⟨tn1, t1, t2, t3, t4⟩ := hcp
        obtain ⟨c', tn', hP, hw⟩ := ih (k + 1) (c + e) tn1 (by omega) (hsm hc tn1 t1 t2 t3)
        refine ⟨c', tn', hP, ?_⟩
        intro post f hf hp
        obtain ⟨f, rfl⟩ : ∃ f', f = f' + 1 := ⟨f - 1, by omega⟩
        refine br_f (nI_ge hlt (by omega)) (br_f (nI_ge (b := 1000) (by omega) (by decide)) ⟨vp_in_nI (by omega) (by omega), ?_⟩)
        rw [nI_clamp (by omega)]
        refine lx_deref H ok hq ⟨vp_in_nI (by omega) (by omega), nm_e (lx_argc H okD ?_)⟩
        rw [hm]
        refine br_t ?_ (lx_high (t4 _ (nm_r (nI_add c e) (nm_r (nI_1 k) (hw post f (by omega) hp)))))
        rw [nI_add]
        exact nI_le (b := 1000) (by omega) (by decide)
      · refine ⟨1001, upd tn k (lh_en ar (lh_D bd bT bV q).1 (lh_D bd bT bV q).2), ⟨by omega, Or.inl ⟨rfl, hbig (by omega)⟩, fun z => absurd z (by omega)⟩, ?_⟩
        intro post f hf hp
        obtain ⟨f, rfl⟩ : ∃ f', f = f' + 1 := ⟨f - 1, by omega⟩
        refine br_f (nI_ge hlt (by omega)) (br_f (nI_ge (b := 1000) (by omega) (by decide)) ⟨vp_in_nI (by omega) (by omega), ?_⟩)
        rw [nI_clamp (by omega)]
        refine lx_deref H ok hq ⟨vp_in_nI (by omega) (by omega), nm_e (lx_argc H okD ?_)⟩
        rw [hm]
        refine br_f ?_ hp
        rw [nI_add]
        exact nI_ge (a := 1000) (by omega) (by omega)
theorem lx_tree (H : lh_Hp n ar fn aT aV bd bT bV cl) {p : Int32 × Int32} (ok : lh_ok n ar p.1 p.2) :
    ∃ (c : Nat) (tn' : Nat → Int32), lx_P n ar aT aV bd bT bV p c tn' ∧ ∀ post : Int32 → St2 → Prop, post (nI c) (xR, xB, xU, xC, rt, cl, sr, sc, su, tn') → wpX_listTree post (xR, xB, xU, xC, rt, cl, sr, sc, su, tn) (lh_en ar p.1 p.2) := by
  obtain ⟨c, tn', hP, hw⟩ := lx_tree_l (xR := xR) (xB := xB) (xU := xU) (xC := xC) (rt := rt) (sr := sr) (sc := sc) (su := su) H p 1000 0 1 (upd tn 0 (lh_en ar p.1 p.2)) (by omega) (lx_I0 ok pk_us)
  exact ⟨c, tn', hP, fun post hp => nm_e ⟨1001, hw post 1001 (by omega) hp⟩⟩
theorem lx_listed {post : Int32 → Prop} {c : Nat} (hc : c ≤ 1000) {x : Int32} (ht : (∃ i, i < c ∧ tn i = x) → post 1) (hf : ¬ (∃ i, i < c ∧ tn i = x) → post 0) : wpX_isListed post (xR, xB, xU, xC, rt, cl, sr, sc, su, tn) x (nI c) := by
  have k : ∀ m i, i + m = c → (∀ j, j < i → ¬ tn j = x) → wX_isListed_2 post x (nI c) xR xB xU xC rt cl sr sc su tn (m + 1) (nI i) := by
    intro m
    induction m with
    | zero =>
      intro i hi hj
      refine br_t (nI_le (by omega) (by omega)) (hf ?_)
      rintro ⟨j, h1, h2⟩
      exact hj j (by omega) h2
    | succ m ih =>
      intro i hi hj
      refine br_f (nI_ge (by omega) (by omega)) ⟨vp_in_nI (by omega) (by omega), ?_⟩
      rw [nI_clamp (by omega)]
      by_cases e : tn i = x
      · exact br_t e (ht ⟨i, by omega, e⟩)
      · refine br_f e (nm_r (nI_1 i) (ih (i + 1) (by omega) ?_))
        intro j h1
        by_cases e2 : j = i
        · rw [e2]; exact e
        · exact hj j (by omega)
  exact ⟨c + 1, k c 0 (by omega) (fun j hj => absurd hj (Nat.not_lt_zero j))⟩
theorem lx_young {post : St2 → Prop} {a b : Nat} (ha : a < 240) (hb : b < 240) {p0 p1 : Int32} (e0 : p0 >>> ((3 : Int32) &&& 31) = nI a) (e1 : p1 >>> ((3 : Int32) &&& 31) = nI b)
    (h1 : a ≤ b → post (xR, xB, xU, xC, rt, upd cl b p0, sr, sc, su, tn)) (h2 : b < a → post (xR, xB, xU, xC, rt, upd cl a p1, sr, sc, su, tn)) : wpX_bindYoungerToOlder post (xR, xB, xU, xC, rt, cl, sr, sc, su, tn) p0 p1 := by
  unfold wpX_bindYoungerToOlder
  dsimp only
  refine lx_high (lx_high ?_)
  rw [e0, e1, nI_clamp (by omega), nI_clamp (by omega)]
  exact pk_le a b (fun h => ⟨vp_in_nI hb (by omega), nm_e (h1 h)⟩) (fun h => ⟨vp_in_nI ha (by omega), nm_e (h2 h)⟩)
end
