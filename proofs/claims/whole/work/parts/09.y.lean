section
variable {yR yB yN yU yC dT dV fd : Int32} {rT rV bd bT bV fn ar aT aV crT crV cN cU cB cbT cbV sT sV cl : Nat → Int32} {n : Nat}
theorem ly_valid {post : Int32 → Prop} {R : Nat} (hR : R ≤ 8) (r : Int32) (ht : ∀ j, j < R → r = nI j → post 1) (hf : ¬ lh_ro R r → post 0) : wpY_valid post (nI R, yB, yN, yU, yC, dT, dV, fd, rT, rV, bd, bT, bV, fn, ar, aT, aV, crT, crV, cN, cU, cB, cbT, cbV, sT, sV) r := by
  by_cases h0 : r < 0
  · refine br_t h0 (hf ?_)
    rintro ⟨j, hj, e⟩
    rw [e] at h0
    exact nI_pos (by omega) h0
  · obtain ⟨j, hj, rfl⟩ := nI_of h0
    by_cases h : j < R
    · exact br_f h0 (br_f (nI_ge h (by omega)) (ht j h rfl))
    · refine br_f h0 (br_t (nI_le (by omega) hj) (hf ?_))
      rintro ⟨i, hi, e⟩
      rw [nI_eq hj (by omega)] at e
      omega
theorem ly_deref_l {post : SY → Prop} (H : lh_Hp n ar fn aT aV bd bT bV cl) : ∀ (m s : Nat) (p : Int32 × Int32), s + m = 241 → lh_ok n ar p.1 p.2 →
    post (yR, yB, yN, yU, yC, (lh_dr bd bT bV m p).1, (lh_dr bd bT bV m p).2, fd, rT, rV, bd, bT, bV, fn, ar, aT, aV, crT, crV, cN, cU, cB, cbT, cbV, sT, sV) → wY_deref_8 post yR yB yN yU yC dT dV fd rT rV bd bT bV fn ar aT aV crT crV cN cU cB cbT cbV sT sV (m + 1) p.1 p.2 (nI s) := by
  intro m
  have hn := lh_n240 H.1
  induction m with
  | zero =>
    intro s p hs ok hp
    exact br_t (nI_lt (a := 240) (by omega) (by omega)) hp
  | succ m ih =>
    intro s p hs ok hp
    refine br_f (nI_nlt (a := 240) (by omega) (by decide)) ?_
    by_cases h1 : p.1 = 1
    · obtain ⟨i, hi, hv, h⟩ := lh_node ok (Or.inl rfl) h1
      have hz : ar i = 0 := by
        rcases h with h | h
        · exact h.2
        · exact absurd h.1 (by decide)
      have hc : p.2.toNatClampNeg = i := by rw [hv, nI_clamp (by omega)]
      refine br_t h1 ?_
      by_cases hb : bd i = 0
      · rw [lh_dr_f (fun z => z.2 (by rw [hc]; exact hb))] at hp
        rw [hc]
        refine br_f ?_ (br_f ?_ ⟨?_, br_t hb hp⟩)
        · rw [hv]; exact nI_pos (by omega)
        · rw [hv]; exact nI_ge (b := 240) (by omega) (by decide)
        · rw [hv]; exact vp_in_nI (by omega) (by omega)
      · obtain ⟨i', hi', hv', hz', hc', k1, k2, k3, k4⟩ := lh_bound H ok h1 (by rw [hc]; exact hb)
        have ei : i' = i := by rw [← hc', hc]
        subst ei
        rw [lh_dr_t h1 (by rw [hc]; exact hb), hc] at hp
        rw [hc]
        have hin : vp_in p.2 240 := by rw [hv]; exact vp_in_nI (by omega) (by omega)
        refine br_f ?_ (br_f ?_ ⟨hin, br_f hb ⟨hin, nm_e ⟨hin, nm_e (nm_r (nI_1 s) (ih (s + 1) (bT i', bV i') (by omega) k2 hp))⟩⟩⟩)
        · rw [hv]; exact nI_pos (by omega)
        · rw [hv]; exact nI_ge (b := 240) (by omega) (by decide)
    · rw [lh_dr_f (fun z => h1 z.1)] at hp
      exact br_f h1 hp
theorem ly_deref {post : SY → Prop} (H : lh_Hp n ar fn aT aV bd bT bV cl) {p : Int32 × Int32} {t v : Int32} (ok : lh_ok n ar p.1 p.2) (et : t = p.1) (ev : v = p.2)
    (hp : post (yR, yB, yN, yU, yC, (lh_D bd bT bV p).1, (lh_D bd bT bV p).2, fd, rT, rV, bd, bT, bV, fn, ar, aT, aV, crT, crV, cN, cU, cB, cbT, cbV, sT, sV)) : wpY_deref post (yR, yB, yN, yU, yC, dT, dV, fd, rT, rV, bd, bT, bV, fn, ar, aT, aV, crT, crV, cN, cU, cB, cbT, cbV, sT, sV) t v := by
  subst et ev
  refine ⟨242, ly_deref_l H 241 0 p (by omega) ok ?_⟩
  rw [lh_D_41 H ok]
  exact hp
theorem ly_push {post : Int32 → SY → Prop} {J : Int32 → Int32 → Int32 → Int32 → Int32 → Int32 → Int32 → Int32 → Int32 → Int32 → Int32 → (Nat → Int32) → (Nat → Int32) → (Nat → Int32) → (Nat → Int32) → (Nat → Int32) → (Nat → Int32) → (Nat → Int32) → (Nat → Int32) → (Nat → Int32) → (Nat → Int32) → (Nat → Int32) → (Nat → Int32) → (Nat → Int32) → (Nat → Int32) → (Nat → Int32) → (Nat → Int32) → (Nat → Int32) → (Nat → Int32) → Prop}
    (H : lh_Hp n ar fn aT aV bd bT bV cl) {x3 x5 : Int32} {it i s a : Nat} (hi : i < n) (ha : ar i = nI a) (ha4 : a ≤ 4) (hs : s + 4 ≤ 4096)
    (h : J (nI (s + a)) x5 (nI (it + 1)) yR yB yN yU yC dT dV fd rT rV bd bT bV fn ar aT aV crT crV cN cU cB cbT cbV (lh_cp aT (i * 4) sT s a) (lh_cp aV (i * 4) sV s a)) : ∃ f, wY_walk_135 post J x3 x5 (nI it) (nI i) yR yB yN yU yC dT dV fd f (nI s) 0 rT rV bd bT bV fn ar aT aV crT crV cN cU cB cbT cbV sT sV := by
  have hn := lh_n240 H.1
  refine loop_0 (fun f j z => wY_walk_135 post J x3 x5 (nI it) (nI i) yR yB yN yU yC dT dV fd f (nI (s + j)) (nI j) rT rV bd bT bV fn ar aT aV crT crV cN cU cB cbT cbV (z.1) (z.2))
    (fun j z => z = (lh_cp aT (i * 4) sT s j, lh_cp aV (i * 4) sV s j)) a (sT, sV) ?_ ?_ ?_
  · rw [lh_cp_0, lh_cp_0]
  · intro f z hz
    subst hz
    dsimp only
    have e : (nI i).toNatClampNeg = i := nI_clamp (by omega)
    refine ⟨vp_in_nI (by omega) (by omega), br_t ?_ (nm_r (nI_1 it) h)⟩
    rw [e, ha]
    exact nI_le (Nat.le_refl a) (by omega)
  · intro f j z hj hz ih
    subst hz
    dsimp only
    have e : (nI i).toNatClampNeg = i := nI_clamp (by omega)
    have e2 : nI i * 4 + nI j = nI (i * 4 + j) := by
      rw [← nI_add, ← pk_mul]
      rfl
    have ih' := ih (lh_cp aT (i * 4) sT s (j + 1), lh_cp aV (i * 4) sV s (j + 1)) rfl
    dsimp only at ih'
    refine ⟨vp_in_nI (by omega) (by omega), br_f ?_ (br_f (nI_ge (b := 4) (by omega) (by decide)) (br_f (nI_ge (b := 4096) (by omega) (by decide)) ?_))⟩
    · rw [e, ha]
      exact nI_ge hj (by omega)
    · rw [e2, nI_clamp (by omega), nI_clamp (by omega)]
      exact ⟨vp_in_nI (by omega) (by omega), vp_in_nI (by omega) (by omega), nm_r (lh_cp_s _ _ _ _ _) ⟨vp_in_nI (by omega) (by omega), vp_in_nI (by omega) (by omega),
        nm_r (lh_cp_s _ _ _ _ _) (nm_r (nI_1 (s + j)) (nm_r (nI_1 j) ih'))⟩⟩
theorem ly_101 {post : Int32 → SY → Prop} {J : Int32 → Int32 → Int32 → Int32 → Int32 → Int32 → Int32 → Int32 → Int32 → Int32 → Int32 → (Nat → Int32) → (Nat → Int32) → (Nat → Int32) → (Nat → Int32) → (Nat → Int32) → (Nat → Int32) → (Nat → Int32) → (Nat → Int32) → (Nat → Int32) → (Nat → Int32) → (Nat → Int32) → (Nat → Int32) → (Nat → Int32) → (Nat → Int32) → (Nat → Int32) → (Nat → Int32) → (Nat → Int32) → (Nat → Int32) → Prop}
    (H : lh_Hp n ar fn aT aV bd bT bV cl) {x3 x5 : Int32} {it s : Nat} (ok : lh_ok n ar dT dV) (hs : s + 4 ≤ 4096)
    (h : J (nI (s + lh_nc ar (dT, dV))) x5 (nI (it + 1)) yR yB yN yU yC dT dV fd rT rV bd bT bV fn ar aT aV crT crV cN cU cB cbT cbV (lh_cp aT (dV.toNatClampNeg * 4) sT s (lh_nc ar (dT, dV))) (lh_cp aV (dV.toNatClampNeg * 4) sV s (lh_nc ar (dT, dV)))) :
    wY_walk_101 post J x3 (nI s) x5 (nI it) yR yB yN yU yC dT dV fd rT rV bd bT bV fn ar aT aV crT crV cN cU cB cbT cbV sT sV := by
  have hn := lh_n240 H.1
  by_cases h4 : dT = 4
  · obtain ⟨i, hi, hv, h1⟩ := lh_node (p := (dT, dV)) ok (Or.inr rfl) h4
    dsimp only at hv
    subst hv
    have e : (nI i).toNatClampNeg = i := nI_clamp (by omega)
    obtain ⟨a, ha, ea⟩ := H.2.1 i hi
    have en : lh_nc ar (dT, nI i) = a := by
      rw [lh_nc, if_pos h4]
      show (ar (nI i).toNatClampNeg).toNatClampNeg = a
      rw [e, ea, nI_clamp (by omega)]
    rw [en, e] at h
    exact br_t h4 (br_f (nI_pos (by omega)) (br_f (nI_ge (b := 240) (by omega) (by decide)) (ly_push H hi ea ha hs h)))
  · have en : lh_nc ar (dT, dV) = 0 := by
      rw [lh_nc, if_neg h4]
    rw [en, lh_cp_0, lh_cp_0] at h
    exact br_f h4 (nm_r (nI_1 it) h)
/-- what the reference's walk says -/
def ly_P (ar aT aV bd bT bV : Nat → Int32) (p : Int32 × Int32) (t : Int32) (c : Nat) (fd : Int32) : Prop :=
  c ≤ 1001 ∧ lh_An (lh_W ar aT aV bd bT bV lh_one p) c ∧ (c ≤ 1000 → ∃ A, lh_Tot (lh_W ar aT aV bd bT bV (lh_ind (1, t)) p) A ∧ ((fd = 0 ∧ A = 0) ∨ (fd = 1 ∧ 0 < A)))
theorem ly_walk_l (H : lh_Hp n ar fn aT aV bd bT bV cl) (p : Int32 × Int32) (t : Int32) : ∀ (m it s A : Nat) (fd dT dV : Int32) (sT sV : Nat → Int32), it + m = 1000 → ly_I n ar aT aV bd bT bV p (1, t) it s A sT sV →
    ((fd = 0 ∧ A = 0) ∨ (fd = 1 ∧ 0 < A)) → ∃ (c : Nat) (fd' dT' dV' : Int32) (sT' sV' : Nat → Int32), ly_P ar aT aV bd bT bV p t c fd' ∧
      ∀ (post : Int32 → SY → Prop) (f : Nat), m < f → post (nI c) (yR, yB, yN, yU, yC, dT', dV', fd', rT, rV, bd, bT, bV, fn, ar, aT, aV, crT, crV, cN, cU, cB, cbT, cbV, sT', sV') → wY_walk_31 post t f (nI s) (nI it) (nI it) yR yB yN yU yC dT dV fd rT rV bd bT bV fn ar aT aV crT crV cN cU cB cbT cbV sT sV := by
  intro m
  induction m with
  | zero =>
    intro it s A fd dT dV sT sV hit I hfd
    have e : it = 1000 := by omega
    subst e
    cases s with
    | zero =>
      obtain ⟨g1, g2⟩ := ly_Ie I
      refine ⟨1000, fd, dT, dV, sT, sV, ⟨by omega, Or.inr ⟨by omega, g1⟩, fun _ => ⟨A, g2, hfd⟩⟩, ?_⟩
      intro post f hf hp
      obtain ⟨f, rfl⟩ : ∃ f', f = f' + 1 := ⟨f - 1, by omega⟩
      exact br_f (nI_ge (b := 2000) (by omega) (by decide)) (br_t (nI_le (b := 0) (by omega) (by decide)) hp)
    | succ s =>
      have hs := I.1
      have ok := I.2.1 s (by omega)
      refine ⟨1001, fd, (lh_D bd bT bV (sT s, sV s)).1, (lh_D bd bT bV (sT s, sV s)).2, sT, sV, ⟨by omega, Or.inl ⟨rfl, ly_Ib I⟩, fun z => absurd z (by omega)⟩, ?_⟩
      intro post f hf hp
      obtain ⟨f, rfl⟩ : ∃ f', f = f' + 1 := ⟨f - 1, by omega⟩
      refine br_f (nI_ge (b := 2000) (by omega) (by decide)) (br_f (nI_nle (by omega) (by omega)) (nm_r (pk_m1 s) ?_))
      have hin : vp_in (nI s) 4096 := vp_in_nI (by omega) (by omega)
      rw [nI_clamp (by omega)]
      exact ⟨hin, hin, ly_deref H (p := (sT s, sV s)) ok rfl rfl (nm_r (nI_1 1000) (br_f (nI_ge (a := 1000) (by omega) (by decide)) hp))⟩
  | succ m ih =>
    intro it s A fd dT dV sT sV hit I hfd
    cases s with
    | zero =>
      obtain ⟨g1, g2⟩ := ly_Ie I
      refine ⟨it, fd, dT, dV, sT, sV, ⟨by omega, Or.inr ⟨by omega, g1⟩, fun _ => ⟨A, g2, hfd⟩⟩, ?_⟩
      intro post f hf hp
      obtain ⟨f, rfl⟩ : ∃ f', f = f' + 1 := ⟨f - 1, by omega⟩
      exact br_f (nI_ge (b := 2000) (by omega) (by decide)) (br_t (nI_le (b := 0) (by omega) (by decide)) hp)
    | succ s =>
      have hs := I.1
      have ok := I.2.1 s (by omega)
      have okD := (lh_D_ok H (p := (sT s, sV s)) ok).1
      have I2 := ly_Is H (sT' := lh_cp aT ((lh_D bd bT bV (sT s, sV s)).2.toNatClampNeg * 4) sT s (lh_nc ar (lh_D bd bT bV (sT s, sV s))))
        (sV' := lh_cp aV ((lh_D bd bT bV (sT s, sV s)).2.toNatClampNeg * 4) sV s (lh_nc ar (lh_D bd bT bV (sT s, sV s)))) I
        (fun i hi => ⟨lh_cp_o (by omega), lh_cp_o (by omega)⟩) (fun j hj => by rw [lh_cp_i hj, lh_cp_i hj]; rfl)
      have hin : vp_in (nI s) 4096 := vp_in_nI (by omega) (by omega)
      by_cases hh : lh_D bd bT bV (sT s, sV s) = (1, t)
      · obtain ⟨c, fd', dT', dV', sT', sV', hP, hw⟩ := ih (it + 1) _ _ 1 (lh_D bd bT bV (sT s, sV s)).1 (lh_D bd bT bV (sT s, sV s)).2 _ _ (by omega) I2
          (Or.inr ⟨rfl, by rw [lh_ind, if_pos hh]; omega⟩)
        refine ⟨c, fd', dT', dV', sT', sV', hP, ?_⟩
        intro post f hf hp
        obtain ⟨f, rfl⟩ : ∃ f', f = f' + 1 := ⟨f - 1, by omega⟩
        refine br_f (nI_ge (b := 2000) (by omega) (by decide)) (br_f (nI_nle (by omega) (by omega)) (nm_r (pk_m1 s) ?_))
        rw [nI_clamp (by omega)]
        refine ⟨hin, hin, ly_deref H (p := (sT s, sV s)) ok rfl rfl (nm_r (nI_1 it) (br_t (nI_le (b := 1000) (by omega) (by decide)) ?_))⟩
        have h1 : (lh_D bd bT bV (sT s, sV s)).1 = 1 := by rw [hh]
        have h2 : (lh_D bd bT bV (sT s, sV s)).2 = t := by rw [hh]
        exact br_t h1 (br_t h2 (ly_101 H okD (by omega) (hw post f (by omega) hp)))
      · obtain ⟨c, fd', dT', dV', sT', sV', hP, hw⟩ := ih (it + 1) _ _ fd (lh_D bd bT bV (sT s, sV s)).1 (lh_D bd bT bV (sT s, sV s)).2 _ _ (by omega) I2
          (by rw [lh_ind, if_neg hh]; exact hfd)
        refine ⟨c, fd', dT', dV', sT', sV', hP, ?_⟩
        intro post f hf hp
        obtain ⟨f, rfl⟩ : ∃ f', f = f' + 1 := ⟨f - 1, by omega⟩
        refine br_f (nI_ge (b := 2000) (by omega) (by decide)) (br_f (nI_nle (by omega) (by omega)) (nm_r (pk_m1 s) ?_))
        rw [nI_clamp (by omega)]
        refine ⟨hin, hin, ly_deref H (p := (sT s, sV s)) ok rfl rfl (nm_r (nI_1 it) (br_t (nI_le (b := 1000) (by omega) (by decide)) ?_))⟩
        have k := ly_101 (x3 := t) (post := post) H okD (by omega : s + 4 ≤ 4096) (hw post f (by omega) hp)
        by_cases h1 : (lh_D bd bT bV (sT s, sV s)).1 = 1
        · refine br_t h1 (br_f ?_ k)
          intro h2
          exact hh (Prod.ext h1 h2)
        · exact br_f h1 k
theorem ly_walk (H : lh_Hp n ar fn aT aV bd bT bV cl) {p : Int32 × Int32} (ok : lh_ok n ar p.1 p.2) (t : Int32) :
    ∃ (c : Nat) (fd' dT' dV' : Int32) (sT' sV' : Nat → Int32), ly_P ar aT aV bd bT bV p t c fd' ∧
      ∀ post : Int32 → SY → Prop, post (nI c) (yR, yB, yN, yU, yC, dT', dV', fd', rT, rV, bd, bT, bV, fn, ar, aT, aV, crT, crV, cN, cU, cB, cbT, cbV, sT', sV') → wpY_walk post (yR, yB, yN, yU, yC, dT, dV, fd, rT, rV, bd, bT, bV, fn, ar, aT, aV, crT, crV, cN, cU, cB, cbT, cbV, sT, sV) p.1 p.2 t := by
  obtain ⟨c, fd', dT', dV', sT', sV', hP, hw⟩ := ly_walk_l (yR := yR) (yB := yB) (yN := yN) (yU := yU) (yC := yC) (rT := rT) (rV := rV) (crT := crT) (crV := crV) (cN := cN) (cU := cU) (cB := cB) (cbT := cbT) (cbV := cbV)
    H p t 1000 0 1 0 0 dT dV (upd sT 0 p.1) (upd sV 0 p.2) (by omega) (ly_I0 ok pk_us pk_us) (Or.inl ⟨rfl, rfl⟩)
  exact ⟨c, fd', dT', dV', sT', sV', hP, fun post hp => nm_e (nm_e ⟨1001, hw post 1001 (by omega) hp⟩)⟩
end
