/-- the relation without the scalars -/
def lh_Q (R B n c : Nat) (M : Nat → Nat) (rt cl sr sc su rT rV bd bT bV fn ar aT aV crT crV cN cU cB cbT cbV : Nat → Int32) : Prop :=
  2 ≤ R ∧ R ≤ 8 ∧ B ≤ 240 ∧ c ≤ 8 ∧ lh_ad ar n ≤ B ∧ lh_Hp n ar fn aT aV bd bT bV cl ∧ lh_Rt R n ar rT rV rt ∧ lh_S R n c M ar fn aT aV sr sc su crT crV cN cU cB cbT cbV
section
variable {R B n c : Nat} {M : Nat → Nat} {rt cl sr sc su rT rV bd bT bV fn ar aT aV crT crV cN cU cB cbT cbV : Nat → Int32}
theorem lq_root (h : lh_Q R B n c M rt cl sr sc su rT rV bd bT bV fn ar aT aV crT crV cN cU cB cbT cbV) (j : Nat) {t v x : Int32} (ok : lh_ok n ar t v) (hx : x = lh_en ar t v) : lh_Q R B n c M (upd rt j x) cl sr sc su (upd rT j t) (upd rV j v) bd bT bV fn ar aT aV crT crV cN cU cB cbT cbV := by
  obtain ⟨h1, h2, h3, h4, h5, h6, h7, h8⟩ := h
  exact ⟨h1, h2, h3, h4, h5, h6, lh_Rt_u h7 j ok hx, h8⟩
theorem lq_bind (h : lh_Q R B n c M rt cl sr sc su rT rV bd bT bV fn ar aT aV crT crV cN cU cB cbT cbV) {bd' bT' bV' cl' : Nat → Int32} (H : lh_Hp n ar fn aT aV bd' bT' bV' cl') : lh_Q R B n c M rt cl' sr sc su rT rV bd' bT' bV' fn ar aT aV crT crV cN cU cB cbT cbV := by
  obtain ⟨h1, h2, h3, h4, h5, h6, h7, h8⟩ := h
  exact ⟨h1, h2, h3, h4, h5, H, h7, h8⟩
theorem lq_adv : lh_ad (upd ar n 0) (n + 1) = lh_ad ar n + 1 := by
  rw [lh_ad_s, lh_ad_c n (fun i hi => pk_un (by omega)), pk_us]
  rfl
theorem lq_adb {m : Nat} (hm : m ≤ 4) : lh_ad (upd ar n (nI m)) (n + 1) = lh_ad ar n + (1 + m) := by
  rw [lh_ad_s, lh_ad_c (ar := ar) n (fun i hi => pk_un (by omega)), pk_us, nI_clamp (by omega)]
  omega
theorem lq_var (h : lh_Q R B n c M rt cl sr sc su rT rV bd bT bV fn ar aT aV crT crV cN cU cB cbT cbV) (j : Nat) (hB : lh_ad ar n + 1 ≤ B) :
    lh_Q R B (n + 1) c M (upd rt j (lh_pk (nI (lh_ad ar n)) 1)) (upd cl (lh_ad ar n) (lh_pk (nI (lh_ad ar n)) 1)) sr sc su (upd rT j 1) (upd rV j (nI n)) (upd bd n 0) (upd bT n 0) (upd bV n 0) fn (upd ar n 0) aT aV crT crV cN cU cB cbT cbV := by
  obtain ⟨h1, h2, h3, h4, h5, h6, h7, h8⟩ := h
  have hn := lh_n240 h6.1
  have ear : ∀ i, i < n → upd ar n 0 i = ar i := fun i hi => pk_un (by omega)
  have ead : lh_ad (upd ar n 0) n = lh_ad ar n := lh_ad_c n ear
  have een : lh_en (upd ar n 0) 1 (nI n) = lh_pk (nI (lh_ad ar n)) 1 := by rw [lh_en_n _ (by omega) (Or.inl rfl), ead]
  have H1 : lh_Hp n (upd ar n 0) fn aT aV (upd bd n 0) (upd bT n 0) (upd bV n 0) (upd cl (lh_ad ar n) (lh_pk (nI (lh_ad ar n)) 1)) :=
    lh_Hp_c h6 ear (fun _ _ => rfl) (fun _ _ => ⟨rfl, rfl⟩) (fun i hi _ => ⟨pk_un (by omega), pk_un (by omega), pk_un (by omega)⟩) (fun j hj => pk_un (by omega))
  refine ⟨h1, h2, h3, h4, by rw [lq_adv]; exact hB, ?_, ?_, ?_⟩
  · refine lh_Hp_x H1 (by rw [lq_adv]; omega) ⟨0, by omega, pk_us⟩ (fun z => absurd pk_us z) ?_ (fun _ => ⟨pk_us, ?_⟩)
    · intro k hk
      rw [pk_us] at hk
      exact absurd hk (by simp)
    · rw [ead, pk_us, een]
  · exact lh_Rt_u (lh_Rt_m (lh_Rt_c h7 hn ear (fun r _ => ⟨rfl, rfl, rfl⟩)) (by omega)) j (Or.inr ⟨n, by omega, rfl, Or.inl ⟨rfl, pk_us⟩⟩) een.symm
  · exact lh_S_c h8 (by omega) ear (fun _ _ => rfl) (fun _ _ => ⟨rfl, rfl⟩)
theorem lq_build (h : lh_Q R B n c M rt cl sr sc su rT rV bd bT bV fn ar aT aV crT crV cN cU cB cbT cbV) (j : Nat) {f m i : Nat} (hf : f ≤ 4095) (hm1 : 1 ≤ m) (hm4 : m ≤ 4) (hi : i + m ≤ R) (hB : lh_ad ar n + 1 + m ≤ B) :
    lh_Q R B (n + 1) c M (upd rt j (lh_pk (nI (lh_ad ar n)) 4)) (lh_cp rt i (upd cl (lh_ad ar n) (lh_pk (nI f) (nI m))) (lh_ad ar n + 1) m) sr sc su (upd rT j 4) (upd rV j (nI n)) (upd bd n 0) bT bV (upd fn n (nI f)) (upd ar n (nI m)) (lh_cp rT i aT (n * 4) m) (lh_cp rV i aV (n * 4) m) crT crV cN cU cB cbT cbV := by
  obtain ⟨h1, h2, h3, h4, h5, h6, h7, h8⟩ := h
  have hn := lh_n240 h6.1
  have ear : ∀ i, i < n → upd ar n (nI m) i = ar i := fun i hi => pk_un (by omega)
  have ead : lh_ad (upd ar n (nI m)) n = lh_ad ar n := lh_ad_c n ear
  have een : lh_en (upd ar n (nI m)) 4 (nI n) = lh_pk (nI (lh_ad ar n)) 4 := by rw [lh_en_n _ (by omega) (Or.inr rfl), ead]
  have ea3 : ∀ k, k < n * 4 → lh_cp rT i aT (n * 4) m k = aT k ∧ lh_cp rV i aV (n * 4) m k = aV k := fun k hk => ⟨lh_cp_o (Or.inl hk), lh_cp_o (Or.inl hk)⟩
  have ef : ∀ k, k < n → upd fn n (nI f) k = fn k := fun k hk => pk_un (by omega)
  have hz : ¬ nI m = 0 := nI_ne0 (by omega) (by omega)
  have H1 : lh_Hp n (upd ar n (nI m)) (upd fn n (nI f)) (lh_cp rT i aT (n * 4) m) (lh_cp rV i aV (n * 4) m) (upd bd n 0) bT bV (lh_cp rt i (upd cl (lh_ad ar n) (lh_pk (nI f) (nI m))) (lh_ad ar n + 1) m) :=
    lh_Hp_c h6 ear ef ea3 (fun k hk _ => ⟨pk_un (by omega), rfl, rfl⟩) (fun k hk => by rw [lh_cp_o (by omega), pk_un (by omega)])
  refine ⟨h1, h2, h3, h4, by rw [lq_adb hm4]; omega, ?_, ?_, ?_⟩
  · refine lh_Hp_x H1 (by rw [lq_adb hm4]; omega) ⟨m, hm4, pk_us⟩ (fun _ => ⟨⟨f, hf, pk_us⟩, ?_⟩) ?_ (fun z => absurd (pk_us.symm.trans z) hz)
    · rw [ead, lh_cp_o (by omega), pk_us, pk_us, pk_us]
    · intro k hk
      rw [pk_us, nI_clamp (by omega)] at hk
      obtain ⟨g1, g2⟩ := h7 (i + k) (by omega)
      rw [ead, lh_cp_i hk, lh_cp_i hk, lh_cp_i hk, g2, lh_en_c g1 hn ear]
      exact ⟨lh_ok_c g1 ear, rfl⟩
  · exact lh_Rt_u (lh_Rt_m (lh_Rt_c h7 hn ear (fun r _ => ⟨rfl, rfl, rfl⟩)) (by omega)) j (Or.inr ⟨n, by omega, rfl, Or.inr ⟨rfl, by rw [pk_us]; exact hz⟩⟩) een.symm
  · exact lh_S_c h8 (by omega) ear ef ea3
theorem lq_b01 {x : Int32} (h : x = 0 ∨ x = 1) : vp_nar .boolean x = x := by
  rcases h with rfl | rfl <;> decide
theorem lq_bd (H : lh_Hp n ar fn aT aV bd bT bV cl) {i : Nat} (hi : i < n) (hz : ar i = 0) : bd i = 0 ∨ bd i = 1 := by
  rcases H.2.2.2.2 i hi hz with h | h
  · exact Or.inl h.1
  · exact Or.inr h.1
theorem lq_push (h : lh_Q R B n c M rt cl sr sc su rT rV bd bT bV fn ar aT aV crT crV cN cU cB cbT cbV) (hc : c < 8) :
    lh_Q R B n (c + 1) (fun k => if k = c then n else M k) rt cl (lh_cp rt 0 sr (c * 8) R) (lh_cp cl 0 sc (c * 240) (lh_ad ar n)) (upd su c (nI (lh_ad ar n))) rT rV bd bT bV fn ar aT aV (lh_cp rT 0 crT (c * 8) 8) (lh_cp rV 0 crV (c * 8) 8) (upd cN c (nI n)) (upd cU c (nI (lh_ad ar n))) (lh_cp (fun i => vp_nar .boolean (bd i)) 0 cB (c * 240) n) (lh_cp bT 0 cbT (c * 240) n) (lh_cp bV 0 cbV (c * 240) n) := by
  obtain ⟨h1, h2, h3, h4, h5, h6, h7, h8⟩ := h
  refine ⟨h1, h2, h3, by omega, h5, h6, h7, ?_⟩
  refine lh_S_push h8 h2 h6 h7 ?_ ?_ ?_ ?_ ?_ ?_ ?_ ?_ ?_ ?_ ?_ ?_ ?_ ?_ ?_ ?_ ?_ pk_us pk_us pk_us
  · exact fun j hj => lh_cp_o (Or.inl hj)
  · exact fun j hj => lh_cp_o (Or.inl hj)
  · exact fun j hj => lh_cp_o (Or.inl hj)
  · exact fun j hj => lh_cp_o (Or.inl hj)
  · exact fun j hj => lh_cp_o (Or.inl hj)
  · exact fun j hj => lh_cp_o (Or.inl hj)
  · exact fun j hj => lh_cp_o (Or.inl hj)
  · exact fun j hj => pk_un (by omega)
  · exact fun j hj => pk_un (by omega)
  · exact fun j hj => pk_un (by omega)
  · exact fun i hi => by rw [lh_cp_i hi, Nat.zero_add]
  · exact fun i hi => by rw [lh_cp_i (by omega), Nat.zero_add]
  · exact fun i hi => by rw [lh_cp_i (by omega), Nat.zero_add]
  · exact fun i hi => by rw [lh_cp_i hi, Nat.zero_add]
  · exact fun i hi hz => by
      rw [lh_cp_i hi, Nat.zero_add]
      exact lq_b01 (lq_bd h6 hi hz)
  · exact fun i hi => by rw [lh_cp_i hi, Nat.zero_add]
  · exact fun i hi => by rw [lh_cp_i hi, Nat.zero_add]
theorem lq_pop (h : lh_Q R B n (c + 1) M rt cl sr sc su rT rV bd bT bV fn ar aT aV crT crV cN cU cB cbT cbV) : lh_Q R B n c M rt cl sr sc su rT rV bd bT bV fn ar aT aV crT crV cN cU cB cbT cbV := by
  obtain ⟨h1, h2, h3, h4, h5, h6, h7, h8⟩ := h
  exact ⟨h1, h2, h3, by omega, h5, h6, h7, lh_S_pop h8⟩
theorem lh_cp_i0 {f : Nat → Int32} {fs : Nat} {t : Nat → Int32} {m i : Nat} (h : i < m) : lh_cp f fs t 0 m i = f (fs + i) := by
  have h1 := lh_cp_i (f := f) (fs := fs) (t := t) (ts := 0) h
  rw [Nat.zero_add] at h1
  exact h1
theorem lq_back (h : lh_Q R B n (c + 1) M rt cl sr sc su rT rV bd bT bV fn ar aT aV crT crV cN cU cB cbT cbV) :
    (M c ≤ 240 ∧ lh_ad ar (M c) ≤ 240 ∧ cN c = nI (M c) ∧ cU c = nI (lh_ad ar (M c)) ∧ su c = nI (lh_ad ar (M c))) ∧
    lh_Q R B (M c) (c + 1) M (lh_cp sr (c * 8) rt 0 R) (lh_cp sc (c * 240) cl 0 (lh_ad ar (M c))) sr sc su (lh_cp crT (c * 8) rT 0 8) (lh_cp crV (c * 8) rV 0 8) (lh_cp (fun i => vp_nar .boolean (cB i)) (c * 240) bd 0 (M c)) (lh_cp cbT (c * 240) bT 0 (M c)) (lh_cp cbV (c * 240) bV 0 (M c)) fn ar aT aV crT crV cN cU cB cbT cbV := by
  obtain ⟨h1, h2, h3, h4, h5, h6, h7, h8⟩ := h
  obtain ⟨g1, g2, g3, g4, g5, g6, g7⟩ := h8 c (by omega)
  have ha := lh_ad_le ar g1
  have hs := lh_S_back (rt' := lh_cp sr (c * 8) rt 0 R) (cl' := lh_cp sc (c * 240) cl 0 (lh_ad ar (M c))) (rT' := lh_cp crT (c * 8) rT 0 8) (rV' := lh_cp crV (c * 8) rV 0 8)
    (bd' := lh_cp (fun i => vp_nar .boolean (cB i)) (c * 240) bd 0 (M c)) (bT' := lh_cp cbT (c * 240) bT 0 (M c)) (bV' := lh_cp cbV (c * 240) bV 0 (M c)) h8
    (fun i hi => lh_cp_i0 hi) (fun i hi => lh_cp_i0 (by omega)) (fun i hi => lh_cp_i0 (by omega)) (fun i hi => lh_cp_i0 hi)
    (fun i hi hz => by rw [lh_cp_i0 hi]; exact lq_b01 (lq_bd g6 hi hz)) (fun i hi => lh_cp_i0 hi) (fun i hi => lh_cp_i0 hi)
  exact ⟨⟨lh_n240 g6.1, g6.1, g3, g4, g5⟩, h1, h2, h3, h4, by omega, hs.2.1, hs.2.2, hs.1⟩
end
