/-- how many arguments a dereferenced term has, and which -/
def lh_nc (ar : Nat → Int32) (q : Int32 × Int32) : Nat := if q.1 = 4 then (ar q.2.toNatClampNeg).toNatClampNeg else 0
def lh_ch (aT aV : Nat → Int32) (q : Int32 × Int32) (j : Nat) : Int32 × Int32 := (aT (q.2.toNatClampNeg * 4 + j), aV (q.2.toNatClampNeg * 4 + j))
def lh_W (ar aT aV bd bT bV : Nat → Int32) (g : Int32 × Int32 → Nat) (p : Int32 × Int32) (d : Nat) : Nat := lh_w (lh_D bd bT bV) (lh_nc ar) (lh_ch aT aV) g d p
/-- counts every node -/
def lh_one (_ : Int32 × Int32) : Nat := 1
/-- counts one term -/
def lh_ind (t q : Int32 × Int32) : Nat := if q = t then 1 else 0
theorem lh_W_D {n : Nat} {ar fn aT aV bd bT bV cl : Nat → Int32} (H : lh_Hp n ar fn aT aV bd bT bV cl) {p : Int32 × Int32} (h : lh_ok n ar p.1 p.2) (g : Int32 × Int32 → Nat) :
    lh_W ar aT aV bd bT bV g (lh_D bd bT bV p) = lh_W ar aT aV bd bT bV g p := by
  funext d
  cases d with
  | zero => rfl
  | succ d =>
    show lh_w _ _ _ g (d + 1) _ = lh_w _ _ _ g (d + 1) _
    rw [lh_w_s, lh_w_s, lh_D_id (lh_D_ok H h).2]
theorem lh_W_1 (ar aT aV bd bT bV : Nat → Int32) (p : Int32 × Int32) : lh_W ar aT aV bd bT bV lh_one p 1 = 1 := by
  show lh_w _ _ _ lh_one (0 + 1) _ = 1
  rw [lh_w_s]
  have h : ∀ m, lh_sm (fun j => lh_w (lh_D bd bT bV) (lh_nc ar) (lh_ch aT aV) lh_one 0 (lh_ch aT aV (lh_D bd bT bV p) j)) m = 0 := by
    intro m
    induction m with
    | zero => rfl
    | succ m ih => rw [lh_sm_s, ih]; rfl
  rw [h]
  rfl
theorem lh_nc4 {n : Nat} {ar fn aT aV bd bT bV cl : Nat → Int32} (H : lh_Hp n ar fn aT aV bd bT bV cl) {q : Int32 × Int32} (h : lh_ok n ar q.1 q.2) : lh_nc ar q ≤ 4 := by
  have hn := lh_n240 H.1
  rw [lh_nc]
  split
  · rename_i e
    rcases h with ⟨h, _⟩ | ⟨i, hi, hv, _⟩
    · rw [e] at h
      exact absurd h (by decide)
    · rw [hv, nI_clamp (by omega)]
      exact lh_ar4 H hi
  · omega
theorem lh_ch_ok {n : Nat} {ar fn aT aV bd bT bV cl : Nat → Int32} (H : lh_Hp n ar fn aT aV bd bT bV cl) {q : Int32 × Int32} (h : lh_ok n ar q.1 q.2) {j : Nat} (hj : j < lh_nc ar q) :
    lh_ok n ar (lh_ch aT aV q j).1 (lh_ch aT aV q j).2 := by
  have hn := lh_n240 H.1
  rw [lh_nc] at hj
  split at hj
  · rename_i e
    rcases h with ⟨h, _⟩ | ⟨i, hi, hv, _⟩
    · rw [e] at h
      exact absurd h (by decide)
    · have hc : q.2.toNatClampNeg = i := by rw [hv, nI_clamp (by omega)]
      rw [hc] at hj
      rw [lh_ch, hc]
      exact (H.2.2.2.1 i hi j hj).1
  · omega
/-- the class's queue: k nodes visited, c nodes listed -/
def lx_I (n : Nat) (ar aT aV bd bT bV : Nat → Int32) (p : Int32 × Int32) (k c : Nat) (tn : Nat → Int32) : Prop :=
  ∃ L : Nat → Int32 × Int32, k ≤ c ∧ 1 ≤ c ∧ c ≤ 1000 ∧ (∀ i, i < c → lh_ok n ar (L i).1 (L i).2) ∧
    (∀ i, i < k → tn i = lh_en ar (lh_D bd bT bV (L i)).1 (lh_D bd bT bV (L i)).2) ∧ (∀ i, k ≤ i → i < c → tn i = lh_en ar (L i).1 (L i).2) ∧
    ∀ g, lh_T (lh_W ar aT aV bd bT bV g p) (lh_sm (fun i => g (lh_D bd bT bV (L i))) k) k (fun d => lh_sm (fun i => lh_W ar aT aV bd bT bV g (L (k + i)) d) (c - k))
theorem lx_I0 {n : Nat} {ar aT aV bd bT bV : Nat → Int32} {p : Int32 × Int32} (h : lh_ok n ar p.1 p.2) {tn : Nat → Int32} (h0 : tn 0 = lh_en ar p.1 p.2) : lx_I n ar aT aV bd bT bV p 0 1 tn := by
  refine ⟨fun _ => p, by omega, by omega, by omega, fun _ _ => h, fun i hi => absurd hi (Nat.not_lt_zero i), ?_, ?_⟩
  · intro i _ hi
    have e : i = 0 := by omega
    rw [e]
    exact h0
  · intro g
    constructor
    · intro d
      show _ ≤ 0 + (0 + lh_W ar aT aV bd bT bV g p d)
      omega
    · intro d
      show 0 + (0 + lh_W ar aT aV bd bT bV g p d) ≤ lh_W ar aT aV bd bT bV g p d
      omega
theorem lx_Is {n : Nat} {ar fn aT aV bd bT bV cl : Nat → Int32} (H : lh_Hp n ar fn aT aV bd bT bV cl) {p : Int32 × Int32} {k c : Nat} {tn : Nat → Int32} (hk : k < c) (I : lx_I n ar aT aV bd bT bV p k c tn) :
    ∃ q : Int32 × Int32, lh_ok n ar q.1 q.2 ∧ tn k = lh_en ar q.1 q.2 ∧
      (1000 < c + lh_nc ar (lh_D bd bT bV q) → ∃ d, 1000 < lh_W ar aT aV bd bT bV lh_one p d) ∧
      (c + lh_nc ar (lh_D bd bT bV q) ≤ 1000 → ∀ tn' : Nat → Int32, tn' k = lh_en ar (lh_D bd bT bV q).1 (lh_D bd bT bV q).2 → (∀ i, i < c → i ≠ k → tn' i = tn i) →
        (∀ j, j < lh_nc ar (lh_D bd bT bV q) → tn' (c + j) = lh_en ar (lh_ch aT aV (lh_D bd bT bV q) j).1 (lh_ch aT aV (lh_D bd bT bV q) j).2) →
        lx_I n ar aT aV bd bT bV p (k + 1) (c + lh_nc ar (lh_D bd bT bV q)) tn') := by
  obtain ⟨L, h1, h2, h3, h4, h5, h6, h7⟩ := I
  obtain ⟨m, rfl⟩ : ∃ m, c = k + (m + 1) := ⟨c - k - 1, by omega⟩
  have hL : ∃ L' : Nat → Int32 × Int32, (∀ i, i < k + (m + 1) → L' i = L i) ∧ ∀ j, L' (k + (m + 1) + j) = lh_ch aT aV (lh_D bd bT bV (L k)) j := by
    refine ⟨fun i => if i < k + (m + 1) then L i else lh_ch aT aV (lh_D bd bT bV (L k)) (i - (k + (m + 1))), ?_, ?_⟩
    · intro i hi
      exact if_pos hi
    · intro j
      show (if _ then _ else _) = _
      rw [if_neg (by omega), show k + (m + 1) + j - (k + (m + 1)) = j from by omega]
  obtain ⟨L', hL1, hL2⟩ := hL
  have hs : ∀ g, lh_T (lh_W ar aT aV bd bT bV g p) (lh_sm (fun i => g (lh_D bd bT bV (L' i))) (k + 1)) (k + 1)
      (fun d => lh_sm (fun i => lh_W ar aT aV bd bT bV g (L' (k + 1 + i)) d) (m + lh_nc ar (lh_D bd bT bV (L k)))) := by
    intro g
    have h8 := h7 g
    rw [show k + (m + 1) - k = m + 1 from by omega] at h8
    exact lh_xstep (D := lh_D bd bT bV) (nc := lh_nc ar) (ch := lh_ch aT aV) h8 hL1 (fun j _ => hL2 j)
  refine ⟨L k, h4 k (by omega), h6 k (Nat.le_refl k) (by omega), ?_, ?_⟩
  · intro hb
    have h8 := (hs lh_one).2 1
    refine ⟨1 + (k + 1), ?_⟩
    have e1 : lh_sm (fun i => lh_one (lh_D bd bT bV (L' i))) (k + 1) = k + 1 := lh_sm_1 (k + 1)
    have e2 : lh_sm (fun i => lh_W ar aT aV bd bT bV lh_one (L' (k + 1 + i)) 1) (m + lh_nc ar (lh_D bd bT bV (L k))) = m + lh_nc ar (lh_D bd bT bV (L k)) := by
      rw [lh_sm_c (g := fun _ => 1) _ (fun i _ => lh_W_1 ar aT aV bd bT bV _)]
      exact lh_sm_1 _
    dsimp only at h8
    rw [e1, e2] at h8
    omega
  · intro hc tn' t1 t2 t3
    refine ⟨L', by omega, by omega, hc, ?_, ?_, ?_, ?_⟩
    · intro i hi
      by_cases g : i < k + (m + 1)
      · rw [hL1 i g]
        exact h4 i g
      · obtain ⟨j, rfl⟩ : ∃ j, i = k + (m + 1) + j := ⟨i - (k + (m + 1)), by omega⟩
        rw [hL2 j]
        exact lh_ch_ok H (lh_D_ok H (h4 k (by omega))).1 (by omega)
    · intro i hi
      by_cases e : i = k
      · subst e
        rw [hL1 i (by omega)]
        exact t1
      · rw [t2 i (by omega) e, hL1 i (by omega)]
        exact h5 i (by omega)
    · intro i hi hi2
      by_cases g : i < k + (m + 1)
      · rw [t2 i g (by omega), hL1 i g]
        exact h6 i (by omega) g
      · obtain ⟨j, rfl⟩ : ∃ j, i = k + (m + 1) + j := ⟨i - (k + (m + 1)), by omega⟩
        rw [t3 j (by omega), hL2 j]
    · intro g
      have h8 := hs g
      rw [show k + (m + 1) + lh_nc ar (lh_D bd bT bV (L k)) - (k + 1) = m + lh_nc ar (lh_D bd bT bV (L k)) from by omega]
      exact h8
theorem lx_Ie {n : Nat} {ar fn aT aV bd bT bV cl : Nat → Int32} (H : lh_Hp n ar fn aT aV bd bT bV cl) {p : Int32 × Int32} {c : Nat} {tn : Nat → Int32} (I : lx_I n ar aT aV bd bT bV p c c tn) :
    1 ≤ c ∧ c ≤ 1000 ∧ lh_Tot (lh_W ar aT aV bd bT bV lh_one p) c ∧ ∀ t v : Int32, lh_ok n ar t v →
      ∃ A, lh_Tot (lh_W ar aT aV bd bT bV (lh_ind (t, v)) p) A ∧ ((∃ i, i < c ∧ tn i = lh_en ar t v) ↔ 0 < A) := by
  obtain ⟨L, h1, h2, h3, h4, h5, h6, h7⟩ := I
  have h8 : ∀ g, lh_Tot (lh_W ar aT aV bd bT bV g p) (lh_sm (fun i => g (lh_D bd bT bV (L i))) c) := by
    intro g
    refine lh_Tot_e (h7 g) (fun d => ?_)
    show lh_sm _ (c - c) = 0
    rw [Nat.sub_self]
    rfl
  refine ⟨h2, h3, ?_, ?_⟩
  · have h9 := h8 lh_one
    rw [show lh_sm (fun i => lh_one (lh_D bd bT bV (L i))) c = c from lh_sm_1 c] at h9
    exact h9
  · intro t v hok
    refine ⟨_, h8 (lh_ind (t, v)), ?_⟩
    rw [lh_sm_p]
    constructor
    · rintro ⟨i, hi, e⟩
      rw [h5 i hi] at e
      obtain ⟨e1, e2⟩ := lh_en_inj H.1 (lh_D_ok H (h4 i hi)).1 hok e
      refine ⟨i, hi, ?_⟩
      show 0 < lh_ind (t, v) (lh_D bd bT bV (L i))
      rw [lh_ind, if_pos (Prod.ext e1 e2)]
      omega
    · rintro ⟨i, hi, e⟩
      refine ⟨i, hi, ?_⟩
      rw [h5 i hi]
      have e' : lh_D bd bT bV (L i) = (t, v) := by
        by_cases z : lh_D bd bT bV (L i) = (t, v)
        · exact z
        · exfalso
          have e2 : 0 < lh_ind (t, v) (lh_D bd bT bV (L i)) := e
          rw [lh_ind, if_neg z] at e2
          omega
      rw [e']
/-- the reference's stack: it nodes visited, s to be visited -/
def ly_I (n : Nat) (ar aT aV bd bT bV : Nat → Int32) (p t : Int32 × Int32) (it s A : Nat) (sT sV : Nat → Int32) : Prop :=
  s ≤ 1 + 3 * it ∧ (∀ i, i < s → lh_ok n ar (sT i) (sV i)) ∧
    lh_T (lh_W ar aT aV bd bT bV lh_one p) it it (fun d => lh_sm (fun i => lh_W ar aT aV bd bT bV lh_one (sT i, sV i) d) s) ∧
    lh_T (lh_W ar aT aV bd bT bV (lh_ind t) p) A it (fun d => lh_sm (fun i => lh_W ar aT aV bd bT bV (lh_ind t) (sT i, sV i) d) s)
theorem ly_I0 {n : Nat} {ar aT aV bd bT bV : Nat → Int32} {p t : Int32 × Int32} (h : lh_ok n ar p.1 p.2) {sT sV : Nat → Int32} (h0 : sT 0 = p.1) (h1 : sV 0 = p.2) : ly_I n ar aT aV bd bT bV p t 0 1 0 sT sV := by
  have e : (sT 0, sV 0) = p := by rw [h0, h1]
  have k : ∀ g, lh_T (lh_W ar aT aV bd bT bV g p) 0 0 (fun d => lh_sm (fun i => lh_W ar aT aV bd bT bV g (sT i, sV i) d) 1) := by
    intro g
    constructor
    · intro d
      show _ ≤ 0 + (0 + lh_W ar aT aV bd bT bV g (sT 0, sV 0) d)
      rw [e]
      omega
    · intro d
      show 0 + (0 + lh_W ar aT aV bd bT bV g (sT 0, sV 0) d) ≤ lh_W ar aT aV bd bT bV g p d
      rw [e]
      omega
  refine ⟨by omega, ?_, k _, k _⟩
  intro i hi
  have e0 : i = 0 := by omega
  rw [e0, h0, h1]
  exact h
theorem ly_Is {n : Nat} {ar fn aT aV bd bT bV cl : Nat → Int32} (H : lh_Hp n ar fn aT aV bd bT bV cl) {p t : Int32 × Int32} {it s A : Nat} {sT sV sT' sV' : Nat → Int32} (I : ly_I n ar aT aV bd bT bV p t it (s + 1) A sT sV)
    (h1 : ∀ i, i < s → sT' i = sT i ∧ sV' i = sV i)
    (h2 : ∀ j, j < lh_nc ar (lh_D bd bT bV (sT s, sV s)) → (sT' (s + j), sV' (s + j)) = lh_ch aT aV (lh_D bd bT bV (sT s, sV s)) j) :
    ly_I n ar aT aV bd bT bV p t (it + 1) (s + lh_nc ar (lh_D bd bT bV (sT s, sV s))) (A + lh_ind t (lh_D bd bT bV (sT s, sV s))) sT' sV' := by
  obtain ⟨g1, g2, g3, g4⟩ := I
  have hok := g2 s (by omega)
  have hD := lh_D_ok H (p := (sT s, sV s)) hok
  have h4 := lh_nc4 H hD.1
  refine ⟨by omega, ?_, ?_, ?_⟩
  · intro i hi
    by_cases e : i < s
    · rw [(h1 i e).1, (h1 i e).2]
      exact g2 i (by omega)
    · obtain ⟨j, rfl⟩ : ∃ j, i = s + j := ⟨i - s, by omega⟩
      have e2 := h2 j (by omega)
      have e3 := lh_ch_ok H hD.1 (j := j) (by omega)
      rw [← e2] at e3
      exact e3
  · exact lh_ystep (D := lh_D bd bT bV) (nc := lh_nc ar) (ch := lh_ch aT aV) (g := lh_one) (st := fun i => (sT i, sV i)) (st' := fun i => (sT' i, sV' i)) g3
      (fun i hi => Prod.ext (h1 i hi).1 (h1 i hi).2) h2
  · exact lh_ystep (D := lh_D bd bT bV) (nc := lh_nc ar) (ch := lh_ch aT aV) (g := lh_ind t) (st := fun i => (sT i, sV i)) (st' := fun i => (sT' i, sV' i)) g4
      (fun i hi => Prod.ext (h1 i hi).1 (h1 i hi).2) h2
theorem ly_Ib {n : Nat} {ar aT aV bd bT bV : Nat → Int32} {p t : Int32 × Int32} {s A : Nat} {sT sV : Nat → Int32} (I : ly_I n ar aT aV bd bT bV p t 1000 (s + 1) A sT sV) : ∃ d, 1000 < lh_W ar aT aV bd bT bV lh_one p d := by
  have h := I.2.2.1.2 1
  refine ⟨1 + 1000, ?_⟩
  have e2 : lh_sm (fun i => lh_W ar aT aV bd bT bV lh_one (sT i, sV i) 1) (s + 1) = s + 1 := by
    rw [lh_sm_c (g := fun _ => 1) _ (fun i _ => lh_W_1 ar aT aV bd bT bV _)]
    exact lh_sm_1 _
  dsimp only at h
  rw [e2] at h
  omega
theorem ly_Ie {n : Nat} {ar aT aV bd bT bV : Nat → Int32} {p t : Int32 × Int32} {it A : Nat} {sT sV : Nat → Int32} (I : ly_I n ar aT aV bd bT bV p t it 0 A sT sV) :
    lh_Tot (lh_W ar aT aV bd bT bV lh_one p) it ∧ lh_Tot (lh_W ar aT aV bd bT bV (lh_ind t) p) A :=
  ⟨lh_Tot_e I.2.2.1 (fun _ => rfl), lh_Tot_e I.2.2.2 (fun _ => rfl)⟩
