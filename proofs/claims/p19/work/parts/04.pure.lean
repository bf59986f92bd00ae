/-- dereferencing, at most m steps -/
def lh_dr (bd bT bV : Nat → Int32) : Nat → Int32 × Int32 → Int32 × Int32
  | 0, p => p
  | m + 1, p => if p.1 = 1 ∧ ¬ bd p.2.toNatClampNeg = 0 then lh_dr bd bT bV m (bT p.2.toNatClampNeg, bV p.2.toNatClampNeg) else p
theorem lh_dr_t {bd bT bV : Nat → Int32} {m : Nat} {p : Int32 × Int32} (h : p.1 = 1) (hb : ¬ bd p.2.toNatClampNeg = 0) : lh_dr bd bT bV (m + 1) p = lh_dr bd bT bV m (bT p.2.toNatClampNeg, bV p.2.toNatClampNeg) := if_pos ⟨h, hb⟩
theorem lh_dr_f {bd bT bV : Nat → Int32} {m : Nat} {p : Int32 × Int32} (h : ¬ (p.1 = 1 ∧ ¬ bd p.2.toNatClampNeg = 0)) : lh_dr bd bT bV (m + 1) p = p := if_neg h
theorem lh_dr_id {bd bT bV : Nat → Int32} : ∀ (m : Nat) {p : Int32 × Int32}, (p.1 = 1 → bd p.2.toNatClampNeg = 0) → lh_dr bd bT bV m p = p
  | 0, _, _ => rfl
  | m + 1, _, h => lh_dr_f (fun z => z.2 (h z.1))
/-- what a bound variable holds -/
theorem lh_bound {n : Nat} {ar fn aT aV bd bT bV cl : Nat → Int32} (H : lh_Hp n ar fn aT aV bd bT bV cl) {p : Int32 × Int32} (h : lh_ok n ar p.1 p.2) (h1 : p.1 = 1) (hb : ¬ bd p.2.toNatClampNeg = 0) :
    ∃ i, i < n ∧ p.2 = nI i ∧ ar i = 0 ∧ p.2.toNatClampNeg = i ∧ bd i = 1 ∧ lh_ok n ar (bT i) (bV i) ∧ (bT i = 1 → (bV i).toNatClampNeg < i) ∧ cl (lh_ad ar i) = lh_en ar (bT i) (bV i) := by
  have hn := lh_n240 H.1
  rcases h with ⟨h, _⟩ | ⟨i, hi, hv, h⟩
  · rw [h1] at h
    exact absurd h (by decide)
  · have hz : ar i = 0 := by
      rcases h with h | h
      · exact h.2
      · rw [h1] at h
        exact absurd h.1 (by decide)
    have hc : p.2.toNatClampNeg = i := by rw [hv, nI_clamp (by omega)]
    rw [hc] at hb
    rcases H.2.2.2.2 i hi hz with m | m
    · exact absurd m.1 hb
    · exact ⟨i, hi, hv, hz, hc, m⟩
theorem lh_dr_st {n : Nat} {ar fn aT aV bd bT bV cl : Nat → Int32} (H : lh_Hp n ar fn aT aV bd bT bV cl) : ∀ (m : Nat) (p : Int32 × Int32), lh_ok n ar p.1 p.2 → (p.1 = 1 → p.2.toNatClampNeg < m) →
    lh_dr bd bT bV (m + 1) p = lh_dr bd bT bV m p := by
  intro m
  induction m with
  | zero =>
    intro p _ h
    exact lh_dr_f (fun z => absurd (h z.1) (Nat.not_lt_zero _))
  | succ m ih =>
    intro p ok h
    by_cases z : p.1 = 1 ∧ ¬ bd p.2.toNatClampNeg = 0
    · rw [lh_dr_t z.1 z.2, lh_dr_t z.1 z.2]
      obtain ⟨i, hi, hv, hz, hc, h1, h2, h3, h4⟩ := lh_bound H ok z.1 z.2
      rw [hc]
      have hm := h z.1
      exact ih _ h2 (fun e => by have := h3 e; show (bV i).toNatClampNeg < m; omega)
    · rw [lh_dr_f z, lh_dr_f z]
theorem lh_dr_ok {n : Nat} {ar fn aT aV bd bT bV cl : Nat → Int32} (H : lh_Hp n ar fn aT aV bd bT bV cl) : ∀ (m : Nat) (p : Int32 × Int32), lh_ok n ar p.1 p.2 → (p.1 = 1 → p.2.toNatClampNeg < m) →
    lh_ok n ar (lh_dr bd bT bV m p).1 (lh_dr bd bT bV m p).2 ∧ ((lh_dr bd bT bV m p).1 = 1 → bd (lh_dr bd bT bV m p).2.toNatClampNeg = 0) := by
  intro m
  induction m with
  | zero =>
    intro p ok h
    exact ⟨ok, fun e => absurd (h e) (Nat.not_lt_zero _)⟩
  | succ m ih =>
    intro p ok h
    by_cases z : p.1 = 1 ∧ ¬ bd p.2.toNatClampNeg = 0
    · rw [lh_dr_t z.1 z.2]
      obtain ⟨i, hi, hv, hz, hc, h1, h2, h3, h4⟩ := lh_bound H ok z.1 z.2
      rw [hc]
      have hm := h z.1
      exact ih _ h2 (fun e => by have := h3 e; show (bV i).toNatClampNeg < m; omega)
    · rw [lh_dr_f z]
      refine ⟨ok, fun e => ?_⟩
      by_cases y : bd p.2.toNatClampNeg = 0
      · exact y
      · exact absurd ⟨e, y⟩ z
theorem lh_ok240 {n : Nat} {ar : Nat → Int32} (hn : lh_ad ar n ≤ 240) {t v : Int32} (h : lh_ok n ar t v) (h1 : t = 1) : v.toNatClampNeg < 240 := by
  have := lh_n240 hn
  rcases h with ⟨h, _⟩ | ⟨i, hi, rfl, _⟩
  · rw [h1] at h
    exact absurd h (by decide)
  · rw [nI_clamp (by omega)]
    omega
/-- the dereferenced term -/
def lh_D (bd bT bV : Nat → Int32) (p : Int32 × Int32) : Int32 × Int32 := lh_dr bd bT bV 240 p
theorem lh_D_ok {n : Nat} {ar fn aT aV bd bT bV cl : Nat → Int32} (H : lh_Hp n ar fn aT aV bd bT bV cl) {p : Int32 × Int32} (h : lh_ok n ar p.1 p.2) :
    lh_ok n ar (lh_D bd bT bV p).1 (lh_D bd bT bV p).2 ∧ ((lh_D bd bT bV p).1 = 1 → bd (lh_D bd bT bV p).2.toNatClampNeg = 0) :=
  lh_dr_ok H 240 p h (lh_ok240 H.1 h)
theorem lh_D_id {bd bT bV : Nat → Int32} {p : Int32 × Int32} (h : p.1 = 1 → bd p.2.toNatClampNeg = 0) : lh_D bd bT bV p = p := lh_dr_id 240 h
theorem lh_D_41 {n : Nat} {ar fn aT aV bd bT bV cl : Nat → Int32} (H : lh_Hp n ar fn aT aV bd bT bV cl) {p : Int32 × Int32} (h : lh_ok n ar p.1 p.2) : lh_dr bd bT bV 241 p = lh_D bd bT bV p :=
  lh_dr_st H 240 p h (lh_ok240 H.1 h)
/-- a sum -/
def lh_sm (f : Nat → Nat) : Nat → Nat
  | 0 => 0
  | n + 1 => lh_sm f n + f n
theorem lh_sm_s (f : Nat → Nat) (n : Nat) : lh_sm f (n + 1) = lh_sm f n + f n := rfl
theorem lh_sm_c {f g : Nat → Nat} : ∀ n, (∀ i, i < n → f i = g i) → lh_sm f n = lh_sm g n := by
  intro n
  induction n with
  | zero => exact fun _ => rfl
  | succ n ih =>
    intro h
    rw [lh_sm_s, lh_sm_s, ih (fun i hi => h i (by omega)), h n (by omega)]
theorem lh_sm_m {f g : Nat → Nat} : ∀ n, (∀ i, i < n → f i ≤ g i) → lh_sm f n ≤ lh_sm g n := by
  intro n
  induction n with
  | zero => exact fun _ => Nat.le_refl _
  | succ n ih =>
    intro h
    have h1 := ih (fun i hi => h i (by omega))
    have h2 := h n (by omega)
    rw [lh_sm_s, lh_sm_s]
    omega
theorem lh_sm_a (f : Nat → Nat) (a : Nat) : ∀ b, lh_sm f (a + b) = lh_sm f a + lh_sm (fun i => f (a + i)) b := by
  intro b
  induction b with
  | zero => rfl
  | succ b ih =>
    show lh_sm f (a + b) + f (a + b) = lh_sm f a + (lh_sm (fun i => f (a + i)) b + f (a + b))
    omega
theorem lh_sm_f (f : Nat → Nat) (m : Nat) : lh_sm f (m + 1) = f 0 + lh_sm (fun i => f (i + 1)) m := by
  have h := lh_sm_a f 1 m
  rw [Nat.add_comm m 1, h]
  have e : (fun i => f (1 + i)) = (fun i => f (i + 1)) := funext (fun i => by rw [Nat.add_comm])
  rw [e]
  show 0 + f 0 + _ = _
  omega
theorem lh_sm_1 : ∀ n, lh_sm (fun _ => 1) n = n := by
  intro n
  induction n with
  | zero => rfl
  | succ n ih => rw [lh_sm_s, ih]
theorem lh_sm_p {f : Nat → Nat} : ∀ n, 0 < lh_sm f n ↔ ∃ i, i < n ∧ 0 < f i := by
  intro n
  induction n with
  | zero => exact ⟨fun h => absurd h (Nat.lt_irrefl 0), fun ⟨i, h, _⟩ => absurd h (Nat.not_lt_zero i)⟩
  | succ n ih =>
    rw [lh_sm_s]
    constructor
    · intro h
      by_cases z : 0 < f n
      · exact ⟨n, by omega, z⟩
      · obtain ⟨i, hi, h2⟩ := ih.mp (by omega)
        exact ⟨i, by omega, h2⟩
    · rintro ⟨i, hi, h⟩
      by_cases e : i = n
      · subst e; omega
      · have := ih.mpr ⟨i, by omega, h⟩
        omega
/-- the weight of a tree, cut at depth d -/
def lh_w {T : Type} (D : T → T) (nc : T → Nat) (ch : T → Nat → T) (g : T → Nat) : Nat → T → Nat
  | 0, _ => 0
  | d + 1, p => g (D p) + lh_sm (fun j => lh_w D nc ch g d (ch (D p) j)) (nc (D p))
theorem lh_w_s {T : Type} (D : T → T) (nc : T → Nat) (ch : T → Nat → T) (g : T → Nat) (d : Nat) (p : T) : lh_w D nc ch g (d + 1) p = g (D p) + lh_sm (fun j => lh_w D nc ch g d (ch (D p) j)) (nc (D p)) := rfl
theorem lh_w_m {T : Type} (D : T → T) (nc : T → Nat) (ch : T → Nat → T) (g : T → Nat) : ∀ (d : Nat) (p : T), lh_w D nc ch g d p ≤ lh_w D nc ch g (d + 1) p := by
  intro d
  induction d with
  | zero => exact fun p => Nat.zero_le _
  | succ d ih =>
    intro p
    rw [lh_w_s, lh_w_s]
    exact Nat.add_le_add_left (lh_sm_m _ (fun i _ => ih _)) _
/-- a walk through a tree: A is the weight of what has been visited in k steps, pend what is to be visited -/
def lh_T (wp : Nat → Nat) (A k : Nat) (pend : Nat → Nat) : Prop := (∀ d, wp d ≤ A + pend d) ∧ (∀ d, A + pend d ≤ wp (d + k))
theorem lh_step {A k g : Nat} {wp wq rest chs pend pend' : Nat → Nat} (h : lh_T wp A k pend) (hp : ∀ d, pend d = wq d + rest d) (hp' : ∀ d, pend' d = rest d + chs d)
    (hw : ∀ d, wq (d + 1) = g + chs d) (hm : ∀ d, wq d ≤ wq (d + 1)) (hr : ∀ d, rest d ≤ rest (d + 1)) : lh_T wp (A + g) (k + 1) pend' := by
  constructor
  · intro d
    have h1 := h.1 d
    have h2 := hp d
    have h3 := hp' d
    have h4 := hw d
    have h5 := hm d
    omega
  · intro d
    have h1 := h.2 (d + 1)
    have h2 := hp (d + 1)
    have h3 := hp' d
    have h4 := hw d
    have h6 := hr d
    have e : d + 1 + k = d + (k + 1) := by omega
    rw [e] at h1
    omega
def lh_Tot (wp : Nat → Nat) (c : Nat) : Prop := (∀ d, wp d ≤ c) ∧ ∃ d, c ≤ wp d
theorem lh_Tot_u {wp : Nat → Nat} {c c' : Nat} (h : lh_Tot wp c) (h' : lh_Tot wp c') : c = c' := by
  obtain ⟨d, hd⟩ := h.2
  obtain ⟨d', hd'⟩ := h'.2
  have h1 := h'.1 d
  have h2 := h.1 d'
  omega
theorem lh_Tot_e {wp : Nat → Nat} {A k : Nat} {pend : Nat → Nat} (h : lh_T wp A k pend) (h0 : ∀ d, pend d = 0) : lh_Tot wp A := by
  refine ⟨fun d => ?_, 0 + k, ?_⟩
  · have h1 := h.1 d
    have h2 := h0 d
    omega
  · have h1 := h.2 0
    omega
/-- the answer of a walk that counts to 1000 -/
def lh_An (wp : Nat → Nat) (c : Nat) : Prop := (c = 1001 ∧ ∃ d, 1000 < wp d) ∨ (c ≤ 1000 ∧ lh_Tot wp c)
theorem lh_An_u {wp : Nat → Nat} {c c' : Nat} (h : lh_An wp c) (h' : lh_An wp c') : c = c' := by
  rcases h with ⟨h1, d, h2⟩ | ⟨h1, h2⟩ <;> rcases h' with ⟨g1, e, g2⟩ | ⟨g1, g2⟩
  · omega
  · have := g2.1 d; omega
  · have := h2.1 e; omega
  · exact lh_Tot_u h2 g2
theorem lh_An_t {wp : Nat → Nat} {c : Nat} (h : lh_An wp c) (hc : c ≤ 1000) : lh_Tot wp c := by
  rcases h with ⟨h1, _⟩ | ⟨h1, h2⟩
  · omega
  · exact h2
/-- the reference's walk: a stack -/
theorem lh_ystep {T : Type} {D : T → T} {nc : T → Nat} {ch : T → Nat → T} {g : T → Nat} {wp : Nat → Nat} {A k s : Nat} {st st' : Nat → T}
    (h : lh_T wp A k (fun d => lh_sm (fun i => lh_w D nc ch g d (st i)) (s + 1))) (h1 : ∀ i, i < s → st' i = st i) (h2 : ∀ j, j < nc (D (st s)) → st' (s + j) = ch (D (st s)) j) :
    lh_T wp (A + g (D (st s))) (k + 1) (fun d => lh_sm (fun i => lh_w D nc ch g d (st' i)) (s + nc (D (st s)))) := by
  refine lh_step (wq := fun d => lh_w D nc ch g d (st s)) (rest := fun d => lh_sm (fun i => lh_w D nc ch g d (st i)) s)
    (chs := fun d => lh_sm (fun j => lh_w D nc ch g d (ch (D (st s)) j)) (nc (D (st s)))) h ?_ ?_ ?_ ?_ ?_
  · intro d
    show lh_sm _ s + lh_w D nc ch g d (st s) = _
    rw [Nat.add_comm]
  · intro d
    show lh_sm _ (s + _) = _
    rw [lh_sm_a]
    congr 1
    · exact lh_sm_c _ (fun i hi => by rw [h1 i hi])
    · exact lh_sm_c _ (fun j hj => by rw [h2 j hj])
  · exact fun d => rfl
  · exact fun d => lh_w_m D nc ch g d _
  · exact fun d => lh_sm_m _ (fun i _ => lh_w_m D nc ch g d _)
/-- the class's walk: a queue -/
theorem lh_xstep {T : Type} {D : T → T} {nc : T → Nat} {ch : T → Nat → T} {g : T → Nat} {wp : Nat → Nat} {k m : Nat} {L L' : Nat → T}
    (h : lh_T wp (lh_sm (fun i => g (D (L i))) k) k (fun d => lh_sm (fun i => lh_w D nc ch g d (L (k + i))) (m + 1)))
    (h1 : ∀ i, i < k + (m + 1) → L' i = L i) (h2 : ∀ j, j < nc (D (L k)) → L' (k + (m + 1) + j) = ch (D (L k)) j) :
    lh_T wp (lh_sm (fun i => g (D (L' i))) (k + 1)) (k + 1) (fun d => lh_sm (fun i => lh_w D nc ch g d (L' (k + 1 + i))) (m + nc (D (L k)))) := by
  have e : lh_sm (fun i => g (D (L' i))) (k + 1) = lh_sm (fun i => g (D (L i))) k + g (D (L k)) := by
    rw [lh_sm_s]
    congr 1
    · exact lh_sm_c _ (fun i hi => by rw [h1 i (by omega)])
    · rw [h1 k (by omega)]
  rw [e]
  refine lh_step (wq := fun d => lh_w D nc ch g d (L k)) (rest := fun d => lh_sm (fun i => lh_w D nc ch g d (L (k + (i + 1)))) m)
    (chs := fun d => lh_sm (fun j => lh_w D nc ch g d (ch (D (L k)) j)) (nc (D (L k)))) h ?_ ?_ ?_ ?_ ?_
  · intro d
    exact lh_sm_f _ m
  · intro d
    show lh_sm _ (m + _) = _
    rw [lh_sm_a]
    congr 1
    · exact lh_sm_c _ (fun i hi => by
        show lh_w D nc ch g d (L' (k + 1 + i)) = lh_w D nc ch g d (L (k + (i + 1)))
        rw [h1 _ (by omega), show k + 1 + i = k + (i + 1) from by omega])
    · exact lh_sm_c _ (fun j hj => by
        show lh_w D nc ch g d (L' (k + 1 + (m + j))) = lh_w D nc ch g d (ch (D (L k)) j)
        rw [show k + 1 + (m + j) = k + (m + 1) + j from by omega, h2 j hj])
  · exact fun d => rfl
  · exact fun d => lh_w_m D nc ch g d _
  · exact fun d => lh_sm_m _ (fun i _ => lh_w_m D nc ch g d _)
