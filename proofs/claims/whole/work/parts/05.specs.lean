/-! what each answer is, of the list L alone; each is the only one -/
def sp_get (L : List (Int32 × Int32)) (k r : Int32) : Prop := (∃ q, q ∈ L ∧ q.1 = k ∧ r = q.2) ∨ ((∀ q, q ∈ L → q.1 ≠ k) ∧ r = 0)
theorem sp_get_u {n : Nat} {K V : Nat → Int32} {L : List (Int32 × Int32)} (hD : pa_D L) (h : (pa_l K V n).Perm L) {k r r' : Int32} (a : sp_get L k r) (b : sp_get L k r') : r' = r := by
  rcases a with ⟨q, hq, e, rfl⟩ | ⟨hn, rfl⟩
  · rcases b with ⟨q', hq', e', rfl⟩ | ⟨hn', _⟩
    · rw [pa_kq hD h hq hq' (e.trans e'.symm)]
    · exact absurd e (hn' q hq)
  · rcases b with ⟨q', hq', e', _⟩ | ⟨_, rfl⟩
    · exact absurd e' (hn q' hq')
    · rfl
def ab_has (L : List (Int32 × Int32)) (k : Int32) : Int32 := if -1000 ≤ k.toInt ∧ k.toInt ≤ 1000 then (if ab_any L k = true then 1 else 0) else -1
def ab_less (L : List (Int32 × Int32)) (b : Int32) : Nat := L.countP (fun q => decide (q.1.toInt < b.toInt))
theorem ab_lessP {L M : List (Int32 × Int32)} (h : L.Perm M) (b : Int32) : ab_less L b = ab_less M b := h.countP_eq _
/-- in X the place of the first key that isn't less -/
theorem ab_lessX {n p : Nat} {K V : Nat → Int32} {L : List (Int32 × Int32)} (hX : pa_X n K V L) {b : Int32} (hp : p ≤ n) (h1 : ∀ i, i < p → (K i).toInt < b.toInt) (h2 : p < n → b.toInt ≤ (K p).toInt) : ab_less L b = p := by
  rw [← ab_lessP hX.2]
  have := pa_cnt (K := K) (V := V) (n := n) (a := 0) (e := p) (g := fun q => decide (q.1.toInt < b.toInt)) (Nat.zero_le _) hp (fun i hi => by
    show (decide ((K i).toInt < b.toInt) = true) ↔ (0 ≤ i ∧ i < p)
    rw [decide_eq_true_iff]
    constructor
    · intro h
      refine ⟨Nat.zero_le _, ?_⟩
      by_cases c : i < p
      · exact c
      · have h3 := h2 (by omega)
        by_cases z : p = i
        · rw [z] at h3
          omega
        · have := hX.1 p i (by omega) hi
          omega
    · intro h
      exact h1 i h.2)
  exact this
theorem ab_lessI {n j : Nat} {K V : Nat → Int32} {L : List (Int32 × Int32)} (hX : pa_X n K V L) (hj : j < n) : ab_less L (K j) = j :=
  ab_lessX hX (by omega) (fun i hi => hX.1 i j hi hj) (fun _ => Int.le_refl _)
def sp_sel (L : List (Int32 × Int32)) (k r : Int32) : Prop := (∃ q, q ∈ L ∧ r = q.1 ∧ nI (ab_less L q.1) = k) ∨ ((∀ q, q ∈ L → nI (ab_less L q.1) ≠ k) ∧ r = -2000)
theorem sp_sel_u {n : Nat} {K V : Nat → Int32} {L : List (Int32 × Int32)} (hL : pa_L L) (hX : pa_X n K V L) {k r r' : Int32} (a : sp_sel L k r) (b : sp_sel L k r') : r' = r := by
  have h48 := pa_n48 hL hX.2
  rcases a with ⟨q, hq, rfl, e⟩ | ⟨hn, rfl⟩
  · rcases b with ⟨q', hq', rfl, e'⟩ | ⟨hn', _⟩
    · obtain ⟨i, hi, rfl⟩ := pa_idx hX.2 hq
      obtain ⟨j, hj, rfl⟩ := pa_idx hX.2 hq'
      have e2 := e'.trans e.symm
      dsimp only at e2
      rw [ab_lessI hX hi, ab_lessI hX hj, nI_eq (by omega) (by omega)] at e2
      rw [e2]
    · exact absurd e (hn' q hq)
  · rcases b with ⟨q', hq', _, e'⟩ | ⟨_, rfl⟩
    · exact absurd e' (hn q' hq')
    · rfl
def sp_next (L : List (Int32 × Int32)) (b r : Int32) : Prop := (∃ q, q ∈ L ∧ r = q.1 ∧ b.toInt < q.1.toInt ∧ ∀ q', q' ∈ L → b.toInt < q'.1.toInt → q.1.toInt ≤ q'.1.toInt) ∨ ((∀ q, q ∈ L → q.1.toInt ≤ b.toInt) ∧ r = -2000)
theorem sp_next_u {L : List (Int32 × Int32)} {b r r' : Int32} (h : sp_next L b r) (h' : sp_next L b r') : r' = r := by
  rcases h with ⟨q, hq, rfl, e, m⟩ | ⟨hn, rfl⟩
  · rcases h' with ⟨q', hq', rfl, e', m'⟩ | ⟨hn', _⟩
    · have x := m q' hq' e'
      have y := m' q hq e
      exact Int32.toInt_inj.mp (by omega)
    · have := hn' q hq
      omega
  · rcases h' with ⟨q', hq', _, e', _⟩ | ⟨_, rfl⟩
    · have := hn q' hq'
      omega
    · rfl
def sp_prev (L : List (Int32 × Int32)) (b r : Int32) : Prop := (∃ q, q ∈ L ∧ r = q.1 ∧ q.1.toInt < b.toInt ∧ ∀ q', q' ∈ L → q'.1.toInt < b.toInt → q'.1.toInt ≤ q.1.toInt) ∨ ((∀ q, q ∈ L → b.toInt ≤ q.1.toInt) ∧ r = -2000)
theorem sp_prev_u {L : List (Int32 × Int32)} {b r r' : Int32} (h : sp_prev L b r) (h' : sp_prev L b r') : r' = r := by
  rcases h with ⟨q, hq, rfl, e, m⟩ | ⟨hn, rfl⟩
  · rcases h' with ⟨q', hq', rfl, e', m'⟩ | ⟨hn', _⟩
    · have x := m q' hq' e'
      have y := m' q hq e
      exact Int32.toInt_inj.mp (by omega)
    · have := hn' q hq
      omega
  · rcases h' with ⟨q', hq', _, e', _⟩ | ⟨_, rfl⟩
    · have := hn q' hq'
      omega
    · rfl
def sp_best (L : List (Int32 × Int32)) (lo hi r : Int32) : Prop := (∃ q, q ∈ L ∧ r = q.1 ∧ pa_in lo hi q = true ∧ ∀ q', q' ∈ L → pa_in lo hi q' = true → q'.2.toInt < q.2.toInt ∨ (q'.2.toInt = q.2.toInt ∧ q.1.toInt ≤ q'.1.toInt)) ∨ ((∀ q, q ∈ L → pa_in lo hi q = false) ∧ r = -2000)
theorem sp_best_u {L : List (Int32 × Int32)} {lo hi r r' : Int32} (h : sp_best L lo hi r) (h' : sp_best L lo hi r') : r' = r := by
  rcases h with ⟨q, hq, rfl, e, m⟩ | ⟨hn, rfl⟩
  · rcases h' with ⟨q', hq', rfl, e', m'⟩ | ⟨hn', _⟩
    · have x := m q' hq' e'
      have y := m' q hq e
      exact Int32.toInt_inj.mp (by omega)
    · have := hn' q hq
      rw [e] at this
      exact absurd this (by decide)
  · rcases h' with ⟨q', hq', _, e', _⟩ | ⟨_, rfl⟩
    · have := hn q' hq'
      rw [e'] at this
      exact absurd this (by decide)
    · rfl
def sp_close (L : List (Int32 × Int32)) (r : Int32) : Prop := (∃ a, a ∈ L ∧ ∃ b, b ∈ L ∧ r.toInt = a.1.toInt - b.1.toInt ∧ 0 < r.toInt ∧ ∀ c, c ∈ L → ∀ d, d ∈ L → d.1.toInt < c.1.toInt → r.toInt ≤ c.1.toInt - d.1.toInt) ∨ ((∀ c, c ∈ L → ∀ d, d ∈ L → ¬ d.1.toInt < c.1.toInt) ∧ r = 0)
theorem sp_close_u {L : List (Int32 × Int32)} {r r' : Int32} (h : sp_close L r) (h' : sp_close L r') : r' = r := by
  rcases h with ⟨a, ha, b, hb, e, z, m⟩ | ⟨hn, rfl⟩
  · rcases h' with ⟨a', ha', b', hb', e', z', m'⟩ | ⟨hn', _⟩
    · have x := m a' ha' b' hb' (by omega)
      have y := m' a ha b hb (by omega)
      exact Int32.toInt_inj.mp (by omega)
    · exact absurd (show b.1.toInt < a.1.toInt by omega) (hn' a ha b hb)
  · rcases h' with ⟨a', ha', b', hb', e', z', _⟩ | ⟨_, rfl⟩
    · exact absurd (show b'.1.toInt < a'.1.toInt by omega) (hn a' ha' b' hb')
    · rfl
def sp_gap (L : List (Int32 × Int32)) (f r : Int32) : Prop := (-1000 ≤ r.toInt ∧ r.toInt ≤ 1000 ∧ f.toInt ≤ r.toInt ∧ (∀ q, q ∈ L → q.1.toInt ≠ r.toInt) ∧ ∀ t : Int, -1000 ≤ t → f.toInt ≤ t → t < r.toInt → ∃ q, q ∈ L ∧ q.1.toInt = t) ∨ ((∀ t : Int, -1000 ≤ t → t ≤ 1000 → f.toInt ≤ t → ∃ q, q ∈ L ∧ q.1.toInt = t) ∧ r = -2000)
theorem sp_gap_u {L : List (Int32 × Int32)} {f r r' : Int32} (h : sp_gap L f r) (h' : sp_gap L f r') : r' = r := by
  rcases h with ⟨a1, a2, a3, a4, a5⟩ | ⟨hn, rfl⟩
  · rcases h' with ⟨b1, b2, b3, b4, b5⟩ | ⟨hn', _⟩
    · apply Int32.toInt_inj.mp
      by_cases c : r.toInt < r'.toInt
      · obtain ⟨q, hq, e⟩ := b5 r.toInt a1 a3 c
        exact absurd e (a4 q hq)
      · by_cases c2 : r'.toInt < r.toInt
        · obtain ⟨q, hq, e⟩ := a5 r'.toInt b1 b3 c2
          exact absurd e (b4 q hq)
        · omega
    · obtain ⟨q, hq, e⟩ := hn' r.toInt a1 a2 a3
      exact absurd e (a4 q hq)
  · rcases h' with ⟨b1, b2, b3, b4, b5⟩ | ⟨_, rfl⟩
    · obtain ⟨q, hq, e⟩ := hn r'.toInt b1 b2 b3
      exact absurd e (b4 q hq)
    · rfl
/-! X's ways to them -/
theorem xs_next {n e : Nat} {K V : Nat → Int32} {L : List (Int32 × Int32)} (hX : pa_X n K V L) {b : Int32} (h3 : ∀ i, i < e → (K i).toInt ≤ b.toInt) (h4 : b.toInt < (K e).toInt) (he : e < n) : sp_next L b (K e) := by
  refine Or.inl ⟨(K e, V e), pa_iL hX.2 he, rfl, h4, ?_⟩
  intro q hq hb
  obtain ⟨i, hi, rfl⟩ := pa_idx hX.2 hq
  dsimp only at hb
  show (K e).toInt ≤ (K i).toInt
  by_cases c : i < e
  · have := h3 i c
    omega
  · by_cases z : e = i
    · rw [z]
      exact Int.le_refl _
    · have := hX.1 e i (by omega) hi
      omega
theorem xs_next0 {n : Nat} {K V : Nat → Int32} {L : List (Int32 × Int32)} (hX : pa_X n K V L) {b : Int32} (h3 : ∀ i, i < n → (K i).toInt ≤ b.toInt) : sp_next L b (-2000) := by
  refine Or.inr ⟨?_, rfl⟩
  intro q hq
  obtain ⟨i, hi, rfl⟩ := pa_idx hX.2 hq
  exact h3 i hi
theorem xs_prev {n p : Nat} {K V : Nat → Int32} {L : List (Int32 × Int32)} (hX : pa_X n K V L) {b : Int32} (h1 : (K p).toInt < b.toInt) (h2 : p + 1 < n → b.toInt ≤ (K (p + 1)).toInt) (hp : p < n) : sp_prev L b (K p) := by
  refine Or.inl ⟨(K p, V p), pa_iL hX.2 hp, rfl, h1, ?_⟩
  intro q hq hb
  obtain ⟨i, hi, rfl⟩ := pa_idx hX.2 hq
  dsimp only at hb
  show (K i).toInt ≤ (K p).toInt
  by_cases c : i < p
  · have := hX.1 i p c hp
    omega
  · by_cases z : i = p
    · rw [z]
      exact Int.le_refl _
    · have a := h2 (by omega)
      by_cases y : p + 1 = i
      · rw [y] at a
        omega
      · have := hX.1 (p + 1) i (by omega) hi
        omega
theorem xs_prev0 {n : Nat} {K V : Nat → Int32} {L : List (Int32 × Int32)} (hX : pa_X n K V L) {b : Int32} (h2 : 0 < n → b.toInt ≤ (K 0).toInt) : sp_prev L b (-2000) := by
  refine Or.inr ⟨?_, rfl⟩
  intro q hq
  obtain ⟨i, hi, rfl⟩ := pa_idx hX.2 hq
  show b.toInt ≤ (K i).toInt
  have a := h2 (by omega)
  by_cases y : 0 = i
  · rw [← y]
    exact a
  · have := hX.1 0 i (by omega) hi
    omega
theorem xs_best {n p e m : Nat} {K V : Nat → Int32} {L : List (Int32 × Int32)} (hX : pa_X n K V L) {lo hi : Int32} (R : pa_R n K lo hi p e) (h1 : p ≤ m) (h2 : m < e) (h : ∀ j, p ≤ j → j < e → (V j).toInt < (V m).toInt ∨ ((V j).toInt = (V m).toInt ∧ m ≤ j)) : sp_best L lo hi (K m) := by
  obtain ⟨hp, he, hR⟩ := R
  refine Or.inl ⟨(K m, V m), pa_iL hX.2 (by omega), rfl, pa_inT.mpr ((hR m (by omega)).mpr ⟨h1, h2⟩), ?_⟩
  intro q hq hb
  obtain ⟨i, hi, rfl⟩ := pa_idx hX.2 hq
  have r := (hR i hi).mp (pa_inT.mp hb)
  show (V i).toInt < (V m).toInt ∨ ((V i).toInt = (V m).toInt ∧ (K m).toInt ≤ (K i).toInt)
  rcases h i r.1 r.2 with c | ⟨c, d⟩
  · exact Or.inl c
  · refine Or.inr ⟨c, ?_⟩
    by_cases z : m = i
    · rw [z]
      exact Int.le_refl _
    · have := hX.1 m i (by omega) hi
      omega
theorem xs_best0 {n p : Nat} {K V : Nat → Int32} {L : List (Int32 × Int32)} (hX : pa_X n K V L) {lo hi : Int32} (R : pa_R n K lo hi p p) : sp_best L lo hi (-2000) := by
  refine Or.inr ⟨?_, rfl⟩
  intro q hq
  obtain ⟨i, hi, rfl⟩ := pa_idx hX.2 hq
  refine pa_inF (fun z => ?_)
  have := (R.2.2 i hi).mp z
  omega
theorem xs_close0 {n : Nat} {K V : Nat → Int32} {L : List (Int32 × Int32)} (hX : pa_X n K V L) (hn : n < 2) : sp_close L 0 := by
  refine Or.inr ⟨?_, rfl⟩
  intro c hc d hd
  obtain ⟨i, hi, rfl⟩ := pa_idx hX.2 hc
  obtain ⟨j, hj, rfl⟩ := pa_idx hX.2 hd
  have : i = j := by omega
  rw [this]
  exact Int.lt_irrefl _
/-- neighbours are closest -/
theorem xs_close {n m : Nat} {K V : Nat → Int32} {L : List (Int32 × Int32)} (hX : pa_X n K V L) {r : Int32} (hm : m + 1 < n) (e : r.toInt = (K (m + 1)).toInt - (K m).toInt) (h : ∀ j, j + 1 < n → r.toInt ≤ (K (j + 1)).toInt - (K j).toInt) : sp_close L r := by
  refine Or.inl ⟨(K (m + 1), V (m + 1)), pa_iL hX.2 hm, (K m, V m), pa_iL hX.2 (by omega), e, ?_, ?_⟩
  · have := hX.1 m (m + 1) (by omega) hm
    omega
  · intro c hc d hd
    obtain ⟨i, hi, rfl⟩ := pa_idx hX.2 hc
    obtain ⟨j, hj, rfl⟩ := pa_idx hX.2 hd
    show (K j).toInt < (K i).toInt → r.toInt ≤ (K i).toInt - (K j).toInt
    intro hlt
    have hji : j < i := by
      by_cases z : j < i
      · exact z
      · by_cases y : i = j
        · rw [y] at hlt
          omega
        · have := hX.1 i j (by omega) hj
          omega
    have a := h j (by omega)
    by_cases z : j + 1 = i
    · rw [← z]
      exact a
    · have := hX.1 (j + 1) i (by omega) hi
      omega
/-- the walk over keys that follow each other: g is the first key that isn't held -/
theorem xs_gap {n p i : Nat} {K V : Nat → Int32} {L : List (Int32 × Int32)} (hL : pa_L L) (hX : pa_X n K V L) {f g : Int32} {t : Int} (ht : -1000 ≤ t) (hft : f.toInt ≤ t) (htf : t = -1000 ∨ t = f.toInt) (hpi : p ≤ i) (hi : i ≤ n) (h1 : ∀ j, j < p → (K j).toInt < t) (h2 : ∀ j, p ≤ j → j < i → (K j).toInt = t + ((j - p : Nat) : Int)) (hg : g.toInt = t + ((i - p : Nat) : Int)) (h3 : i < n → g.toInt < (K i).toInt) : (g.toInt ≤ 1000 → sp_gap L f g) ∧ (¬ g.toInt ≤ 1000 → sp_gap L f (-2000)) := by
  have hall : ∀ s : Int, t ≤ s → s < g.toInt → ∃ q, q ∈ L ∧ q.1.toInt = s := by
    intro s h4 h5
    have hj : p + (s - t).toNat < i := by omega
    refine ⟨(K (p + (s - t).toNat), V (p + (s - t).toNat)), pa_iL hX.2 (by omega), ?_⟩
    show (K (p + (s - t).toNat)).toInt = s
    rw [h2 _ (by omega) hj]
    omega
  constructor
  · intro hle
    refine Or.inl ⟨by omega, hle, by omega, ?_, ?_⟩
    · intro q hq
      obtain ⟨j, hj, rfl⟩ := pa_idx hX.2 hq
      show (K j).toInt ≠ g.toInt
      by_cases a : j < p
      · have := h1 j a
        omega
      · by_cases b : j < i
        · have := h2 j (by omega) b
          omega
        · have c := h3 (by omega)
          by_cases z : i = j
          · rw [z] at c
            omega
          · have := hX.1 i j (by omega) hj
            omega
    · intro s h4 h5 h6
      exact hall s (by omega) h6
  · intro hgt
    refine Or.inr ⟨?_, rfl⟩
    intro s h4 h5 h6
    exact hall s (by omega) (by omega)
