/-! slide: what it does to L, and X's way -/
def ab_sl (L : List (Int32 × Int32)) (lo hi b r : Int32) (L1 : List (Int32 × Int32)) : Prop := (ab_bad L lo hi b ∧ r = -1 ∧ L1 = L) ∨ (¬ ab_bad L lo hi b ∧ ab_met L lo hi b ∧ r = -2 ∧ L1 = L) ∨ (¬ ab_bad L lo hi b ∧ ¬ ab_met L lo hi b ∧ r = nI (L.countP (pa_in lo hi)) ∧ L1 = L.map (ab_mv lo hi b))
theorem ab_slU {L : List (Int32 × Int32)} {lo hi b r r' : Int32} {L1 L2 : List (Int32 × Int32)} (h : ab_sl L lo hi b r L1) (h' : ab_sl L lo hi b r' L2) : r' = r ∧ L2 = L1 := by
  rcases h with ⟨a, rfl, rfl⟩ | ⟨a, c, rfl, rfl⟩ | ⟨a, c, rfl, rfl⟩
  · rcases h' with ⟨_, rfl, rfl⟩ | ⟨a', _⟩ | ⟨a', _⟩
    · exact ⟨rfl, rfl⟩
    · exact absurd a a'
    · exact absurd a a'
  · rcases h' with ⟨a', _⟩ | ⟨_, _, rfl, rfl⟩ | ⟨_, c', _⟩
    · exact absurd a' a
    · exact ⟨rfl, rfl⟩
    · exact absurd c c'
  · rcases h' with ⟨a', _⟩ | ⟨_, c', _⟩ | ⟨_, _, rfl, rfl⟩
    · exact absurd a' a
    · exact absurd c' c
    · exact ⟨rfl, rfl⟩
theorem ab_slL {L L1 : List (Int32 × Int32)} {lo hi b r : Int32} (hL : pa_L L) (h : ab_sl L lo hi b r L1) : pa_L L1 := by
  rcases h with ⟨a, _, rfl⟩ | ⟨a, c, _, rfl⟩ | ⟨a, c, _, rfl⟩
  · exact hL
  · exact hL
  · exact ab_mvL hL a c
theorem xs_bad1 {n p e j : Nat} {K V : Nat → Int32} {L : List (Int32 × Int32)} {lo hi b : Int32} (hL : pa_L L) (hY : (pa_l K V n).Perm L) (R : pa_R n K lo hi p e) (h1 : p ≤ j) (h2 : j < e) (g : ¬ (-1000 ≤ (K j).toInt + b.toInt ∧ (K j).toInt + b.toInt ≤ 1000)) : ab_bad L lo hi b := by
  have hj : j < n := Nat.lt_of_lt_of_le h2 R.2.1
  have gj := pa_g hL hY hj
  exact ⟨(K j, V j), pa_iL hY hj, pa_inT.mpr ((R.2.2 j hj).mpr ⟨h1, h2⟩), fun z => g ((pa_ga gj.1 gj.2).mp z)⟩
theorem xs_bad0 {n p e : Nat} {K V : Nat → Int32} {L : List (Int32 × Int32)} {lo hi b : Int32} (hL : pa_L L) (hY : (pa_l K V n).Perm L) (R : pa_R n K lo hi p e) (g : ∀ j, p ≤ j → j < e → -1000 ≤ (K j).toInt + b.toInt ∧ (K j).toInt + b.toInt ≤ 1000) : ¬ ab_bad L lo hi b := by
  intro ⟨q, hq, hin, hb⟩
  obtain ⟨j, hj, rfl⟩ := pa_idx hY hq
  have gj := pa_g hL hY hj
  have r := (R.2.2 j hj).mp (pa_inT.mp hin)
  exact hb ((pa_ga gj.1 gj.2).mpr (g j r.1 r.2))
theorem xs_met1 {n p e j i : Nat} {K V : Nat → Int32} {L : List (Int32 × Int32)} {lo hi b : Int32} (hY : (pa_l K V n).Perm L) (R : pa_R n K lo hi p e) (h1 : p ≤ j) (h2 : j < e) (hi' : i < n) (h : K i = K j + b) (h3 : ¬ (p ≤ i ∧ i < e)) : ab_met L lo hi b := by
  have hj : j < n := Nat.lt_of_lt_of_le h2 R.2.1
  exact ⟨(K j, V j), pa_iL hY hj, pa_inT.mpr ((R.2.2 j hj).mpr ⟨h1, h2⟩), (K i, V i), pa_iL hY hi', h, pa_inF (fun z => h3 ((R.2.2 i hi').mp z))⟩
theorem xs_met0 {n p e : Nat} {K V : Nat → Int32} {L : List (Int32 × Int32)} {lo hi b : Int32} (hY : (pa_l K V n).Perm L) (R : pa_R n K lo hi p e) (h : ∀ j, p ≤ j → j < e → ∀ i, i < n → K i = K j + b → p ≤ i ∧ i < e) : ¬ ab_met L lo hi b := by
  intro ⟨q, hq, hin, q', hq', e1, hout⟩
  obtain ⟨j, hj, rfl⟩ := pa_idx hY hq
  obtain ⟨i, hi', rfl⟩ := pa_idx hY hq'
  have r := (R.2.2 j hj).mp (pa_inT.mp hin)
  have r2 := h j r.1 r.2 i hi' e1
  rw [pa_inT.mpr ((R.2.2 i hi').mpr r2)] at hout
  exact absurd hout (by decide)
theorem ys_bad1 {n j : Nat} {K V : Nat → Int32} {L : List (Int32 × Int32)} {lo hi b : Int32} (hY : (pa_l K V n).Perm L) (hj : j < n) (hin : lo.toInt ≤ (K j).toInt ∧ (K j).toInt ≤ hi.toInt) (g : ¬ (-1000 ≤ (K j + b).toInt ∧ (K j + b).toInt ≤ 1000)) : ab_bad L lo hi b :=
  ⟨(K j, V j), pa_iL hY hj, pa_inT.mpr hin, g⟩
theorem ys_bad0 {n : Nat} {K V : Nat → Int32} {L : List (Int32 × Int32)} {lo hi b : Int32} (hY : (pa_l K V n).Perm L) (g : ∀ j, j < n → (lo.toInt ≤ (K j).toInt ∧ (K j).toInt ≤ hi.toInt) → -1000 ≤ (K j + b).toInt ∧ (K j + b).toInt ≤ 1000) : ¬ ab_bad L lo hi b := by
  intro ⟨q, hq, hin, hb⟩
  obtain ⟨j, hj, rfl⟩ := pa_idx hY hq
  exact hb (g j hj (pa_inT.mp hin))
theorem ys_met1 {n j i : Nat} {K V : Nat → Int32} {L : List (Int32 × Int32)} {lo hi b : Int32} (hY : (pa_l K V n).Perm L) (hj : j < n) (hin : lo.toInt ≤ (K j).toInt ∧ (K j).toInt ≤ hi.toInt) (hi' : i < n) (h : K i = K j + b) (h3 : ¬ (lo.toInt ≤ (K i).toInt ∧ (K i).toInt ≤ hi.toInt)) : ab_met L lo hi b :=
  ⟨(K j, V j), pa_iL hY hj, pa_inT.mpr hin, (K i, V i), pa_iL hY hi', h, pa_inF h3⟩
theorem ys_met0 {n : Nat} {K V : Nat → Int32} {L : List (Int32 × Int32)} {lo hi b : Int32} (hY : (pa_l K V n).Perm L) (h : ∀ j, j < n → (lo.toInt ≤ (K j).toInt ∧ (K j).toInt ≤ hi.toInt) → ∀ i, i < n → K i = K j + b → lo.toInt ≤ (K i).toInt ∧ (K i).toInt ≤ hi.toInt) : ¬ ab_met L lo hi b := by
  intro ⟨q, hq, hin, q', hq', e1, hout⟩
  obtain ⟨j, hj, rfl⟩ := pa_idx hY hq
  obtain ⟨i, hi', rfl⟩ := pa_idx hY hq'
  have r := h j hj (pa_inT.mp hin) i hi' e1
  rw [pa_inT.mpr r] at hout
  exact absurd hout (by decide)
