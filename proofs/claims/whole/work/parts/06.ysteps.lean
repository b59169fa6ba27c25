/-! Y's walks over its places, one place at a time -/
theorem ys_less {K V : Nat → Int32} {i : Nat} {b : Int32} : ab_less (pa_l K V (i + 1)) b = ab_less (pa_l K V i) b + (if (K i).toInt < b.toInt then 1 else 0) := by
  unfold ab_less
  rw [pa_cs]
  by_cases c : (K i).toInt < b.toInt
  · rw [if_pos c, if_pos (decide_eq_true c)]
  · rw [if_neg c, if_neg (fun z => c (of_decide_eq_true z))]
theorem ys_cnt {K V : Nat → Int32} {i : Nat} {lo hi : Int32} : (pa_l K V (i + 1)).countP (pa_in lo hi) = (pa_l K V i).countP (pa_in lo hi) + (if lo.toInt ≤ (K i).toInt ∧ (K i).toInt ≤ hi.toInt then 1 else 0) := by
  rw [pa_cs]
  by_cases c : lo.toInt ≤ (K i).toInt ∧ (K i).toInt ≤ hi.toInt
  · rw [if_pos c, if_pos (pa_inT.mpr c)]
  · rw [if_neg c, if_neg (fun z => c (pa_inT.mp z))]
theorem ys_cle {K V : Nat → Int32} {i : Nat} {g : Int32 × Int32 → Bool} : (pa_l K V i).countP g ≤ i := by
  have := List.countP_le_length (p := g) (l := pa_l K V i)
  rw [pa_len] at this
  exact this
theorem ys_mem {L : List (Int32 × Int32)} {x q : Int32 × Int32} : q ∈ L ++ [x] ↔ q ∈ L ∨ q = x := by
  rw [List.mem_append, List.mem_singleton]
theorem ys_next_P {L M : List (Int32 × Int32)} (h : L.Perm M) {b r : Int32} (s : sp_next L b r) : sp_next M b r := by
  rcases s with ⟨q, hq, e, c, m⟩ | ⟨hn, e⟩
  · exact Or.inl ⟨q, h.mem_iff.mp hq, e, c, fun q' hq' => m q' (h.mem_iff.mpr hq')⟩
  · exact Or.inr ⟨fun q hq => hn q (h.mem_iff.mpr hq), e⟩
theorem ys_prev_P {L M : List (Int32 × Int32)} (h : L.Perm M) {b r : Int32} (s : sp_prev L b r) : sp_prev M b r := by
  rcases s with ⟨q, hq, e, c, m⟩ | ⟨hn, e⟩
  · exact Or.inl ⟨q, h.mem_iff.mp hq, e, c, fun q' hq' => m q' (h.mem_iff.mpr hq')⟩
  · exact Or.inr ⟨fun q hq => hn q (h.mem_iff.mpr hq), e⟩
/-- next: a key that isn't beyond b changes nothing -/
theorem ys_next1 {L : List (Int32 × Int32)} {x : Int32 × Int32} {b r : Int32} (s : sp_next L b r) (h : ¬ b.toInt < x.1.toInt) : sp_next (L ++ [x]) b r := by
  rcases s with ⟨q, hq, e, c, m⟩ | ⟨hn, e⟩
  · refine Or.inl ⟨q, ys_mem.mpr (Or.inl hq), e, c, fun q' hq' hb => ?_⟩
    rcases ys_mem.mp hq' with z | z
    · exact m q' z hb
    · rw [z] at hb
      exact absurd hb h
  · refine Or.inr ⟨fun q hq => ?_, e⟩
    rcases ys_mem.mp hq with z | z
    · exact hn q z
    · rw [z]
      omega
/-- next: no less than what was found -/
theorem ys_next2 {L : List (Int32 × Int32)} {x : Int32 × Int32} {b r : Int32} (s : sp_next L b r) (h1 : r ≠ -2000) (h : ¬ x.1.toInt < r.toInt) : sp_next (L ++ [x]) b r := by
  rcases s with ⟨q, hq, e, c, m⟩ | ⟨hn, e⟩
  · refine Or.inl ⟨q, ys_mem.mpr (Or.inl hq), e, c, fun q' hq' hb => ?_⟩
    rcases ys_mem.mp hq' with z | z
    · exact m q' z hb
    · rw [e] at h
      rw [z]
      omega
  · exact absurd e h1
/-- next: a new one -/
theorem ys_next3 {L : List (Int32 × Int32)} {x : Int32 × Int32} {b r : Int32} (s : sp_next L b r) (h0 : b.toInt < x.1.toInt) (hG : ∀ q, q ∈ L → q.1 ≠ -2000) (h : r = -2000 ∨ x.1.toInt < r.toInt) : sp_next (L ++ [x]) b x.1 := by
  refine Or.inl ⟨x, ys_mem.mpr (Or.inr rfl), rfl, h0, fun q' hq' hb => ?_⟩
  rcases ys_mem.mp hq' with z | z
  · rcases s with ⟨q, hq, e, c, m⟩ | ⟨hn, e⟩
    · have := m q' z hb
      rcases h with y | y
      · exact absurd (e.symm.trans y) (hG q hq)
      · rw [e] at y
        omega
    · have := hn q' z
      omega
  · rw [z]
    exact Int.le_refl _
theorem ys_next0 (b : Int32) : sp_next [] b (-2000) := Or.inr ⟨fun _ hq => absurd hq List.not_mem_nil, rfl⟩
theorem ys_prev0 (b : Int32) : sp_prev [] b (-2000) := Or.inr ⟨fun _ hq => absurd hq List.not_mem_nil, rfl⟩
/-- previous: not below b, or not beyond what was found -/
theorem ys_prev1 {L : List (Int32 × Int32)} {x : Int32 × Int32} {b r : Int32} (s : sp_prev L b r) (h : ¬ x.1.toInt < b.toInt) : sp_prev (L ++ [x]) b r := by
  rcases s with ⟨q, hq, e, c, m⟩ | ⟨hn, e⟩
  · refine Or.inl ⟨q, ys_mem.mpr (Or.inl hq), e, c, fun q' hq' hb => ?_⟩
    rcases ys_mem.mp hq' with z | z
    · exact m q' z hb
    · rw [z] at hb
      exact absurd hb h
  · refine Or.inr ⟨fun q hq => ?_, e⟩
    rcases ys_mem.mp hq with z | z
    · exact hn q z
    · rw [z]
      omega
theorem ys_prev2 {L : List (Int32 × Int32)} {x : Int32 × Int32} {b r : Int32} (s : sp_prev L b r) (hx : -1000 ≤ x.1.toInt) (h : ¬ r.toInt < x.1.toInt) : sp_prev (L ++ [x]) b r := by
  rcases s with ⟨q, hq, e, c, m⟩ | ⟨hn, e⟩
  · refine Or.inl ⟨q, ys_mem.mpr (Or.inl hq), e, c, fun q' hq' hb => ?_⟩
    rcases ys_mem.mp hq' with z | z
    · exact m q' z hb
    · rw [e] at h
      rw [z]
      omega
  · rw [e, pa_m2000] at h
    omega
theorem ys_prev3 {L : List (Int32 × Int32)} {x : Int32 × Int32} {b r : Int32} (s : sp_prev L b r) (h0 : x.1.toInt < b.toInt) (h : r.toInt < x.1.toInt) : sp_prev (L ++ [x]) b x.1 := by
  refine Or.inl ⟨x, ys_mem.mpr (Or.inr rfl), rfl, h0, fun q' hq' hb => ?_⟩
  rcases ys_mem.mp hq' with z | z
  · rcases s with ⟨q, hq, e, c, m⟩ | ⟨hn, e⟩
    · have := m q' z hb
      rw [e] at h
      omega
    · have := hn q' z
      omega
  · rw [z]
    exact Int.le_refl _
/-- best: by places; f is nI m or -1 -/
def yb_I (K V : Nat → Int32) (lo hi : Int32) (i : Nat) (f : Int32) : Prop := (∃ m, m < i ∧ f = nI m ∧ pa_in lo hi (K m, V m) = true ∧ ∀ j, j < i → pa_in lo hi (K j, V j) = true → (V j).toInt < (V m).toInt ∨ ((V j).toInt = (V m).toInt ∧ (K m).toInt ≤ (K j).toInt)) ∨ ((∀ j, j < i → pa_in lo hi (K j, V j) = false) ∧ f = -1)
theorem yb_0 {K V : Nat → Int32} {lo hi : Int32} : yb_I K V lo hi 0 (-1) := Or.inr ⟨fun j hj => absurd hj (Nat.not_lt_zero j), rfl⟩
theorem yb_out {K V : Nat → Int32} {lo hi f : Int32} {i : Nat} (s : yb_I K V lo hi i f) (h : pa_in lo hi (K i, V i) = false) : yb_I K V lo hi (i + 1) f := by
  rcases s with ⟨m, hm, e, c, a⟩ | ⟨hn, e⟩
  · refine Or.inl ⟨m, by omega, e, c, fun j hj hb => ?_⟩
    by_cases z : j = i
    · rw [z, h] at hb
      exact absurd hb (by decide)
    · exact a j (by omega) hb
  · refine Or.inr ⟨fun j hj => ?_, e⟩
    by_cases z : j = i
    · rw [z]
      exact h
    · exact hn j (by omega)
theorem yb_keep {K V : Nat → Int32} {lo hi : Int32} {i m : Nat} (hm : m < i) (s : yb_I K V lo hi i (nI m)) (h48 : i < 2 ^ 31) (h : ¬ (V m).toInt < (V i).toInt) (h2 : ¬ ((V i).toInt = (V m).toInt ∧ (K i).toInt < (K m).toInt)) : yb_I K V lo hi (i + 1) (nI m) := by
  rcases s with ⟨m', hm', e, c, a⟩ | ⟨hn, e⟩
  · have em : m = m' := (nI_eq (by omega) (by omega)).mp e
    subst em
    refine Or.inl ⟨m, by omega, rfl, c, fun j hj hb => ?_⟩
    by_cases z : j = i
    · rw [z]
      omega
    · exact a j (by omega) hb
  · exact absurd (show nI m < 0 by rw [e]; decide) (nI_pos (by omega))
theorem yb_new {K V : Nat → Int32} {lo hi : Int32} {i m : Nat} (hm : m < i) (s : yb_I K V lo hi i (nI m)) (h48 : i < 2 ^ 31) (hi' : pa_in lo hi (K i, V i) = true) (h : (V m).toInt < (V i).toInt ∨ ((V i).toInt = (V m).toInt ∧ (K i).toInt < (K m).toInt)) : yb_I K V lo hi (i + 1) (nI i) := by
  rcases s with ⟨m', hm', e, c, a⟩ | ⟨hn, e⟩
  · have em : m = m' := (nI_eq (by omega) (by omega)).mp e
    subst em
    refine Or.inl ⟨i, by omega, rfl, hi', fun j hj hb => ?_⟩
    by_cases z : j = i
    · rw [z]
      exact Or.inr ⟨rfl, Int.le_refl _⟩
    · have := a j (by omega) hb
      omega
  · exact absurd (show nI m < 0 by rw [e]; decide) (nI_pos (by omega))
theorem yb_first {K V : Nat → Int32} {lo hi : Int32} {i : Nat} (s : yb_I K V lo hi i (-1)) (h48 : i < 2 ^ 31) (hi' : pa_in lo hi (K i, V i) = true) : yb_I K V lo hi (i + 1) (nI i) := by
  rcases s with ⟨m', hm', e, c, a⟩ | ⟨hn, e⟩
  · exact absurd (show nI m' < 0 by rw [← e]; decide) (nI_pos (by omega))
  · refine Or.inl ⟨i, by omega, rfl, hi', fun j hj hb => ?_⟩
    by_cases z : j = i
    · rw [z]
      exact Or.inr ⟨rfl, Int.le_refl _⟩
    · rw [hn j (by omega)] at hb
      exact absurd hb (by decide)
theorem yb_end {n m : Nat} {K V : Nat → Int32} {L : List (Int32 × Int32)} (h : (pa_l K V n).Perm L) {lo hi : Int32} (hn : n < 2 ^ 31) (hm : m < n) (s : yb_I K V lo hi n (nI m)) : sp_best L lo hi (K m) := by
  rcases s with ⟨m', hm', e, c, a⟩ | ⟨_, e⟩
  · have em : m = m' := (nI_eq (by omega) (by omega)).mp e
    subst em
    refine Or.inl ⟨(K m, V m), pa_iL h hm, rfl, c, ?_⟩
    intro q hq hb
    obtain ⟨j, hj, rfl⟩ := pa_idx h hq
    exact a j hj hb
  · exact absurd (show nI m < 0 by rw [e]; decide) (nI_pos (by omega))
theorem yb_end0 {n : Nat} {K V : Nat → Int32} {L : List (Int32 × Int32)} (h : (pa_l K V n).Perm L) {lo hi : Int32} (hn : n < 2 ^ 31) (s : yb_I K V lo hi n (-1)) : sp_best L lo hi (-2000) := by
  rcases s with ⟨m', hm', e, c, a⟩ | ⟨hz, _⟩
  · exact absurd (show nI m' < 0 by rw [← e]; decide) (nI_pos (by omega))
  · refine Or.inr ⟨?_, rfl⟩
    intro q hq
    obtain ⟨j, hj, rfl⟩ := pa_idx h hq
    exact hz j hj
/-- closest: the pairs of places that were looked at -/
def yc_P (n i j c d : Nat) : Prop := (c < i ∧ d < n) ∨ (c = i ∧ d < j)
def yc_I (K : Nat → Int32) (n i j : Nat) (r : Int32) : Prop := (∃ a b, yc_P n i j a b ∧ r.toInt = (K a).toInt - (K b).toInt ∧ 0 < r.toInt ∧ ∀ c d, yc_P n i j c d → (K d).toInt < (K c).toInt → r.toInt ≤ (K c).toInt - (K d).toInt) ∨ ((∀ c d, yc_P n i j c d → ¬ (K d).toInt < (K c).toInt) ∧ r = 0)
theorem yc_0 {K : Nat → Int32} {n : Nat} : yc_I K n 0 0 0 := Or.inr ⟨fun c d h => absurd h (by unfold yc_P; omega), rfl⟩
theorem yc_row {K : Nat → Int32} {n i : Nat} {r : Int32} (s : yc_I K n i n r) : yc_I K n (i + 1) 0 r := by
  have e : ∀ c d, yc_P n i n c d ↔ yc_P n (i + 1) 0 c d := by
    intro c d
    unfold yc_P
    omega
  rcases s with ⟨a, b, p, x, y, z⟩ | ⟨hn, x⟩
  · exact Or.inl ⟨a, b, (e a b).mp p, x, y, fun c d h => z c d ((e c d).mpr h)⟩
  · exact Or.inr ⟨fun c d h => hn c d ((e c d).mpr h), x⟩
theorem yc_keep {K : Nat → Int32} {n i j : Nat} {r : Int32} (s : yc_I K n i j r) (h : (K j).toInt < (K i).toInt → r ≠ 0 ∧ r.toInt ≤ (K i).toInt - (K j).toInt) : yc_I K n i (j + 1) r := by
  have e : ∀ c d, yc_P n i (j + 1) c d ↔ (yc_P n i j c d ∨ (c = i ∧ d = j)) := by
    intro c d
    unfold yc_P
    omega
  rcases s with ⟨a, b, p, x, y, z⟩ | ⟨hn, x⟩
  · refine Or.inl ⟨a, b, (e a b).mpr (Or.inl p), x, y, fun c d hp hlt => ?_⟩
    rcases (e c d).mp hp with q | ⟨q1, q2⟩
    · exact z c d q hlt
    · rw [q1, q2] at hlt
      rw [q1, q2]
      exact (h hlt).2
  · refine Or.inr ⟨fun c d hp hlt => ?_, x⟩
    rcases (e c d).mp hp with q | ⟨q1, q2⟩
    · exact hn c d q hlt
    · rw [q1, q2] at hlt
      exact (h hlt).1 x
theorem yc_new {K : Nat → Int32} {n i j : Nat} {r r1 : Int32} (s : yc_I K n i j r) (h1 : r1.toInt = (K i).toInt - (K j).toInt) (h2 : 0 < r1.toInt) (h3 : r = 0 ∨ r1.toInt < r.toInt) : yc_I K n i (j + 1) r1 := by
  have e : ∀ c d, yc_P n i (j + 1) c d ↔ (yc_P n i j c d ∨ (c = i ∧ d = j)) := by
    intro c d
    unfold yc_P
    omega
  refine Or.inl ⟨i, j, (e i j).mpr (Or.inr ⟨rfl, rfl⟩), h1, h2, fun c d hp hlt => ?_⟩
  rcases (e c d).mp hp with q | ⟨q1, q2⟩
  · rcases s with ⟨a, b, p, x, y, z⟩ | ⟨hn, x⟩
    · have w := z c d q hlt
      rcases h3 with h3 | h3
      · rw [h3, pa_p0] at y
        omega
      · omega
    · exact absurd hlt (hn c d q)
  · rw [q1, q2]
    omega
theorem yc_end {n : Nat} {K V : Nat → Int32} {L : List (Int32 × Int32)} (h : (pa_l K V n).Perm L) {r : Int32} (s : yc_I K n n 0 r) : sp_close L r := by
  have e : ∀ c d, c < n → d < n → yc_P n n 0 c d := by
    intro c d a b
    unfold yc_P
    omega
  rcases s with ⟨a, b, p, x, y, z⟩ | ⟨hn, x⟩
  · have hab : a < n ∧ b < n := by
      unfold yc_P at p
      omega
    refine Or.inl ⟨(K a, V a), pa_iL h hab.1, (K b, V b), pa_iL h hab.2, x, y, fun c hc d hd => ?_⟩
    obtain ⟨i, hi, rfl⟩ := pa_idx h hc
    obtain ⟨j, hj, rfl⟩ := pa_idx h hd
    exact z i j (e i j hi hj)
  · refine Or.inr ⟨fun c hc d hd => ?_, x⟩
    obtain ⟨i, hi, rfl⟩ := pa_idx h hc
    obtain ⟨j, hj, rfl⟩ := pa_idx h hd
    exact hn i j (e i j hi hj)
