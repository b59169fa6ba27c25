/-! the two states against one list L of pairs: X sorted, Y in any order; L itself: at most 48 pairs, good keys, no key twice -/
def pa_S (K : Nat → Int32) (n : Nat) : Prop := ∀ i j, i < j → j < n → (K i).toInt < (K j).toInt
def pa_G (L : List (Int32 × Int32)) : Prop := ∀ q, q ∈ L → -1000 ≤ q.1.toInt ∧ q.1.toInt ≤ 1000
def pa_D (L : List (Int32 × Int32)) : Prop := L.Pairwise (fun a b => a.1 ≠ b.1)
def pa_L (L : List (Int32 × Int32)) : Prop := L.length ≤ 48 ∧ pa_G L ∧ pa_D L
def pa_X (n : Nat) (K V : Nat → Int32) (L : List (Int32 × Int32)) : Prop := pa_S K n ∧ (pa_l K V n).Perm L
theorem pa_n {n : Nat} {K V : Nat → Int32} {L : List (Int32 × Int32)} (h : (pa_l K V n).Perm L) : n = L.length := by
  rw [← h.length_eq, pa_len]
theorem pa_n48 {n : Nat} {K V : Nat → Int32} {L : List (Int32 × Int32)} (hL : pa_L L) (h : (pa_l K V n).Perm L) : n ≤ 48 := by
  rw [pa_n h]
  exact hL.1
theorem pa_iL {n : Nat} {K V : Nat → Int32} {L : List (Int32 × Int32)} (h : (pa_l K V n).Perm L) {i : Nat} (hi : i < n) : (K i, V i) ∈ L := h.mem_iff.mp (pa_at hi)
theorem pa_idx {n : Nat} {K V : Nat → Int32} {L : List (Int32 × Int32)} (h : (pa_l K V n).Perm L) {q : Int32 × Int32} (hq : q ∈ L) : ∃ i, i < n ∧ q = (K i, V i) := pa_mem.mp (h.mem_iff.mpr hq)
theorem pa_g {n : Nat} {K V : Nat → Int32} {L : List (Int32 × Int32)} (hL : pa_L L) (h : (pa_l K V n).Perm L) {i : Nat} (hi : i < n) : -1000 ≤ (K i).toInt ∧ (K i).toInt ≤ 1000 := hL.2.1 _ (pa_iL h hi)
theorem pa_dst {n : Nat} {K V : Nat → Int32} {L : List (Int32 × Int32)} (hD : pa_D L) (h : (pa_l K V n).Perm L) {i j : Nat} (hi : i < n) (hj : j < n) (e : K i = K j) : i = j := by
  have d : (pa_l K V n).Pairwise (fun a b => a.1 ≠ b.1) := h.symm.pairwise hD (fun z => fun y => z y.symm)
  have d' := pa_pw.mp d
  by_cases c : i < j
  · exact absurd e (d' i j c hj)
  · by_cases c2 : j < i
    · exact absurd e.symm (d' j i c2 hi)
    · omega
theorem pa_kq {n : Nat} {K V : Nat → Int32} {L : List (Int32 × Int32)} (hD : pa_D L) (h : (pa_l K V n).Perm L) {q q' : Int32 × Int32} (hq : q ∈ L) (hq' : q' ∈ L) (e : q.1 = q'.1) : q = q' := by
  obtain ⟨i, hi, rfl⟩ := pa_idx h hq
  obtain ⟨j, hj, rfl⟩ := pa_idx h hq'
  rw [pa_dst hD h hi hj e]
def pa_in (lo hi : Int32) (q : Int32 × Int32) : Bool := decide (lo.toInt ≤ q.1.toInt ∧ q.1.toInt ≤ hi.toInt)
theorem pa_inT {lo hi : Int32} {q : Int32 × Int32} : pa_in lo hi q = true ↔ (lo.toInt ≤ q.1.toInt ∧ q.1.toInt ≤ hi.toInt) := decide_eq_true_iff
theorem pa_inF {lo hi : Int32} {q : Int32 × Int32} (h : ¬ (lo.toInt ≤ q.1.toInt ∧ q.1.toInt ≤ hi.toInt)) : pa_in lo hi q = false := decide_eq_false h
/-- the run of places p .. e is the range -/
def pa_R (n : Nat) (K : Nat → Int32) (lo hi : Int32) (p e : Nat) : Prop := p ≤ e ∧ e ≤ n ∧ ∀ i, i < n → ((lo.toInt ≤ (K i).toInt ∧ (K i).toInt ≤ hi.toInt) ↔ (p ≤ i ∧ i < e))
theorem pa_rg {n : Nat} {K : Nat → Int32} (hS : pa_S K n) {lo hi : Int32} {p e : Nat} (hp : p ≤ e) (he : e ≤ n) (h1 : ∀ i, i < p → (K i).toInt < lo.toInt) (h2 : p < n → lo.toInt ≤ (K p).toInt) (h3 : ∀ i, p ≤ i → i < e → (K i).toInt ≤ hi.toInt) (h4 : e < n → hi.toInt < (K e).toInt) : pa_R n K lo hi p e := by
  refine ⟨hp, he, fun i hi' => ⟨?_, ?_⟩⟩
  · intro ⟨a, b⟩
    have c1 : p ≤ i := by
      by_cases c : i < p
      · have := h1 i c
        omega
      · omega
    have c2 : i < e := by
      by_cases c : i < e
      · exact c
      · have h := h4 (by omega)
        by_cases z : e = i
        · rw [z] at h
          omega
        · have := hS e i (by omega) hi'
          omega
    exact ⟨c1, c2⟩
  · intro ⟨a, b⟩
    refine ⟨?_, h3 i a b⟩
    have h := h2 (by omega)
    by_cases z : p = i
    · rw [z] at h
      exact h
    · have := hS p i (by omega) hi'
      omega
theorem pa_cntR {n : Nat} {K V : Nat → Int32} {L : List (Int32 × Int32)} {lo hi : Int32} {p e : Nat} (h : (pa_l K V n).Perm L) (R : pa_R n K lo hi p e) : L.countP (pa_in lo hi) = e - p := by
  rw [← h.countP_eq]
  exact pa_cnt R.1 R.2.1 (fun i hi => pa_inT.trans (R.2.2 i hi))
/-- what is kept by what is done to L -/
theorem pa_Lmap {L : List (Int32 × Int32)} {f : Int32 × Int32 → Int32 × Int32} (hf : ∀ q, (f q).1 = q.1) (h : pa_L L) : pa_L (L.map f) := by
  refine ⟨by rw [List.length_map]; exact h.1, ?_, ?_⟩
  · intro q hq
    obtain ⟨a, ha, rfl⟩ := List.mem_map.mp hq
    rw [hf]
    exact h.2.1 a ha
  · refine List.pairwise_map.mpr ?_
    refine List.Pairwise.imp ?_ h.2.2
    intro a b z
    show (f a).1 ≠ (f b).1
    rw [hf, hf]
    exact z
theorem pa_Lfil {L : List (Int32 × Int32)} (g : Int32 × Int32 → Bool) (h : pa_L L) : pa_L (L.filter g) :=
  ⟨Nat.le_trans (List.length_filter_le g L) h.1, fun q hq => h.2.1 q (List.mem_filter.mp hq).1, List.Pairwise.filter g h.2.2⟩
/-- put -/
def ab_any (L : List (Int32 × Int32)) (k : Int32) : Bool := L.any (fun q => decide (q.1 = k))
theorem ab_anyT {L : List (Int32 × Int32)} {k : Int32} : ab_any L k = true ↔ ∃ q, q ∈ L ∧ q.1 = k := by
  unfold ab_any
  rw [List.any_eq_true]
  constructor
  · intro ⟨q, h, e⟩
    exact ⟨q, h, decide_eq_true_iff.mp e⟩
  · intro ⟨q, h, e⟩
    exact ⟨q, h, decide_eq_true_iff.mpr e⟩
theorem ab_anyF {L : List (Int32 × Int32)} {k : Int32} (h : ∀ q, q ∈ L → q.1 ≠ k) : ab_any L k = false := by
  cases c : ab_any L k with
  | false => rfl
  | true =>
    obtain ⟨q, hq, e⟩ := ab_anyT.mp c
    exact absurd e (h q hq)
def ab_set (k v : Int32) (q : Int32 × Int32) : Int32 × Int32 := (q.1, if q.1 = k then v else q.2)
def ab_put (L : List (Int32 × Int32)) (k v : Int32) : Int32 × List (Int32 × Int32) :=
  if -1000 ≤ k.toInt ∧ k.toInt ≤ 1000 then
    if ab_any L k = true then (0, L.map (ab_set k v))
    else if 48 ≤ L.length then (-2, L) else (1, (k, v) :: L)
  else (-1, L)
theorem ab_put1 {L : List (Int32 × Int32)} {k v : Int32} (h : ¬ (-1000 ≤ k.toInt ∧ k.toInt ≤ 1000)) : ab_put L k v = (-1, L) := if_neg h
theorem ab_put2 {L : List (Int32 × Int32)} {k v : Int32} (h : -1000 ≤ k.toInt ∧ k.toInt ≤ 1000) (h2 : ab_any L k = true) : ab_put L k v = (0, L.map (ab_set k v)) := by
  unfold ab_put
  rw [if_pos h, if_pos h2]
theorem ab_put3 {L : List (Int32 × Int32)} {k v : Int32} (h : -1000 ≤ k.toInt ∧ k.toInt ≤ 1000) (h2 : ab_any L k = false) (h3 : 48 ≤ L.length) : ab_put L k v = (-2, L) := by
  unfold ab_put
  rw [if_pos h, h2, if_neg Bool.false_ne_true, if_pos h3]
theorem ab_put4 {L : List (Int32 × Int32)} {k v : Int32} (h : -1000 ≤ k.toInt ∧ k.toInt ≤ 1000) (h2 : ab_any L k = false) (h3 : ¬ 48 ≤ L.length) : ab_put L k v = (1, (k, v) :: L) := by
  unfold ab_put
  rw [if_pos h, h2, if_neg Bool.false_ne_true, if_neg h3]
theorem ab_putL {L : List (Int32 × Int32)} (h : pa_L L) (k v : Int32) : pa_L (ab_put L k v).2 := by
  by_cases c : -1000 ≤ k.toInt ∧ k.toInt ≤ 1000
  · cases c2 : ab_any L k with
    | true =>
      rw [ab_put2 c c2]
      exact pa_Lmap (fun q => rfl) h
    | false =>
      by_cases c3 : 48 ≤ L.length
      · rw [ab_put3 c c2 c3]
        exact h
      · rw [ab_put4 c c2 c3]
        refine ⟨?_, ?_, ?_⟩
        · show L.length + 1 ≤ 48
          omega
        · intro q hq
          rcases List.mem_cons.mp hq with e | e
          · rw [e]
            exact c
          · exact h.2.1 q e
        · refine List.pairwise_cons.mpr ⟨fun q hq e => ?_, h.2.2⟩
          have : ab_any L k = true := ab_anyT.mpr ⟨q, hq, e.symm⟩
          rw [c2] at this
          exact Bool.false_ne_true this
  · rw [ab_put1 c]
    exact h
/-- putting into X: the pairs behind the place move up -/
theorem pa_insS {n p : Nat} {K K1 : Nat → Int32} {k : Int32} (hS : pa_S K n) (hp : p ≤ n) (h1 : ∀ i, i < p → (K i).toInt < k.toInt) (h2 : p < n → k.toInt < (K p).toInt) (e1 : ∀ i, i < p → K1 i = K i) (e2 : K1 p = k) (e3 : ∀ i, p ≤ i → i < n → K1 (i + 1) = K i) : pa_S K1 (n + 1) := by
  have hk : ∀ m, p ≤ m → m < n → k.toInt < (K m).toInt := by
    intro m a b
    have h := h2 (by omega)
    by_cases z : p = m
    · rw [← z]
      exact h
    · have := hS p m (by omega) b
      omega
  intro i j hij hj
  by_cases a : j < p
  · rw [e1 i (by omega), e1 j a]
    exact hS i j hij (by omega)
  · by_cases b : j = p
    · rw [b, e2, e1 i (by omega)]
      exact h1 i (by omega)
    · obtain ⟨j', rfl⟩ : ∃ j', j = j' + 1 := ⟨j - 1, by omega⟩
      rw [e3 j' (by omega) (by omega)]
      by_cases c : i < p
      · rw [e1 i c]
        exact hS i j' (by omega) (by omega)
      · by_cases d : i = p
        · rw [d, e2]
          exact hk j' (by omega) (by omega)
        · obtain ⟨i', rfl⟩ : ∃ i', i = i' + 1 := ⟨i - 1, by omega⟩
          rw [e3 i' (by omega) (by omega)]
          exact hS i' j' (by omega) (by omega)
theorem pa_insX {n p : Nat} {K V K1 V1 : Nat → Int32} {L : List (Int32 × Int32)} {k v : Int32} (hX : pa_X n K V L) (hp : p ≤ n) (h1 : ∀ i, i < p → (K i).toInt < k.toInt) (h2 : p < n → k.toInt < (K p).toInt) (e1 : ∀ i, i < p → K1 i = K i ∧ V1 i = V i) (e2 : K1 p = k ∧ V1 p = v) (e3 : ∀ i, p ≤ i → i < n → K1 (i + 1) = K i ∧ V1 (i + 1) = V i) : pa_X (n + 1) K1 V1 ((k, v) :: L) :=
  ⟨pa_insS hX.1 hp h1 h2 (fun i hi => (e1 i hi).1) e2.1 (fun i a b => (e3 i a b).1), (pa_ins hp e1 e2.1 e2.2 e3).trans (hX.2.cons _)⟩
/-- taking a run of places out of X -/
theorem pa_cutS {a w d : Nat} {K K1 : Nat → Int32} (hS : pa_S K (a + w + d)) (e1 : ∀ i, i < a → K1 i = K i) (e2 : ∀ i, i < d → K1 (a + i) = K (a + w + i)) : pa_S K1 (a + d) := by
  intro i j hij hj
  by_cases c : j < a
  · rw [e1 i (by omega), e1 j c]
    exact hS i j hij (by omega)
  · obtain ⟨j', rfl⟩ : ∃ j', j = a + j' := ⟨j - a, by omega⟩
    rw [e2 j' (by omega)]
    by_cases c2 : i < a
    · rw [e1 i c2]
      exact hS i (a + w + j') (by omega) (by omega)
    · obtain ⟨i', rfl⟩ : ∃ i', i = a + i' := ⟨i - a, by omega⟩
      rw [e2 i' (by omega)]
      exact hS _ _ (by omega) (by omega)
theorem pa_cutX {n p e : Nat} {K V K1 V1 : Nat → Int32} {L : List (Int32 × Int32)} {g : Int32 × Int32 → Bool} (hX : pa_X n K V L) (hpe : p ≤ e) (hen : e ≤ n) (hg : ∀ i, i < n → (g (K i, V i) = false ↔ (p ≤ i ∧ i < e))) (e1 : ∀ i, i < p → K1 i = K i ∧ V1 i = V i) (e2 : ∀ i, e ≤ i → i < n → K1 (i - (e - p)) = K i ∧ V1 (i - (e - p)) = V i) : pa_X (n - (e - p)) K1 V1 (L.filter g) := by
  obtain ⟨w, rfl⟩ : ∃ w, e = p + w := ⟨e - p, by omega⟩
  obtain ⟨d, rfl⟩ : ∃ d, n = p + w + d := ⟨n - (p + w), by omega⟩
  have hw : p + w - p = w := by omega
  have hn : p + w + d - w = p + d := by omega
  rw [hw] at e2
  rw [hw, hn]
  have e3 : ∀ i, i < d → K1 (p + i) = K (p + w + i) ∧ V1 (p + i) = V (p + w + i) := by
    intro i hi
    have h := e2 (p + w + i) (by omega) (by omega)
    rw [show p + w + i - w = p + i by omega] at h
    exact h
  have gt : ∀ i, i < p + w + d → ¬ (p ≤ i ∧ i < p + w) → g (K i, V i) = true := by
    intro i hi hn
    cases c : g (K i, V i) with
    | true => rfl
    | false => exact absurd ((hg i hi).mp c) hn
  refine ⟨pa_cutS hX.1 (fun i hi => (e1 i hi).1) (fun i hi => (e3 i hi).1), ?_⟩
  have c := pa_cut (g := g) e1 e3 (fun i hi => gt i (by omega) (by omega)) (fun i hi => (hg (p + i) (by omega)).mpr (by omega)) (fun i hi => gt _ (by omega) (by omega))
  rw [← c]
  exact hX.2.filter g
/-- taking one pair out of Y: the last pair goes to its place -/
theorem pa_rem {L M : List (Int32 × Int32)} {q : Int32 × Int32} (hD : pa_D L) (h : L.Perm (q :: M)) : M.Perm (L.filter (fun r => decide (r.1 ≠ q.1))) := by
  have d : (q :: M).Pairwise (fun a b => a.1 ≠ b.1) := h.pairwise hD (fun z => fun y => z y.symm)
  have d2 := (List.pairwise_cons.mp d).1
  have f := h.filter (fun r => decide (r.1 ≠ q.1))
  have f2 : M.filter (fun r => decide (r.1 ≠ q.1)) = M := List.filter_eq_self.mpr (fun a ha => decide_eq_true (fun z => d2 a ha z.symm))
  have f1 : (q :: M).filter (fun r => decide (r.1 ≠ q.1)) = M.filter (fun r => decide (r.1 ≠ q.1)) := List.filter_cons_of_neg (by simp)
  rw [f1, f2] at f
  exact f.symm
