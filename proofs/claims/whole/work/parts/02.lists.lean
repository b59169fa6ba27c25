/-! the table as a list of pairs; what inserting, cutting, mapping and sorting do to it -/
def pa_l (K V : Nat → Int32) : Nat → List (Int32 × Int32)
  | 0 => []
  | n + 1 => pa_l K V n ++ [(K n, V n)]
theorem pa_l0 (K V : Nat → Int32) : pa_l K V 0 = [] := rfl
theorem pa_ls (K V : Nat → Int32) (n : Nat) : pa_l K V (n + 1) = pa_l K V n ++ [(K n, V n)] := rfl
theorem pa_len (K V : Nat → Int32) (n : Nat) : (pa_l K V n).length = n := by
  induction n with
  | zero => rfl
  | succ n ih => rw [pa_ls, List.length_append, ih] <;> rfl
theorem pa_mem {K V : Nat → Int32} {n : Nat} {q : Int32 × Int32} : q ∈ pa_l K V n ↔ ∃ i, i < n ∧ q = (K i, V i) := by
  induction n with
  | zero =>
    rw [pa_l0]
    constructor
    · intro h
      exact absurd h List.not_mem_nil
    · intro ⟨i, h, _⟩
      omega
  | succ n ih =>
    rw [pa_ls, List.mem_append, ih, List.mem_singleton]
    constructor
    · intro h
      rcases h with ⟨i, h, e⟩ | e
      · exact ⟨i, by omega, e⟩
      · exact ⟨n, by omega, e⟩
    · intro ⟨i, h, e⟩
      by_cases hi : i < n
      · exact Or.inl ⟨i, hi, e⟩
      · have : i = n := by omega
        rw [this] at e
        exact Or.inr e
theorem pa_at {K V : Nat → Int32} {n i : Nat} (h : i < n) : (K i, V i) ∈ pa_l K V n := pa_mem.mpr ⟨i, h, rfl⟩
theorem pa_ext {K V K1 V1 : Nat → Int32} {n : Nat} (h : ∀ i, i < n → K1 i = K i ∧ V1 i = V i) : pa_l K1 V1 n = pa_l K V n := by
  induction n with
  | zero => rfl
  | succ n ih => rw [pa_ls, pa_ls, ih (fun i hi => h i (by omega)), (h n (by omega)).1, (h n (by omega)).2]
theorem pa_map {K V K1 V1 : Nat → Int32} {n : Nat} {f : Int32 × Int32 → Int32 × Int32} (h : ∀ i, i < n → (K1 i, V1 i) = f (K i, V i)) : pa_l K1 V1 n = (pa_l K V n).map f := by
  induction n with
  | zero => rfl
  | succ n ih => rw [pa_ls, pa_ls, ih (fun i hi => h i (by omega)), h n (by omega), List.map_append] <;> rfl
theorem pa_insd {K V K1 V1 : Nat → Int32} {p : Nat} {k v : Int32} (h1 : ∀ i, i < p → K1 i = K i ∧ V1 i = V i) (hk : K1 p = k) (hv : V1 p = v) : ∀ d : Nat, (∀ i, p ≤ i → i < p + d → K1 (i + 1) = K i ∧ V1 (i + 1) = V i) → (pa_l K1 V1 (p + d + 1)).Perm ((k, v) :: pa_l K V (p + d)) := by
  intro d
  induction d with
  | zero =>
    intro _
    show (pa_l K1 V1 p ++ [(K1 p, V1 p)]).Perm ((k, v) :: pa_l K V p)
    rw [hk, hv, pa_ext h1]
    exact List.perm_append_singleton _ _
  | succ d ih =>
    intro h2
    show (pa_l K1 V1 (p + d + 1) ++ [(K1 (p + d + 1), V1 (p + d + 1))]).Perm (((k, v) :: pa_l K V (p + d)) ++ [(K (p + d), V (p + d))])
    rw [(h2 (p + d) (by omega) (by omega)).1, (h2 (p + d) (by omega) (by omega)).2]
    exact (ih (fun i a b => h2 i a (by omega))).append_right _
theorem pa_ins {K V K1 V1 : Nat → Int32} {p n : Nat} {k v : Int32} (hp : p ≤ n) (h1 : ∀ i, i < p → K1 i = K i ∧ V1 i = V i) (hk : K1 p = k) (hv : V1 p = v) (h2 : ∀ i, p ≤ i → i < n → K1 (i + 1) = K i ∧ V1 (i + 1) = V i) : (pa_l K1 V1 (n + 1)).Perm ((k, v) :: pa_l K V n) := by
  obtain ⟨d, rfl⟩ : ∃ d, n = p + d := ⟨n - p, by omega⟩
  exact pa_insd h1 hk hv d h2
theorem pa_fall {K V : Nat → Int32} {n : Nat} {g : Int32 × Int32 → Bool} (h : ∀ i, i < n → g (K i, V i) = true) : (pa_l K V n).filter g = pa_l K V n := by
  apply List.filter_eq_self.mpr
  intro q hq
  obtain ⟨i, hi, rfl⟩ := pa_mem.mp hq
  exact h i hi
theorem pa_fs {K V : Nat → Int32} {n : Nat} {g : Int32 × Int32 → Bool} : (pa_l K V (n + 1)).filter g = (pa_l K V n).filter g ++ (if g (K n, V n) = true then [(K n, V n)] else []) := by
  rw [pa_ls, List.filter_append]
  by_cases h : g (K n, V n) = true
  · rw [if_pos h, List.filter_cons_of_pos h] <;> rfl
  · rw [if_neg h, List.filter_cons_of_neg h] <;> rfl
theorem pa_cut {K V K1 V1 : Nat → Int32} {a w d : Nat} {g : Int32 × Int32 → Bool} (h1 : ∀ i, i < a → K1 i = K i ∧ V1 i = V i) (h2 : ∀ i, i < d → K1 (a + i) = K (a + w + i) ∧ V1 (a + i) = V (a + w + i)) (g1 : ∀ i, i < a → g (K i, V i) = true) (g2 : ∀ i, i < w → g (K (a + i), V (a + i)) = false) (g3 : ∀ i, i < d → g (K (a + w + i), V (a + w + i)) = true) : (pa_l K V (a + w + d)).filter g = pa_l K1 V1 (a + d) := by
  have s2 : ∀ j, j ≤ w → (pa_l K V (a + j)).filter g = pa_l K1 V1 a := by
    intro j
    induction j with
    | zero =>
      intro _
      show (pa_l K V a).filter g = _
      rw [pa_fall g1, pa_ext h1]
    | succ j ih =>
      intro hj
      show (pa_l K V (a + j + 1)).filter g = _
      rw [pa_fs, ih (by omega), g2 j (by omega), if_neg Bool.false_ne_true, List.append_nil]
  have s3 : ∀ j, j ≤ d → (pa_l K V (a + w + j)).filter g = pa_l K1 V1 (a + j) := by
    intro j
    induction j with
    | zero =>
      intro _
      exact s2 w (Nat.le_refl _)
    | succ j ih =>
      intro hj
      show (pa_l K V (a + w + j + 1)).filter g = pa_l K1 V1 (a + j + 1)
      rw [pa_fs, ih (by omega), g3 j (by omega), if_pos rfl, pa_ls, (h2 j (by omega)).1, (h2 j (by omega)).2]
  exact s3 d (Nat.le_refl _)
theorem pa_cntm {K V : Nat → Int32} {n a e : Nat} {g : Int32 × Int32 → Bool} (hae : a ≤ e) (h : ∀ i, i < n → (g (K i, V i) = true ↔ a ≤ i ∧ i < e)) : ∀ m, m ≤ n → (pa_l K V m).countP g + min m a = min m e := by
  intro m
  induction m with
  | zero =>
    intro _
    rw [pa_l0, List.countP_nil]
    omega
  | succ m ih =>
    intro hm
    have i1 := ih (by omega)
    have hg := h m (by omega)
    rw [pa_ls, List.countP_append, List.countP_singleton]
    by_cases c : g (K m, V m) = true
    · rw [if_pos c]
      have := hg.mp c
      omega
    · rw [if_neg c]
      have : ¬ (a ≤ m ∧ m < e) := fun z => c (hg.mpr z)
      omega
theorem pa_cnt {K V : Nat → Int32} {n a e : Nat} {g : Int32 × Int32 → Bool} (hae : a ≤ e) (hen : e ≤ n) (h : ∀ i, i < n → (g (K i, V i) = true ↔ a ≤ i ∧ i < e)) : (pa_l K V n).countP g = e - a := by
  have := pa_cntm hae h n (Nat.le_refl _)
  omega
theorem pa_cs {K V : Nat → Int32} {n : Nat} {g : Int32 × Int32 → Bool} : (pa_l K V (n + 1)).countP g = (pa_l K V n).countP g + (if g (K n, V n) = true then 1 else 0) := by
  rw [pa_ls, List.countP_append, List.countP_singleton]
theorem pa_pw {K V : Nat → Int32} {n : Nat} {R : Int32 × Int32 → Int32 × Int32 → Prop} : (pa_l K V n).Pairwise R ↔ ∀ i j, i < j → j < n → R (K i, V i) (K j, V j) := by
  induction n with
  | zero => exact ⟨fun _ i j _ hj => absurd hj (Nat.not_lt_zero j), fun _ => List.Pairwise.nil⟩
  | succ n ih =>
    rw [pa_ls, List.pairwise_append, ih]
    constructor
    · intro ⟨h1, _, h3⟩ i j hij hj
      by_cases hn : j < n
      · exact h1 i j hij hn
      · have e : j = n := by omega
        rw [e]
        exact h3 _ (pa_at (by omega)) _ (List.mem_singleton.mpr rfl)
    · intro h
      refine ⟨fun i j hij hj => h i j hij (by omega), List.pairwise_singleton _ _, fun a ha b hb => ?_⟩
      obtain ⟨i, hi, rfl⟩ := pa_mem.mp ha
      rw [List.mem_singleton] at hb
      rw [hb]
      exact h i n hi (by omega)
/-- two neighbours change places -/
theorem pa_swp {K V K1 V1 : Nat → Int32} {p : Nat} (h0 : ∀ i, i ≠ p → i ≠ p + 1 → K1 i = K i ∧ V1 i = V i) (h1 : K1 p = K (p + 1) ∧ V1 p = V (p + 1)) (h2 : K1 (p + 1) = K p ∧ V1 (p + 1) = V p) : ∀ d : Nat, (pa_l K1 V1 (p + 2 + d)).Perm (pa_l K V (p + 2 + d)) := by
  intro d
  induction d with
  | zero =>
    show ((pa_l K1 V1 p ++ [(K1 p, V1 p)]) ++ [(K1 (p + 1), V1 (p + 1))]).Perm ((pa_l K V p ++ [(K p, V p)]) ++ [(K (p + 1), V (p + 1))])
    have e : pa_l K1 V1 p = pa_l K V p := pa_ext (fun i hi => h0 i (by omega) (by omega))
    rw [h1.1, h1.2, h2.1, h2.2, e, List.append_assoc, List.append_assoc]
    show (pa_l K V p ++ [(K (p + 1), V (p + 1)), (K p, V p)]).Perm (pa_l K V p ++ [(K p, V p), (K (p + 1), V (p + 1))])
    exact (List.Perm.swap _ _ _).append_left _
  | succ d ih =>
    show (pa_l K1 V1 (p + 2 + d) ++ [(K1 (p + 2 + d), V1 (p + 2 + d))]).Perm (pa_l K V (p + 2 + d) ++ [(K (p + 2 + d), V (p + 2 + d))])
    rw [(h0 (p + 2 + d) (by omega) (by omega)).1, (h0 (p + 2 + d) (by omega) (by omega)).2]
    exact ih.append_right _
theorem pa_sw {K V K1 V1 : Nat → Int32} {p n : Nat} (hp : p + 1 < n) (h0 : ∀ i, i ≠ p → i ≠ p + 1 → K1 i = K i ∧ V1 i = V i) (h1 : K1 p = K (p + 1) ∧ V1 p = V (p + 1)) (h2 : K1 (p + 1) = K p ∧ V1 (p + 1) = V p) : (pa_l K1 V1 n).Perm (pa_l K V n) := by
  obtain ⟨d, rfl⟩ : ∃ d, n = p + 2 + d := ⟨n - (p + 2), by omega⟩
  exact pa_swp h0 h1 h2 d
/-- the last pair goes to place p: what is taken away is the pair that was there -/
theorem pa_lastd {K V K1 V1 : Nat → Int32} {p : Nat} (h0 : ∀ i, i ≠ p → K1 i = K i ∧ V1 i = V i) : ∀ d : Nat, ((K p, V p) :: pa_l K1 V1 (p + 1 + d)).Perm ((K1 p, V1 p) :: pa_l K V (p + 1 + d)) := by
  intro d
  induction d with
  | zero =>
    show ((K p, V p) :: (pa_l K1 V1 p ++ [(K1 p, V1 p)])).Perm ((K1 p, V1 p) :: (pa_l K V p ++ [(K p, V p)]))
    have e : pa_l K1 V1 p = pa_l K V p := pa_ext (fun i hi => h0 i (by omega))
    rw [e]
    exact ((List.perm_append_singleton _ _).cons _).trans ((List.Perm.swap _ _ _).trans ((List.perm_append_singleton _ _).symm.cons _))
  | succ d ih =>
    show (((K p, V p) :: pa_l K1 V1 (p + 1 + d)) ++ [(K1 (p + 1 + d), V1 (p + 1 + d))]).Perm (((K1 p, V1 p) :: pa_l K V (p + 1 + d)) ++ [(K (p + 1 + d), V (p + 1 + d))])
    rw [(h0 (p + 1 + d) (by omega)).1, (h0 (p + 1 + d) (by omega)).2]
    exact ih.append_right _
theorem pa_last {K V K1 V1 : Nat → Int32} {p n : Nat} (hp : p < n + 1) (h0 : ∀ i, i ≠ p → K1 i = K i ∧ V1 i = V i) (h1 : K1 p = K n ∧ V1 p = V n) : (pa_l K V (n + 1)).Perm ((K p, V p) :: pa_l K1 V1 n) := by
  by_cases e : p = n
  · subst e
    have e : pa_l K1 V1 p = pa_l K V p := pa_ext (fun i hi => h0 i (by omega))
    rw [pa_ls, e]
    exact List.perm_append_singleton _ _
  · obtain ⟨d, rfl⟩ : ∃ d, n = p + 1 + d := ⟨n - (p + 1), by omega⟩
    have := pa_lastd h0 d
    rw [h1.1, h1.2] at this
    rw [pa_ls]
    exact (List.perm_append_singleton _ _).trans this.symm
