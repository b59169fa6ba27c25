section
/-! rows pasted from kit/rows: stores, numbers, branches by naturals; then numbers of our own -/
theorem pk_us {f : Nat → Int32} {k : Nat} {x : Int32} : upd f k x k = x := if_pos rfl
theorem pk_un {f : Nat → Int32} {k j : Nat} {x : Int32} (h : j ≠ k) : upd f k x j = f j := if_neg h
theorem pk_sub {a b : Nat} (h : b ≤ a) : nI a - nI b = nI (a - b) := by
  obtain ⟨c, rfl⟩ : ∃ c, a = c + b := ⟨a - b, by omega⟩
  rw [← nI_add, Int32.add_sub_cancel, Nat.add_sub_cancel]
theorem pk_m1 (n : Nat) : nI (n + 1) + (-1) = nI n := by
  rw [← nI_1, Int32.add_assoc, show (1 : Int32) + (-1) = 0 from rfl, Int32.add_zero]
theorem pk_sub_toInt {a b : Nat} (ha : a < 2 ^ 30) (hb : b < 2 ^ 30) : (nI a - nI b).toInt = (a : Int) - b := by
  rw [Int32.toInt_sub, nI_toInt (by omega), nI_toInt (by omega)]
  exact Int.bmod_eq_of_le (by omega) (by omega)
theorem pk_ix (x : Int32) {n : Nat} (hn : n < 2 ^ 31) : x < 0 ∨ nI n ≤ x ∨ ∃ j : Nat, j < n ∧ x = nI j := by
  by_cases h : x < 0
  · exact Or.inl h
  · obtain ⟨j, hj, rfl⟩ := nI_of h
    by_cases h2 : j < n
    · exact Or.inr (Or.inr ⟨j, h2, rfl⟩)
    · exact Or.inr (Or.inl (nI_le (by omega) hj))
theorem pk_le {x y : Int32} {A B : Prop} (a b : Nat) (f : a ≤ b → A) (g : b < a → B) (hx : x = nI a := by rfl) (hy : y = nI b := by rfl) (ha : a < 2 ^ 31 := by omega) (hb : b < 2 ^ 31 := by omega) : (x ≤ y → A) ∧ (¬ x ≤ y → B) := by
  subst hx hy
  rw [nI_leI ha hb]
  exact ⟨f, fun z => g (by omega)⟩
theorem pk_lt {x y : Int32} {A B : Prop} (a b : Nat) (f : a < b → A) (g : b ≤ a → B) (hx : x = nI a := by rfl) (hy : y = nI b := by rfl) (ha : a < 2 ^ 31 := by omega) (hb : b < 2 ^ 31 := by omega) : (x < y → A) ∧ (¬ x < y → B) := by
  subst hx hy
  rw [nI_ltI ha hb]
  exact ⟨f, fun z => g (by omega)⟩
theorem pk_eq {x y : Int32} {A B : Prop} (a b : Nat) (f : a = b → A) (g : a ≠ b → B) (hx : x = nI a := by rfl) (hy : y = nI b := by rfl) (ha : a < 2 ^ 31 := by omega) (hb : b < 2 ^ 31 := by omega) : (x = y → A) ∧ (¬ x = y → B) := by
  subst hx hy
  rw [nI_eq ha hb]
  exact ⟨f, g⟩
theorem pk_in {x : Int32} (n N : Nat) (h : n < N) (hx : x = nI n := by rfl) (hN : N < 2 ^ 31 := by omega) : vp_in x N := by
  subst hx
  exact vp_in_nI h hN
theorem pk_cl {x : Int32} (n : Nat) (hx : x = nI n := by rfl) (h : n < 2 ^ 31 := by omega) : x.toNatClampNeg = n := by
  subst hx
  exact nI_clamp h
theorem pa_m1000 : (-1000 : Int32).toInt = -1000 := by first | rfl | decide | decide +kernel
theorem pa_p1000 : (1000 : Int32).toInt = 1000 := by first | rfl | decide | decide +kernel
theorem pa_m2000 : (-2000 : Int32).toInt = -2000 := by first | rfl | decide | decide +kernel
theorem pa_m100 : (-100 : Int32).toInt = -100 := by first | rfl | decide | decide +kernel
theorem pa_p100 : (100 : Int32).toInt = 100 := by first | rfl | decide | decide +kernel
theorem pa_p48 : (48 : Int32).toInt = 48 := by first | rfl | decide | decide +kernel
theorem pa_p0 : (0 : Int32).toInt = 0 := by first | rfl | decide | decide +kernel
theorem pa_p1 : (1 : Int32).toInt = 1 := by first | rfl | decide | decide +kernel
theorem pa_n1 : (-1 : Int32).toInt = -1 := by first | rfl | decide | decide +kernel
theorem pa_L1 : (-1000 : Int64).toInt = -1000 := by first | rfl | decide | decide +kernel
theorem pa_L2 : (1000 : Int64).toInt = 1000 := by first | rfl | decide | decide +kernel
theorem pa_48 : nI 48 = 48 := by first | rfl | decide | decide +kernel
theorem pa_lt {x y : Int32} : x < y ↔ x.toInt < y.toInt := Int32.lt_iff_toInt_lt
theorem pa_le {x y : Int32} : x ≤ y ↔ x.toInt ≤ y.toInt := Int32.le_iff_toInt_le
theorem pa_eq {x y : Int32} : x = y ↔ x.toInt = y.toInt := Int32.toInt_inj.symm
theorem pa_bd (x : Int32) : -2147483648 ≤ x.toInt ∧ x.toInt < 2147483648 := ⟨by have := x.le_toInt; omega, by have := x.toInt_lt; omega⟩
theorem pa_add {k b : Int32} (h1 : -2147483648 ≤ k.toInt + b.toInt) (h2 : k.toInt + b.toInt < 2147483648) : (k + b).toInt = k.toInt + b.toInt := by
  rw [Int32.toInt_add]
  exact Int.bmod_eq_of_le (by omega) (by omega)
theorem pa_sub {k b : Int32} (h1 : -2147483648 ≤ k.toInt - b.toInt) (h2 : k.toInt - b.toInt < 2147483648) : (k - b).toInt = k.toInt - b.toInt := by
  rw [Int32.toInt_sub]
  exact Int.bmod_eq_of_le (by omega) (by omega)
theorem pa_bm {x y : Int} (h : y = x.bmod (2 ^ 32)) : y = x ∨ y = x - 4294967296 ∨ y = x + 4294967296 ∨ x < -4294967296 ∨ 4294967296 < x := by
  rw [Int.bmod_def] at h
  split at h <;> omega
theorem pa_ga {k b : Int32} (h1 : -1000 ≤ k.toInt) (h2 : k.toInt ≤ 1000) : (-1000 ≤ (k + b).toInt ∧ (k + b).toInt ≤ 1000) ↔ (-1000 ≤ k.toInt + b.toInt ∧ k.toInt + b.toInt ≤ 1000) := by
  have e := pa_bm (Int32.toInt_add k b)
  have hb := pa_bd b
  have hs := pa_bd (k + b)
  constructor
  · intro ⟨a, c⟩
    omega
  · intro ⟨a, c⟩
    rw [pa_add (by omega) (by omega)]
    exact ⟨a, c⟩
theorem pa_gl {k b : Int32} : (k.toInt64 + b.toInt64).toInt = k.toInt + b.toInt := by
  rw [Int64.toInt_add, Int32.toInt_toInt64, Int32.toInt_toInt64]
  have h1 := pa_bd k
  have h2 := pa_bd b
  exact Int.bmod_eq_of_le (by omega) (by omega)
end
section
/-! the table as a list of pairs; what inserting, cutting, mapping and sorting do to it -/
def pa_l (K V : Nat → Int32) : Nat → List (Int32 × Int32)
  | 0 => []
  | n + 1 => pa_l K V n ++ [(K n, V n)]
theorem pa_l0 (K V : Nat → Int32) : pa_l K V 0 = [] := rfl
theorem pa_ls (K V : Nat → Int32) (n : Nat) : pa_l K V (n + 1) = pa_l K V n ++ [(K n, V n)] := rfl
theorem pa_len (K V : Nat → Int32) (n : Nat) : (pa_l K V n).length = n := by
  induction n with
  | zero => rfl
  | succ n ih => rw [pa_ls, List.length_append, ih] <;> rfl
theorem pa_mem {K V : Nat → Int32} {n : Nat} {q : Int32 × Int32} : q ∈ pa_l K V n ↔ ∃ i, i < n ∧ q = (K i, V i) := by
  induction n with
  | zero =>
    rw [pa_l0]
    constructor
    · intro h
      exact absurd h List.not_mem_nil
    · intro ⟨i, h, _⟩
      omega
  | succ n ih =>
    rw [pa_ls, List.mem_append, ih, List.mem_singleton]
    constructor
    · intro h
      rcases h with ⟨i, h, e⟩ | e
      · exact ⟨i, by omega, e⟩
      · exact ⟨n, by omega, e⟩
    · intro ⟨i, h, e⟩
      by_cases hi : i < n
      · exact Or.inl ⟨i, hi, e⟩
      · have : i = n := by omega
        rw [this] at e
        exact Or.inr e
theorem pa_at {K V : Nat → Int32} {n i : Nat} (h : i < n) : (K i, V i) ∈ pa_l K V n := pa_mem.mpr ⟨i, h, rfl⟩
theorem pa_ext {K V K1 V1 : Nat → Int32} {n : Nat} (h : ∀ i, i < n → K1 i = K i ∧ V1 i = V i) : pa_l K1 V1 n = pa_l K V n := by
  induction n with
  | zero => rfl
  | succ n ih => rw [pa_ls, pa_ls, ih (fun i hi => h i (by omega)), (h n (by omega)).1, (h n (by omega)).2]
theorem pa_map {K V K1 V1 : Nat → Int32} {n : Nat} {f : Int32 × Int32 → Int32 × Int32} (h : ∀ i, i < n → (K1 i, V1 i) = f (K i, V i)) : pa_l K1 V1 n = (pa_l K V n).map f := by
  induction n with
  | zero => rfl
  | succ n ih => rw [pa_ls, pa_ls, ih (fun i hi => h i (by omega)), h n (by omega), List.map_append] <;> rfl
theorem pa_insd {K V K1 V1 : Nat → Int32} {p : Nat} {k v : Int32} (h1 : ∀ i, i < p → K1 i = K i ∧ V1 i = V i) (hk : K1 p = k) (hv : V1 p = v) : ∀ d : Nat, (∀ i, p ≤ i → i < p + d → K1 (i + 1) = K i ∧ V1 (i + 1) = V i) → (pa_l K1 V1 (p + d + 1)).Perm ((k, v) :: pa_l K V (p + d)) := by
  intro d
  induction d with
  | zero =>
    intro _
    show (pa_l K1 V1 p ++ [(K1 p, V1 p)]).Perm ((k, v) :: pa_l K V p)
    rw [hk, hv, pa_ext h1]
    exact List.perm_append_singleton _ _
  | succ d ih =>
    intro h2
    show (pa_l K1 V1 (p + d + 1) ++ [(K1 (p + d + 1), V1 (p + d + 1))]).Perm (((k, v) :: pa_l K V (p + d)) ++ [(K (p + d), V (p + d))])
    rw [(h2 (p + d) (by omega) (by omega)).1, (h2 (p + d) (by omega) (by omega)).2]
    exact (ih (fun i a b => h2 i a (by omega))).append_right _
theorem pa_ins {K V K1 V1 : Nat → Int32} {p n : Nat} {k v : Int32} (hp : p ≤ n) (h1 : ∀ i, i < p → K1 i = K i ∧ V1 i = V i) (hk : K1 p = k) (hv : V1 p = v) (h2 : ∀ i, p ≤ i → i < n → K1 (i + 1) = K i ∧ V1 (i + 1) = V i) : (pa_l K1 V1 (n + 1)).Perm ((k, v) :: pa_l K V n) := by
  obtain ⟨d, rfl⟩ : ∃ d, n = p + d := ⟨n - p, by omega⟩
  exact pa_insd h1 hk hv d h2
theorem pa_fall {K V : Nat → Int32} {n : Nat} {g : Int32 × Int32 → Bool} (h : ∀ i, i < n → g (K i, V i) = true) : (pa_l K V n).filter g = pa_l K V n := by
  apply List.filter_eq_self.mpr
  intro q hq
  obtain ⟨i, hi, rfl⟩ := pa_mem.mp hq
  exact h i hi
theorem pa_fs {K V : Nat → Int32} {n : Nat} {g : Int32 × Int32 → Bool} : (pa_l K V (n + 1)).filter g = (pa_l K V n).filter g ++ (if g (K n, V n) = true then [(K n, V n)] else []) := by
  rw [pa_ls, List.filter_append]
  by_cases h : g (K n, V n) = true
  · rw [if_pos h, List.filter_cons_of_pos h] <;> rfl
  · rw [if_neg h, List.filter_cons_of_neg h] <;> rfl
theorem pa_cut {K V K1 V1 : Nat → Int32} {a w d : Nat} {g : Int32 × Int32 → Bool} (h1 : ∀ i, i < a → K1 i = K i ∧ V1 i = V i) (h2 : ∀ i, i < d → K1 (a + i) = K (a + w + i) ∧ V1 (a + i) = V (a + w + i)) (g1 : ∀ i, i < a → g (K i, V i) = true) (g2 : ∀ i, i < w → g (K (a + i), V (a + i)) = false) (g3 : ∀ i, i < d → g (K (a + w + i), V (a + w + i)) = true) : (pa_l K V (a + w + d)).filter g = pa_l K1 V1 (a + d) := by
  have s2 : ∀ j, j ≤ w → (pa_l K V (a + j)).filter g = pa_l K1 V1 a := by
    intro j
    induction j with
    | zero =>
      intro _
      show (pa_l K V a).filter g = _
      rw [pa_fall g1, pa_ext h1]
    | succ j ih =>
      intro hj
      show (pa_l K V (a + j + 1)).filter g = _
      rw [pa_fs, ih (by omega), g2 j (by omega), if_neg Bool.false_ne_true, List.append_nil]
  have s3 : ∀ j, j ≤ d → (pa_l K V (a + w + j)).filter g = pa_l K1 V1 (a + j) := by
    intro j
    induction j with
    | zero =>
      intro _
      exact s2 w (Nat.le_refl _)
    | succ j ih =>
      intro hj
      show (pa_l K V (a + w + j + 1)).filter g = pa_l K1 V1 (a + j + 1)
      rw [pa_fs, ih (by omega), g3 j (by omega), if_pos rfl, pa_ls, (h2 j (by omega)).1, (h2 j (by omega)).2]
  exact s3 d (Nat.le_refl _)
theorem pa_cntm {K V : Nat → Int32} {n a e : Nat} {g : Int32 × Int32 → Bool} (hae : a ≤ e) (h : ∀ i, i < n → (g (K i, V i) = true ↔ a ≤ i ∧ i < e)) : ∀ m, m ≤ n → (pa_l K V m).countP g + min m a = min m e := by
  intro m
  induction m with
  | zero =>
    intro _
    rw [pa_l0, List.countP_nil]
    omega
  | succ m ih =>
    intro hm
    have i1 := ih (by omega)
    have hg := h m (by omega)
    rw [pa_ls, List.countP_append, List.countP_singleton]
    by_cases c : g (K m, V m) = true
    · rw [if_pos c]
      have := hg.mp c
      omega
    · rw [if_neg c]
      have : ¬ (a ≤ m ∧ m < e) := fun z => c (hg.mpr z)
      omega
theorem pa_cnt {K V : Nat → Int32} {n a e : Nat} {g : Int32 × Int32 → Bool} (hae : a ≤ e) (hen : e ≤ n) (h : ∀ i, i < n → (g (K i, V i) = true ↔ a ≤ i ∧ i < e)) : (pa_l K V n).countP g = e - a := by
  have := pa_cntm hae h n (Nat.le_refl _)
  omega
theorem pa_cs {K V : Nat → Int32} {n : Nat} {g : Int32 × Int32 → Bool} : (pa_l K V (n + 1)).countP g = (pa_l K V n).countP g + (if g (K n, V n) = true then 1 else 0) := by
  rw [pa_ls, List.countP_append, List.countP_singleton]
theorem pa_pw {K V : Nat → Int32} {n : Nat} {R : Int32 × Int32 → Int32 × Int32 → Prop} : (pa_l K V n).Pairwise R ↔ ∀ i j, i < j → j < n → R (K i, V i) (K j, V j) := by
  induction n with
  | zero => exact ⟨fun _ i j _ hj => absurd hj (Nat.not_lt_zero j), fun _ => List.Pairwise.nil⟩
  | succ n ih =>
    rw [pa_ls, List.pairwise_append, ih]
    constructor
    · intro ⟨h1, _, h3⟩ i j hij hj
      by_cases hn : j < n
      · exact h1 i j hij hn
      · have e : j = n := by omega
        rw [e]
        exact h3 _ (pa_at (by omega)) _ (List.mem_singleton.mpr rfl)
    · intro h
      refine ⟨fun i j hij hj => h i j hij (by omega), List.pairwise_singleton _ _, fun a ha b hb => ?_⟩
      obtain ⟨i, hi, rfl⟩ := pa_mem.mp ha
      rw [List.mem_singleton] at hb
      rw [hb]
      exact h i n hi (by omega)
/-- two neighbours change places -/
theorem pa_swp {K V K1 V1 : Nat → Int32} {p : Nat} (h0 : ∀ i, i ≠ p → i ≠ p + 1 → K1 i = K i ∧ V1 i = V i) (h1 : K1 p = K (p + 1) ∧ V1 p = V (p + 1)) (h2 : K1 (p + 1) = K p ∧ V1 (p + 1) = V p) : ∀ d : Nat, (pa_l K1 V1 (p + 2 + d)).Perm (pa_l K V (p + 2 + d)) := by
  intro d
  induction d with
  | zero =>
    show ((pa_l K1 V1 p ++ [(K1 p, V1 p)]) ++ [(K1 (p + 1), V1 (p + 1))]).Perm ((pa_l K V p ++ [(K p, V p)]) ++ [(K (p + 1), V (p + 1))])
    have e : pa_l K1 V1 p = pa_l K V p := pa_ext (fun i hi => h0 i (by omega) (by omega))
    rw [h1.1, h1.2, h2.1, h2.2, e, List.append_assoc, List.append_assoc]
    show (pa_l K V p ++ [(K (p + 1), V (p + 1)), (K p, V p)]).Perm (pa_l K V p ++ [(K p, V p), (K (p + 1), V (p + 1))])
    exact (List.Perm.swap _ _ _).append_left _
  | succ d ih =>
    show (pa_l K1 V1 (p + 2 + d) ++ [(K1 (p + 2 + d), V1 (p + 2 + d))]).Perm (pa_l K V (p + 2 + d) ++ [(K (p + 2 + d), V (p + 2 + d))])
    rw [(h0 (p + 2 + d) (by omega) (by omega)).1, (h0 (p + 2 + d) (by omega) (by omega)).2]
    exact ih.append_right _
theorem pa_sw {K V K1 V1 : Nat → Int32} {p n : Nat} (hp : p + 1 < n) (h0 : ∀ i, i ≠ p → i ≠ p + 1 → K1 i = K i ∧ V1 i = V i) (h1 : K1 p = K (p + 1) ∧ V1 p = V (p + 1)) (h2 : K1 (p + 1) = K p ∧ V1 (p + 1) = V p) : (pa_l K1 V1 n).Perm (pa_l K V n) := by
  obtain ⟨d, rfl⟩ : ∃ d, n = p + 2 + d := ⟨n - (p + 2), by omega⟩
  exact pa_swp h0 h1 h2 d
/-- the last pair goes to place p: what is taken away is the pair that was there -/
theorem pa_lastd {K V K1 V1 : Nat → Int32} {p : Nat} (h0 : ∀ i, i ≠ p → K1 i = K i ∧ V1 i = V i) : ∀ d : Nat, ((K p, V p) :: pa_l K1 V1 (p + 1 + d)).Perm ((K1 p, V1 p) :: pa_l K V (p + 1 + d)) := by
  intro d
  induction d with
  | zero =>
    show ((K p, V p) :: (pa_l K1 V1 p ++ [(K1 p, V1 p)])).Perm ((K1 p, V1 p) :: (pa_l K V p ++ [(K p, V p)]))
    have e : pa_l K1 V1 p = pa_l K V p := pa_ext (fun i hi => h0 i (by omega))
    rw [e]
    exact ((List.perm_append_singleton _ _).cons _).trans ((List.Perm.swap _ _ _).trans ((List.perm_append_singleton _ _).symm.cons _))
  | succ d ih =>
    show (((K p, V p) :: pa_l K1 V1 (p + 1 + d)) ++ [(K1 (p + 1 + d), V1 (p + 1 + d))]).Perm (((K1 p, V1 p) :: pa_l K V (p + 1 + d)) ++ [(K (p + 1 + d), V (p + 1 + d))])
    rw [(h0 (p + 1 + d) (by omega)).1, (h0 (p + 1 + d) (by omega)).2]
    exact ih.append_right _
theorem pa_last {K V K1 V1 : Nat → Int32} {p n : Nat} (hp : p < n + 1) (h0 : ∀ i, i ≠ p → K1 i = K i ∧ V1 i = V i) (h1 : K1 p = K n ∧ V1 p = V n) : (pa_l K V (n + 1)).Perm ((K p, V p) :: pa_l K1 V1 n) := by
  by_cases e : p = n
  · subst e
    have e : pa_l K1 V1 p = pa_l K V p := pa_ext (fun i hi => h0 i (by omega))
    rw [pa_ls, e]
    exact List.perm_append_singleton _ _
  · obtain ⟨d, rfl⟩ : ∃ d, n = p + 1 + d := ⟨n - (p + 1), by omega⟩
    have := pa_lastd h0 d
    rw [h1.1, h1.2] at this
    rw [pa_ls]
    exact (List.perm_append_singleton _ _).trans this.symm
end
section
/-! the two states against one list L of pairs: X sorted, Y in any order; L itself: at most 48 pairs, good keys, no key twice -/
def pa_S (K : Nat → Int32) (n : Nat) : Prop := ∀ i j, i < j → j < n → (K i).toInt < (K j).toInt
def pa_G (L : List (Int32 × Int32)) : Prop := ∀ q, q ∈ L → -1000 ≤ q.1.toInt ∧ q.1.toInt ≤ 1000
def pa_D (L : List (Int32 × Int32)) : Prop := L.Pairwise (fun a b => a.1 ≠ b.1)
def pa_L (L : List (Int32 × Int32)) : Prop := L.length ≤ 48 ∧ pa_G L ∧ pa_D L
def pa_X (n : Nat) (K V : Nat → Int32) (L : List (Int32 × Int32)) : Prop := pa_S K n ∧ (pa_l K V n).Perm L
theorem pa_n {n : Nat} {K V : Nat → Int32} {L : List (Int32 × Int32)} (h : (pa_l K V n).Perm L) : n = L.length := by
  rw [← h.length_eq, pa_len]
theorem pa_n48 {n : Nat} {K V : Nat → Int32} {L : List (Int32 × Int32)} (hL : pa_L L) (h : (pa_l K V n).Perm L) : n ≤ 48 := by
  rw [pa_n h]
  exact hL.1
theorem pa_iL {n : Nat} {K V : Nat → Int32} {L : List (Int32 × Int32)} (h : (pa_l K V n).Perm L) {i : Nat} (hi : i < n) : (K i, V i) ∈ L := h.mem_iff.mp (pa_at hi)
theorem pa_idx {n : Nat} {K V : Nat → Int32} {L : List (Int32 × Int32)} (h : (pa_l K V n).Perm L) {q : Int32 × Int32} (hq : q ∈ L) : ∃ i, i < n ∧ q = (K i, V i) := pa_mem.mp (h.mem_iff.mpr hq)
theorem pa_g {n : Nat} {K V : Nat → Int32} {L : List (Int32 × Int32)} (hL : pa_L L) (h : (pa_l K V n).Perm L) {i : Nat} (hi : i < n) : -1000 ≤ (K i).toInt ∧ (K i).toInt ≤ 1000 := hL.2.1 _ (pa_iL h hi)
theorem pa_dst {n : Nat} {K V : Nat → Int32} {L : List (Int32 × Int32)} (hD : pa_D L) (h : (pa_l K V n).Perm L) {i j : Nat} (hi : i < n) (hj : j < n) (e : K i = K j) : i = j := by
  have d : (pa_l K V n).Pairwise (fun a b => a.1 ≠ b.1) := h.symm.pairwise hD (fun z => fun y => z y.symm)
  have d' := pa_pw.mp d
  by_cases c : i < j
  · exact absurd e (d' i j c hj)
  · by_cases c2 : j < i
    · exact absurd e.symm (d' j i c2 hi)
    · omega
theorem pa_kq {n : Nat} {K V : Nat → Int32} {L : List (Int32 × Int32)} (hD : pa_D L) (h : (pa_l K V n).Perm L) {q q' : Int32 × Int32} (hq : q ∈ L) (hq' : q' ∈ L) (e : q.1 = q'.1) : q = q' := by
  obtain ⟨i, hi, rfl⟩ := pa_idx h hq
  obtain ⟨j, hj, rfl⟩ := pa_idx h hq'
  rw [pa_dst hD h hi hj e]
def pa_in (lo hi : Int32) (q : Int32 × Int32) : Bool := decide (lo.toInt ≤ q.1.toInt ∧ q.1.toInt ≤ hi.toInt)
theorem pa_inT {lo hi : Int32} {q : Int32 × Int32} : pa_in lo hi q = true ↔ (lo.toInt ≤ q.1.toInt ∧ q.1.toInt ≤ hi.toInt) := decide_eq_true_iff
theorem pa_inF {lo hi : Int32} {q : Int32 × Int32} (h : ¬ (lo.toInt ≤ q.1.toInt ∧ q.1.toInt ≤ hi.toInt)) : pa_in lo hi q = false := decide_eq_false h
/-- the run of places p .. e is the range -/
def pa_R (n : Nat) (K : Nat → Int32) (lo hi : Int32) (p e : Nat) : Prop := p ≤ e ∧ e ≤ n ∧ ∀ i, i < n → ((lo.toInt ≤ (K i).toInt ∧ (K i).toInt ≤ hi.toInt) ↔ (p ≤ i ∧ i < e))
theorem pa_rg {n : Nat} {K : Nat → Int32} (hS : pa_S K n) {lo hi : Int32} {p e : Nat} (hp : p ≤ e) (he : e ≤ n) (h1 : ∀ i, i < p → (K i).toInt < lo.toInt) (h2 : p < n → lo.toInt ≤ (K p).toInt) (h3 : ∀ i, p ≤ i → i < e → (K i).toInt ≤ hi.toInt) (h4 : e < n → hi.toInt < (K e).toInt) : pa_R n K lo hi p e := by
  refine ⟨hp, he, fun i hi' => ⟨?_, ?_⟩⟩
  · intro ⟨a, b⟩
    have c1 : p ≤ i := by
      by_cases c : i < p
      · have := h1 i c
        omega
      · omega
    have c2 : i < e := by
      by_cases c : i < e
      · exact c
      · have h := h4 (by omega)
        by_cases z : e = i
        · rw [z] at h
          omega
        · have := hS e i (by omega) hi'
          omega
    exact ⟨c1, c2⟩
  · intro ⟨a, b⟩
    refine ⟨?_, h3 i a b⟩
    have h := h2 (by omega)
    by_cases z : p = i
    · rw [z] at h
      exact h
    · have := hS p i (by omega) hi'
      omega
theorem pa_cntR {n : Nat} {K V : Nat → Int32} {L : List (Int32 × Int32)} {lo hi : Int32} {p e : Nat} (h : (pa_l K V n).Perm L) (R : pa_R n K lo hi p e) : L.countP (pa_in lo hi) = e - p := by
  rw [← h.countP_eq]
  exact pa_cnt R.1 R.2.1 (fun i hi => pa_inT.trans (R.2.2 i hi))
/-- what is kept by what is done to L -/
theorem pa_Lmap {L : List (Int32 × Int32)} {f : Int32 × Int32 → Int32 × Int32} (hf : ∀ q, (f q).1 = q.1) (h : pa_L L) : pa_L (L.map f) := by
  refine ⟨by rw [List.length_map]; exact h.1, ?_, ?_⟩
  · intro q hq
    obtain ⟨a, ha, rfl⟩ := List.mem_map.mp hq
    rw [hf]
    exact h.2.1 a ha
  · refine List.pairwise_map.mpr ?_
    refine List.Pairwise.imp ?_ h.2.2
    intro a b z
    show (f a).1 ≠ (f b).1
    rw [hf, hf]
    exact z
theorem pa_Lfil {L : List (Int32 × Int32)} (g : Int32 × Int32 → Bool) (h : pa_L L) : pa_L (L.filter g) :=
  ⟨Nat.le_trans (List.length_filter_le g L) h.1, fun q hq => h.2.1 q (List.mem_filter.mp hq).1, List.Pairwise.filter g h.2.2⟩
/-- put -/
def ab_any (L : List (Int32 × Int32)) (k : Int32) : Bool := L.any (fun q => decide (q.1 = k))
theorem ab_anyT {L : List (Int32 × Int32)} {k : Int32} : ab_any L k = true ↔ ∃ q, q ∈ L ∧ q.1 = k := by
  unfold ab_any
  rw [List.any_eq_true]
  constructor
  · intro ⟨q, h, e⟩
    exact ⟨q, h, decide_eq_true_iff.mp e⟩
  · intro ⟨q, h, e⟩
    exact ⟨q, h, decide_eq_true_iff.mpr e⟩
theorem ab_anyF {L : List (Int32 × Int32)} {k : Int32} (h : ∀ q, q ∈ L → q.1 ≠ k) : ab_any L k = false := by
  cases c : ab_any L k with
  | false => rfl
  | true =>
    obtain ⟨q, hq, e⟩ := ab_anyT.mp c
    exact absurd e (h q hq)
def ab_set (k v : Int32) (q : Int32 × Int32) : Int32 × Int32 := (q.1, if q.1 = k then v else q.2)
def ab_put (L : List (Int32 × Int32)) (k v : Int32) : Int32 × List (Int32 × Int32) :=
  if -1000 ≤ k.toInt ∧ k.toInt ≤ 1000 then
    if ab_any L k = true then (0, L.map (ab_set k v))
    else if 48 ≤ L.length then (-2, L) else (1, (k, v) :: L)
  else (-1, L)
theorem ab_put1 {L : List (Int32 × Int32)} {k v : Int32} (h : ¬ (-1000 ≤ k.toInt ∧ k.toInt ≤ 1000)) : ab_put L k v = (-1, L) := if_neg h
theorem ab_put2 {L : List (Int32 × Int32)} {k v : Int32} (h : -1000 ≤ k.toInt ∧ k.toInt ≤ 1000) (h2 : ab_any L k = true) : ab_put L k v = (0, L.map (ab_set k v)) := by
  unfold ab_put
  rw [if_pos h, if_pos h2]
theorem ab_put3 {L : List (Int32 × Int32)} {k v : Int32} (h : -1000 ≤ k.toInt ∧ k.toInt ≤ 1000) (h2 : ab_any L k = false) (h3 : 48 ≤ L.length) : ab_put L k v = (-2, L) := by
  unfold ab_put
  rw [if_pos h, h2, if_neg Bool.false_ne_true, if_pos h3]
theorem ab_put4 {L : List (Int32 × Int32)} {k v : Int32} (h : -1000 ≤ k.toInt ∧ k.toInt ≤ 1000) (h2 : ab_any L k = false) (h3 : ¬ 48 ≤ L.length) : ab_put L k v = (1, (k, v) :: L) := by
  unfold ab_put
  rw [if_pos h, h2, if_neg Bool.false_ne_true, if_neg h3]
theorem ab_putL {L : List (Int32 × Int32)} (h : pa_L L) (k v : Int32) : pa_L (ab_put L k v).2 := by
  by_cases c : -1000 ≤ k.toInt ∧ k.toInt ≤ 1000
  · cases c2 : ab_any L k with
    | true =>
      rw [ab_put2 c c2]
      exact pa_Lmap (fun q => rfl) h
    | false =>
      by_cases c3 : 48 ≤ L.length
      · rw [ab_put3 c c2 c3]
        exact h
      · rw [ab_put4 c c2 c3]
        refine ⟨?_, ?_, ?_⟩
        · show L.length + 1 ≤ 48
          omega
        · intro q hq
          rcases List.mem_cons.mp hq with e | e
          · rw [e]
            exact c
          · exact h.2.1 q e
        · refine List.pairwise_cons.mpr ⟨fun q hq e => ?_, h.2.2⟩
          have : ab_any L k = true := ab_anyT.mpr ⟨q, hq, e.symm⟩
          rw [c2] at this
          exact Bool.false_ne_true this
  · rw [ab_put1 c]
    exact h
/-- putting into X: the pairs behind the place move up -/
theorem pa_insS {n p : Nat} {K K1 : Nat → Int32} {k : Int32} (hS : pa_S K n) (hp : p ≤ n) (h1 : ∀ i, i < p → (K i).toInt < k.toInt) (h2 : p < n → k.toInt < (K p).toInt) (e1 : ∀ i, i < p → K1 i = K i) (e2 : K1 p = k) (e3 : ∀ i, p ≤ i → i < n → K1 (i + 1) = K i) : pa_S K1 (n + 1) := by
  have hk : ∀ m, p ≤ m → m < n → k.toInt < (K m).toInt := by
    intro m a b
    have h := h2 (by omega)
    by_cases z : p = m
    · rw [← z]
      exact h
    · have := hS p m (by omega) b
      omega
  intro i j hij hj
  by_cases a : j < p
  · rw [e1 i (by omega), e1 j a]
    exact hS i j hij (by omega)
  · by_cases b : j = p
    · rw [b, e2, e1 i (by omega)]
      exact h1 i (by omega)
    · obtain ⟨j', rfl⟩ : ∃ j', j = j' + 1 := ⟨j - 1, by omega⟩
      rw [e3 j' (by omega) (by omega)]
      by_cases c : i < p
      · rw [e1 i c]
        exact hS i j' (by omega) (by omega)
      · by_cases d : i = p
        · rw [d, e2]
          exact hk j' (by omega) (by omega)
        · obtain ⟨i', rfl⟩ : ∃ i', i = i' + 1 := ⟨i - 1, by omega⟩
          rw [e3 i' (by omega) (by omega)]
          exact hS i' j' (by omega) (by omega)
theorem pa_insX {n p : Nat} {K V K1 V1 : Nat → Int32} {L : List (Int32 × Int32)} {k v : Int32} (hX : pa_X n K V L) (hp : p ≤ n) (h1 : ∀ i, i < p → (K i).toInt < k.toInt) (h2 : p < n → k.toInt < (K p).toInt) (e1 : ∀ i, i < p → K1 i = K i ∧ V1 i = V i) (e2 : K1 p = k ∧ V1 p = v) (e3 : ∀ i, p ≤ i → i < n → K1 (i + 1) = K i ∧ V1 (i + 1) = V i) : pa_X (n + 1) K1 V1 ((k, v) :: L) :=
  ⟨pa_insS hX.1 hp h1 h2 (fun i hi => (e1 i hi).1) e2.1 (fun i a b => (e3 i a b).1), (pa_ins hp e1 e2.1 e2.2 e3).trans (hX.2.cons _)⟩
/-- taking a run of places out of X -/
theorem pa_cutS {a w d : Nat} {K K1 : Nat → Int32} (hS : pa_S K (a + w + d)) (e1 : ∀ i, i < a → K1 i = K i) (e2 : ∀ i, i < d → K1 (a + i) = K (a + w + i)) : pa_S K1 (a + d) := by
  intro i j hij hj
  by_cases c : j < a
  · rw [e1 i (by omega), e1 j c]
    exact hS i j hij (by omega)
  · obtain ⟨j', rfl⟩ : ∃ j', j = a + j' := ⟨j - a, by omega⟩
    rw [e2 j' (by omega)]
    by_cases c2 : i < a
    · rw [e1 i c2]
      exact hS i (a + w + j') (by omega) (by omega)
    · obtain ⟨i', rfl⟩ : ∃ i', i = a + i' := ⟨i - a, by omega⟩
      rw [e2 i' (by omega)]
      exact hS _ _ (by omega) (by omega)
theorem pa_cutX {n p e : Nat} {K V K1 V1 : Nat → Int32} {L : List (Int32 × Int32)} {g : Int32 × Int32 → Bool} (hX : pa_X n K V L) (hpe : p ≤ e) (hen : e ≤ n) (hg : ∀ i, i < n → (g (K i, V i) = false ↔ (p ≤ i ∧ i < e))) (e1 : ∀ i, i < p → K1 i = K i ∧ V1 i = V i) (e2 : ∀ i, e ≤ i → i < n → K1 (i - (e - p)) = K i ∧ V1 (i - (e - p)) = V i) : pa_X (n - (e - p)) K1 V1 (L.filter g) := by
  obtain ⟨w, rfl⟩ : ∃ w, e = p + w := ⟨e - p, by omega⟩
  obtain ⟨d, rfl⟩ : ∃ d, n = p + w + d := ⟨n - (p + w), by omega⟩
  have hw : p + w - p = w := by omega
  have hn : p + w + d - w = p + d := by omega
  rw [hw] at e2
  rw [hw, hn]
  have e3 : ∀ i, i < d → K1 (p + i) = K (p + w + i) ∧ V1 (p + i) = V (p + w + i) := by
    intro i hi
    have h := e2 (p + w + i) (by omega) (by omega)
    rw [show p + w + i - w = p + i by omega] at h
    exact h
  have gt : ∀ i, i < p + w + d → ¬ (p ≤ i ∧ i < p + w) → g (K i, V i) = true := by
    intro i hi hn
    cases c : g (K i, V i) with
    | true => rfl
    | false => exact absurd ((hg i hi).mp c) hn
  refine ⟨pa_cutS hX.1 (fun i hi => (e1 i hi).1) (fun i hi => (e3 i hi).1), ?_⟩
  have c := pa_cut (g := g) e1 e3 (fun i hi => gt i (by omega) (by omega)) (fun i hi => (hg (p + i) (by omega)).mpr (by omega)) (fun i hi => gt _ (by omega) (by omega))
  rw [← c]
  exact hX.2.filter g
/-- taking one pair out of Y: the last pair goes to its place -/
theorem pa_rem {L M : List (Int32 × Int32)} {q : Int32 × Int32} (hD : pa_D L) (h : L.Perm (q :: M)) : M.Perm (L.filter (fun r => decide (r.1 ≠ q.1))) := by
  have d : (q :: M).Pairwise (fun a b => a.1 ≠ b.1) := h.pairwise hD (fun z => fun y => z y.symm)
  have d2 := (List.pairwise_cons.mp d).1
  have f := h.filter (fun r => decide (r.1 ≠ q.1))
  have f2 : M.filter (fun r => decide (r.1 ≠ q.1)) = M := List.filter_eq_self.mpr (fun a ha => decide_eq_true (fun z => d2 a ha z.symm))
  have f1 : (q :: M).filter (fun r => decide (r.1 ≠ q.1)) = M.filter (fun r => decide (r.1 ≠ q.1)) := List.filter_cons_of_neg (by simp)
  rw [f1, f2] at f
  exact f.symm
end
section
/-! the insertion sort: a place c that waits for the pair (k, v) -/
def pa_I (n : Nat) (L : List (Int32 × Int32)) (i c : Nat) (K V : Nat → Int32) (k v : Int32) : Prop :=
  c ≤ i ∧ i < n ∧ (pa_l (upd K c k) (upd V c v) n).Perm L ∧ (∀ a b, a < b → b ≤ i → a ≠ c → b ≠ c → (K a).toInt ≤ (K b).toInt) ∧ (∀ b, c < b → b ≤ i → k.toInt < (K b).toInt)
def pa_W (K : Nat → Int32) (i : Nat) : Prop := ∀ a b, a < b → b < i → (K a).toInt ≤ (K b).toInt
theorem pa_I0 {n : Nat} {L : List (Int32 × Int32)} {i : Nat} {K V : Nat → Int32} (hi : i < n) (h : (pa_l K V n).Perm L) (w : pa_W K i) : pa_I n L i i K V (K i) (V i) := by
  refine ⟨Nat.le_refl _, hi, ?_, fun a b hab hb _ hbi => w a b hab (by omega), fun b hb hbi => by omega⟩
  have e : pa_l (upd K i (K i)) (upd V i (V i)) n = pa_l K V n := by
    refine pa_ext (fun j _ => ?_)
    by_cases c : j = i
    · rw [c]
      exact ⟨pk_us, pk_us⟩
    · exact ⟨pk_un c, pk_un c⟩
  rw [e]
  exact h
theorem pa_Is {n : Nat} {L : List (Int32 × Int32)} {i c : Nat} {K V : Nat → Int32} {k v : Int32} (h : pa_I n L i (c + 1) K V k v) (hk : k.toInt < (K c).toInt) : pa_I n L i c (upd K (c + 1) (K c)) (upd V (c + 1) (V c)) k v := by
  obtain ⟨h1, h2, h3, h4, h5⟩ := h
  have c1 : c ≠ c + 1 := by omega
  refine ⟨by omega, h2, ?_, ?_, ?_⟩
  · refine List.Perm.trans ?_ h3
    refine pa_sw (p := c) (by omega) ?_ ?_ ?_
    · intro j a b
      exact ⟨by rw [pk_un a, pk_un b, pk_un b], by rw [pk_un a, pk_un b, pk_un b]⟩
    · exact ⟨by rw [pk_us, pk_us], by rw [pk_us, pk_us]⟩
    · exact ⟨by rw [pk_un c1.symm, pk_us, pk_un c1], by rw [pk_un c1.symm, pk_us, pk_un c1]⟩
  · intro a b hab hb ha hbc
    by_cases z : b = c + 1
    · rw [z, pk_us, pk_un (by omega)]
      exact h4 a c (by omega) (by omega) (by omega) c1
    · rw [pk_un z]
      by_cases y : a = c + 1
      · rw [y, pk_us]
        exact h4 c b (by omega) hb c1 z
      · rw [pk_un y]
        exact h4 a b hab hb y z
  · intro b hb hbi
    by_cases z : b = c + 1
    · rw [z, pk_us]
      exact hk
    · rw [pk_un z]
      exact h5 b (by omega) hbi
theorem pa_Ix {n : Nat} {L : List (Int32 × Int32)} {i c : Nat} {K V : Nat → Int32} {k v : Int32} (h : pa_I n L i c K V k v) (hk : ∀ a, a + 1 = c → (K a).toInt ≤ k.toInt) : (pa_l (upd K c k) (upd V c v) n).Perm L ∧ pa_W (upd K c k) (i + 1) := by
  obtain ⟨h1, h2, h3, h4, h5⟩ := h
  refine ⟨h3, ?_⟩
  intro a b hab hb
  by_cases z : b = c
  · rw [z, pk_us, pk_un (by omega)]
    have hc := hk (c - 1) (by omega)
    by_cases y : a = c - 1
    · rw [y]
      exact hc
    · have := h4 a (c - 1) (by omega) (by omega) (by omega) (by omega)
      omega
  · rw [pk_un z]
    by_cases y : a = c
    · rw [y, pk_us]
      have := h5 b (by omega) (by omega)
      omega
    · rw [pk_un y]
      exact h4 a b hab (by omega) y z
theorem pa_WX {n : Nat} {K V : Nat → Int32} {L : List (Int32 × Int32)} (hD : pa_D L) (h : (pa_l K V n).Perm L) (w : pa_W K n) : pa_X n K V L := by
  refine ⟨fun i j hij hj => ?_, h⟩
  have a := w i j hij hj
  have b : (K i).toInt ≠ (K j).toInt := fun e => by
    have := pa_dst hD h (by omega) hj (Int32.toInt_inj.mp e)
    omega
  omega
/-! slide -/
def ab_mv (lo hi b : Int32) (q : Int32 × Int32) : Int32 × Int32 := (if pa_in lo hi q = true then q.1 + b else q.1, q.2)
/-- a key of the range would leave the good ones -/
def ab_bad (L : List (Int32 × Int32)) (lo hi b : Int32) : Prop := ∃ q, q ∈ L ∧ pa_in lo hi q = true ∧ ¬ (-1000 ≤ (q.1 + b).toInt ∧ (q.1 + b).toInt ≤ 1000)
/-- a key of the range would meet one outside -/
def ab_met (L : List (Int32 × Int32)) (lo hi b : Int32) : Prop := ∃ q, q ∈ L ∧ pa_in lo hi q = true ∧ ∃ q', q' ∈ L ∧ q'.1 = q.1 + b ∧ pa_in lo hi q' = false
theorem ab_mvL {L : List (Int32 × Int32)} {lo hi b : Int32} (h : pa_L L) (h1 : ¬ ab_bad L lo hi b) (h2 : ¬ ab_met L lo hi b) : pa_L (L.map (ab_mv lo hi b)) := by
  refine ⟨by rw [List.length_map]; exact h.1, ?_, ?_⟩
  · intro q hq
    obtain ⟨a, ha, rfl⟩ := List.mem_map.mp hq
    show -1000 ≤ (if pa_in lo hi a = true then a.1 + b else a.1).toInt ∧ (if pa_in lo hi a = true then a.1 + b else a.1).toInt ≤ 1000
    by_cases c : pa_in lo hi a = true
    · rw [if_pos c]
      by_cases d : -1000 ≤ (a.1 + b).toInt ∧ (a.1 + b).toInt ≤ 1000
      · exact d
      · exact absurd ⟨a, ha, c, d⟩ h1
    · rw [if_neg c]
      exact h.2.1 a ha
  · refine List.pairwise_map.mpr ?_
    refine List.Pairwise.imp_of_mem ?_ h.2.2
    intro x y hx hy z
    show (if pa_in lo hi x = true then x.1 + b else x.1) ≠ (if pa_in lo hi y = true then y.1 + b else y.1)
    cases cx : pa_in lo hi x with
    | true =>
      cases cy : pa_in lo hi y with
      | true =>
        show x.1 + b ≠ y.1 + b
        exact fun e => z ((Int32.add_left_inj b).mp e)
      | false =>
        show x.1 + b ≠ y.1
        exact fun e => h2 ⟨x, hx, cx, y, hy, e.symm, cy⟩
    | false =>
      cases cy : pa_in lo hi y with
      | true =>
        show x.1 ≠ y.1 + b
        exact fun e => h2 ⟨y, hy, cy, x, hx, e, cx⟩
      | false =>
        show x.1 ≠ y.1
        exact z
def ab_up (lo hi b : Int32) (q : Int32 × Int32) : Int32 × Int32 := (q.1, if pa_in lo hi q = true then q.2 + b else q.2)
theorem ab_upL {L : List (Int32 × Int32)} {lo hi b : Int32} (h : pa_L L) : pa_L (L.map (ab_up lo hi b)) := pa_Lmap (fun _ => rfl) h
/-! sum -/
def ab_f (lo hi : Int32) (s : Int32) (q : Int32 × Int32) : Int32 := if pa_in lo hi q = true then s + q.2 else s
def ab_sum (lo hi : Int32) (L : List (Int32 × Int32)) : Int32 := L.foldl (ab_f lo hi) 0
theorem ab_sums {lo hi : Int32} {K V : Nat → Int32} {n : Nat} : ab_sum lo hi (pa_l K V (n + 1)) = ab_f lo hi (ab_sum lo hi (pa_l K V n)) (K n, V n) := by
  unfold ab_sum
  rw [pa_ls, List.foldl_append] <;> rfl
theorem ab_sumP {lo hi : Int32} {L M : List (Int32 × Int32)} (h : L.Perm M) : ab_sum lo hi L = ab_sum lo hi M := by
  unfold ab_sum
  refine h.foldl_eq' ?_ 0
  intro x _ y _ z
  unfold ab_f
  cases pa_in lo hi x with
  | true =>
    cases pa_in lo hi y with
    | true =>
      show z + x.2 + y.2 = z + y.2 + x.2
      rw [Int32.add_assoc, Int32.add_assoc, Int32.add_comm x.2]
    | false => rfl
  | false =>
    cases pa_in lo hi y with
    | true => rfl
    | false => rfl
theorem ab_sum0 {lo hi : Int32} {K V : Nat → Int32} : ∀ {n : Nat}, (∀ i, i < n → pa_in lo hi (K i, V i) = false) → ab_sum lo hi (pa_l K V n) = 0 := by
  intro n
  induction n with
  | zero => intro _; rfl
  | succ n ih =>
    intro h
    rw [ab_sums, ih (fun i hi => h i (by omega))]
    unfold ab_f
    rw [h n (by omega), if_neg Bool.false_ne_true]
theorem ab_sumE {lo hi : Int32} {K V : Nat → Int32} {e : Nat} : ∀ d : Nat, (∀ i, e ≤ i → i < e + d → pa_in lo hi (K i, V i) = false) → ab_sum lo hi (pa_l K V (e + d)) = ab_sum lo hi (pa_l K V e) := by
  intro d
  induction d with
  | zero => intro _; rfl
  | succ d ih =>
    intro h
    show ab_sum lo hi (pa_l K V (e + d + 1)) = _
    rw [ab_sums, ih (fun i a b => h i a (by omega))]
    unfold ab_f
    rw [h (e + d) (by omega) (by omega), if_neg Bool.false_ne_true]
theorem ab_sumX {n p e : Nat} {K V : Nat → Int32} {L : List (Int32 × Int32)} {lo hi : Int32} (h : (pa_l K V n).Perm L) (R : pa_R n K lo hi p e) : ab_sum lo hi (pa_l K V p) = 0 ∧ ab_sum lo hi (pa_l K V e) = ab_sum lo hi L ∧ ∀ i, p ≤ i → i < e → ab_sum lo hi (pa_l K V (i + 1)) = ab_sum lo hi (pa_l K V i) + V i := by
  obtain ⟨hp, he, hR⟩ := R
  refine ⟨ab_sum0 (fun i hi => pa_inF (fun z => ?_)), ?_, fun i a b => ?_⟩
  · have := (hR i (by omega)).mp z
    omega
  · rw [← ab_sumP h]
    obtain ⟨d, rfl⟩ : ∃ d, n = e + d := ⟨n - e, by omega⟩
    refine (ab_sumE d (fun i a b => pa_inF (fun z => ?_))).symm
    have := (hR i b).mp z
    omega
  · rw [ab_sums]
    unfold ab_f
    rw [if_pos (pa_inT.mpr ((hR i (by omega)).mpr ⟨a, b⟩))] <;> rfl
/-! series: the list after i puts -/
def ab_ser (L : List (Int32 × Int32)) (k s v : Int32) : Nat → List (Int32 × Int32)
  | 0 => L
  | i + 1 => (ab_put (ab_ser L k s v i) (k + nI i * s) (v + nI i)).2
theorem ab_serL {L : List (Int32 × Int32)} (h : pa_L L) (k s v : Int32) : ∀ i, pa_L (ab_ser L k s v i) := by
  intro i
  induction i with
  | zero => exact h
  | succ i ih => exact ab_putL ih _ _
/-! clear, as Y does it: key by key -/
def ab_cl (lo hi : Int32) (t : Int) (q : Int32 × Int32) : Bool := !(pa_in lo hi q && decide (q.1.toInt < t))
def ab_out (lo hi : Int32) (q : Int32 × Int32) : Bool := !(pa_in lo hi q)
theorem ab_cl0 {L : List (Int32 × Int32)} {lo hi : Int32} (h : pa_L L) : L.filter (ab_cl lo hi (-1000)) = L := by
  apply List.filter_eq_self.mpr
  intro q hq
  have g := h.2.1 q hq
  unfold ab_cl
  have d : decide (q.1.toInt < -1000) = false := decide_eq_false (by omega)
  rw [d, Bool.and_false] <;> rfl
theorem ab_clE {L : List (Int32 × Int32)} {lo hi : Int32} (h : pa_L L) : L.filter (ab_cl lo hi 1001) = L.filter (ab_out lo hi) := by
  apply List.filter_congr
  intro q hq
  have g := h.2.1 q hq
  unfold ab_cl ab_out
  have d : decide (q.1.toInt < 1001) = true := decide_eq_true (by omega)
  rw [d, Bool.and_true]
/-- a key that is in the range and held goes out -/
theorem ab_clR {L : List (Int32 × Int32)} {lo hi k : Int32} (hk : lo.toInt ≤ k.toInt ∧ k.toInt ≤ hi.toInt) : (L.filter (ab_cl lo hi k.toInt)).filter (fun r => decide (r.1 ≠ k)) = L.filter (ab_cl lo hi (k.toInt + 1)) := by
  rw [List.filter_filter]
  apply List.filter_congr
  intro q _
  show (decide (q.1 ≠ k) && ab_cl lo hi k.toInt q) = ab_cl lo hi (k.toInt + 1) q
  unfold ab_cl
  by_cases e : q.1 = k
  · have d1 : decide (q.1 ≠ k) = false := decide_eq_false (fun z => z e)
    have d2 : pa_in lo hi q = true := pa_inT.mpr (by rw [e]; exact hk)
    have d3 : decide (q.1.toInt < k.toInt + 1) = true := decide_eq_true (by rw [e]; omega)
    rw [d1, d2, d3] <;> rfl
  · have e2 : q.1.toInt ≠ k.toInt := fun z => e (Int32.toInt_inj.mp z)
    have d1 : decide (q.1 ≠ k) = true := decide_eq_true e
    rw [d1, Bool.true_and]
    by_cases c : q.1.toInt < k.toInt
    · rw [decide_eq_true c, decide_eq_true (show q.1.toInt < k.toInt + 1 by omega)]
    · rw [decide_eq_false c, decide_eq_false (show ¬ q.1.toInt < k.toInt + 1 by omega)]
/-- a key that isn't in the range, or isn't held: nothing changes -/
theorem ab_clN {L : List (Int32 × Int32)} {lo hi k : Int32} (hk : ¬ (lo.toInt ≤ k.toInt ∧ k.toInt ≤ hi.toInt) ∨ ∀ q, q ∈ L.filter (ab_cl lo hi k.toInt) → q.1 ≠ k) : L.filter (ab_cl lo hi k.toInt) = L.filter (ab_cl lo hi (k.toInt + 1)) := by
  apply List.filter_congr
  intro q hq
  by_cases e : q.1 = k
  · rcases hk with h | h
    · unfold ab_cl
      have d2 : pa_in lo hi q = false := pa_inF (by rw [e]; exact h)
      rw [d2, Bool.false_and, Bool.false_and]
    · exfalso
      refine h q (List.mem_filter.mpr ⟨hq, ?_⟩) e
      unfold ab_cl
      have d3 : decide (q.1.toInt < k.toInt) = false := decide_eq_false (by rw [e]; omega)
      rw [d3, Bool.and_false] <;> rfl
  · have e2 : q.1.toInt ≠ k.toInt := fun z => e (Int32.toInt_inj.mp z)
    unfold ab_cl
    by_cases c : q.1.toInt < k.toInt
    · rw [decide_eq_true c, decide_eq_true (show q.1.toInt < k.toInt + 1 by omega)]
    · rw [decide_eq_false c, decide_eq_false (show ¬ q.1.toInt < k.toInt + 1 by omega)]
theorem ab_outN {L : List (Int32 × Int32)} {lo hi : Int32} : (L.filter (ab_out lo hi)).length + L.countP (pa_in lo hi) = L.length := by
  induction L with
  | nil => rfl
  | cons q L ih =>
    cases c : pa_in lo hi q with
    | true =>
      rw [List.filter_cons_of_neg (by simp [ab_out, c]), List.countP_cons_of_pos c]
      show _ = L.length + 1
      omega
    | false =>
      rw [List.filter_cons_of_pos (by simp [ab_out, c]), List.countP_cons_of_neg (by simp [c])]
      show (L.filter (ab_out lo hi)).length + 1 + _ = L.length + 1
      omega
theorem pa_outR {n p e : Nat} {K V : Nat → Int32} {lo hi : Int32} (R : pa_R n K lo hi p e) : ∀ i, i < n → (ab_out lo hi (K i, V i) = false ↔ (p ≤ i ∧ i < e)) := by
  intro i hi'
  rw [← R.2.2 i hi']
  unfold ab_out
  constructor
  · intro h
    refine (pa_inT (q := (K i, V i))).mp ?_
    cases c : pa_in lo hi (K i, V i) with
    | true => rfl
    | false =>
      rw [c] at h
      exact absurd h (by decide)
  · intro h
    rw [pa_inT.mpr h]
    rfl
end
section
/-! what each answer is, of the list L alone; each is the only one -/
def sp_get (L : List (Int32 × Int32)) (k r : Int32) : Prop := (∃ q, q ∈ L ∧ q.1 = k ∧ r = q.2) ∨ ((∀ q, q ∈ L → q.1 ≠ k) ∧ r = 0)
theorem sp_get_u {n : Nat} {K V : Nat → Int32} {L : List (Int32 × Int32)} (hD : pa_D L) (h : (pa_l K V n).Perm L) {k r r' : Int32} (a : sp_get L k r) (b : sp_get L k r') : r' = r := by
  rcases a with ⟨q, hq, e, rfl⟩ | ⟨hn, rfl⟩
  · rcases b with ⟨q', hq', e', rfl⟩ | ⟨hn', _⟩
    · rw [pa_kq hD h hq hq' (e.trans e'.symm)]
    · exact absurd e (hn' q hq)
  · rcases b with ⟨q', hq', e', _⟩ | ⟨_, rfl⟩
    · exact absurd e' (hn q' hq')
    · rfl
def ab_has (L : List (Int32 × Int32)) (k : Int32) : Int32 := if -1000 ≤ k.toInt ∧ k.toInt ≤ 1000 then (if ab_any L k = true then 1 else 0) else -1
def ab_less (L : List (Int32 × Int32)) (b : Int32) : Nat := L.countP (fun q => decide (q.1.toInt < b.toInt))
theorem ab_lessP {L M : List (Int32 × Int32)} (h : L.Perm M) (b : Int32) : ab_less L b = ab_less M b := h.countP_eq _
/-- in X the place of the first key that isn't less -/
theorem ab_lessX {n p : Nat} {K V : Nat → Int32} {L : List (Int32 × Int32)} (hX : pa_X n K V L) {b : Int32} (hp : p ≤ n) (h1 : ∀ i, i < p → (K i).toInt < b.toInt) (h2 : p < n → b.toInt ≤ (K p).toInt) : ab_less L b = p := by
  rw [← ab_lessP hX.2]
  have := pa_cnt (K := K) (V := V) (n := n) (a := 0) (e := p) (g := fun q => decide (q.1.toInt < b.toInt)) (Nat.zero_le _) hp (fun i hi => by
    show (decide ((K i).toInt < b.toInt) = true) ↔ (0 ≤ i ∧ i < p)
    rw [decide_eq_true_iff]
    constructor
    · intro h
      refine ⟨Nat.zero_le _, ?_⟩
      by_cases c : i < p
      · exact c
      · have h3 := h2 (by omega)
        by_cases z : p = i
        · rw [z] at h3
          omega
        · have := hX.1 p i (by omega) hi
          omega
    · intro h
      exact h1 i h.2)
  exact this
theorem ab_lessI {n j : Nat} {K V : Nat → Int32} {L : List (Int32 × Int32)} (hX : pa_X n K V L) (hj : j < n) : ab_less L (K j) = j :=
  ab_lessX hX (by omega) (fun i hi => hX.1 i j hi hj) (fun _ => Int.le_refl _)
def sp_sel (L : List (Int32 × Int32)) (k r : Int32) : Prop := (∃ q, q ∈ L ∧ r = q.1 ∧ nI (ab_less L q.1) = k) ∨ ((∀ q, q ∈ L → nI (ab_less L q.1) ≠ k) ∧ r = -2000)
theorem sp_sel_u {n : Nat} {K V : Nat → Int32} {L : List (Int32 × Int32)} (hL : pa_L L) (hX : pa_X n K V L) {k r r' : Int32} (a : sp_sel L k r) (b : sp_sel L k r') : r' = r := by
  have h48 := pa_n48 hL hX.2
  rcases a with ⟨q, hq, rfl, e⟩ | ⟨hn, rfl⟩
  · rcases b with ⟨q', hq', rfl, e'⟩ | ⟨hn', _⟩
    · obtain ⟨i, hi, rfl⟩ := pa_idx hX.2 hq
      obtain ⟨j, hj, rfl⟩ := pa_idx hX.2 hq'
      have e2 := e'.trans e.symm
      dsimp only at e2
      rw [ab_lessI hX hi, ab_lessI hX hj, nI_eq (by omega) (by omega)] at e2
      rw [e2]
    · exact absurd e (hn' q hq)
  · rcases b with ⟨q', hq', _, e'⟩ | ⟨_, rfl⟩
    · exact absurd e' (hn q' hq')
    · rfl
def sp_next (L : List (Int32 × Int32)) (b r : Int32) : Prop := (∃ q, q ∈ L ∧ r = q.1 ∧ b.toInt < q.1.toInt ∧ ∀ q', q' ∈ L → b.toInt < q'.1.toInt → q.1.toInt ≤ q'.1.toInt) ∨ ((∀ q, q ∈ L → q.1.toInt ≤ b.toInt) ∧ r = -2000)
theorem sp_next_u {L : List (Int32 × Int32)} {b r r' : Int32} (h : sp_next L b r) (h' : sp_next L b r') : r' = r := by
  rcases h with ⟨q, hq, rfl, e, m⟩ | ⟨hn, rfl⟩
  · rcases h' with ⟨q', hq', rfl, e', m'⟩ | ⟨hn', _⟩
    · have x := m q' hq' e'
      have y := m' q hq e
      exact Int32.toInt_inj.mp (by omega)
    · have := hn' q hq
      omega
  · rcases h' with ⟨q', hq', _, e', _⟩ | ⟨_, rfl⟩
    · have := hn q' hq'
      omega
    · rfl
def sp_prev (L : List (Int32 × Int32)) (b r : Int32) : Prop := (∃ q, q ∈ L ∧ r = q.1 ∧ q.1.toInt < b.toInt ∧ ∀ q', q' ∈ L → q'.1.toInt < b.toInt → q'.1.toInt ≤ q.1.toInt) ∨ ((∀ q, q ∈ L → b.toInt ≤ q.1.toInt) ∧ r = -2000)
theorem sp_prev_u {L : List (Int32 × Int32)} {b r r' : Int32} (h : sp_prev L b r) (h' : sp_prev L b r') : r' = r := by
  rcases h with ⟨q, hq, rfl, e, m⟩ | ⟨hn, rfl⟩
  · rcases h' with ⟨q', hq', rfl, e', m'⟩ | ⟨hn', _⟩
    · have x := m q' hq' e'
      have y := m' q hq e
      exact Int32.toInt_inj.mp (by omega)
    · have := hn' q hq
      omega
  · rcases h' with ⟨q', hq', _, e', _⟩ | ⟨_, rfl⟩
    · have := hn q' hq'
      omega
    · rfl
def sp_best (L : List (Int32 × Int32)) (lo hi r : Int32) : Prop := (∃ q, q ∈ L ∧ r = q.1 ∧ pa_in lo hi q = true ∧ ∀ q', q' ∈ L → pa_in lo hi q' = true → q'.2.toInt < q.2.toInt ∨ (q'.2.toInt = q.2.toInt ∧ q.1.toInt ≤ q'.1.toInt)) ∨ ((∀ q, q ∈ L → pa_in lo hi q = false) ∧ r = -2000)
theorem sp_best_u {L : List (Int32 × Int32)} {lo hi r r' : Int32} (h : sp_best L lo hi r) (h' : sp_best L lo hi r') : r' = r := by
  rcases h with ⟨q, hq, rfl, e, m⟩ | ⟨hn, rfl⟩
  · rcases h' with ⟨q', hq', rfl, e', m'⟩ | ⟨hn', _⟩
    · have x := m q' hq' e'
      have y := m' q hq e
      exact Int32.toInt_inj.mp (by omega)
    · have := hn' q hq
      rw [e] at this
      exact absurd this (by decide)
  · rcases h' with ⟨q', hq', _, e', _⟩ | ⟨_, rfl⟩
    · have := hn q' hq'
      rw [e'] at this
      exact absurd this (by decide)
    · rfl
def sp_close (L : List (Int32 × Int32)) (r : Int32) : Prop := (∃ a, a ∈ L ∧ ∃ b, b ∈ L ∧ r.toInt = a.1.toInt - b.1.toInt ∧ 0 < r.toInt ∧ ∀ c, c ∈ L → ∀ d, d ∈ L → d.1.toInt < c.1.toInt → r.toInt ≤ c.1.toInt - d.1.toInt) ∨ ((∀ c, c ∈ L → ∀ d, d ∈ L → ¬ d.1.toInt < c.1.toInt) ∧ r = 0)
theorem sp_close_u {L : List (Int32 × Int32)} {r r' : Int32} (h : sp_close L r) (h' : sp_close L r') : r' = r := by
  rcases h with ⟨a, ha, b, hb, e, z, m⟩ | ⟨hn, rfl⟩
  · rcases h' with ⟨a', ha', b', hb', e', z', m'⟩ | ⟨hn', _⟩
    · have x := m a' ha' b' hb' (by omega)
      have y := m' a ha b hb (by omega)
      exact Int32.toInt_inj.mp (by omega)
    · exact absurd (show b.1.toInt < a.1.toInt by omega) (hn' a ha b hb)
  · rcases h' with ⟨a', ha', b', hb', e', z', _⟩ | ⟨_, rfl⟩
    · exact absurd (show b'.1.toInt < a'.1.toInt by omega) (hn a' ha' b' hb')
    · rfl
def sp_gap (L : List (Int32 × Int32)) (f r : Int32) : Prop := (-1000 ≤ r.toInt ∧ r.toInt ≤ 1000 ∧ f.toInt ≤ r.toInt ∧ (∀ q, q ∈ L → q.1.toInt ≠ r.toInt) ∧ ∀ t : Int, -1000 ≤ t → f.toInt ≤ t → t < r.toInt → ∃ q, q ∈ L ∧ q.1.toInt = t) ∨ ((∀ t : Int, -1000 ≤ t → t ≤ 1000 → f.toInt ≤ t → ∃ q, q ∈ L ∧ q.1.toInt = t) ∧ r = -2000)
theorem sp_gap_u {L : List (Int32 × Int32)} {f r r' : Int32} (h : sp_gap L f r) (h' : sp_gap L f r') : r' = r := by
  rcases h with ⟨a1, a2, a3, a4, a5⟩ | ⟨hn, rfl⟩
  · rcases h' with ⟨b1, b2, b3, b4, b5⟩ | ⟨hn', _⟩
    · apply Int32.toInt_inj.mp
      by_cases c : r.toInt < r'.toInt
      · obtain ⟨q, hq, e⟩ := b5 r.toInt a1 a3 c
        exact absurd e (a4 q hq)
      · by_cases c2 : r'.toInt < r.toInt
        · obtain ⟨q, hq, e⟩ := a5 r'.toInt b1 b3 c2
          exact absurd e (b4 q hq)
        · omega
    · obtain ⟨q, hq, e⟩ := hn' r.toInt a1 a2 a3
      exact absurd e (a4 q hq)
  · rcases h' with ⟨b1, b2, b3, b4, b5⟩ | ⟨_, rfl⟩
    · obtain ⟨q, hq, e⟩ := hn r'.toInt b1 b2 b3
      exact absurd e (b4 q hq)
    · rfl
/-! X's ways to them -/
theorem xs_next {n e : Nat} {K V : Nat → Int32} {L : List (Int32 × Int32)} (hX : pa_X n K V L) {b : Int32} (h3 : ∀ i, i < e → (K i).toInt ≤ b.toInt) (h4 : b.toInt < (K e).toInt) (he : e < n) : sp_next L b (K e) := by
  refine Or.inl ⟨(K e, V e), pa_iL hX.2 he, rfl, h4, ?_⟩
  intro q hq hb
  obtain ⟨i, hi, rfl⟩ := pa_idx hX.2 hq
  dsimp only at hb
  show (K e).toInt ≤ (K i).toInt
  by_cases c : i < e
  · have := h3 i c
    omega
  · by_cases z : e = i
    · rw [z]
      exact Int.le_refl _
    · have := hX.1 e i (by omega) hi
      omega
theorem xs_next0 {n : Nat} {K V : Nat → Int32} {L : List (Int32 × Int32)} (hX : pa_X n K V L) {b : Int32} (h3 : ∀ i, i < n → (K i).toInt ≤ b.toInt) : sp_next L b (-2000) := by
  refine Or.inr ⟨?_, rfl⟩
  intro q hq
  obtain ⟨i, hi, rfl⟩ := pa_idx hX.2 hq
  exact h3 i hi
theorem xs_prev {n p : Nat} {K V : Nat → Int32} {L : List (Int32 × Int32)} (hX : pa_X n K V L) {b : Int32} (h1 : (K p).toInt < b.toInt) (h2 : p + 1 < n → b.toInt ≤ (K (p + 1)).toInt) (hp : p < n) : sp_prev L b (K p) := by
  refine Or.inl ⟨(K p, V p), pa_iL hX.2 hp, rfl, h1, ?_⟩
  intro q hq hb
  obtain ⟨i, hi, rfl⟩ := pa_idx hX.2 hq
  dsimp only at hb
  show (K i).toInt ≤ (K p).toInt
  by_cases c : i < p
  · have := hX.1 i p c hp
    omega
  · by_cases z : i = p
    · rw [z]
      exact Int.le_refl _
    · have a := h2 (by omega)
      by_cases y : p + 1 = i
      · rw [y] at a
        omega
      · have := hX.1 (p + 1) i (by omega) hi
        omega
theorem xs_prev0 {n : Nat} {K V : Nat → Int32} {L : List (Int32 × Int32)} (hX : pa_X n K V L) {b : Int32} (h2 : 0 < n → b.toInt ≤ (K 0).toInt) : sp_prev L b (-2000) := by
  refine Or.inr ⟨?_, rfl⟩
  intro q hq
  obtain ⟨i, hi, rfl⟩ := pa_idx hX.2 hq
  show b.toInt ≤ (K i).toInt
  have a := h2 (by omega)
  by_cases y : 0 = i
  · rw [← y]
    exact a
  · have := hX.1 0 i (by omega) hi
    omega
theorem xs_best {n p e m : Nat} {K V : Nat → Int32} {L : List (Int32 × Int32)} (hX : pa_X n K V L) {lo hi : Int32} (R : pa_R n K lo hi p e) (h1 : p ≤ m) (h2 : m < e) (h : ∀ j, p ≤ j → j < e → (V j).toInt < (V m).toInt ∨ ((V j).toInt = (V m).toInt ∧ m ≤ j)) : sp_best L lo hi (K m) := by
  obtain ⟨hp, he, hR⟩ := R
  refine Or.inl ⟨(K m, V m), pa_iL hX.2 (by omega), rfl, pa_inT.mpr ((hR m (by omega)).mpr ⟨h1, h2⟩), ?_⟩
  intro q hq hb
  obtain ⟨i, hi, rfl⟩ := pa_idx hX.2 hq
  have r := (hR i hi).mp (pa_inT.mp hb)
  show (V i).toInt < (V m).toInt ∨ ((V i).toInt = (V m).toInt ∧ (K m).toInt ≤ (K i).toInt)
  rcases h i r.1 r.2 with c | ⟨c, d⟩
  · exact Or.inl c
  · refine Or.inr ⟨c, ?_⟩
    by_cases z : m = i
    · rw [z]
      exact Int.le_refl _
    · have := hX.1 m i (by omega) hi
      omega
theorem xs_best0 {n p : Nat} {K V : Nat → Int32} {L : List (Int32 × Int32)} (hX : pa_X n K V L) {lo hi : Int32} (R : pa_R n K lo hi p p) : sp_best L lo hi (-2000) := by
  refine Or.inr ⟨?_, rfl⟩
  intro q hq
  obtain ⟨i, hi, rfl⟩ := pa_idx hX.2 hq
  refine pa_inF (fun z => ?_)
  have := (R.2.2 i hi).mp z
  omega
theorem xs_close0 {n : Nat} {K V : Nat → Int32} {L : List (Int32 × Int32)} (hX : pa_X n K V L) (hn : n < 2) : sp_close L 0 := by
  refine Or.inr ⟨?_, rfl⟩
  intro c hc d hd
  obtain ⟨i, hi, rfl⟩ := pa_idx hX.2 hc
  obtain ⟨j, hj, rfl⟩ := pa_idx hX.2 hd
  have : i = j := by omega
  rw [this]
  exact Int.lt_irrefl _
/-- neighbours are closest -/
theorem xs_close {n m : Nat} {K V : Nat → Int32} {L : List (Int32 × Int32)} (hX : pa_X n K V L) {r : Int32} (hm : m + 1 < n) (e : r.toInt = (K (m + 1)).toInt - (K m).toInt) (h : ∀ j, j + 1 < n → r.toInt ≤ (K (j + 1)).toInt - (K j).toInt) : sp_close L r := by
  refine Or.inl ⟨(K (m + 1), V (m + 1)), pa_iL hX.2 hm, (K m, V m), pa_iL hX.2 (by omega), e, ?_, ?_⟩
  · have := hX.1 m (m + 1) (by omega) hm
    omega
  · intro c hc d hd
    obtain ⟨i, hi, rfl⟩ := pa_idx hX.2 hc
    obtain ⟨j, hj, rfl⟩ := pa_idx hX.2 hd
    show (K j).toInt < (K i).toInt → r.toInt ≤ (K i).toInt - (K j).toInt
    intro hlt
    have hji : j < i := by
      by_cases z : j < i
      · exact z
      · by_cases y : i = j
        · rw [y] at hlt
          omega
        · have := hX.1 i j (by omega) hj
          omega
    have a := h j (by omega)
    by_cases z : j + 1 = i
    · rw [← z]
      exact a
    · have := hX.1 (j + 1) i (by omega) hi
      omega
/-- the walk over keys that follow each other: g is the first key that isn't held -/
theorem xs_gap {n p i : Nat} {K V : Nat → Int32} {L : List (Int32 × Int32)} (hL : pa_L L) (hX : pa_X n K V L) {f g : Int32} {t : Int} (ht : -1000 ≤ t) (hft : f.toInt ≤ t) (htf : t = -1000 ∨ t = f.toInt) (hpi : p ≤ i) (hi : i ≤ n) (h1 : ∀ j, j < p → (K j).toInt < t) (h2 : ∀ j, p ≤ j → j < i → (K j).toInt = t + ((j - p : Nat) : Int)) (hg : g.toInt = t + ((i - p : Nat) : Int)) (h3 : i < n → g.toInt < (K i).toInt) : (g.toInt ≤ 1000 → sp_gap L f g) ∧ (¬ g.toInt ≤ 1000 → sp_gap L f (-2000)) := by
  have hall : ∀ s : Int, t ≤ s → s < g.toInt → ∃ q, q ∈ L ∧ q.1.toInt = s := by
    intro s h4 h5
    have hj : p + (s - t).toNat < i := by omega
    refine ⟨(K (p + (s - t).toNat), V (p + (s - t).toNat)), pa_iL hX.2 (by omega), ?_⟩
    show (K (p + (s - t).toNat)).toInt = s
    rw [h2 _ (by omega) hj]
    omega
  constructor
  · intro hle
    refine Or.inl ⟨by omega, hle, by omega, ?_, ?_⟩
    · intro q hq
      obtain ⟨j, hj, rfl⟩ := pa_idx hX.2 hq
      show (K j).toInt ≠ g.toInt
      by_cases a : j < p
      · have := h1 j a
        omega
      · by_cases b : j < i
        · have := h2 j (by omega) b
          omega
        · have c := h3 (by omega)
          by_cases z : i = j
          · rw [z] at c
            omega
          · have := hX.1 i j (by omega) hj
            omega
    · intro s h4 h5 h6
      exact hall s (by omega) h6
  · intro hgt
    refine Or.inr ⟨?_, rfl⟩
    intro s h4 h5 h6
    exact hall s (by omega) (by omega)
end
section
/-! Y's walks over its places, one place at a time -/
theorem ys_less {K V : Nat → Int32} {i : Nat} {b : Int32} : ab_less (pa_l K V (i + 1)) b = ab_less (pa_l K V i) b + (if (K i).toInt < b.toInt then 1 else 0) := by
  unfold ab_less
  rw [pa_cs]
  by_cases c : (K i).toInt < b.toInt
  · rw [if_pos c, if_pos (decide_eq_true c)]
  · rw [if_neg c, if_neg (fun z => c (of_decide_eq_true z))]
theorem ys_cnt {K V : Nat → Int32} {i : Nat} {lo hi : Int32} : (pa_l K V (i + 1)).countP (pa_in lo hi) = (pa_l K V i).countP (pa_in lo hi) + (if lo.toInt ≤ (K i).toInt ∧ (K i).toInt ≤ hi.toInt then 1 else 0) := by
  rw [pa_cs]
  by_cases c : lo.toInt ≤ (K i).toInt ∧ (K i).toInt ≤ hi.toInt
  · rw [if_pos c, if_pos (pa_inT.mpr c)]
  · rw [if_neg c, if_neg (fun z => c (pa_inT.mp z))]
theorem ys_cle {K V : Nat → Int32} {i : Nat} {g : Int32 × Int32 → Bool} : (pa_l K V i).countP g ≤ i := by
  have := List.countP_le_length (p := g) (l := pa_l K V i)
  rw [pa_len] at this
  exact this
theorem ys_mem {L : List (Int32 × Int32)} {x q : Int32 × Int32} : q ∈ L ++ [x] ↔ q ∈ L ∨ q = x := by
  rw [List.mem_append, List.mem_singleton]
theorem ys_next_P {L M : List (Int32 × Int32)} (h : L.Perm M) {b r : Int32} (s : sp_next L b r) : sp_next M b r := by
  rcases s with ⟨q, hq, e, c, m⟩ | ⟨hn, e⟩
  · exact Or.inl ⟨q, h.mem_iff.mp hq, e, c, fun q' hq' => m q' (h.mem_iff.mpr hq')⟩
  · exact Or.inr ⟨fun q hq => hn q (h.mem_iff.mpr hq), e⟩
theorem ys_prev_P {L M : List (Int32 × Int32)} (h : L.Perm M) {b r : Int32} (s : sp_prev L b r) : sp_prev M b r := by
  rcases s with ⟨q, hq, e, c, m⟩ | ⟨hn, e⟩
  · exact Or.inl ⟨q, h.mem_iff.mp hq, e, c, fun q' hq' => m q' (h.mem_iff.mpr hq')⟩
  · exact Or.inr ⟨fun q hq => hn q (h.mem_iff.mpr hq), e⟩
/-- next: a key that isn't beyond b changes nothing -/
theorem ys_next1 {L : List (Int32 × Int32)} {x : Int32 × Int32} {b r : Int32} (s : sp_next L b r) (h : ¬ b.toInt < x.1.toInt) : sp_next (L ++ [x]) b r := by
  rcases s with ⟨q, hq, e, c, m⟩ | ⟨hn, e⟩
  · refine Or.inl ⟨q, ys_mem.mpr (Or.inl hq), e, c, fun q' hq' hb => ?_⟩
    rcases ys_mem.mp hq' with z | z
    · exact m q' z hb
    · rw [z] at hb
      exact absurd hb h
  · refine Or.inr ⟨fun q hq => ?_, e⟩
    rcases ys_mem.mp hq with z | z
    · exact hn q z
    · rw [z]
      omega
/-- next: no less than what was found -/
theorem ys_next2 {L : List (Int32 × Int32)} {x : Int32 × Int32} {b r : Int32} (s : sp_next L b r) (h1 : r ≠ -2000) (h : ¬ x.1.toInt < r.toInt) : sp_next (L ++ [x]) b r := by
  rcases s with ⟨q, hq, e, c, m⟩ | ⟨hn, e⟩
  · refine Or.inl ⟨q, ys_mem.mpr (Or.inl hq), e, c, fun q' hq' hb => ?_⟩
    rcases ys_mem.mp hq' with z | z
    · exact m q' z hb
    · rw [e] at h
      rw [z]
      omega
  · exact absurd e h1
/-- next: a new one -/
theorem ys_next3 {L : List (Int32 × Int32)} {x : Int32 × Int32} {b r : Int32} (s : sp_next L b r) (h0 : b.toInt < x.1.toInt) (hG : ∀ q, q ∈ L → q.1 ≠ -2000) (h : r = -2000 ∨ x.1.toInt < r.toInt) : sp_next (L ++ [x]) b x.1 := by
  refine Or.inl ⟨x, ys_mem.mpr (Or.inr rfl), rfl, h0, fun q' hq' hb => ?_⟩
  rcases ys_mem.mp hq' with z | z
  · rcases s with ⟨q, hq, e, c, m⟩ | ⟨hn, e⟩
    · have := m q' z hb
      rcases h with y | y
      · exact absurd (e.symm.trans y) (hG q hq)
      · rw [e] at y
        omega
    · have := hn q' z
      omega
  · rw [z]
    exact Int.le_refl _
theorem ys_next0 (b : Int32) : sp_next [] b (-2000) := Or.inr ⟨fun _ hq => absurd hq List.not_mem_nil, rfl⟩
theorem ys_prev0 (b : Int32) : sp_prev [] b (-2000) := Or.inr ⟨fun _ hq => absurd hq List.not_mem_nil, rfl⟩
/-- previous: not below b, or not beyond what was found -/
theorem ys_prev1 {L : List (Int32 × Int32)} {x : Int32 × Int32} {b r : Int32} (s : sp_prev L b r) (h : ¬ x.1.toInt < b.toInt) : sp_prev (L ++ [x]) b r := by
  rcases s with ⟨q, hq, e, c, m⟩ | ⟨hn, e⟩
  · refine Or.inl ⟨q, ys_mem.mpr (Or.inl hq), e, c, fun q' hq' hb => ?_⟩
    rcases ys_mem.mp hq' with z | z
    · exact m q' z hb
    · rw [z] at hb
      exact absurd hb h
  · refine Or.inr ⟨fun q hq => ?_, e⟩
    rcases ys_mem.mp hq with z | z
    · exact hn q z
    · rw [z]
      omega
theorem ys_prev2 {L : List (Int32 × Int32)} {x : Int32 × Int32} {b r : Int32} (s : sp_prev L b r) (hx : -1000 ≤ x.1.toInt) (h : ¬ r.toInt < x.1.toInt) : sp_prev (L ++ [x]) b r := by
  rcases s with ⟨q, hq, e, c, m⟩ | ⟨hn, e⟩
  · refine Or.inl ⟨q, ys_mem.mpr (Or.inl hq), e, c, fun q' hq' hb => ?_⟩
    rcases ys_mem.mp hq' with z | z
    · exact m q' z hb
    · rw [e] at h
      rw [z]
      omega
  · rw [e, pa_m2000] at h
    omega
theorem ys_prev3 {L : List (Int32 × Int32)} {x : Int32 × Int32} {b r : Int32} (s : sp_prev L b r) (h0 : x.1.toInt < b.toInt) (h : r.toInt < x.1.toInt) : sp_prev (L ++ [x]) b x.1 := by
  refine Or.inl ⟨x, ys_mem.mpr (Or.inr rfl), rfl, h0, fun q' hq' hb => ?_⟩
  rcases ys_mem.mp hq' with z | z
  · rcases s with ⟨q, hq, e, c, m⟩ | ⟨hn, e⟩
    · have := m q' z hb
      rw [e] at h
      omega
    · have := hn q' z
      omega
  · rw [z]
    exact Int.le_refl _
/-- best: by places; f is nI m or -1 -/
def yb_I (K V : Nat → Int32) (lo hi : Int32) (i : Nat) (f : Int32) : Prop := (∃ m, m < i ∧ f = nI m ∧ pa_in lo hi (K m, V m) = true ∧ ∀ j, j < i → pa_in lo hi (K j, V j) = true → (V j).toInt < (V m).toInt ∨ ((V j).toInt = (V m).toInt ∧ (K m).toInt ≤ (K j).toInt)) ∨ ((∀ j, j < i → pa_in lo hi (K j, V j) = false) ∧ f = -1)
theorem yb_0 {K V : Nat → Int32} {lo hi : Int32} : yb_I K V lo hi 0 (-1) := Or.inr ⟨fun j hj => absurd hj (Nat.not_lt_zero j), rfl⟩
theorem yb_out {K V : Nat → Int32} {lo hi f : Int32} {i : Nat} (s : yb_I K V lo hi i f) (h : pa_in lo hi (K i, V i) = false) : yb_I K V lo hi (i + 1) f := by
  rcases s with ⟨m, hm, e, c, a⟩ | ⟨hn, e⟩
  · refine Or.inl ⟨m, by omega, e, c, fun j hj hb => ?_⟩
    by_cases z : j = i
    · rw [z, h] at hb
      exact absurd hb (by decide)
    · exact a j (by omega) hb
  · refine Or.inr ⟨fun j hj => ?_, e⟩
    by_cases z : j = i
    · rw [z]
      exact h
    · exact hn j (by omega)
theorem yb_keep {K V : Nat → Int32} {lo hi : Int32} {i m : Nat} (hm : m < i) (s : yb_I K V lo hi i (nI m)) (h48 : i < 2 ^ 31) (h : ¬ (V m).toInt < (V i).toInt) (h2 : ¬ ((V i).toInt = (V m).toInt ∧ (K i).toInt < (K m).toInt)) : yb_I K V lo hi (i + 1) (nI m) := by
  rcases s with ⟨m', hm', e, c, a⟩ | ⟨hn, e⟩
  · have em : m = m' := (nI_eq (by omega) (by omega)).mp e
    subst em
    refine Or.inl ⟨m, by omega, rfl, c, fun j hj hb => ?_⟩
    by_cases z : j = i
    · rw [z]
      omega
    · exact a j (by omega) hb
  · exact absurd (show nI m < 0 by rw [e]; decide) (nI_pos (by omega))
theorem yb_new {K V : Nat → Int32} {lo hi : Int32} {i m : Nat} (hm : m < i) (s : yb_I K V lo hi i (nI m)) (h48 : i < 2 ^ 31) (hi' : pa_in lo hi (K i, V i) = true) (h : (V m).toInt < (V i).toInt ∨ ((V i).toInt = (V m).toInt ∧ (K i).toInt < (K m).toInt)) : yb_I K V lo hi (i + 1) (nI i) := by
  rcases s with ⟨m', hm', e, c, a⟩ | ⟨hn, e⟩
  · have em : m = m' := (nI_eq (by omega) (by omega)).mp e
    subst em
    refine Or.inl ⟨i, by omega, rfl, hi', fun j hj hb => ?_⟩
    by_cases z : j = i
    · rw [z]
      exact Or.inr ⟨rfl, Int.le_refl _⟩
    · have := a j (by omega) hb
      omega
  · exact absurd (show nI m < 0 by rw [e]; decide) (nI_pos (by omega))
theorem yb_first {K V : Nat → Int32} {lo hi : Int32} {i : Nat} (s : yb_I K V lo hi i (-1)) (h48 : i < 2 ^ 31) (hi' : pa_in lo hi (K i, V i) = true) : yb_I K V lo hi (i + 1) (nI i) := by
  rcases s with ⟨m', hm', e, c, a⟩ | ⟨hn, e⟩
  · exact absurd (show nI m' < 0 by rw [← e]; decide) (nI_pos (by omega))
  · refine Or.inl ⟨i, by omega, rfl, hi', fun j hj hb => ?_⟩
    by_cases z : j = i
    · rw [z]
      exact Or.inr ⟨rfl, Int.le_refl _⟩
    · rw [hn j (by omega)] at hb
      exact absurd hb (by decide)
theorem yb_end {n m : Nat} {K V : Nat → Int32} {L : List (Int32 × Int32)} (h : (pa_l K V n).Perm L) {lo hi : Int32} (hn : n < 2 ^ 31) (hm : m < n) (s : yb_I K V lo hi n (nI m)) : sp_best L lo hi (K m) := by
  rcases s with ⟨m', hm', e, c, a⟩ | ⟨_, e⟩
  · have em : m = m' := (nI_eq (by omega) (by omega)).mp e
    subst em
    refine Or.inl ⟨(K m, V m), pa_iL h hm, rfl, c, ?_⟩
    intro q hq hb
    obtain ⟨j, hj, rfl⟩ := pa_idx h hq
    exact a j hj hb
  · exact absurd (show nI m < 0 by rw [e]; decide) (nI_pos (by omega))
theorem yb_end0 {n : Nat} {K V : Nat → Int32} {L : List (Int32 × Int32)} (h : (pa_l K V n).Perm L) {lo hi : Int32} (hn : n < 2 ^ 31) (s : yb_I K V lo hi n (-1)) : sp_best L lo hi (-2000) := by
  rcases s with ⟨m', hm', e, c, a⟩ | ⟨hz, _⟩
  · exact absurd (show nI m' < 0 by rw [← e]; decide) (nI_pos (by omega))
  · refine Or.inr ⟨?_, rfl⟩
    intro q hq
    obtain ⟨j, hj, rfl⟩ := pa_idx h hq
    exact hz j hj
/-- closest: the pairs of places that were looked at -/
def yc_P (n i j c d : Nat) : Prop := (c < i ∧ d < n) ∨ (c = i ∧ d < j)
def yc_I (K : Nat → Int32) (n i j : Nat) (r : Int32) : Prop := (∃ a b, yc_P n i j a b ∧ r.toInt = (K a).toInt - (K b).toInt ∧ 0 < r.toInt ∧ ∀ c d, yc_P n i j c d → (K d).toInt < (K c).toInt → r.toInt ≤ (K c).toInt - (K d).toInt) ∨ ((∀ c d, yc_P n i j c d → ¬ (K d).toInt < (K c).toInt) ∧ r = 0)
theorem yc_0 {K : Nat → Int32} {n : Nat} : yc_I K n 0 0 0 := Or.inr ⟨fun c d h => absurd h (by unfold yc_P; omega), rfl⟩
theorem yc_row {K : Nat → Int32} {n i : Nat} {r : Int32} (s : yc_I K n i n r) : yc_I K n (i + 1) 0 r := by
  have e : ∀ c d, yc_P n i n c d ↔ yc_P n (i + 1) 0 c d := by
    intro c d
    unfold yc_P
    omega
  rcases s with ⟨a, b, p, x, y, z⟩ | ⟨hn, x⟩
  · exact Or.inl ⟨a, b, (e a b).mp p, x, y, fun c d h => z c d ((e c d).mpr h)⟩
  · exact Or.inr ⟨fun c d h => hn c d ((e c d).mpr h), x⟩
theorem yc_keep {K : Nat → Int32} {n i j : Nat} {r : Int32} (s : yc_I K n i j r) (h : (K j).toInt < (K i).toInt → r ≠ 0 ∧ r.toInt ≤ (K i).toInt - (K j).toInt) : yc_I K n i (j + 1) r := by
  have e : ∀ c d, yc_P n i (j + 1) c d ↔ (yc_P n i j c d ∨ (c = i ∧ d = j)) := by
    intro c d
    unfold yc_P
    omega
  rcases s with ⟨a, b, p, x, y, z⟩ | ⟨hn, x⟩
  · refine Or.inl ⟨a, b, (e a b).mpr (Or.inl p), x, y, fun c d hp hlt => ?_⟩
    rcases (e c d).mp hp with q | ⟨q1, q2⟩
    · exact z c d q hlt
    · rw [q1, q2] at hlt
      rw [q1, q2]
      exact (h hlt).2
  · refine Or.inr ⟨fun c d hp hlt => ?_, x⟩
    rcases (e c d).mp hp with q | ⟨q1, q2⟩
    · exact hn c d q hlt
    · rw [q1, q2] at hlt
      exact (h hlt).1 x
theorem yc_new {K : Nat → Int32} {n i j : Nat} {r r1 : Int32} (s : yc_I K n i j r) (h1 : r1.toInt = (K i).toInt - (K j).toInt) (h2 : 0 < r1.toInt) (h3 : r = 0 ∨ r1.toInt < r.toInt) : yc_I K n i (j + 1) r1 := by
  have e : ∀ c d, yc_P n i (j + 1) c d ↔ (yc_P n i j c d ∨ (c = i ∧ d = j)) := by
    intro c d
    unfold yc_P
    omega
  refine Or.inl ⟨i, j, (e i j).mpr (Or.inr ⟨rfl, rfl⟩), h1, h2, fun c d hp hlt => ?_⟩
  rcases (e c d).mp hp with q | ⟨q1, q2⟩
  · rcases s with ⟨a, b, p, x, y, z⟩ | ⟨hn, x⟩
    · have w := z c d q hlt
      rcases h3 with h3 | h3
      · rw [h3, pa_p0] at y
        omega
      · omega
    · exact absurd hlt (hn c d q)
  · rw [q1, q2]
    omega
theorem yc_end {n : Nat} {K V : Nat → Int32} {L : List (Int32 × Int32)} (h : (pa_l K V n).Perm L) {r : Int32} (s : yc_I K n n 0 r) : sp_close L r := by
  have e : ∀ c d, c < n → d < n → yc_P n n 0 c d := by
    intro c d a b
    unfold yc_P
    omega
  rcases s with ⟨a, b, p, x, y, z⟩ | ⟨hn, x⟩
  · have hab : a < n ∧ b < n := by
      unfold yc_P at p
      omega
    refine Or.inl ⟨(K a, V a), pa_iL h hab.1, (K b, V b), pa_iL h hab.2, x, y, fun c hc d hd => ?_⟩
    obtain ⟨i, hi, rfl⟩ := pa_idx h hc
    obtain ⟨j, hj, rfl⟩ := pa_idx h hd
    exact z i j (e i j hi hj)
  · refine Or.inr ⟨fun c hc d hd => ?_, x⟩
    obtain ⟨i, hi, rfl⟩ := pa_idx h hc
    obtain ⟨j, hj, rfl⟩ := pa_idx h hd
    exact hn i j (e i j hi hj)
end
section
/-! X's own small methods -/
theorem xa_falL {n : Nat} {K V : Nat → Int32} {b : Int32} {post : Int32 → Prop} (hn : n ≤ 48) (H : ∀ p, p ≤ n → (∀ i, i < p → (K i).toInt < b.toInt) → (p < n → b.toInt ≤ (K p).toInt) → post (nI p)) : ∀ d i, i + d = n → (∀ j, j < i → (K j).toInt < b.toInt) → wX_firstAtLeast_2 post b (nI n) K V (d + 1) (nI i) := by
  intro d
  induction d with
  | zero =>
    intro i hi hj
    exact br_t (nI_le (by omega) (by omega)) (H i (by omega) hj (by omega))
  | succ d ih =>
    intro i hi hj
    refine br_f (nI_ge (by omega) (by omega)) ⟨vp_in_nI (by omega) (by omega), br_c (fun c => ?_) (fun c => ?_)⟩
    · rw [nI_clamp (by omega), pa_le] at c
      exact H i (by omega) hj (fun _ => c)
    · rw [nI_clamp (by omega), pa_le] at c
      refine nm_r (nI_1 i) (ih (i + 1) (by omega) (fun j h => ?_))
      by_cases z : j = i
      · rw [z]
        omega
      · exact hj j (by omega)
theorem xa_fal {n : Nat} {K V : Nat → Int32} (b : Int32) {post : Int32 → Prop} (hn : n ≤ 48) (H : ∀ p, p ≤ n → (∀ i, i < p → (K i).toInt < b.toInt) → (p < n → b.toInt ≤ (K p).toInt) → post (nI p)) : wpX_firstAtLeast post (nI n, K, V) b :=
  ⟨n + 1, xa_falL hn H n 0 (by omega) (fun j hj => absurd hj (Nat.not_lt_zero j))⟩
theorem xa_eorL {n p : Nat} {K V : Nat → Int32} {b : Int32} {post : Int32 → Prop} (hn : n ≤ 48) (H : ∀ e, p ≤ e → e ≤ n → (∀ i, p ≤ i → i < e → (K i).toInt ≤ b.toInt) → (e < n → b.toInt < (K e).toInt) → post (nI e)) : ∀ d i, i + d = n → p ≤ i → (∀ j, p ≤ j → j < i → (K j).toInt ≤ b.toInt) → wX_endOfRange_2 post b (nI n) K V (d + 1) (nI i) := by
  intro d
  induction d with
  | zero =>
    intro i hi hp hj
    exact br_t (nI_le (by omega) (by omega)) (H i hp (by omega) hj (by omega))
  | succ d ih =>
    intro i hi hp hj
    refine br_f (nI_ge (by omega) (by omega)) ⟨vp_in_nI (by omega) (by omega), br_c (fun c => ?_) (fun c => ?_)⟩
    · rw [nI_clamp (by omega), pa_lt] at c
      exact H i hp (by omega) hj (fun _ => c)
    · rw [nI_clamp (by omega), pa_lt] at c
      refine nm_r (nI_1 i) (ih (i + 1) (by omega) (by omega) (fun j h1 h => ?_))
      by_cases z : j = i
      · rw [z]
        omega
      · exact hj j h1 (by omega)
theorem xa_eor {n p : Nat} {K V : Nat → Int32} (b : Int32) {post : Int32 → Prop} (hn : n ≤ 48) (hp : p ≤ n) (H : ∀ e, p ≤ e → e ≤ n → (∀ i, p ≤ i → i < e → (K i).toInt ≤ b.toInt) → (e < n → b.toInt < (K e).toInt) → post (nI e)) : wpX_endOfRange post (nI n, K, V) (nI p) b :=
  ⟨n - p + 1, xa_eorL hn H (n - p) p (by omega) (Nat.le_refl _) (fun j h1 h2 => by omega)⟩
theorem xa_good {x : Int64} {post : Int32 → Prop} (H1 : -1000 ≤ x.toInt ∧ x.toInt ≤ 1000 → post 1) (H0 : ¬ (-1000 ≤ x.toInt ∧ x.toInt ≤ 1000) → post 0) : wpX_isGood post x := by
  refine br_c (fun c => ?_) (fun c => br_c (fun d => ?_) (fun d => ?_))
  · rw [Int64.lt_iff_toInt_lt, pa_L1] at c
    exact H0 (by omega)
  · rw [Int64.lt_iff_toInt_lt, pa_L2] at d
    exact H0 (by omega)
  · rw [Int64.lt_iff_toInt_lt, pa_L1] at c
    rw [Int64.lt_iff_toInt_lt, pa_L2] at d
    exact H1 (by omega)
theorem xa_key {n p : Nat} {K V : Nat → Int32} {k : Int32} {post : Int32 → Prop} (hn : n ≤ 48) (hp : p ≤ n) (H1 : p < n → K p = k → post 1) (H0 : (p < n → K p ≠ k) → post 0) : wpX_isKeyAt post (nI n, K, V) (nI p) k := by
  refine br_c (fun c => ?_) (fun c => ?_)
  · rw [nI_leI (by omega) (by omega)] at c
    exact H0 (fun z => by omega)
  · rw [nI_leI (by omega) (by omega)] at c
    refine ⟨vp_in_nI (by omega) (by omega), br_c (fun e => ?_) (fun e => ?_)⟩
    · rw [nI_clamp (by omega)] at e
      exact H1 (by omega) e
    · rw [nI_clamp (by omega)] at e
      exact H0 (fun _ => e)
theorem xa_none {n p : Nat} {K V : Nat → Int32} {L : List (Int32 × Int32)} (hX : pa_X n K V L) {k : Int32} (h1 : ∀ i, i < p → (K i).toInt < k.toInt) (h2 : p < n → k.toInt ≤ (K p).toInt) (h3 : p < n → K p ≠ k) : ∀ q, q ∈ L → q.1 ≠ k := by
  intro q hq e
  obtain ⟨i, hi, rfl⟩ := pa_idx hX.2 hq
  have e' : K i = k := e
  by_cases c : i < p
  · have := h1 i c
    rw [e'] at this
    omega
  · by_cases z : p = i
    · rw [← z] at e'
      exact h3 (by omega) e'
    · have a := hX.1 p i (by omega) hi
      have b := h2 (by omega)
      rw [e'] at a
      omega
theorem xa_keyAt {n : Nat} {K V : Nat → Int32} {x : Int32} {post : Int32 → Prop} (hn : n ≤ 48) (H1 : ∀ i, i < n → x = nI i → post (K i)) (H0 : (∀ i, i < n → x ≠ nI i) → post (-2000)) : wpX_keyAt post (nI n, K, V) x := by
  refine br_c (fun c => H0 (fun i hi e => ?_)) (fun c => br_c (fun d => H0 (fun i hi e => ?_)) (fun d => ?_))
  · rw [e] at c
    exact nI_pos (by omega) c
  · rw [e, nI_leI (by omega) (by omega)] at d
    omega
  · obtain ⟨j, hj, rfl⟩ := nI_of c
    rw [nI_leI (by omega) hj] at d
    refine ⟨vp_in_nI (by omega) (by omega), ?_⟩
    rw [nI_clamp hj]
    exact H1 j (by omega) rfl
/-- insertAt: the pairs from the place on move up by one -/
theorem xa_insL {n p : Nat} {K V : Nat → Int32} {k v : Int32} {post : SX → Prop} (hn : n < 48) (hp : p ≤ n) (H : ∀ K1 V1, (∀ i, i < p → K1 i = K i ∧ V1 i = V i) → (K1 p = k ∧ V1 p = v) → (∀ i, p ≤ i → i < n → K1 (i + 1) = K i ∧ V1 (i + 1) = V i) → post (nI (n + 1), K1, V1)) : ∀ d K1 V1, p + d ≤ n → (∀ j, j ≤ p + d → K1 j = K j ∧ V1 j = V j) → (∀ j, p + d ≤ j → j < n → K1 (j + 1) = K j ∧ V1 (j + 1) = V j) → wX_insertAt_6 post (nI p) k v (nI n) (d + 1) (nI (p + d)) K1 V1 := by
  intro d
  induction d with
  | zero =>
    intro K1 V1 hd h1 h2
    refine br_t (nI_le (Nat.le_refl _) (by omega)) ⟨vp_in_nI (by omega) (by omega), nm_e ⟨vp_in_nI (by omega) (by omega), nm_e (nm_r (nI_1 n) ?_)⟩⟩
    rw [nI_clamp (by omega)]
    refine H _ _ (fun i hi => ?_) ⟨pk_us, pk_us⟩ (fun i hi hin => ?_)
    · rw [pk_un (by omega), pk_un (by omega)]
      exact h1 i (by omega)
    · rw [pk_un (by omega), pk_un (by omega)]
      exact h2 i hi hin
  | succ d ih =>
    intro K1 V1 hd h1 h2
    have e1 : nI (p + (d + 1)) - 1 = nI (p + d) := nI_pred (p + d)
    refine br_f (nI_ge (by omega) (by omega)) ?_
    rw [e1, nI_clamp (show p + d < 2 ^ 31 by omega), nI_clamp (show p + (d + 1) < 2 ^ 31 by omega)]
    refine ⟨vp_in_nI (by omega) (by omega), vp_in_nI (by omega) (by omega), nm_e ⟨vp_in_nI (by omega) (by omega), vp_in_nI (by omega) (by omega), nm_e (nm_r (pk_m1 (p + d)) ?_)⟩⟩
    refine ih _ _ (by omega) (fun j hj => ?_) (fun j hj hjn => ?_)
    · rw [pk_un (by omega), pk_un (by omega)]
      exact h1 j (by omega)
    · by_cases z : j = p + d
      · subst z
        show upd K1 (p + d + 1) (K1 (p + d)) (p + d + 1) = _ ∧ upd V1 (p + d + 1) (V1 (p + d)) (p + d + 1) = _
        rw [pk_us, pk_us]
        exact h1 (p + d) (by omega)
      · rw [pk_un (by omega), pk_un (by omega)]
        exact h2 j (by omega) hjn
theorem xa_ins {n p : Nat} {K V : Nat → Int32} {k v : Int32} {post : SX → Prop} (hn : n < 48) (hp : p ≤ n) (H : ∀ K1 V1, (∀ i, i < p → K1 i = K i ∧ V1 i = V i) → (K1 p = k ∧ V1 p = v) → (∀ i, p ≤ i → i < n → K1 (i + 1) = K i ∧ V1 (i + 1) = V i) → post (nI (n + 1), K1, V1)) : wpX_insertAt post (nI n, K, V) (nI p) k v := by
  refine ⟨n - p + 1, ?_⟩
  have h := xa_insL hn hp H (n - p) K V (by omega) (fun _ _ => ⟨rfl, rfl⟩) (fun j a b => by omega)
  rw [show p + (n - p) = n by omega] at h
  exact h
/-- takeOut: the pairs behind the run move down by its width -/
theorem xa_outL {n p e : Nat} {K V : Nat → Int32} {post : SX → Prop} (hn : n ≤ 48) (hpe : p ≤ e) (hen : e ≤ n) (H : ∀ K1 V1, (∀ i, i < p → K1 i = K i ∧ V1 i = V i) → (∀ i, e ≤ i → i < n → K1 (i - (e - p)) = K i ∧ V1 (i - (e - p)) = V i) → post (nI (n - (e - p)), K1, V1)) : ∀ d i K1 V1, i + d = n → e ≤ i → (∀ j, j < p → K1 j = K j ∧ V1 j = V j) → (∀ j, e ≤ j → j < i → K1 (j - (e - p)) = K j ∧ V1 (j - (e - p)) = V j) → (∀ j, i ≤ j → j < n → K1 j = K j ∧ V1 j = V j) → wX_takeOut_7 post (nI (e - p)) (nI n) (d + 1) (nI i) K1 V1 := by
  intro d
  induction d with
  | zero =>
    intro i K1 V1 hi he h1 h2 h3
    refine br_t (nI_le (by omega) (by omega)) (nm_r (pk_sub (by omega)) ?_)
    refine H _ _ h1 (fun j a b => h2 j a (by omega))
  | succ d ih =>
    intro i K1 V1 hi he h1 h2 h3
    have e1 : nI i - nI (e - p) = nI (i - (e - p)) := pk_sub (by omega)
    refine br_f (nI_ge (by omega) (by omega)) ?_
    rw [e1, nI_clamp (show i < 2 ^ 31 by omega), nI_clamp (show i - (e - p) < 2 ^ 31 by omega)]
    refine ⟨vp_in_nI (by omega) (by omega), vp_in_nI (by omega) (by omega), nm_e ⟨vp_in_nI (by omega) (by omega), vp_in_nI (by omega) (by omega), nm_e (nm_r (nI_1 i) ?_)⟩⟩
    refine ih (i + 1) _ _ (by omega) (by omega) (fun j hj => ?_) (fun j hj hji => ?_) (fun j hj hjn => ?_)
    · rw [pk_un (by omega), pk_un (by omega)]
      exact h1 j hj
    · by_cases z : j = i
      · subst z
        rw [pk_us, pk_us]
        exact h3 j (Nat.le_refl _) (by omega)
      · rw [pk_un (by omega), pk_un (by omega)]
        exact h2 j hj (by omega)
    · rw [pk_un (by omega), pk_un (by omega)]
      exact h3 j (by omega) hjn
theorem xa_out {n p e : Nat} {K V : Nat → Int32} {post : SX → Prop} (hn : n ≤ 48) (hpe : p ≤ e) (hen : e ≤ n) (H : ∀ K1 V1, (∀ i, i < p → K1 i = K i ∧ V1 i = V i) → (∀ i, e ≤ i → i < n → K1 (i - (e - p)) = K i ∧ V1 (i - (e - p)) = V i) → post (nI (n - (e - p)), K1, V1)) : wpX_takeOut post (nI n, K, V) (nI p) (nI e) := by
  refine nm_r (pk_sub hpe) ⟨n - e + 1, ?_⟩
  exact xa_outL hn hpe hen H (n - e) e K V (by omega) (Nat.le_refl _) (fun _ _ => ⟨rfl, rfl⟩) (fun j a b => by omega) (fun _ _ _ => ⟨rfl, rfl⟩)
/-- staysGood -/
theorem xa_stayL {n p e : Nat} {K V : Nat → Int32} {b : Int32} {post : Int32 → Prop} (hn : n ≤ 48) (hen : e ≤ n) (H1 : (∀ j, p ≤ j → j < e → -1000 ≤ (K j).toInt + b.toInt ∧ (K j).toInt + b.toInt ≤ 1000) → post 1) (H0 : ∀ j, p ≤ j → j < e → ¬ (-1000 ≤ (K j).toInt + b.toInt ∧ (K j).toInt + b.toInt ≤ 1000) → post 0) : ∀ d i, i + d = e → p ≤ i → (∀ j, p ≤ j → j < i → -1000 ≤ (K j).toInt + b.toInt ∧ (K j).toInt + b.toInt ≤ 1000) → wX_staysGood_3 post (nI e) b (nI n) K V (d + 1) (nI i) := by
  intro d
  induction d with
  | zero =>
    intro i hi hp h
    exact br_t (nI_le (by omega) (by omega)) (H1 (fun j a b => h j a (by omega)))
  | succ d ih =>
    intro i hi hp h
    refine br_f (nI_ge (by omega) (by omega)) ⟨vp_in_nI (by omega) (by omega), nm_e ?_⟩
    rw [nI_clamp (show i < 2 ^ 31 by omega)]
    refine xa_good (fun g => ?_) (fun g => ?_)
    · rw [pa_gl] at g
      refine br_f (by decide) (nm_r (nI_1 i) (ih (i + 1) (by omega) (by omega) (fun j a c => ?_)))
      by_cases z : j = i
      · rw [z]
        exact g
      · exact h j a (by omega)
    · rw [pa_gl] at g
      exact br_t rfl (H0 i hp (by omega) g)
theorem xa_stay {n p e : Nat} {K V : Nat → Int32} {b : Int32} {post : Int32 → Prop} (hn : n ≤ 48) (hpe : p ≤ e) (hen : e ≤ n) (H1 : (∀ j, p ≤ j → j < e → -1000 ≤ (K j).toInt + b.toInt ∧ (K j).toInt + b.toInt ≤ 1000) → post 1) (H0 : ∀ j, p ≤ j → j < e → ¬ (-1000 ≤ (K j).toInt + b.toInt ∧ (K j).toInt + b.toInt ≤ 1000) → post 0) : wpX_staysGood post (nI n, K, V) (nI p) (nI e) b :=
  ⟨e - p + 1, xa_stayL hn hen H1 H0 (e - p) p (by omega) (Nat.le_refl _) (fun j a c => by omega)⟩
end
section
/-! X: put, series, remove, clear, raise -/
theorem pa_setP {n p : Nat} {K V : Nat → Int32} {L : List (Int32 × Int32)} {k v : Int32} (hD : pa_D L) (h : (pa_l K V n).Perm L) (hp : p < n) (e : K p = k) : (pa_l K (upd V p v) n).Perm (L.map (ab_set k v)) := by
  have e1 : pa_l K (upd V p v) n = (pa_l K V n).map (ab_set k v) := by
    refine pa_map (fun i hi => ?_)
    show (K i, upd V p v i) = (K i, if K i = k then v else V i)
    by_cases c : i = p
    · rw [c, pk_us, if_pos e]
    · rw [pk_un c, if_neg (fun z => c (pa_dst hD h hi hp (z.trans e.symm)))]
  rw [e1]
  exact h.map _
theorem pa_upP {n : Nat} {K V V1 : Nat → Int32} {L : List (Int32 × Int32)} {lo hi b : Int32} (h : (pa_l K V n).Perm L) (h1 : ∀ i, i < n → V1 i = if pa_in lo hi (K i, V i) = true then V i + b else V i) : (pa_l K V1 n).Perm (L.map (ab_up lo hi b)) := by
  have e1 : pa_l K V1 n = (pa_l K V n).map (ab_up lo hi b) := pa_map (fun i hi => by rw [h1 i hi]; rfl)
  rw [e1]
  exact h.map _
theorem pa_mvP {n : Nat} {K V K1 : Nat → Int32} {L : List (Int32 × Int32)} {lo hi b : Int32} (h : (pa_l K V n).Perm L) (h1 : ∀ i, i < n → K1 i = if pa_in lo hi (K i, V i) = true then K i + b else K i) : (pa_l K1 V n).Perm (L.map (ab_mv lo hi b)) := by
  have e1 : pa_l K1 V n = (pa_l K V n).map (ab_mv lo hi b) := pa_map (fun i hi => by rw [h1 i hi]; rfl)
  rw [e1]
  exact h.map _
theorem xm_put {n : Nat} {K V : Nat → Int32} {L : List (Int32 × Int32)} (hL : pa_L L) (hX : pa_X n K V L) (k v : Int32) {post : Int32 → SX → Prop} (H : ∀ n1 K1 V1, pa_X n1 K1 V1 (ab_put L k v).2 → post (ab_put L k v).1 (nI n1, K1, V1)) : wpX_put post (nI n, K, V) k v := by
  have hn := pa_n48 hL hX.2
  have e64 : k.toInt64.toInt = k.toInt := Int32.toInt_toInt64 k
  unfold wpX_put
  dsimp only
  refine xa_good (fun g => ?_) (fun g => ?_)
  · rw [e64] at g
    refine br_f (by decide) ?_
    refine xa_fal k hn (fun p hp h1 h2 => ?_)
    refine xa_key hn hp (fun hpn e => ?_) (fun hne => ?_)
    · rw [ab_put2 g (ab_anyT.mpr ⟨_, pa_iL hX.2 hpn, e⟩)] at H
      refine br_f (by decide) ⟨vp_in_nI (by omega) (by omega), nm_e ?_⟩
      rw [nI_clamp (by omega)]
      exact H n K (upd V p v) ⟨hX.1, pa_setP hL.2.2 hX.2 hpn e⟩
    · have hno := xa_none hX h1 h2 hne
      have hl := pa_n hX.2
      refine br_t rfl (br_c (fun c => ?_) (fun c => ?_))
      · rw [← pa_48, nI_ltI (by omega) (by omega)] at c
        rw [ab_put4 g (ab_anyF hno) (by omega)] at H
        refine xa_ins (by omega) hp (fun K1 V1 e1 e2 e3 => ?_)
        refine H (n + 1) K1 V1 (pa_insX hX hp h1 (fun z => ?_) e1 e2 e3)
        have a := h2 z
        have b : (K p).toInt ≠ k.toInt := fun y => hne z (Int32.toInt_inj.mp y)
        omega
      · rw [← pa_48, nI_ltI (by omega) (by omega)] at c
        rw [ab_put3 g (ab_anyF hno) (by omega)] at H
        exact H n K V hX
  · rw [e64] at g
    rw [ab_put1 g] at H
    exact br_t rfl (H n K V hX)
theorem xm_serL {L : List (Int32 × Int32)} (hL : pa_L L) (k s v : Int32) {c : Nat} (hc : c ≤ 48) {post : Int32 → SX → Prop} (H : ∀ n1 K1 V1, pa_X n1 K1 V1 (ab_ser L k s v c) → post (nI n1) (nI n1, K1, V1)) : ∀ d i n K V, i + d = c → pa_X n K V (ab_ser L k s v i) → wX_series_42 post k s (nI c) v (d + 1) (nI i) (nI n) K V := by
  intro d
  induction d with
  | zero =>
    intro i n K V hi hX
    have : i = c := by omega
    rw [this] at hX
    exact br_t (nI_le (by omega) (by omega)) (H n K V hX)
  | succ d ih =>
    intro i n K V hi hX
    refine br_f (nI_ge (by omega) (by omega)) ?_
    refine xm_put (ab_serL hL k s v i) hX (k + nI i * s) (v + nI i) (fun n1 K1 V1 h1 => ?_)
    exact nm_r (nI_1 i) (ih (i + 1) n1 K1 V1 (by omega) h1)
def ab_series (L : List (Int32 × Int32)) (k s c v : Int32) : Int32 × List (Int32 × Int32) :=
  if -1000 ≤ k.toInt ∧ k.toInt ≤ 1000 then
    if -100 ≤ s.toInt ∧ s.toInt ≤ 100 then
      if 1 ≤ c.toInt ∧ c.toInt ≤ 48 then (nI (ab_ser L k s v c.toInt.toNat).length, ab_ser L k s v c.toInt.toNat) else (-3, L)
    else (-2, L)
  else (-1, L)
theorem ab_seriesL {L : List (Int32 × Int32)} (h : pa_L L) (k s c v : Int32) : pa_L (ab_series L k s c v).2 := by
  unfold ab_series
  by_cases a : -1000 ≤ k.toInt ∧ k.toInt ≤ 1000
  · rw [if_pos a]
    by_cases b : -100 ≤ s.toInt ∧ s.toInt ≤ 100
    · rw [if_pos b]
      by_cases d : 1 ≤ c.toInt ∧ c.toInt ≤ 48
      · rw [if_pos d]
        exact ab_serL h _ _ _ _
      · rw [if_neg d]
        exact h
    · rw [if_neg b]
      exact h
  · rw [if_neg a]
    exact h
theorem pa_nat {c : Int32} (h : 1 ≤ c.toInt ∧ c.toInt ≤ 48) : ∃ m : Nat, m ≤ 48 ∧ c = nI m ∧ c.toInt.toNat = m := by
  refine ⟨c.toInt.toNat, by omega, ?_, rfl⟩
  apply Int32.toInt_inj.mp
  rw [nI_toInt (by omega)]
  omega
theorem xm_series {n : Nat} {K V : Nat → Int32} {L : List (Int32 × Int32)} (hL : pa_L L) (hX : pa_X n K V L) (k s c v : Int32) {post : Int32 → SX → Prop} (H : ∀ n1 K1 V1, pa_X n1 K1 V1 (ab_series L k s c v).2 → post (ab_series L k s c v).1 (nI n1, K1, V1)) : wpX_series post (nI n, K, V) k s c v := by
  have e64 : k.toInt64.toInt = k.toInt := Int32.toInt_toInt64 k
  unfold wpX_series
  dsimp only
  unfold ab_series at H
  refine xa_good (fun g => ?_) (fun g => ?_)
  · rw [e64] at g
    rw [if_pos g] at H
    refine br_f (by decide) (br_c (fun c1 => ?_) (fun c1 => br_c (fun c2 => br_c (fun c3 => ?_) (fun c3 => br_c (fun c4 => ?_) (fun c4 => ?_))) (fun c2 => ?_)))
    · rw [pa_lt, pa_m100] at c1
      rw [if_neg (by omega)] at H
      exact H n K V hX
    · rw [pa_lt, pa_m100] at c1
      rw [pa_le, pa_p100] at c2
      rw [pa_lt, pa_p1] at c3
      rw [if_pos (by omega), if_neg (by omega)] at H
      exact H n K V hX
    · rw [pa_lt, pa_m100] at c1
      rw [pa_le, pa_p100] at c2
      rw [pa_lt, pa_p1] at c3
      rw [pa_le, pa_p48] at c4
      rw [if_pos (by omega), if_pos (by omega)] at H
      obtain ⟨m, hm, rfl, em⟩ := pa_nat (c := c) (by omega)
      rw [em] at H
      refine ⟨m + 1, ?_⟩
      refine xm_serL hL k s v hm (fun n1 K1 V1 h1 => ?_) m 0 n K V (by omega) hX
      have := H n1 K1 V1 h1
      dsimp only at this
      rw [← pa_n h1.2] at this
      exact this
    · rw [pa_lt, pa_m100] at c1
      rw [pa_le, pa_p100] at c2
      rw [pa_lt, pa_p1] at c3
      rw [pa_le, pa_p48] at c4
      rw [if_pos (by omega), if_neg (by omega)] at H
      exact H n K V hX
    · rw [pa_le, pa_p100] at c2
      rw [if_neg (by omega)] at H
      exact H n K V hX
  · rw [e64] at g
    rw [if_neg g] at H
    exact br_t rfl (H n K V hX)
def ab_rem (L : List (Int32 × Int32)) (k : Int32) : Int32 × List (Int32 × Int32) :=
  if -1000 ≤ k.toInt ∧ k.toInt ≤ 1000 then
    if ab_any L k = true then (0, L.filter (fun r => decide (r.1 ≠ k))) else (-2, L)
  else (-1, L)
theorem ab_remL {L : List (Int32 × Int32)} (h : pa_L L) (k : Int32) : pa_L (ab_rem L k).2 := by
  unfold ab_rem
  by_cases a : -1000 ≤ k.toInt ∧ k.toInt ≤ 1000
  · rw [if_pos a]
    by_cases b : ab_any L k = true
    · rw [if_pos b]
      exact pa_Lfil _ h
    · rw [if_neg b]
      exact h
  · rw [if_neg a]
    exact h
theorem ab_rem1 {L : List (Int32 × Int32)} {k : Int32} (h : ¬ (-1000 ≤ k.toInt ∧ k.toInt ≤ 1000)) : ab_rem L k = (-1, L) := if_neg h
theorem ab_rem2 {L : List (Int32 × Int32)} {k : Int32} (h : -1000 ≤ k.toInt ∧ k.toInt ≤ 1000) (h2 : ab_any L k = true) : ab_rem L k = (0, L.filter (fun r => decide (r.1 ≠ k))) := by
  unfold ab_rem
  rw [if_pos h, if_pos h2]
theorem ab_rem3 {L : List (Int32 × Int32)} {k : Int32} (h : -1000 ≤ k.toInt ∧ k.toInt ≤ 1000) (h2 : ab_any L k = false) : ab_rem L k = (-2, L) := by
  unfold ab_rem
  rw [if_pos h, h2, if_neg Bool.false_ne_true]
theorem xm_remove {n : Nat} {K V : Nat → Int32} {L : List (Int32 × Int32)} (hL : pa_L L) (hX : pa_X n K V L) (k : Int32) {post : Int32 → SX → Prop} (H : ∀ n1 K1 V1, pa_X n1 K1 V1 (ab_rem L k).2 → post (ab_rem L k).1 (nI n1, K1, V1)) : wpX_remove post (nI n, K, V) k := by
  have hn := pa_n48 hL hX.2
  have e64 : k.toInt64.toInt = k.toInt := Int32.toInt_toInt64 k
  unfold wpX_remove
  dsimp only
  refine xa_good (fun g => ?_) (fun g => ?_)
  · rw [e64] at g
    refine br_f (by decide) ?_
    refine xa_fal k hn (fun p hp h1 h2 => ?_)
    refine xa_key hn hp (fun hpn e => ?_) (fun hne => ?_)
    · rw [ab_rem2 g (ab_anyT.mpr ⟨_, pa_iL hX.2 hpn, e⟩)] at H
      refine br_f (by decide) ?_
      rw [nI_1]
      refine xa_out hn (by omega) (by omega) (fun K1 V1 e1 e2 => ?_)
      refine H _ _ _ (pa_cutX hX (by omega) (by omega) (fun i hi => ?_) e1 e2)
      constructor
      · intro z
        have z' : ¬ (K i ≠ k) := of_decide_eq_false z
        have ek : K i = k := Classical.not_not.mp z'
        have := pa_dst hL.2.2 hX.2 hi hpn (ek.trans e.symm)
        omega
      · intro ⟨a, b⟩
        have : i = p := by omega
        rw [this]
        exact decide_eq_false (fun z => z e)
    · rw [ab_rem3 g (ab_anyF (xa_none hX h1 h2 hne))] at H
      exact br_t rfl (H n K V hX)
  · rw [e64] at g
    rw [ab_rem1 g] at H
    exact br_t rfl (H n K V hX)
theorem xm_clear {n : Nat} {K V : Nat → Int32} {L : List (Int32 × Int32)} (hL : pa_L L) (hX : pa_X n K V L) (lo hi : Int32) {post : Int32 → SX → Prop} (H : ∀ n1 K1 V1, pa_X n1 K1 V1 (L.filter (ab_out lo hi)) → post (nI (L.countP (pa_in lo hi))) (nI n1, K1, V1)) : wpX_clear post (nI n, K, V) lo hi := by
  have hn := pa_n48 hL hX.2
  unfold wpX_clear
  dsimp only
  refine xa_fal lo hn (fun p hp h1 h2 => ?_)
  refine xa_eor hi hn hp (fun e hpe hen h3 h4 => ?_)
  have R := pa_rg hX.1 hpe hen h1 h2 h3 h4
  refine xa_out hn hpe hen (fun K1 V1 e1 e2 => ?_)
  dsimp only
  rw [pk_sub hpe]
  rw [pa_cntR hX.2 R] at H
  exact H _ _ _ (pa_cutX hX hpe hen (pa_outR R) e1 e2)
theorem xm_raiseL {n p e : Nat} {K V : Nat → Int32} {b : Int32} {post : Int32 → SX → Prop} (hn : n ≤ 48) (hpe : p ≤ e) (hen : e ≤ n) (H : ∀ V1, (∀ i, i < n → V1 i = if p ≤ i ∧ i < e then V i + b else V i) → post (nI (e - p)) (nI n, K, V1)) : ∀ d i V1, i + d = e → p ≤ i → (∀ j, j < n → V1 j = if p ≤ j ∧ j < i then V j + b else V j) → wX_raise_20 post b (nI p) (nI e) (nI n) (d + 1) (nI i) K V1 := by
  intro d
  induction d with
  | zero =>
    intro i V1 hi hp h
    refine br_t (nI_le (by omega) (by omega)) ?_
    rw [pk_sub hpe]
    have : i = e := by omega
    rw [this] at h
    exact H V1 h
  | succ d ih =>
    intro i V1 hi hp h
    refine br_f (nI_ge (by omega) (by omega)) ?_
    rw [nI_clamp (show i < 2 ^ 31 by omega)]
    refine ⟨vp_in_nI (by omega) (by omega), vp_in_nI (by omega) (by omega), nm_e (nm_r (nI_1 i) ?_)⟩
    refine ih (i + 1) _ (by omega) (by omega) (fun j hj => ?_)
    by_cases z : j = i
    · subst z
      rw [pk_us, if_pos (by omega), h j hj, if_neg (by omega)]
    · rw [pk_un z, h j hj]
      by_cases c : p ≤ j ∧ j < i
      · rw [if_pos c, if_pos (by omega)]
      · rw [if_neg c, if_neg (by omega)]
theorem xm_raise {n : Nat} {K V : Nat → Int32} {L : List (Int32 × Int32)} (hL : pa_L L) (hX : pa_X n K V L) (lo hi b : Int32) {post : Int32 → SX → Prop} (H : ∀ n1 K1 V1, pa_X n1 K1 V1 (L.map (ab_up lo hi b)) → post (nI (L.countP (pa_in lo hi))) (nI n1, K1, V1)) : wpX_raise post (nI n, K, V) lo hi b := by
  have hn := pa_n48 hL hX.2
  unfold wpX_raise
  dsimp only
  refine xa_fal lo hn (fun p hp h1 h2 => ?_)
  refine xa_eor hi hn hp (fun e hpe hen h3 h4 => ?_)
  have R := pa_rg hX.1 hpe hen h1 h2 h3 h4
  refine ⟨e - p + 1, ?_⟩
  refine xm_raiseL (V := V) hn hpe hen (fun V1 h => ?_) (e - p) p V (by omega) (Nat.le_refl _) (fun j hj => ?_)
  · rw [← pa_cntR hX.2 R]
    refine H n K V1 ⟨hX.1, pa_upP hX.2 (fun i hi' => ?_)⟩
    rw [h i hi']
    by_cases c : p ≤ i ∧ i < e
    · rw [if_pos c, if_pos (pa_inT.mpr ((R.2.2 i hi').mpr c))]
    · rw [if_neg c, if_neg (fun z => c ((R.2.2 i hi').mp (pa_inT.mp z)))]
  · rw [if_neg (by omega)]
end
section
/-! X: the methods that only read -/
theorem xm_has {n : Nat} {K V : Nat → Int32} {L : List (Int32 × Int32)} (hL : pa_L L) (hX : pa_X n K V L) (k : Int32) {post : Int32 → Prop} (H : post (ab_has L k)) : wpX_has post (nI n, K, V) k := by
  have hn := pa_n48 hL hX.2
  have e64 : k.toInt64.toInt = k.toInt := Int32.toInt_toInt64 k
  unfold ab_has at H
  unfold wpX_has
  dsimp only
  refine xa_good (fun g => ?_) (fun g => ?_)
  · rw [e64] at g
    rw [if_pos g] at H
    refine br_f (by decide) ?_
    refine xa_fal k hn (fun p hp h1 h2 => ?_)
    refine xa_key hn hp (fun hpn e => ?_) (fun hne => ?_)
    · rw [if_pos (ab_anyT.mpr ⟨_, pa_iL hX.2 hpn, e⟩)] at H
      exact br_f (by decide) H
    · rw [ab_anyF (xa_none hX h1 h2 hne), if_neg Bool.false_ne_true] at H
      exact br_t rfl H
  · rw [e64] at g
    rw [if_neg g] at H
    exact br_t rfl H
theorem xm_get {n : Nat} {K V : Nat → Int32} {L : List (Int32 × Int32)} (hL : pa_L L) (hX : pa_X n K V L) (k : Int32) {post : Int32 → Prop} (H : ∀ r, sp_get L k r → post r) : wpX_get post (nI n, K, V) k := by
  have hn := pa_n48 hL hX.2
  unfold wpX_get
  dsimp only
  refine xa_fal k hn (fun p hp h1 h2 => ?_)
  refine xa_key hn hp (fun hpn e => ?_) (fun hne => ?_)
  · refine br_f (by decide) ⟨vp_in_nI (by omega) (by omega), ?_⟩
    rw [nI_clamp (by omega)]
    exact H _ (Or.inl ⟨_, pa_iL hX.2 hpn, e, rfl⟩)
  · exact br_t rfl (H _ (Or.inr ⟨xa_none hX h1 h2 hne, rfl⟩))
theorem xm_rank {n : Nat} {K V : Nat → Int32} {L : List (Int32 × Int32)} (hL : pa_L L) (hX : pa_X n K V L) (b : Int32) {post : Int32 → Prop} (H : post (nI (ab_less L b))) : wpX_rank post (nI n, K, V) b := by
  have hn := pa_n48 hL hX.2
  unfold wpX_rank
  dsimp only
  refine xa_fal b hn (fun p hp h1 h2 => ?_)
  rw [ab_lessX hX hp h1 h2] at H
  exact H
theorem xm_select {n : Nat} {K V : Nat → Int32} {L : List (Int32 × Int32)} (hL : pa_L L) (hX : pa_X n K V L) (k : Int32) {post : Int32 → Prop} (H : ∀ r, sp_sel L k r → post r) : wpX_select post (nI n, K, V) k := by
  have hn := pa_n48 hL hX.2
  unfold wpX_select
  dsimp only
  refine xa_keyAt hn (fun i hi e => ?_) (fun h => ?_)
  · exact H _ (Or.inl ⟨_, pa_iL hX.2 hi, rfl, by rw [ab_lessI hX hi]; exact e.symm⟩)
  · refine H _ (Or.inr ⟨fun q hq => ?_, rfl⟩)
    obtain ⟨i, hi, rfl⟩ := pa_idx hX.2 hq
    rw [ab_lessI hX hi]
    exact fun z => h i hi z.symm
theorem xm_next {n : Nat} {K V : Nat → Int32} {L : List (Int32 × Int32)} (hL : pa_L L) (hX : pa_X n K V L) (b : Int32) {post : Int32 → Prop} (H : ∀ r, sp_next L b r → post r) : wpX_next post (nI n, K, V) b := by
  have hn := pa_n48 hL hX.2
  unfold wpX_next
  dsimp only
  refine xa_eor (p := 0) b hn (Nat.zero_le _) (fun e _ hen h3 h4 => ?_)
  refine xa_keyAt hn (fun i hi z => ?_) (fun h => ?_)
  · have ei : e = i := (nI_eq (by omega) (by omega)).mp z
    subst ei
    exact H _ (xs_next hX (fun j hj => h3 j (Nat.zero_le _) hj) (h4 hi) hi)
  · refine H _ (xs_next0 hX (fun j hj => h3 j (Nat.zero_le _) ?_))
    by_cases c : e < n
    · exact absurd rfl (h e c)
    · omega
theorem xm_previous {n : Nat} {K V : Nat → Int32} {L : List (Int32 × Int32)} (hL : pa_L L) (hX : pa_X n K V L) (b : Int32) {post : Int32 → Prop} (H : ∀ r, sp_prev L b r → post r) : wpX_previous post (nI n, K, V) b := by
  have hn := pa_n48 hL hX.2
  unfold wpX_previous
  dsimp only
  refine xa_fal b hn (fun p hp h1 h2 => ?_)
  by_cases c : p = 0
  · subst c
    refine xa_keyAt hn (fun i hi z => ?_) (fun h => H _ (xs_prev0 hX h2))
    exact absurd (show nI i < 0 by rw [← z]; decide) (nI_pos (by omega))
  · obtain ⟨m, rfl⟩ : ∃ m, p = m + 1 := ⟨p - 1, by omega⟩
    rw [nI_pred]
    refine xa_keyAt hn (fun i hi z => ?_) (fun h => absurd rfl (h m (by omega)))
    have ei : m = i := (nI_eq (by omega) (by omega)).mp z
    subst ei
    exact H _ (xs_prev hX (h1 m (by omega)) h2 hi)
theorem xm_count {n : Nat} {K V : Nat → Int32} {L : List (Int32 × Int32)} (hL : pa_L L) (hX : pa_X n K V L) (lo hi : Int32) {post : Int32 → Prop} (H : post (nI (L.countP (pa_in lo hi)))) : wpX_count post (nI n, K, V) lo hi := by
  have hn := pa_n48 hL hX.2
  unfold wpX_count
  dsimp only
  refine xa_fal lo hn (fun p hp h1 h2 => ?_)
  refine xa_eor hi hn hp (fun e hpe hen h3 h4 => ?_)
  have R := pa_rg hX.1 hpe hen h1 h2 h3 h4
  rw [pa_cntR hX.2 R] at H
  rw [pk_sub hpe]
  exact H
theorem xm_sumL {n p e : Nat} {K V : Nat → Int32} {lo hi s : Int32} {post : Int32 → Prop} (hn : n ≤ 48) (hen : e ≤ n) (h1 : ab_sum lo hi (pa_l K V e) = s) (h2 : ∀ i, p ≤ i → i < e → ab_sum lo hi (pa_l K V (i + 1)) = ab_sum lo hi (pa_l K V i) + V i) (H : post s) : ∀ d i, i + d = e → p ≤ i → wX_sum_20 post (nI e) (nI n) K V (d + 1) (ab_sum lo hi (pa_l K V i)) (nI i) := by
  intro d
  induction d with
  | zero =>
    intro i hi hp
    have : i = e := by omega
    rw [this, h1]
    exact br_t (nI_le (by omega) (by omega)) H
  | succ d ih =>
    intro i hi hp
    refine br_f (nI_ge (by omega) (by omega)) ?_
    rw [nI_clamp (show i < 2 ^ 31 by omega)]
    refine ⟨vp_in_nI (by omega) (by omega), nm_r (h2 i hp (by omega)).symm (nm_r (nI_1 i) ?_)⟩
    exact ih (i + 1) (by omega) (by omega)
theorem xm_sum {n : Nat} {K V : Nat → Int32} {L : List (Int32 × Int32)} (hL : pa_L L) (hX : pa_X n K V L) (lo hi : Int32) {post : Int32 → Prop} (H : post (ab_sum lo hi L)) : wpX_sum post (nI n, K, V) lo hi := by
  have hn := pa_n48 hL hX.2
  unfold wpX_sum
  dsimp only
  refine xa_fal lo hn (fun p hp h1 h2 => ?_)
  refine xa_eor hi hn hp (fun e hpe hen h3 h4 => ?_)
  have R := pa_rg hX.1 hpe hen h1 h2 h3 h4
  obtain ⟨s1, s2, s3⟩ := ab_sumX hX.2 R
  refine ⟨e - p + 1, ?_⟩
  have h := xm_sumL hn hen s2 s3 H (e - p) p (by omega) (Nat.le_refl _)
  rw [s1] at h
  exact h
theorem xm_bestL {n p e : Nat} {K V : Nat → Int32} {post : Int32 → Prop} (hn : n ≤ 48) (hen : e ≤ n) (H : ∀ m, p ≤ m → m < e → (∀ j, p ≤ j → j < e → (V j).toInt < (V m).toInt ∨ ((V j).toInt = (V m).toInt ∧ m ≤ j)) → post (K m)) : ∀ d i m, i + d = e → p ≤ m → m < i → (∀ j, p ≤ j → j < i → (V j).toInt < (V m).toInt ∨ ((V j).toInt = (V m).toInt ∧ m ≤ j)) → wX_best_32 post (nI e) (nI n) K V (d + 1) (nI m) (nI i) := by
  intro d
  induction d with
  | zero =>
    intro i m hi hp hm h
    refine br_t (nI_le (by omega) (by omega)) ⟨vp_in_nI (by omega) (by omega), ?_⟩
    rw [nI_clamp (by omega)]
    exact H m hp (by omega) (fun j a b => h j a (by omega))
  | succ d ih =>
    intro i m hi hp hm h
    refine br_f (nI_ge (by omega) (by omega)) ?_
    rw [nI_clamp (show i < 2 ^ 31 by omega), nI_clamp (show m < 2 ^ 31 by omega)]
    refine ⟨vp_in_nI (by omega) (by omega), vp_in_nI (by omega) (by omega), br_c (fun c => ?_) (fun c => ?_)⟩
    · rw [pa_le] at c
      refine nm_r (nI_1 i) (ih (i + 1) m (by omega) hp (by omega) (fun j a b => ?_))
      by_cases z : j = i
      · subst z
        omega
      · exact h j a (by omega)
    · rw [pa_le] at c
      refine nm_r (nI_1 i) (ih (i + 1) i (by omega) (by omega) (by omega) (fun j a b => ?_))
      by_cases z : j = i
      · subst z
        exact Or.inr ⟨rfl, Nat.le_refl _⟩
      · have := h j a (by omega)
        omega
theorem xm_best {n : Nat} {K V : Nat → Int32} {L : List (Int32 × Int32)} (hL : pa_L L) (hX : pa_X n K V L) (lo hi : Int32) {post : Int32 → Prop} (H : ∀ r, sp_best L lo hi r → post r) : wpX_best post (nI n, K, V) lo hi := by
  have hn := pa_n48 hL hX.2
  unfold wpX_best
  dsimp only
  refine xa_fal lo hn (fun p hp h1 h2 => ?_)
  refine xa_eor hi hn hp (fun e hpe hen h3 h4 => ?_)
  have R := pa_rg hX.1 hpe hen h1 h2 h3 h4
  refine br_c (fun c => ?_) (fun c => ?_)
  · rw [nI_ltI (by omega) (by omega)] at c
    refine nm_r (nI_1 p) ⟨e - (p + 1) + 1, ?_⟩
    refine xm_bestL hn hen (fun m a b h => H _ (xs_best hX R a b h)) (e - (p + 1)) (p + 1) p (by omega) (Nat.le_refl _) (by omega) (fun j a b => ?_)
    have : j = p := by omega
    rw [this]
    exact Or.inr ⟨rfl, Nat.le_refl _⟩
  · rw [nI_ltI (by omega) (by omega)] at c
    have : e = p := by omega
    subst this
    exact H _ (xs_best0 hX R)
theorem xm_closeL {n : Nat} {K V : Nat → Int32} {L : List (Int32 × Int32)} (hL : pa_L L) (hX : pa_X n K V L) {post : Int32 → Prop} (H : ∀ r, sp_close L r → post r) : ∀ d i m (r : Int32), i + 1 + d = n → m + 1 ≤ i → r.toInt = (K (m + 1)).toInt - (K m).toInt → (∀ j, j + 1 ≤ i → r.toInt ≤ (K (j + 1)).toInt - (K j).toInt) → wX_closest_26 post (nI n) K V (d + 1) r (nI (i + 1)) := by
  have hn := pa_n48 hL hX.2
  intro d
  induction d with
  | zero =>
    intro i m r hi hm e h
    exact br_t (nI_le (by omega) (by omega)) (H _ (xs_close hX (by omega) e (fun j hj => h j (by omega))))
  | succ d ih =>
    intro i m r hi hm e h
    have g1 := pa_g hL hX.2 (show i < n by omega)
    have g2 := pa_g hL hX.2 (show i + 1 < n by omega)
    have ed : (K (i + 1) - K i).toInt = (K (i + 1)).toInt - (K i).toInt := pa_sub (by omega) (by omega)
    refine br_f (nI_ge (by omega) (by omega)) ?_
    rw [nI_pred, nI_clamp (show i + 1 < 2 ^ 31 by omega), nI_clamp (show i < 2 ^ 31 by omega)]
    refine ⟨vp_in_nI (by omega) (by omega), vp_in_nI (by omega) (by omega), nm_e (br_c (fun c => ?_) (fun c => ?_))⟩
    · rw [pa_le, ed] at c
      refine nm_r (nI_1 (i + 1)) (ih (i + 1) m r (by omega) (by omega) e (fun j hj => ?_))
      by_cases z : j = i
      · subst z
        exact c
      · exact h j (by omega)
    · rw [pa_le, ed] at c
      refine nm_r (nI_1 (i + 1)) (ih (i + 1) i (K (i + 1) - K i) (by omega) (by omega) ed (fun j hj => ?_))
      rw [ed]
      by_cases z : j = i
      · subst z
        exact Int.le_refl _
      · have := h j (by omega)
        omega
theorem xm_closest {n : Nat} {K V : Nat → Int32} {L : List (Int32 × Int32)} (hL : pa_L L) (hX : pa_X n K V L) {post : Int32 → Prop} (H : ∀ r, sp_close L r → post r) : wpX_closest post (nI n, K, V) := by
  have hn := pa_n48 hL hX.2
  unfold wpX_closest
  dsimp only
  refine br_c (fun c => ?_) (fun c => ?_)
  · have c' : 2 ≤ n := (nI_leI (a := 2) (by omega) (by omega)).mp c
    have g1 := pa_g hL hX.2 (show 0 < n by omega)
    have g2 := pa_g hL hX.2 (show 1 < n by omega)
    have ed : (K 1 - K 0).toInt = (K 1).toInt - (K 0).toInt := pa_sub (by omega) (by omega)
    refine nm_e ⟨n - 2 + 1, ?_⟩
    refine xm_closeL hL hX H (n - 2) 1 0 _ (by omega) (by omega) ed (fun j hj => ?_)
    have : j = 0 := by omega
    subst this
    rw [ed]
    exact Int.le_refl _
  · have c' : ¬ 2 ≤ n := fun z => c ((nI_leI (a := 2) (by omega) (by omega)).mpr z)
    exact H _ (xs_close0 hX (by omega))
theorem xm_gapL {n p : Nat} {K V : Nat → Int32} {L : List (Int32 × Int32)} (hL : pa_L L) (hX : pa_X n K V L) {t : Int} {post : Int32 → Prop} (H : ∀ i (g : Int32), p ≤ i → i ≤ n → (∀ j, p ≤ j → j < i → (K j).toInt = t + ((j - p : Nat) : Int)) → g.toInt = t + ((i - p : Nat) : Int) → (i < n → g.toInt < (K i).toInt) → (g.toInt ≤ 1000 → post g) ∧ (¬ g.toInt ≤ 1000 → post (-2000))) : ∀ d i (g : Int32), i + d = n → p ≤ i → (∀ j, p ≤ j → j < i → (K j).toInt = t + ((j - p : Nat) : Int)) → g.toInt = t + ((i - p : Nat) : Int) → (i < n → g.toInt ≤ (K i).toInt) → wX_gap_24 post (nI n) K V (d + 1) g (nI i) := by
  have hn := pa_n48 hL hX.2
  intro d
  induction d with
  | zero =>
    intro i g hi hp h hg h3
    have h' := H i g hp (by omega) h hg (fun z => by omega)
    exact br_t (nI_le (by omega) (by omega)) (br_c (fun c => h'.2 (by rw [pa_lt, pa_p1000] at c; omega)) (fun c => h'.1 (by rw [pa_lt, pa_p1000] at c; omega)))
  | succ d ih =>
    intro i g hi hp h hg h3
    have h3' := h3 (by omega)
    refine br_f (nI_ge (by omega) (by omega)) ?_
    rw [nI_clamp (show i < 2 ^ 31 by omega)]
    refine ⟨vp_in_nI (by omega) (by omega), br_c (fun c => ?_) (fun c => ?_)⟩
    · have gi := pa_g hL hX.2 (show i < n by omega)
      rw [c] at gi
      have eg : (g + 1).toInt = g.toInt + 1 := by
        rw [pa_add (by rw [pa_p1]; omega) (by rw [pa_p1]; omega), pa_p1]
      refine nm_e (nm_r (nI_1 i) (ih (i + 1) (g + 1) (by omega) (by omega) (fun j a b => ?_) ?_ (fun z => ?_)))
      · by_cases y : j = i
        · rw [y, c]
          exact hg
        · exact h j a (by omega)
      · rw [eg, hg]
        omega
      · have := hX.1 i (i + 1) (by omega) z
        rw [c] at this
        omega
    · have c' : (K i).toInt ≠ g.toInt := fun z => c (Int32.toInt_inj.mp z)
      have h' := H i g hp (by omega) h hg (fun _ => by omega)
      exact br_c (fun c => h'.2 (by rw [pa_lt, pa_p1000] at c; omega)) (fun c => h'.1 (by rw [pa_lt, pa_p1000] at c; omega))
theorem xa_gapJ {n : Nat} {K V : Nat → Int32} {L : List (Int32 × Int32)} (hL : pa_L L) (hX : pa_X n K V L) {f z : Int32} {post : Int32 → Prop} (H : ∀ r, sp_gap L f r → post r) (h1 : -1000 ≤ z.toInt) (h2 : f.toInt ≤ z.toInt) (h3 : z.toInt = -1000 ∨ z.toInt = f.toInt) : wX_gap_14 post z (nI n) K V := by
  have hn := pa_n48 hL hX.2
  refine xa_fal z hn (fun p hp a1 a2 => ⟨n - p + 1, ?_⟩)
  refine xm_gapL hL hX (t := z.toInt) (fun i g hpi hi h hg h4 => ?_) (n - p) p z (by omega) (Nat.le_refl _) (fun j a b => by omega) (by omega) a2
  have x := xs_gap hL hX h1 h2 h3 hpi hi a1 h hg h4
  exact ⟨fun a => H _ (x.1 a), fun a => H _ (x.2 a)⟩
theorem xm_gap {n : Nat} {K V : Nat → Int32} {L : List (Int32 × Int32)} (hL : pa_L L) (hX : pa_X n K V L) (f : Int32) {post : Int32 → Prop} (H : ∀ r, sp_gap L f r → post r) : wpX_gap post (nI n, K, V) f := by
  unfold wpX_gap
  dsimp only
  refine br_c (fun c => ?_) (fun c => ?_)
  · rw [pa_le, pa_m1000] at c
    exact xa_gapJ hL hX H c (Int.le_refl _) (Or.inr rfl)
  · rw [pa_le, pa_m1000] at c
    exact xa_gapJ hL hX H (by rw [pa_m1000]; omega) (by rw [pa_m1000]; omega) (Or.inl pa_m1000)
end
section
/-! slide: what it does to L, and X's way -/
def ab_sl (L : List (Int32 × Int32)) (lo hi b r : Int32) (L1 : List (Int32 × Int32)) : Prop := (ab_bad L lo hi b ∧ r = -1 ∧ L1 = L) ∨ (¬ ab_bad L lo hi b ∧ ab_met L lo hi b ∧ r = -2 ∧ L1 = L) ∨ (¬ ab_bad L lo hi b ∧ ¬ ab_met L lo hi b ∧ r = nI (L.countP (pa_in lo hi)) ∧ L1 = L.map (ab_mv lo hi b))
theorem ab_slU {L : List (Int32 × Int32)} {lo hi b r r' : Int32} {L1 L2 : List (Int32 × Int32)} (h : ab_sl L lo hi b r L1) (h' : ab_sl L lo hi b r' L2) : r' = r ∧ L2 = L1 := by
  rcases h with ⟨a, rfl, rfl⟩ | ⟨a, c, rfl, rfl⟩ | ⟨a, c, rfl, rfl⟩
  · rcases h' with ⟨_, rfl, rfl⟩ | ⟨a', _⟩ | ⟨a', _⟩
    · exact ⟨rfl, rfl⟩
    · exact absurd a a'
    · exact absurd a a'
  · rcases h' with ⟨a', _⟩ | ⟨_, _, rfl, rfl⟩ | ⟨_, c', _⟩
    · exact absurd a' a
    · exact ⟨rfl, rfl⟩
    · exact absurd c c'
  · rcases h' with ⟨a', _⟩ | ⟨_, c', _⟩ | ⟨_, _, rfl, rfl⟩
    · exact absurd a' a
    · exact absurd c' c
    · exact ⟨rfl, rfl⟩
theorem ab_slL {L L1 : List (Int32 × Int32)} {lo hi b r : Int32} (hL : pa_L L) (h : ab_sl L lo hi b r L1) : pa_L L1 := by
  rcases h with ⟨a, _, rfl⟩ | ⟨a, c, _, rfl⟩ | ⟨a, c, _, rfl⟩
  · exact hL
  · exact hL
  · exact ab_mvL hL a c
theorem xs_bad1 {n p e j : Nat} {K V : Nat → Int32} {L : List (Int32 × Int32)} {lo hi b : Int32} (hL : pa_L L) (hY : (pa_l K V n).Perm L) (R : pa_R n K lo hi p e) (h1 : p ≤ j) (h2 : j < e) (g : ¬ (-1000 ≤ (K j).toInt + b.toInt ∧ (K j).toInt + b.toInt ≤ 1000)) : ab_bad L lo hi b := by
  have hj : j < n := Nat.lt_of_lt_of_le h2 R.2.1
  have gj := pa_g hL hY hj
  exact ⟨(K j, V j), pa_iL hY hj, pa_inT.mpr ((R.2.2 j hj).mpr ⟨h1, h2⟩), fun z => g ((pa_ga gj.1 gj.2).mp z)⟩
theorem xs_bad0 {n p e : Nat} {K V : Nat → Int32} {L : List (Int32 × Int32)} {lo hi b : Int32} (hL : pa_L L) (hY : (pa_l K V n).Perm L) (R : pa_R n K lo hi p e) (g : ∀ j, p ≤ j → j < e → -1000 ≤ (K j).toInt + b.toInt ∧ (K j).toInt + b.toInt ≤ 1000) : ¬ ab_bad L lo hi b := by
  intro ⟨q, hq, hin, hb⟩
  obtain ⟨j, hj, rfl⟩ := pa_idx hY hq
  have gj := pa_g hL hY hj
  have r := (R.2.2 j hj).mp (pa_inT.mp hin)
  exact hb ((pa_ga gj.1 gj.2).mpr (g j r.1 r.2))
theorem xs_met1 {n p e j i : Nat} {K V : Nat → Int32} {L : List (Int32 × Int32)} {lo hi b : Int32} (hY : (pa_l K V n).Perm L) (R : pa_R n K lo hi p e) (h1 : p ≤ j) (h2 : j < e) (hi' : i < n) (h : K i = K j + b) (h3 : ¬ (p ≤ i ∧ i < e)) : ab_met L lo hi b := by
  have hj : j < n := Nat.lt_of_lt_of_le h2 R.2.1
  exact ⟨(K j, V j), pa_iL hY hj, pa_inT.mpr ((R.2.2 j hj).mpr ⟨h1, h2⟩), (K i, V i), pa_iL hY hi', h, pa_inF (fun z => h3 ((R.2.2 i hi').mp z))⟩
theorem xs_met0 {n p e : Nat} {K V : Nat → Int32} {L : List (Int32 × Int32)} {lo hi b : Int32} (hY : (pa_l K V n).Perm L) (R : pa_R n K lo hi p e) (h : ∀ j, p ≤ j → j < e → ∀ i, i < n → K i = K j + b → p ≤ i ∧ i < e) : ¬ ab_met L lo hi b := by
  intro ⟨q, hq, hin, q', hq', e1, hout⟩
  obtain ⟨j, hj, rfl⟩ := pa_idx hY hq
  obtain ⟨i, hi', rfl⟩ := pa_idx hY hq'
  have r := (R.2.2 j hj).mp (pa_inT.mp hin)
  have r2 := h j r.1 r.2 i hi' e1
  rw [pa_inT.mpr ((R.2.2 i hi').mpr r2)] at hout
  exact absurd hout (by decide)
theorem ys_bad1 {n j : Nat} {K V : Nat → Int32} {L : List (Int32 × Int32)} {lo hi b : Int32} (hY : (pa_l K V n).Perm L) (hj : j < n) (hin : lo.toInt ≤ (K j).toInt ∧ (K j).toInt ≤ hi.toInt) (g : ¬ (-1000 ≤ (K j + b).toInt ∧ (K j + b).toInt ≤ 1000)) : ab_bad L lo hi b :=
  ⟨(K j, V j), pa_iL hY hj, pa_inT.mpr hin, g⟩
theorem ys_bad0 {n : Nat} {K V : Nat → Int32} {L : List (Int32 × Int32)} {lo hi b : Int32} (hY : (pa_l K V n).Perm L) (g : ∀ j, j < n → (lo.toInt ≤ (K j).toInt ∧ (K j).toInt ≤ hi.toInt) → -1000 ≤ (K j + b).toInt ∧ (K j + b).toInt ≤ 1000) : ¬ ab_bad L lo hi b := by
  intro ⟨q, hq, hin, hb⟩
  obtain ⟨j, hj, rfl⟩ := pa_idx hY hq
  exact hb (g j hj (pa_inT.mp hin))
theorem ys_met1 {n j i : Nat} {K V : Nat → Int32} {L : List (Int32 × Int32)} {lo hi b : Int32} (hY : (pa_l K V n).Perm L) (hj : j < n) (hin : lo.toInt ≤ (K j).toInt ∧ (K j).toInt ≤ hi.toInt) (hi' : i < n) (h : K i = K j + b) (h3 : ¬ (lo.toInt ≤ (K i).toInt ∧ (K i).toInt ≤ hi.toInt)) : ab_met L lo hi b :=
  ⟨(K j, V j), pa_iL hY hj, pa_inT.mpr hin, (K i, V i), pa_iL hY hi', h, pa_inF h3⟩
theorem ys_met0 {n : Nat} {K V : Nat → Int32} {L : List (Int32 × Int32)} {lo hi b : Int32} (hY : (pa_l K V n).Perm L) (h : ∀ j, j < n → (lo.toInt ≤ (K j).toInt ∧ (K j).toInt ≤ hi.toInt) → ∀ i, i < n → K i = K j + b → lo.toInt ≤ (K i).toInt ∧ (K i).toInt ≤ hi.toInt) : ¬ ab_met L lo hi b := by
  intro ⟨q, hq, hin, q', hq', e1, hout⟩
  obtain ⟨j, hj, rfl⟩ := pa_idx hY hq
  obtain ⟨i, hi', rfl⟩ := pa_idx hY hq'
  have r := h j hj (pa_inT.mp hin) i hi' e1
  rw [pa_inT.mpr r] at hout
  exact absurd hout (by decide)
/-- the sort: its inner walk, then its outer -/
theorem xa_sortI {n i : Nat} {L : List (Int32 × Int32)} {k v : Int32} {post : SX → Prop} {J : Int32 → (Nat → Int32) → (Nat → Int32) → Prop} (hn : n ≤ 48) (hJ : ∀ K1 V1, (pa_l K1 V1 n).Perm L → pa_W K1 (i + 1) → J (nI (i + 1)) K1 V1) : ∀ c K V, pa_I n L i c K V k v → wX_sortByKey_27 post J (nI i) k v (nI n) (c + 1) (nI c) K V := by
  intro c
  induction c with
  | zero =>
    intro K V h
    have hc := h.1
    have hi := h.2.1
    have x := pa_Ix h (fun a ha => by omega)
    refine br_t (by decide) ?_
    refine ⟨vp_in_nI (by omega) (by omega), nm_e ⟨vp_in_nI (by omega) (by omega), nm_e (nm_r (nI_1 i) ?_)⟩⟩
    rw [nI_clamp (show 0 < 2 ^ 31 by omega)]
    exact hJ _ _ x.1 x.2
  | succ c ih =>
    intro K V h
    have hc := h.1
    have hi := h.2.1
    refine br_f (nI_nle (by omega) (by omega)) ?_
    rw [nI_pred, nI_clamp (show c < 2 ^ 31 by omega)]
    refine ⟨vp_in_nI (by omega) (by omega), br_c (fun g => ?_) (fun g => ?_)⟩
    · rw [pa_le] at g
      have x := pa_Ix h (fun a ha => by
        have : a = c := by omega
        rw [this]
        exact g)
      refine ⟨vp_in_nI (by omega) (by omega), nm_e ⟨vp_in_nI (by omega) (by omega), nm_e (nm_r (nI_1 i) ?_)⟩⟩
      rw [nI_clamp (show c + 1 < 2 ^ 31 by omega)]
      exact hJ _ _ x.1 x.2
    · rw [pa_le] at g
      rw [nI_clamp (show c + 1 < 2 ^ 31 by omega)]
      refine ⟨vp_in_nI (by omega) (by omega), vp_in_nI (by omega) (by omega), nm_e ⟨vp_in_nI (by omega) (by omega), vp_in_nI (by omega) (by omega), nm_e (nm_r (pk_m1 c) ?_)⟩⟩
      exact ih _ _ (pa_Is h (by omega))
theorem xa_sortO {n : Nat} {L : List (Int32 × Int32)} {post : SX → Prop} (hn : n ≤ 48) (H : ∀ K1 V1, (pa_l K1 V1 n).Perm L → pa_W K1 n → post (nI n, K1, V1)) : ∀ d i K V, n ≤ i + d → i ≤ 48 → (pa_l K V n).Perm L → pa_W K i → wX_sortByKey_2 post (nI n) (d + 1) (nI i) K V := by
  intro d
  induction d with
  | zero =>
    intro i K V hi h48 h w
    exact br_t (nI_le (by omega) (by omega)) (H K V h (fun a b hab hb => w a b hab (by omega)))
  | succ d ih =>
    intro i K V hi h48 h w
    by_cases c : i < n
    · refine br_f (nI_ge (by omega) (by omega)) ?_
      rw [nI_clamp (show i < 2 ^ 31 by omega)]
      refine ⟨vp_in_nI (by omega) (by omega), nm_e ⟨vp_in_nI (by omega) (by omega), nm_e ⟨i + 1, ?_⟩⟩⟩
      exact xa_sortI hn (fun K1 V1 h1 w1 => ih (i + 1) K1 V1 (by omega) (by omega) h1 w1) i K V (pa_I0 c h w)
    · exact br_t (nI_le (by omega) (by omega)) (H K V h (fun a b hab hb => w a b hab (by omega)))
theorem xa_sort {n : Nat} {K V : Nat → Int32} {L : List (Int32 × Int32)} {post : SX → Prop} (hn : n ≤ 48) (h : (pa_l K V n).Perm L) (H : ∀ K1 V1, (pa_l K1 V1 n).Perm L → pa_W K1 n → post (nI n, K1, V1)) : wpX_sortByKey post (nI n, K, V) :=
  ⟨n + 1, xa_sortO hn H n 1 K V (by omega) (by omega) h (fun a b hab hb => by omega)⟩
/-- meetsOthers -/
theorem xa_meetL {n p e : Nat} {K V : Nat → Int32} {L : List (Int32 × Int32)} (hX : pa_X n K V L) {b : Int32} {post : Int32 → Prop} (hn : n ≤ 48) (hen : e ≤ n) (H0 : (∀ j, p ≤ j → j < e → ∀ i, i < n → K i = K j + b → p ≤ i ∧ i < e) → post 0) (H1 : ∀ j, p ≤ j → j < e → ∀ i, i < n → K i = K j + b → ¬ (p ≤ i ∧ i < e) → post 1) : ∀ d i, i + d = e → p ≤ i → (∀ j, p ≤ j → j < i → ∀ m, m < n → K m = K j + b → p ≤ m ∧ m < e) → wX_meetsOthers_3 post (nI p) (nI e) b (nI n) K V (d + 1) (nI i) := by
  intro d
  induction d with
  | zero =>
    intro i hi hp h
    exact br_t (nI_le (by omega) (by omega)) (H0 (fun j a c => h j a (by omega)))
  | succ d ih =>
    intro i hi hp h
    refine br_f (nI_ge (by omega) (by omega)) ⟨vp_in_nI (by omega) (by omega), nm_e ?_⟩
    rw [nI_clamp (show i < 2 ^ 31 by omega)]
    refine xa_fal _ hn (fun m hm h1 h2 => ?_)
    have key : ∀ q, q < n → K q = K i + b → q = m := by
      intro q hq e1
      by_cases c : q < m
      · have := h1 q c
        rw [e1] at this
        omega
      · by_cases z : m = q
        · exact z.symm
        · have a := hX.1 m q (by omega) hq
          have b2 := h2 (by omega)
          rw [e1] at a
          omega
    have nxt : (∀ q, q < n → K q = K i + b → p ≤ q ∧ q < e) → wX_meetsOthers_3 post (nI p) (nI e) b (nI n) K V (d + 1) (nI (i + 1)) := by
      intro hc
      refine ih (i + 1) (by omega) (by omega) (fun j a c => ?_)
      by_cases z : j = i
      · rw [z]
        exact hc
      · exact h j a (by omega)
    have outs : ¬ (p ≤ m ∧ m < e) → wX_meetsOthers_44 post (wX_meetsOthers_3 post (nI p) (nI e) b (nI n) K V (d + 1)) (nI p) (nI e) b (nI i) (K i + b) (nI m) (nI n) K V := by
      intro ho
      unfold wX_meetsOthers_44 wX_meetsOthers_45
      refine br_t rfl (xa_key hn hm (fun hmn e1 => ?_) (fun hne => ?_))
      · exact br_f (by decide) (H1 i hp (by omega) m hmn e1 ho)
      · refine br_t rfl (nm_r (nI_1 i) (nxt (fun q hq e1 => ?_)))
        have e2 := key q hq e1
        rw [e2] at e1 hq
        exact absurd e1 (hne hq)
    refine br_c (fun c => ?_) (fun c => br_c (fun c2 => ?_) (fun c2 => ?_))
    · rw [nI_ltI (by omega) (by omega)] at c
      exact outs (by omega)
    · rw [nI_leI (by omega) (by omega)] at c2
      exact outs (by omega)
    · rw [nI_ltI (by omega) (by omega)] at c
      rw [nI_leI (by omega) (by omega)] at c2
      unfold wX_meetsOthers_45
      refine br_f (by decide) (nm_r (nI_1 i) (nxt (fun q hq e1 => ?_)))
      have e2 := key q hq e1
      omega
theorem xa_meet {n p e : Nat} {K V : Nat → Int32} {L : List (Int32 × Int32)} (hX : pa_X n K V L) {b : Int32} {post : Int32 → Prop} (hn : n ≤ 48) (hpe : p ≤ e) (hen : e ≤ n) (H0 : (∀ j, p ≤ j → j < e → ∀ i, i < n → K i = K j + b → p ≤ i ∧ i < e) → post 0) (H1 : ∀ j, p ≤ j → j < e → ∀ i, i < n → K i = K j + b → ¬ (p ≤ i ∧ i < e) → post 1) : wpX_meetsOthers post (nI n, K, V) (nI p) (nI e) b :=
  ⟨e - p + 1, xa_meetL hX hn hen H0 H1 (e - p) p (by omega) (Nat.le_refl _) (fun j a c => by omega)⟩
theorem xm_slideL {n p e : Nat} {K V : Nat → Int32} {L : List (Int32 × Int32)} (hL : pa_L L) (hX : pa_X n K V L) {lo hi b : Int32} (R : pa_R n K lo hi p e) (hb : ¬ ab_bad L lo hi b) (hm : ¬ ab_met L lo hi b) {post : Int32 → SX → Prop} (H : ∀ n1 K1 V1, pa_X n1 K1 V1 (L.map (ab_mv lo hi b)) → post (nI (L.countP (pa_in lo hi))) (nI n1, K1, V1)) : ∀ d i K1, i + d = e → p ≤ i → (∀ j, j < n → K1 j = if p ≤ j ∧ j < i then K j + b else K j) → wX_slide_49 post b (nI p) (nI e) (nI n) (d + 1) (nI i) K1 V := by
  have hn := pa_n48 hL hX.2
  obtain ⟨hpe, hen, hR⟩ := R
  intro d
  induction d with
  | zero =>
    intro i K1 hid hp h
    have ei : i = e := by omega
    subst ei
    refine br_t (nI_le (by omega) (by omega)) ?_
    have hP : (pa_l K1 V n).Perm (L.map (ab_mv lo hi b)) := by
      refine pa_mvP hX.2 (fun j hj => ?_)
      rw [h j hj]
      by_cases c : p ≤ j ∧ j < i
      · rw [if_pos c, if_pos (pa_inT.mpr ((hR j hj).mpr c))]
      · rw [if_neg c, if_neg (fun z => c ((hR j hj).mp (pa_inT.mp z)))]
    refine xa_sort hn hP (fun K2 V2 h2 w2 => ?_)
    rw [pk_sub hpe, ← pa_cntR hX.2 ⟨hpe, hen, hR⟩]
    exact H n K2 V2 (pa_WX (ab_mvL hL hb hm).2.2 h2 w2)
  | succ d ih =>
    intro i K1 hid hp h
    refine br_f (nI_ge (by omega) (by omega)) ?_
    rw [nI_clamp (show i < 2 ^ 31 by omega)]
    refine ⟨vp_in_nI (by omega) (by omega), vp_in_nI (by omega) (by omega), nm_e (nm_r (nI_1 i) ?_)⟩
    refine ih (i + 1) _ (by omega) (by omega) (fun j hj => ?_)
    by_cases z : j = i
    · subst z
      rw [pk_us, if_pos (by omega), h j hj, if_neg (by omega)]
    · rw [pk_un z, h j hj]
      by_cases c : p ≤ j ∧ j < i
      · rw [if_pos c, if_pos (by omega)]
      · rw [if_neg c, if_neg (by omega)]
theorem xm_slide {n : Nat} {K V : Nat → Int32} {L : List (Int32 × Int32)} (hL : pa_L L) (hX : pa_X n K V L) (lo hi b : Int32) {post : Int32 → SX → Prop} (H : ∀ r L1, ab_sl L lo hi b r L1 → ∀ n1 K1 V1, pa_X n1 K1 V1 L1 → post r (nI n1, K1, V1)) : wpX_slide post (nI n, K, V) lo hi b := by
  have hn := pa_n48 hL hX.2
  unfold wpX_slide
  dsimp only
  refine xa_fal lo hn (fun p hp h1 h2 => ?_)
  refine xa_eor hi hn hp (fun e hpe hen h3 h4 => ?_)
  have R := pa_rg hX.1 hpe hen h1 h2 h3 h4
  refine xa_stay hn hpe hen (fun g => ?_) (fun j a c g => ?_)
  · have hb := xs_bad0 (b := b) hL hX.2 R g
    refine br_f (by decide) ?_
    refine xa_meet hX hn hpe hen (fun m => ?_) (fun j a c i hi' e1 h5 => ?_)
    · have hm := xs_met0 hX.2 R m
      refine br_t rfl ⟨e - p + 1, ?_⟩
      refine xm_slideL hL hX R hb hm (fun n1 K1 V1 h => H _ _ (Or.inr (Or.inr ⟨hb, hm, rfl, rfl⟩)) n1 K1 V1 h) (e - p) p K (by omega) (Nat.le_refl _) (fun j hj => ?_)
      rw [if_neg (by omega)]
    · exact br_f (by decide) (H _ _ (Or.inr (Or.inl ⟨hb, xs_met1 hX.2 R a c hi' e1 h5, rfl, rfl⟩)) n K V hX)
  · exact br_t rfl (H _ _ (Or.inl ⟨xs_bad1 hL hX.2 R a c g, rfl, rfl⟩) n K V hX)
end
section
/-! Y: place, good, in, put, series, remove, clear, raise -/
theorem ya_good {u : SY} {x : Int32} {post : Int32 → Prop} (H1 : -1000 ≤ x.toInt ∧ x.toInt ≤ 1000 → post 1) (H0 : ¬ (-1000 ≤ x.toInt ∧ x.toInt ≤ 1000) → post 0) : wpY_good post u x := by
  obtain ⟨a, b, c⟩ := u
  refine br_c (fun c => ?_) (fun c => br_c (fun d => ?_) (fun d => ?_))
  · rw [pa_lt, pa_m1000] at c
    exact H0 (by omega)
  · rw [pa_lt, pa_p1000] at d
    exact H0 (by omega)
  · rw [pa_lt, pa_m1000] at c
    rw [pa_lt, pa_p1000] at d
    exact H1 (by omega)
theorem ya_in {u : SY} {x lo hi : Int32} {post : Int32 → Prop} (H1 : lo.toInt ≤ x.toInt ∧ x.toInt ≤ hi.toInt → post 1) (H0 : ¬ (lo.toInt ≤ x.toInt ∧ x.toInt ≤ hi.toInt) → post 0) : wpY_in post u x lo hi := by
  obtain ⟨a, b, c⟩ := u
  refine br_c (fun c => ?_) (fun c => br_c (fun d => ?_) (fun d => ?_))
  · rw [pa_lt] at c
    exact H0 (by omega)
  · rw [pa_lt] at d
    exact H0 (by omega)
  · rw [pa_lt] at c
    rw [pa_lt] at d
    exact H1 (by omega)
theorem ya_placeL {n : Nat} {K V : Nat → Int32} {k : Int32} {post : Int32 → Prop} (hn : n ≤ 48) (H1 : ∀ i, i < n → K i = k → post (nI i)) (H0 : (∀ i, i < n → K i ≠ k) → post (-1)) : ∀ d i, i + d = n → (∀ j, j < i → K j ≠ k) → wY_place_2 post k (nI n) K V (d + 1) (nI i) := by
  intro d
  induction d with
  | zero =>
    intro i hi h
    exact br_t (nI_le (by omega) (by omega)) (H0 (fun j hj => h j (by omega)))
  | succ d ih =>
    intro i hi h
    refine br_f (nI_ge (by omega) (by omega)) ?_
    rw [nI_clamp (show i < 2 ^ 31 by omega)]
    refine ⟨vp_in_nI (by omega) (by omega), br_c (fun c => ?_) (fun c => ?_)⟩
    · exact H1 i (by omega) c
    · refine nm_r (nI_1 i) (ih (i + 1) (by omega) (fun j hj => ?_))
      by_cases z : j = i
      · rw [z]
        exact c
      · exact h j (by omega)
theorem ya_place {n : Nat} {K V : Nat → Int32} {k : Int32} {post : Int32 → Prop} (hn : n ≤ 48) (H1 : ∀ i, i < n → K i = k → post (nI i)) (H0 : (∀ i, i < n → K i ≠ k) → post (-1)) : wpY_place post (nI n, K, V) k :=
  ⟨n + 1, ya_placeL hn H1 H0 n 0 (by omega) (fun j hj => absurd hj (Nat.not_lt_zero j))⟩
theorem ya_none {n : Nat} {K V : Nat → Int32} {L : List (Int32 × Int32)} (h : (pa_l K V n).Perm L) {k : Int32} (hk : ∀ i, i < n → K i ≠ k) : ∀ q, q ∈ L → q.1 ≠ k := by
  intro q hq
  obtain ⟨i, hi, rfl⟩ := pa_idx h hq
  exact hk i hi
theorem ym_put {n : Nat} {K V : Nat → Int32} {L : List (Int32 × Int32)} (hL : pa_L L) (hY : (pa_l K V n).Perm L) (k v : Int32) {post : Int32 → SY → Prop} (H : ∀ n1 K1 V1, (pa_l K1 V1 n1).Perm (ab_put L k v).2 → post (ab_put L k v).1 (nI n1, K1, V1)) : wpY_put post (nI n, K, V) k v := by
  have hn := pa_n48 hL hY
  unfold wpY_put
  dsimp only
  refine ya_good (fun g => ?_) (fun g => ?_)
  · refine br_f (by decide) ?_
    refine ya_place hn (fun p hp e => ?_) (fun hno => ?_)
    · rw [ab_put2 g (ab_anyT.mpr ⟨_, pa_iL hY hp, e⟩)] at H
      refine br_f (nI_pos (by omega)) ⟨vp_in_nI (by omega) (by omega), nm_e ?_⟩
      rw [nI_clamp (by omega)]
      exact H n K (upd V p v) (pa_setP hL.2.2 hY hp e)
    · have hno' := ya_none hY hno
      have hl := pa_n hY
      refine br_t (by decide) (br_c (fun c => ?_) (fun c => ?_))
      · rw [← pa_48, nI_ltI (by omega) (by omega)] at c
        rw [ab_put4 g (ab_anyF hno') (by omega)] at H
        refine ⟨vp_in_nI (by omega) (by omega), nm_e ⟨vp_in_nI (by omega) (by omega), nm_e (nm_r (nI_1 n) ?_)⟩⟩
        rw [nI_clamp (by omega)]
        refine H (n + 1) _ _ ?_
        refine (pa_ins (p := n) (Nat.le_refl _) (fun i hi => ?_) pk_us pk_us (fun i a b => by omega)).trans (hY.cons _)
        exact ⟨pk_un (by omega), pk_un (by omega)⟩
      · rw [← pa_48, nI_ltI (by omega) (by omega)] at c
        rw [ab_put3 g (ab_anyF hno') (by omega)] at H
        exact H n K V hY
  · rw [ab_put1 g] at H
    exact br_t rfl (H n K V hY)
theorem ym_serL {L : List (Int32 × Int32)} (hL : pa_L L) (k s v : Int32) {c : Nat} (hc : c ≤ 48) {post : Int32 → SY → Prop} (H : ∀ n1 K1 V1, (pa_l K1 V1 n1).Perm (ab_ser L k s v c) → post (nI n1) (nI n1, K1, V1)) : ∀ d i n K V, i + d = c → (pa_l K V n).Perm (ab_ser L k s v i) → wY_series_42 post k s (nI c) v (d + 1) (nI i) (nI n) K V := by
  intro d
  induction d with
  | zero =>
    intro i n K V hi hX
    have : i = c := by omega
    rw [this] at hX
    exact br_t (nI_le (by omega) (by omega)) (H n K V hX)
  | succ d ih =>
    intro i n K V hi hX
    refine br_f (nI_ge (by omega) (by omega)) ?_
    refine ym_put (ab_serL hL k s v i) hX (k + nI i * s) (v + nI i) (fun n1 K1 V1 h1 => ?_)
    exact nm_r (nI_1 i) (ih (i + 1) n1 K1 V1 (by omega) h1)
theorem ym_series {n : Nat} {K V : Nat → Int32} {L : List (Int32 × Int32)} (hL : pa_L L) (hY : (pa_l K V n).Perm L) (k s c v : Int32) {post : Int32 → SY → Prop} (H : ∀ n1 K1 V1, (pa_l K1 V1 n1).Perm (ab_series L k s c v).2 → post (ab_series L k s c v).1 (nI n1, K1, V1)) : wpY_series post (nI n, K, V) k s c v := by
  unfold wpY_series
  dsimp only
  unfold ab_series at H
  refine ya_good (fun g => ?_) (fun g => ?_)
  · rw [if_pos g] at H
    refine br_f (by decide) (br_c (fun c1 => ?_) (fun c1 => br_c (fun c2 => br_c (fun c3 => ?_) (fun c3 => br_c (fun c4 => ?_) (fun c4 => ?_))) (fun c2 => ?_)))
    · rw [pa_lt, pa_m100] at c1
      rw [if_neg (by omega)] at H
      exact H n K V hY
    · rw [pa_lt, pa_m100] at c1
      rw [pa_le, pa_p100] at c2
      rw [pa_lt, pa_p1] at c3
      rw [if_pos (by omega), if_neg (by omega)] at H
      exact H n K V hY
    · rw [pa_lt, pa_m100] at c1
      rw [pa_le, pa_p100] at c2
      rw [pa_lt, pa_p1] at c3
      rw [pa_le, pa_p48] at c4
      rw [if_pos (by omega), if_pos (by omega)] at H
      obtain ⟨m, hm, rfl, em⟩ := pa_nat (c := c) (by omega)
      rw [em] at H
      refine ⟨m + 1, ?_⟩
      refine ym_serL hL k s v hm (fun n1 K1 V1 h1 => ?_) m 0 n K V (by omega) hY
      have := H n1 K1 V1 h1
      dsimp only at this
      rw [← pa_n h1] at this
      exact this
    · rw [pa_lt, pa_m100] at c1
      rw [pa_le, pa_p100] at c2
      rw [pa_lt, pa_p1] at c3
      rw [pa_le, pa_p48] at c4
      rw [if_pos (by omega), if_neg (by omega)] at H
      exact H n K V hY
    · rw [pa_le, pa_p100] at c2
      rw [if_neg (by omega)] at H
      exact H n K V hY
  · rw [if_neg g] at H
    exact br_t rfl (H n K V hY)
/-- remove: n1 is one less where the key was held -/
theorem ym_remove {n : Nat} {K V : Nat → Int32} {L : List (Int32 × Int32)} (hL : pa_L L) (hY : (pa_l K V n).Perm L) (k : Int32) {post : Int32 → SY → Prop} (H : ∀ n1 K1 V1, (pa_l K1 V1 n1).Perm (ab_rem L k).2 → post (ab_rem L k).1 (nI n1, K1, V1)) : wpY_remove post (nI n, K, V) k := by
  have hn := pa_n48 hL hY
  unfold wpY_remove
  dsimp only
  refine ya_good (fun g => ?_) (fun g => ?_)
  · refine br_f (by decide) ?_
    refine ya_place hn (fun p hp e => ?_) (fun hno => ?_)
    · rw [ab_rem2 g (ab_anyT.mpr ⟨_, pa_iL hY hp, e⟩)] at H
      obtain ⟨m, rfl⟩ : ∃ m, n = m + 1 := ⟨n - 1, by omega⟩
      refine br_t (nI_pos' (by omega)) (nm_r (nI_pred m) ?_)
      rw [nI_clamp (show m < 2 ^ 31 by omega), nI_clamp (show p < 2 ^ 31 by omega)]
      refine ⟨vp_in_nI (by omega) (by omega), vp_in_nI (by omega) (by omega), nm_e ⟨vp_in_nI (by omega) (by omega), vp_in_nI (by omega) (by omega), nm_e ?_⟩⟩
      refine H m _ _ ?_
      have h1 := pa_last (K := K) (V := V) (K1 := upd K p (K m)) (V1 := upd V p (V m)) hp (fun i hi => ⟨pk_un hi, pk_un hi⟩) ⟨pk_us, pk_us⟩
      have h2 := pa_rem hL.2.2 (hY.symm.trans h1)
      dsimp only at h2
      rw [e] at h2
      exact h2
    · rw [ab_rem3 g (ab_anyF (ya_none hY hno))] at H
      exact br_f (by decide) (H n K V hY)
  · rw [ab_rem1 g] at H
    exact br_t rfl (H n K V hY)
theorem ab_remN {L : List (Int32 × Int32)} {k : Int32} (hD : pa_D L) (h : ab_any L k = true) : (L.filter (fun r => decide (r.1 ≠ k))).length + 1 = L.length := by
  obtain ⟨q, hq, rfl⟩ := ab_anyT.mp h
  obtain ⟨s, t, e⟩ := List.append_of_mem hq
  have h1 : L.Perm (q :: (s ++ t)) := by
    rw [e]
    exact List.perm_middle
  have h2 := pa_rem hD h1
  rw [← h2.length_eq, h1.length_eq] <;> rfl
/-- clear: k goes from -1000 to 1000; j of them are done -/
theorem ym_clearL {L : List (Int32 × Int32)} (hL : pa_L L) {lo hi : Int32} {post : Int32 → SY → Prop} (H : ∀ n1 K1 V1, (pa_l K1 V1 n1).Perm (L.filter (ab_out lo hi)) → post (nI (L.countP (pa_in lo hi))) (nI n1, K1, V1)) : ∀ (d j n : Nat) (K V : Nat → Int32) (o : Nat) (x : Int32), j + d = 2001 → x.toInt = (j : Int) - 1000 → o + n = L.length → (pa_l K V n).Perm (L.filter (ab_cl lo hi x.toInt)) → wY_clear_7 post lo hi (d + 1) (nI o) x (nI n) K V := by
  intro d
  induction d with
  | zero =>
    intro j n K V o x hj hx ho hY
    have ex : x.toInt = 1001 := by omega
    refine br_t (by rw [pa_lt, pa_p1000]; omega) ?_
    rw [ex, ab_clE hL] at hY
    have h1 := pa_n hY
    have h2 := ab_outN (L := L) (lo := lo) (hi := hi)
    have : o = L.countP (pa_in lo hi) := by omega
    rw [this]
    exact H n K V hY
  | succ d ih =>
    intro j n K V o x hj hx ho hY
    have hLx := pa_Lfil (ab_cl lo hi x.toInt) hL
    have hn := pa_n48 hLx hY
    have ex1 : (x + 1).toInt = x.toInt + 1 := by
      rw [pa_add (by rw [pa_p1]; omega) (by rw [pa_p1]; omega), pa_p1]
    refine br_f (by rw [pa_lt, pa_p1000]; omega) ?_
    refine ya_in (fun hin => ?_) (fun hin => ?_)
    · refine br_f (by decide) ?_
      refine ya_place hn (fun p hp e => ?_) (fun hno => ?_)
      · refine br_f (nI_pos (by omega)) ?_
        have hany : ab_any (L.filter (ab_cl lo hi x.toInt)) x = true := ab_anyT.mpr ⟨_, pa_iL hY hp, e⟩
        refine ym_remove hLx hY x (fun n1 K1 V1 h1 => ?_)
        rw [ab_rem2 (by omega) hany] at h1
        dsimp only at h1
        have hl : n1 + 1 = n := by
          rw [pa_n h1, pa_n hY]
          exact ab_remN hLx.2.2 hany
        rw [ab_clR hin, ← ex1] at h1
        exact nm_r (nI_1 o) (nm_e (ih (j + 1) n1 K1 V1 (o + 1) (x + 1) (by omega) (by omega) (by omega) h1))
      · refine br_t (by decide) (nm_e (ih (j + 1) n K V o (x + 1) (by omega) (by omega) ho ?_))
        rw [ex1, ← ab_clN (Or.inr (ya_none hY hno))]
        exact hY
    · refine br_t rfl (nm_e (ih (j + 1) n K V o (x + 1) (by omega) (by omega) ho ?_))
      rw [ex1, ← ab_clN (Or.inl hin)]
      exact hY
theorem ym_clear {n : Nat} {K V : Nat → Int32} {L : List (Int32 × Int32)} (hL : pa_L L) (hY : (pa_l K V n).Perm L) (lo hi : Int32) {post : Int32 → SY → Prop} (H : ∀ n1 K1 V1, (pa_l K1 V1 n1).Perm (L.filter (ab_out lo hi)) → post (nI (L.countP (pa_in lo hi))) (nI n1, K1, V1)) : wpY_clear post (nI n, K, V) lo hi := by
  refine ⟨2002, ?_⟩
  have hl := pa_n hY
  refine ym_clearL hL H 2001 0 n K V 0 (-1000) (by omega) (by rw [pa_m1000]; omega) (by omega) ?_
  rw [pa_m1000, ab_cl0 hL]
  exact hY
/-- raise -/
theorem ym_raiseL {n : Nat} {K V : Nat → Int32} {lo hi b : Int32} {post : Int32 → SY → Prop} (hn : n ≤ 48) (H : ∀ V1, (∀ i, i < n → V1 i = if pa_in lo hi (K i, V i) = true then V i + b else V i) → post (nI ((pa_l K V n).countP (pa_in lo hi))) (nI n, K, V1)) : ∀ d i V1, i + d = n → (∀ j, j < i → V1 j = if pa_in lo hi (K j, V j) = true then V j + b else V j) → (∀ j, i ≤ j → V1 j = V j) → wY_raise_6 post lo hi b (nI n) (d + 1) (nI ((pa_l K V i).countP (pa_in lo hi))) (nI i) K V1 := by
  intro d
  induction d with
  | zero =>
    intro i V1 hid h1 h2
    have : i = n := by omega
    subst this
    exact br_t (nI_le (by omega) (by omega)) (H V1 h1)
  | succ d ih =>
    intro i V1 hid h1 h2
    refine br_f (nI_ge (by omega) (by omega)) ?_
    rw [nI_clamp (show i < 2 ^ 31 by omega)]
    refine ⟨vp_in_nI (by omega) (by omega), ?_⟩
    refine ya_in (fun g => ?_) (fun g => ?_)
    · refine br_f (by decide) ⟨vp_in_nI (by omega) (by omega), vp_in_nI (by omega) (by omega), nm_e (nm_r (nI_1 _) (nm_r (nI_1 i) ?_))⟩
      have e := ys_cnt (K := K) (V := V) (i := i) (lo := lo) (hi := hi)
      rw [if_pos g] at e
      rw [← e]
      refine ih (i + 1) _ (by omega) (fun j hj => ?_) (fun j hj => ?_)
      · by_cases z : j = i
        · subst z
          rw [pk_us, if_pos (pa_inT.mpr g), h2 j (Nat.le_refl _)]
        · rw [pk_un z]
          exact h1 j (by omega)
      · rw [pk_un (by omega)]
        exact h2 j (by omega)
    · refine br_t rfl (nm_r (nI_1 i) ?_)
      have e := ys_cnt (K := K) (V := V) (i := i) (lo := lo) (hi := hi)
      rw [if_neg g] at e
      replace e := e.trans (Nat.add_zero _)
      rw [← e]
      refine ih (i + 1) _ (by omega) (fun j hj => ?_) (fun j hj => h2 j (by omega))
      by_cases z : j = i
      · subst z
        rw [if_neg (fun y => g (pa_inT.mp y)), h2 j (Nat.le_refl _)]
      · exact h1 j (by omega)
theorem ym_raise {n : Nat} {K V : Nat → Int32} {L : List (Int32 × Int32)} (hL : pa_L L) (hY : (pa_l K V n).Perm L) (lo hi b : Int32) {post : Int32 → SY → Prop} (H : ∀ n1 K1 V1, (pa_l K1 V1 n1).Perm (L.map (ab_up lo hi b)) → post (nI (L.countP (pa_in lo hi))) (nI n1, K1, V1)) : wpY_raise post (nI n, K, V) lo hi b := by
  have hn := pa_n48 hL hY
  refine ⟨n + 1, ?_⟩
  refine ym_raiseL (V := V) hn (fun V1 h => ?_) n 0 V (by omega) (fun j hj => absurd hj (Nat.not_lt_zero j)) (fun _ _ => rfl)
  rw [hY.countP_eq]
  exact H n K V1 (pa_upP hY h)
end
section
/-! Y: the methods that only read -/
theorem ym_has {n : Nat} {K V : Nat → Int32} {L : List (Int32 × Int32)} (hL : pa_L L) (hY : (pa_l K V n).Perm L) (k : Int32) {post : Int32 → Prop} (H : post (ab_has L k)) : wpY_has post (nI n, K, V) k := by
  have hn := pa_n48 hL hY
  unfold ab_has at H
  unfold wpY_has
  dsimp only
  refine ya_good (fun g => ?_) (fun g => ?_)
  · rw [if_pos g] at H
    refine br_f (by decide) ?_
    refine ya_place hn (fun p hp e => ?_) (fun hno => ?_)
    · rw [if_pos (ab_anyT.mpr ⟨_, pa_iL hY hp, e⟩)] at H
      exact br_f (nI_pos (by omega)) H
    · rw [ab_anyF (ya_none hY hno), if_neg Bool.false_ne_true] at H
      exact br_t (by decide) H
  · rw [if_neg g] at H
    exact br_t rfl H
theorem ym_get {n : Nat} {K V : Nat → Int32} {L : List (Int32 × Int32)} (hL : pa_L L) (hY : (pa_l K V n).Perm L) (k : Int32) {post : Int32 → Prop} (H : ∀ r, sp_get L k r → post r) : wpY_get post (nI n, K, V) k := by
  have hn := pa_n48 hL hY
  unfold wpY_get
  dsimp only
  refine ya_place hn (fun p hp e => ?_) (fun hno => ?_)
  · refine br_f (nI_pos (by omega)) ⟨vp_in_nI (by omega) (by omega), ?_⟩
    rw [nI_clamp (by omega)]
    exact H _ (Or.inl ⟨_, pa_iL hY hp, e, rfl⟩)
  · exact br_t (by decide) (H _ (Or.inr ⟨ya_none hY hno, rfl⟩))
theorem ym_rankL {n : Nat} {K V : Nat → Int32} {b : Int32} {post : Int32 → Prop} (hn : n ≤ 48) (H : post (nI (ab_less (pa_l K V n) b))) : ∀ d i, i + d = n → wY_rank_4 post b (nI n) K V (d + 1) (nI (ab_less (pa_l K V i) b)) (nI i) := by
  intro d
  induction d with
  | zero =>
    intro i hi
    have : i = n := by omega
    subst this
    exact br_t (nI_le (by omega) (by omega)) H
  | succ d ih =>
    intro i hi
    have e := ys_less (K := K) (V := V) (i := i) (b := b)
    refine br_f (nI_ge (by omega) (by omega)) ?_
    rw [nI_clamp (show i < 2 ^ 31 by omega)]
    refine ⟨vp_in_nI (by omega) (by omega), br_c (fun c => ?_) (fun c => ?_)⟩
    · rw [pa_le] at c
      rw [if_neg (by omega)] at e
      replace e := e.trans (Nat.add_zero _)
      refine nm_r (nI_1 i) ?_
      rw [← e]
      exact ih (i + 1) (by omega)
    · rw [pa_le] at c
      rw [if_pos (by omega)] at e
      refine nm_r (nI_1 _) (nm_r (nI_1 i) ?_)
      rw [← e]
      exact ih (i + 1) (by omega)
theorem ym_rank {n : Nat} {K V : Nat → Int32} {L : List (Int32 × Int32)} (hL : pa_L L) (hY : (pa_l K V n).Perm L) (b : Int32) {post : Int32 → Prop} (H : post (nI (ab_less L b))) : wpY_rank post (nI n, K, V) b := by
  have hn := pa_n48 hL hY
  rw [← ab_lessP hY] at H
  exact ⟨n + 1, ym_rankL hn H n 0 (by omega)⟩
theorem ym_selL {n : Nat} {K V : Nat → Int32} {L : List (Int32 × Int32)} (hL : pa_L L) (hY : (pa_l K V n).Perm L) {k : Int32} {post : Int32 → Prop} (H : ∀ r, sp_sel L k r → post r) : ∀ d i, i + d = n → (∀ j, j < i → nI (ab_less L (K j)) ≠ k) → wY_select_2 post k (nI n) K V (d + 1) (nI i) := by
  have hn := pa_n48 hL hY
  intro d
  induction d with
  | zero =>
    intro i hi h
    refine br_t (nI_le (by omega) (by omega)) (H _ (Or.inr ⟨fun q hq => ?_, rfl⟩))
    obtain ⟨j, hj, rfl⟩ := pa_idx hY hq
    exact h j (by omega)
  | succ d ih =>
    intro i hi h
    refine br_f (nI_ge (by omega) (by omega)) ?_
    rw [nI_clamp (show i < 2 ^ 31 by omega)]
    refine ⟨vp_in_nI (by omega) (by omega), ?_⟩
    refine ym_rank hL hY (K i) ?_
    refine br_c (fun c => ?_) (fun c => ?_)
    · exact ⟨vp_in_nI (by omega) (by omega), H _ (Or.inl ⟨_, pa_iL hY (by omega), rfl, c⟩)⟩
    · refine nm_r (nI_1 i) (ih (i + 1) (by omega) (fun j hj => ?_))
      by_cases z : j = i
      · rw [z]
        exact c
      · exact h j (by omega)
theorem ym_select {n : Nat} {K V : Nat → Int32} {L : List (Int32 × Int32)} (hL : pa_L L) (hY : (pa_l K V n).Perm L) (k : Int32) {post : Int32 → Prop} (H : ∀ r, sp_sel L k r → post r) : wpY_select post (nI n, K, V) k :=
  ⟨n + 1, ym_selL hL hY H n 0 (by omega) (fun j hj => absurd hj (Nat.not_lt_zero j))⟩
theorem ym_nextL {n : Nat} {K V : Nat → Int32} {L : List (Int32 × Int32)} (hL : pa_L L) (hY : (pa_l K V n).Perm L) {b : Int32} {post : Int32 → Prop} (H : ∀ r, sp_next L b r → post r) : ∀ d i r, i + d = n → sp_next (pa_l K V i) b r → wY_next_6 post b (nI n) K V (d + 1) r (nI i) := by
  have hn := pa_n48 hL hY
  intro d
  induction d with
  | zero =>
    intro i r hi h
    have : i = n := by omega
    subst this
    exact br_t (nI_le (by omega) (by omega)) (H _ (ys_next_P hY h))
  | succ d ih =>
    intro i r hi h
    have hG : ∀ q, q ∈ pa_l K V i → q.1 ≠ -2000 := by
      intro q hq z
      obtain ⟨j, hj, rfl⟩ := pa_mem.mp hq
      have g := pa_g hL hY (show j < n by omega)
      have z' : K j = -2000 := z
      rw [z', pa_m2000] at g
      omega
    refine br_f (nI_ge (by omega) (by omega)) ?_
    rw [nI_clamp (show i < 2 ^ 31 by omega)]
    refine ⟨vp_in_nI (by omega) (by omega), br_c (fun c => ?_) (fun c => ?_)⟩
    · rw [pa_le] at c
      exact nm_r (nI_1 i) (ih (i + 1) r (by omega) (ys_next1 h (by dsimp only; omega)))
    · rw [pa_le] at c
      refine br_c (fun e => ?_) (fun e => ?_)
      · refine ⟨vp_in_nI (by omega) (by omega), nm_e (nm_r (nI_1 i) ?_)⟩
        exact ih (i + 1) _ (by omega) (ys_next3 h (by dsimp only; omega) hG (Or.inl e))
      · refine ⟨vp_in_nI (by omega) (by omega), br_c (fun f => ?_) (fun f => ?_)⟩
        · rw [pa_le] at f
          exact nm_r (nI_1 i) (ih (i + 1) r (by omega) (ys_next2 h e (by dsimp only; omega)))
        · rw [pa_le] at f
          refine ⟨vp_in_nI (by omega) (by omega), nm_e (nm_r (nI_1 i) ?_)⟩
          exact ih (i + 1) _ (by omega) (ys_next3 h (by dsimp only; omega) hG (Or.inr (by dsimp only; omega)))
theorem ym_next {n : Nat} {K V : Nat → Int32} {L : List (Int32 × Int32)} (hL : pa_L L) (hY : (pa_l K V n).Perm L) (b : Int32) {post : Int32 → Prop} (H : ∀ r, sp_next L b r → post r) : wpY_next post (nI n, K, V) b :=
  ⟨n + 1, ym_nextL hL hY H n 0 (-2000) (by omega) (ys_next0 b)⟩
theorem ym_prevL {n : Nat} {K V : Nat → Int32} {L : List (Int32 × Int32)} (hL : pa_L L) (hY : (pa_l K V n).Perm L) {b : Int32} {post : Int32 → Prop} (H : ∀ r, sp_prev L b r → post r) : ∀ d i r, i + d = n → sp_prev (pa_l K V i) b r → wY_previous_6 post b (nI n) K V (d + 1) r (nI i) := by
  have hn := pa_n48 hL hY
  intro d
  induction d with
  | zero =>
    intro i r hi h
    have : i = n := by omega
    subst this
    exact br_t (nI_le (by omega) (by omega)) (H _ (ys_prev_P hY h))
  | succ d ih =>
    intro i r hi h
    have g := pa_g hL hY (show i < n by omega)
    refine br_f (nI_ge (by omega) (by omega)) ?_
    rw [nI_clamp (show i < 2 ^ 31 by omega)]
    refine ⟨vp_in_nI (by omega) (by omega), br_c (fun c => ?_) (fun c => ?_)⟩
    · rw [pa_le] at c
      exact nm_r (nI_1 i) (ih (i + 1) r (by omega) (ys_prev1 h (by dsimp only; omega)))
    · rw [pa_le] at c
      refine ⟨vp_in_nI (by omega) (by omega), br_c (fun f => ?_) (fun f => ?_)⟩
      · rw [pa_le] at f
        exact nm_r (nI_1 i) (ih (i + 1) r (by omega) (ys_prev2 h g.1 (by dsimp only; omega)))
      · rw [pa_le] at f
        refine ⟨vp_in_nI (by omega) (by omega), nm_e (nm_r (nI_1 i) ?_)⟩
        exact ih (i + 1) _ (by omega) (ys_prev3 h (by dsimp only; omega) (by dsimp only; omega))
theorem ym_previous {n : Nat} {K V : Nat → Int32} {L : List (Int32 × Int32)} (hL : pa_L L) (hY : (pa_l K V n).Perm L) (b : Int32) {post : Int32 → Prop} (H : ∀ r, sp_prev L b r → post r) : wpY_previous post (nI n, K, V) b :=
  ⟨n + 1, ym_prevL hL hY H n 0 (-2000) (by omega) (ys_prev0 b)⟩
theorem ym_countL {n : Nat} {K V : Nat → Int32} {lo hi : Int32} {post : Int32 → Prop} (hn : n ≤ 48) (H : post (nI ((pa_l K V n).countP (pa_in lo hi)))) : ∀ d i, i + d = n → wY_count_5 post lo hi (nI n) K V (d + 1) (nI ((pa_l K V i).countP (pa_in lo hi))) (nI i) := by
  intro d
  induction d with
  | zero =>
    intro i hid
    have : i = n := by omega
    subst this
    exact br_t (nI_le (by omega) (by omega)) H
  | succ d ih =>
    intro i hid
    have e := ys_cnt (K := K) (V := V) (i := i) (lo := lo) (hi := hi)
    refine br_f (nI_ge (by omega) (by omega)) ?_
    rw [nI_clamp (show i < 2 ^ 31 by omega)]
    refine ⟨vp_in_nI (by omega) (by omega), ?_⟩
    refine ya_in (fun g => ?_) (fun g => ?_)
    · rw [if_pos g] at e
      refine br_f (by decide) (nm_r (nI_1 _) (nm_r (nI_1 i) ?_))
      rw [← e]
      exact ih (i + 1) (by omega)
    · rw [if_neg g] at e
      replace e := e.trans (Nat.add_zero _)
      refine br_t rfl (nm_r (nI_1 i) ?_)
      rw [← e]
      exact ih (i + 1) (by omega)
theorem ym_count {n : Nat} {K V : Nat → Int32} {L : List (Int32 × Int32)} (hL : pa_L L) (hY : (pa_l K V n).Perm L) (lo hi : Int32) {post : Int32 → Prop} (H : post (nI (L.countP (pa_in lo hi)))) : wpY_count post (nI n, K, V) lo hi := by
  have hn := pa_n48 hL hY
  rw [← hY.countP_eq] at H
  exact ⟨n + 1, ym_countL hn H n 0 (by omega)⟩
theorem ym_sumL {n : Nat} {K V : Nat → Int32} {lo hi : Int32} {post : Int32 → Prop} (hn : n ≤ 48) (H : post (ab_sum lo hi (pa_l K V n))) : ∀ d i, i + d = n → wY_sum_5 post lo hi (nI n) K V (d + 1) (ab_sum lo hi (pa_l K V i)) (nI i) := by
  intro d
  induction d with
  | zero =>
    intro i hid
    have : i = n := by omega
    subst this
    exact br_t (nI_le (by omega) (by omega)) H
  | succ d ih =>
    intro i hid
    have e := ab_sums (K := K) (V := V) (n := i) (lo := lo) (hi := hi)
    unfold ab_f at e
    refine br_f (nI_ge (by omega) (by omega)) ?_
    rw [nI_clamp (show i < 2 ^ 31 by omega)]
    refine ⟨vp_in_nI (by omega) (by omega), ?_⟩
    refine ya_in (fun g => ?_) (fun g => ?_)
    · rw [if_pos (pa_inT.mpr g)] at e
      exact br_f (by decide) ⟨vp_in_nI (by omega) (by omega), nm_r e.symm (nm_r (nI_1 i) (ih (i + 1) (by omega)))⟩
    · rw [if_neg (fun z => g (pa_inT.mp z))] at e
      refine br_t rfl (nm_r (nI_1 i) ?_)
      rw [← e]
      exact ih (i + 1) (by omega)
theorem ym_sum {n : Nat} {K V : Nat → Int32} {L : List (Int32 × Int32)} (hL : pa_L L) (hY : (pa_l K V n).Perm L) (lo hi : Int32) {post : Int32 → Prop} (H : post (ab_sum lo hi L)) : wpY_sum post (nI n, K, V) lo hi := by
  have hn := pa_n48 hL hY
  rw [← ab_sumP hY] at H
  exact ⟨n + 1, ym_sumL hn H n 0 (by omega)⟩
end
section
/-! Y: closest, gap, best, slide -/
theorem ym_closeI {n i : Nat} {K V : Nat → Int32} {L : List (Int32 × Int32)} (hL : pa_L L) (hY : (pa_l K V n).Perm L) {post : Int32 → Prop} {J : Int32 → Int32 → Prop} (hi : i < n) (hJ : ∀ r, yc_I K n (i + 1) 0 r → J r (nI (i + 1))) : ∀ d j r, j + d = n → yc_I K n i j r → wY_closest_14 post J (nI i) (nI n) K V (d + 1) r (nI j) := by
  have hn := pa_n48 hL hY
  intro d
  induction d with
  | zero =>
    intro j r hj h
    have e : j = n := by omega
    subst e
    exact br_t (nI_le (by omega) (by omega)) (nm_r (nI_1 i) (hJ r (yc_row h)))
  | succ d ih =>
    intro j r hj h
    have g1 := pa_g hL hY hi
    have g2 := pa_g hL hY (show j < n by omega)
    have ed : (K i - K j).toInt = (K i).toInt - (K j).toInt := pa_sub (by omega) (by omega)
    refine br_f (nI_ge (by omega) (by omega)) ?_
    rw [nI_clamp (show i < 2 ^ 31 by omega), nI_clamp (show j < 2 ^ 31 by omega)]
    refine ⟨vp_in_nI (by omega) (by omega), vp_in_nI (by omega) (by omega), nm_e (br_c (fun c => ?_) (fun c => br_c (fun c2 => ?_) (fun c2 => br_c (fun c3 => ?_) (fun c3 => ?_))))⟩
    · rw [pa_le, ed, pa_p0] at c
      exact nm_r (nI_1 j) (ih (j + 1) r (by omega) (yc_keep h (fun z => by omega)))
    · rw [pa_le, ed, pa_p0] at c
      exact nm_r (nI_1 j) (ih (j + 1) _ (by omega) (yc_new h ed (by omega) (Or.inl c2)))
    · rw [pa_le, ed] at c3
      exact nm_r (nI_1 j) (ih (j + 1) r (by omega) (yc_keep h (fun z => ⟨c2, c3⟩)))
    · rw [pa_le, ed, pa_p0] at c
      rw [pa_le, ed] at c3
      exact nm_r (nI_1 j) (ih (j + 1) _ (by omega) (yc_new h ed (by omega) (Or.inr (by omega))))
theorem ym_closeO {n : Nat} {K V : Nat → Int32} {L : List (Int32 × Int32)} (hL : pa_L L) (hY : (pa_l K V n).Perm L) {post : Int32 → Prop} (H : ∀ r, sp_close L r → post r) : ∀ d i r, i + d = n → yc_I K n i 0 r → wY_closest_4 post (nI n) K V (d + 1) r (nI i) := by
  have hn := pa_n48 hL hY
  intro d
  induction d with
  | zero =>
    intro i r hi h
    have e : i = n := by omega
    subst e
    exact br_t (nI_le (by omega) (by omega)) (H r (yc_end hY h))
  | succ d ih =>
    intro i r hi h
    refine br_f (nI_ge (by omega) (by omega)) ⟨n + 1, ?_⟩
    exact ym_closeI hL hY (by omega) (fun r1 h1 => ih (i + 1) r1 (by omega) h1) n 0 r (by omega) h
theorem ym_closest {n : Nat} {K V : Nat → Int32} {L : List (Int32 × Int32)} (hL : pa_L L) (hY : (pa_l K V n).Perm L) {post : Int32 → Prop} (H : ∀ r, sp_close L r → post r) : wpY_closest post (nI n, K, V) :=
  ⟨n + 1, ym_closeO hL hY H n 0 0 (by omega) yc_0⟩
theorem ym_gapL {n : Nat} {K V : Nat → Int32} {L : List (Int32 × Int32)} (hL : pa_L L) (hY : (pa_l K V n).Perm L) {f : Int32} {post : Int32 → Prop} (H : ∀ r, sp_gap L f r → post r) : ∀ (d j : Nat) (x : Int32), j + d = 2001 → x.toInt = (j : Int) - 1000 → (∀ t : Int, -1000 ≤ t → f.toInt ≤ t → t < x.toInt → ∃ q, q ∈ L ∧ q.1.toInt = t) → wY_gap_4 post f (nI n) K V (d + 1) x := by
  have hn := pa_n48 hL hY
  intro d
  induction d with
  | zero =>
    intro j x hj hx h
    refine br_t (by rw [pa_lt, pa_p1000]; omega) (H _ (Or.inr ⟨fun t a b c => h t a c (by omega), rfl⟩))
  | succ d ih =>
    intro j x hj hx h
    have ex1 : (x + 1).toInt = x.toInt + 1 := by
      rw [pa_add (by rw [pa_p1]; omega) (by rw [pa_p1]; omega), pa_p1]
    refine br_f (by rw [pa_lt, pa_p1000]; omega) (br_c (fun c => ?_) (fun c => ?_))
    · rw [pa_lt] at c
      refine nm_e (ih (j + 1) (x + 1) (by omega) (by omega) (fun t a b e => ?_))
      exact h t a b (by omega)
    · rw [pa_lt] at c
      refine ya_place hn (fun p hp e => ?_) (fun hno => ?_)
      · refine br_t (nI_pos' (by omega)) (nm_e (ih (j + 1) (x + 1) (by omega) (by omega) (fun t a b y => ?_)))
        by_cases z : t = x.toInt
        · exact ⟨_, pa_iL hY hp, by rw [z, ← e]⟩
        · exact h t a b (by omega)
      · refine br_f (by decide) (H x (Or.inl ⟨by omega, by omega, by omega, fun q hq z => ?_, h⟩))
        exact ya_none hY hno q hq (Int32.toInt_inj.mp z)
theorem ym_gap {n : Nat} {K V : Nat → Int32} {L : List (Int32 × Int32)} (hL : pa_L L) (hY : (pa_l K V n).Perm L) (f : Int32) {post : Int32 → Prop} (H : ∀ r, sp_gap L f r → post r) : wpY_gap post (nI n, K, V) f :=
  ⟨2002, ym_gapL hL hY H 2001 0 (-1000) (by omega) (by rw [pa_m1000]; omega) (fun t a b c => by rw [pa_m1000] at c; omega)⟩
theorem ym_bestL {n : Nat} {K V : Nat → Int32} {L : List (Int32 × Int32)} (hL : pa_L L) (hY : (pa_l K V n).Perm L) {lo hi : Int32} {post : Int32 → Prop} (H : ∀ r, sp_best L lo hi r → post r) : ∀ d i f, i + d = n → yb_I K V lo hi i f → wY_best_5 post lo hi (nI n) K V (d + 1) f (nI i) := by
  have hn := pa_n48 hL hY
  intro d
  induction d with
  | zero =>
    intro i f hi' s
    have e : i = n := by omega
    subst e
    refine br_t (nI_le (by omega) (by omega)) ?_
    have s2 := s
    rcases s with ⟨m, hm, rfl, c, a⟩ | ⟨a, rfl⟩
    · refine br_t (nI_pos' (by omega)) ⟨vp_in_nI (by omega) (by omega), ?_⟩
      rw [nI_clamp (by omega)]
      exact H _ (yb_end hY (by omega) hm s2)
    · exact br_f (by decide) (H _ (yb_end0 hY (by omega) s2))
  | succ d ih =>
    intro i f hi' s
    refine br_f (nI_ge (by omega) (by omega)) ?_
    refine ⟨vp_in_nI (by omega) (by omega), ?_⟩
    rw [nI_clamp (show i < 2 ^ 31 by omega)]
    refine ya_in (fun g => ?_) (fun g => ?_)
    · have gi : pa_in lo hi (K i, V i) = true := pa_inT.mpr g
      refine br_f (by decide) ?_
      have s2 := s
      rcases s with ⟨m, hm, rfl, c, a⟩ | ⟨a, rfl⟩
      · have hv : ∀ z, z < 48 → vp_in (nI z) 48 := fun z hz => vp_in_nI hz (by omega)
        have new : ((V m).toInt < (V i).toInt ∨ ((V i).toInt = (V m).toInt ∧ (K i).toInt < (K m).toInt)) → wY_best_5 post lo hi (nI n) K V (d + 1) (nI i) (nI (i + 1)) := fun h => ih (i + 1) (nI i) (by omega) (yb_new hm s2 (by omega) gi h)
        have keep : ¬ (V m).toInt < (V i).toInt → ¬ ((V i).toInt = (V m).toInt ∧ (K i).toInt < (K m).toInt) → wY_best_5 post lo hi (nI n) K V (d + 1) (nI m) (nI (i + 1)) := fun h h2 => ih (i + 1) (nI m) (by omega) (yb_keep hm s2 (by omega) h h2)
        refine br_f (nI_pos (by omega)) ⟨hv i (by omega), hv m (by omega), ?_⟩
        rw [nI_clamp (show m < 2 ^ 31 by omega)]
        refine br_c (fun c1 => ?_) (fun c1 => ?_)
        · rw [pa_le] at c1
          unfold wY_best_58 wY_best_100 wY_best_101
          refine br_f (nI_pos (by omega)) ⟨hv i (by omega), hv m (by omega), ?_⟩
          rw [nI_clamp (show m < 2 ^ 31 by omega), nI_clamp (show i < 2 ^ 31 by omega)]
          refine br_c (fun e => ⟨hv i (by omega), hv m (by omega), br_c (fun g2 => ?_) (fun g2 => ?_)⟩) (fun e => ?_)
          · rw [pa_le] at g2
            exact br_t rfl (br_t rfl (nm_r (nI_1 i) (keep (by omega) (by omega))))
          · rw [pa_le] at g2
            rw [pa_eq] at e
            exact br_t rfl (br_f (by decide) (nm_r (nI_1 i) (new (by omega))))
          · rw [pa_eq] at e
            exact br_t rfl (br_t rfl (nm_r (nI_1 i) (keep (by omega) (by omega))))
        · rw [pa_le] at c1
          unfold wY_best_53 wY_best_58 wY_best_100 wY_best_101
          refine br_f (nI_pos (by omega)) ⟨hv i (by omega), hv m (by omega), ?_⟩
          rw [nI_clamp (show m < 2 ^ 31 by omega), nI_clamp (show i < 2 ^ 31 by omega)]
          refine br_c (fun e => ⟨hv i (by omega), hv m (by omega), br_c (fun g2 => ?_) (fun g2 => ?_)⟩) (fun e => ?_)
          · exact br_f (by decide) (nm_r (nI_1 i) (new (by omega)))
          · exact br_f (by decide) (nm_r (nI_1 i) (new (by omega)))
          · exact br_f (by decide) (nm_r (nI_1 i) (new (by omega)))
      · refine br_t (by decide) ?_
        unfold wY_best_53 wY_best_58 wY_best_100 wY_best_101
        exact br_t (by decide) (br_f (by decide) (nm_r (nI_1 i) (ih (i + 1) (nI i) (by omega) (yb_first s2 (by omega) gi))))
    · exact br_t rfl (nm_r (nI_1 i) (ih (i + 1) f (by omega) (yb_out s (pa_inF g))))
theorem ym_best {n : Nat} {K V : Nat → Int32} {L : List (Int32 × Int32)} (hL : pa_L L) (hY : (pa_l K V n).Perm L) (lo hi : Int32) {post : Int32 → Prop} (H : ∀ r, sp_best L lo hi r → post r) : wpY_best post (nI n, K, V) lo hi :=
  ⟨n + 1, ym_bestL hL hY H n 0 (-1) (by omega) yb_0⟩
theorem ym_slD {n : Nat} {K V : Nat → Int32} {lo hi b c : Int32} {post : Int32 → SY → Prop} (hn : n ≤ 48) (H : ∀ K1, (∀ i, i < n → K1 i = if pa_in lo hi (K i, V i) = true then K i + b else K i) → post c (nI n, K1, V)) : ∀ d i K1, i + d = n → (∀ j, j < i → K1 j = if pa_in lo hi (K j, V j) = true then K j + b else K j) → (∀ j, i ≤ j → K1 j = K j) → wY_slide_154 post lo hi b c (nI n) (d + 1) (nI i) K1 V := by
  intro d
  induction d with
  | zero =>
    intro i K1 hi h1 h2
    have : i = n := by omega
    subst this
    exact br_t (nI_le (by omega) (by omega)) (H K1 h1)
  | succ d ih =>
    intro i K1 hi h1 h2
    have eK := h2 i (Nat.le_refl _)
    refine br_f (nI_ge (by omega) (by omega)) ?_
    rw [nI_clamp (show i < 2 ^ 31 by omega)]
    refine ⟨vp_in_nI (by omega) (by omega), ?_⟩
    refine ya_in (fun g => ?_) (fun g => ?_)
    · rw [eK] at g
      refine br_f (by decide) ⟨vp_in_nI (by omega) (by omega), vp_in_nI (by omega) (by omega), nm_e (nm_r (nI_1 i) ?_)⟩
      refine ih (i + 1) _ (by omega) (fun j hj => ?_) (fun j hj => ?_)
      · by_cases z : j = i
        · subst z
          rw [pk_us, if_pos (pa_inT.mpr g), eK]
        · rw [pk_un z]
          exact h1 j (by omega)
      · rw [pk_un (by omega)]
        exact h2 j (by omega)
    · rw [eK] at g
      refine br_t rfl (nm_r (nI_1 i) ?_)
      refine ih (i + 1) _ (by omega) (fun j hj => ?_) (fun j hj => h2 j (by omega))
      by_cases z : j = i
      · subst z
        rw [if_neg (fun y => g (pa_inT.mp y)), eK]
      · exact h1 j (by omega)
theorem ym_slC {n i : Nat} {K V : Nat → Int32} {lo hi b c : Int32} {post : Int32 → SY → Prop} {J : Int32 → Int32 → Prop} (hn : n ≤ 48) (hi' : i < n) (H1 : ∀ j, j < n → K j = K i + b → ¬ (lo.toInt ≤ (K j).toInt ∧ (K j).toInt ≤ hi.toInt) → post (-2) (nI n, K, V)) (hJ : (∀ j, j < n → K j = K i + b → lo.toInt ≤ (K j).toInt ∧ (K j).toInt ≤ hi.toInt) → J c (nI (i + 1))) : ∀ d j, j + d = n → (∀ m, m < j → K m = K i + b → lo.toInt ≤ (K m).toInt ∧ (K m).toInt ≤ hi.toInt) → wY_slide_92 post J lo hi b c (nI i) (nI n) K V (d + 1) (nI j) := by
  intro d
  induction d with
  | zero =>
    intro j hj h
    exact br_t (nI_le (by omega) (by omega)) (nm_r (nI_1 i) (hJ (fun m hm => h m (by omega))))
  | succ d ih =>
    intro j hj h
    refine br_f (nI_ge (by omega) (by omega)) ?_
    rw [nI_clamp (show i < 2 ^ 31 by omega), nI_clamp (show j < 2 ^ 31 by omega)]
    refine ⟨vp_in_nI (by omega) (by omega), vp_in_nI (by omega) (by omega), br_c (fun e => ?_) (fun e => ?_)⟩
    · refine ⟨vp_in_nI (by omega) (by omega), ?_⟩
      refine ya_in (fun g => ?_) (fun g => ?_)
      · refine br_f (by decide) (nm_r (nI_1 j) (ih (j + 1) (by omega) (fun m hm => ?_)))
        by_cases z : m = j
        · rw [z]
          exact fun _ => g
        · exact h m (by omega)
      · exact br_t rfl (H1 j (by omega) e g)
    · refine nm_r (nI_1 j) (ih (j + 1) (by omega) (fun m hm => ?_))
      by_cases z : m = j
      · rw [z]
        exact fun y => absurd y e
      · exact h m (by omega)
theorem ym_slB {n : Nat} {K V : Nat → Int32} {L : List (Int32 × Int32)} (hL : pa_L L) (hY : (pa_l K V n).Perm L) {lo hi b : Int32} {post : Int32 → SY → Prop} (hb : ¬ ab_bad L lo hi b) (H : ∀ r L1, ab_sl L lo hi b r L1 → ∀ n1 K1 V1, (pa_l K1 V1 n1).Perm L1 → post r (nI n1, K1, V1)) : ∀ d i, i + d = n → (∀ j, j < i → (lo.toInt ≤ (K j).toInt ∧ (K j).toInt ≤ hi.toInt) → ∀ m, m < n → K m = K j + b → lo.toInt ≤ (K m).toInt ∧ (K m).toInt ≤ hi.toInt) → wY_slide_58 post lo hi b (nI n) K V (d + 1) (nI ((pa_l K V i).countP (pa_in lo hi))) (nI i) := by
  have hn := pa_n48 hL hY
  intro d
  induction d with
  | zero =>
    intro i hi' h
    have : i = n := by omega
    subst this
    have hm := ys_met0 hY h
    refine br_t (nI_le (by omega) (by omega)) ⟨i + 1, ?_⟩
    refine ym_slD (K := K) hn (fun K1 h1 => ?_) i 0 K (by omega) (fun j hj => absurd hj (Nat.not_lt_zero j)) (fun _ _ => rfl)
    rw [hY.countP_eq]
    exact H _ _ (Or.inr (Or.inr ⟨hb, hm, rfl, rfl⟩)) i K1 V (pa_mvP hY h1)
  | succ d ih =>
    intro i hi' h
    have e := ys_cnt (K := K) (V := V) (i := i) (lo := lo) (hi := hi)
    refine br_f (nI_ge (by omega) (by omega)) ?_
    rw [nI_clamp (show i < 2 ^ 31 by omega)]
    refine ⟨vp_in_nI (by omega) (by omega), ?_⟩
    refine ya_in (fun g => ?_) (fun g => ?_)
    · rw [if_pos g] at e
      refine br_f (by decide) (nm_r (nI_1 _) ?_)
      rw [← e]
      refine ⟨n + 1, ?_⟩
      refine ym_slC hn (by omega) (fun j hj ej g2 => ?_) (fun h2 => ?_) n 0 (by omega) (fun m hm => absurd hm (Nat.not_lt_zero m))
      · exact H _ _ (Or.inr (Or.inl ⟨hb, ys_met1 hY (by omega) g hj ej g2, rfl, rfl⟩)) n K V hY
      · refine ih (i + 1) (by omega) (fun j hj => ?_)
        by_cases z : j = i
        · rw [z]
          exact fun _ => h2
        · exact h j (by omega)
    · rw [if_neg g] at e
      replace e := e.trans (Nat.add_zero _)
      refine br_t rfl (nm_r (nI_1 i) ?_)
      rw [← e]
      refine ih (i + 1) (by omega) (fun j hj => ?_)
      by_cases z : j = i
      · rw [z]
        exact fun y => absurd y g
      · exact h j (by omega)
theorem ym_slA {n : Nat} {K V : Nat → Int32} {L : List (Int32 × Int32)} (hL : pa_L L) (hY : (pa_l K V n).Perm L) {lo hi b : Int32} {post : Int32 → SY → Prop} (H : ∀ r L1, ab_sl L lo hi b r L1 → ∀ n1 K1 V1, (pa_l K1 V1 n1).Perm L1 → post r (nI n1, K1, V1)) : ∀ d i, i + d = n → (∀ j, j < i → (lo.toInt ≤ (K j).toInt ∧ (K j).toInt ≤ hi.toInt) → -1000 ≤ (K j + b).toInt ∧ (K j + b).toInt ≤ 1000) → wY_slide_3 post lo hi b (nI n) K V (d + 1) (nI i) := by
  have hn := pa_n48 hL hY
  intro d
  induction d with
  | zero =>
    intro i hi' h
    have : i = n := by omega
    subst this
    have hb := ys_bad0 hY h
    refine br_t (nI_le (by omega) (by omega)) ⟨i + 1, ?_⟩
    exact ym_slB hL hY hb H i 0 (by omega) (fun j hj => absurd hj (Nat.not_lt_zero j))
  | succ d ih =>
    intro i hi' h
    refine br_f (nI_ge (by omega) (by omega)) ?_
    rw [nI_clamp (show i < 2 ^ 31 by omega)]
    refine ⟨vp_in_nI (by omega) (by omega), ?_⟩
    refine ya_in (fun g => ?_) (fun g => ?_)
    · refine br_f (by decide) ⟨vp_in_nI (by omega) (by omega), ?_⟩
      refine ya_good (fun g2 => ?_) (fun g2 => ?_)
      · refine br_f (by decide) (nm_r (nI_1 i) (ih (i + 1) (by omega) (fun j hj => ?_)))
        by_cases z : j = i
        · rw [z]
          exact fun _ => g2
        · exact h j (by omega)
      · exact br_t rfl (H _ _ (Or.inl ⟨ys_bad1 hY (by omega) g g2, rfl, rfl⟩) n K V hY)
    · refine br_t rfl (nm_r (nI_1 i) (ih (i + 1) (by omega) (fun j hj => ?_)))
      by_cases z : j = i
      · rw [z]
        exact fun y => absurd y g
      · exact h j (by omega)
theorem ym_slide {n : Nat} {K V : Nat → Int32} {L : List (Int32 × Int32)} (hL : pa_L L) (hY : (pa_l K V n).Perm L) (lo hi b : Int32) {post : Int32 → SY → Prop} (H : ∀ r L1, ab_sl L lo hi b r L1 → ∀ n1 K1 V1, (pa_l K1 V1 n1).Perm L1 → post r (nI n1, K1, V1)) : wpY_slide post (nI n, K, V) lo hi b :=
  ⟨n + 1, ym_slA hL hY H n 0 (by omega) (fun j hj => absurd hj (Nat.not_lt_zero j))⟩
end
section
/-! the relation: both states show one list -/
def i_Rel (k : Nat) (u : SX) (v : SY) : Prop := ∃ L, pa_L L ∧ (∃ n K V, u = (nI n, K, V) ∧ pa_X n K V L) ∧ (∃ n K V, v = (nI n, K, V) ∧ (pa_l K V n).Perm L)
theorem i_up {k : Nat} {u : SX} {v : SY} (h : i_Rel k u v) : i_Rel (k + 5) u v := h
theorem i_vc0 : wpX_init (fun u => wpY_init (fun v => i_Rel 0 u v)) := by
  refine ⟨[], ⟨by decide, fun q hq => absurd hq List.not_mem_nil, List.Pairwise.nil⟩, ⟨0, _, _, rfl, fun i j _ hj => absurd hj (Nat.not_lt_zero j), List.Perm.refl _⟩, ⟨0, _, _, rfl, List.Perm.refl _⟩⟩
theorem i_vc_put {k : Nat} {u : SX} {v : SY} (I : i_Rel k u v) (hk : k + 5 ≤ 2560) (v1 : Int32) (v2 : Int32) : wpX_put (fun r u' => wpY_put (fun r' v' => r' = r ∧ i_Rel (k + 5) u' v') v v1 v2) u v1 v2 := by
  have I2 := I
  obtain ⟨L, hL, ⟨n, K, V, rfl, hX⟩, ⟨n', K', V', rfl, hY⟩⟩ := I
  refine xm_put hL hX v1 v2 (fun n1 K1 V1 h1 => ?_)
  refine ym_put hL hY v1 v2 (fun n2 K2 V2 h2 => ?_)
  exact ⟨rfl, _, ab_putL hL v1 v2, ⟨n1, K1, V1, rfl, h1⟩, ⟨n2, K2, V2, rfl, h2⟩⟩
theorem i_vc_series {k : Nat} {u : SX} {v : SY} (I : i_Rel k u v) (hk : k + 5 ≤ 2560) (v1 : Int32) (v2 : Int32) (v3 : Int32) (v4 : Int32) : wpX_series (fun r u' => wpY_series (fun r' v' => r' = r ∧ i_Rel (k + 5) u' v') v v1 v2 v3 v4) u v1 v2 v3 v4 := by
  have I2 := I
  obtain ⟨L, hL, ⟨n, K, V, rfl, hX⟩, ⟨n', K', V', rfl, hY⟩⟩ := I
  refine xm_series hL hX v1 v2 v3 v4 (fun n1 K1 V1 h1 => ?_)
  refine ym_series hL hY v1 v2 v3 v4 (fun n2 K2 V2 h2 => ?_)
  exact ⟨rfl, _, ab_seriesL hL v1 v2 v3 v4, ⟨n1, K1, V1, rfl, h1⟩, ⟨n2, K2, V2, rfl, h2⟩⟩
theorem i_vc_remove {k : Nat} {u : SX} {v : SY} (I : i_Rel k u v) (hk : k + 5 ≤ 2560) (v1 : Int32) : wpX_remove (fun r u' => wpY_remove (fun r' v' => r' = r ∧ i_Rel (k + 5) u' v') v v1) u v1 := by
  have I2 := I
  obtain ⟨L, hL, ⟨n, K, V, rfl, hX⟩, ⟨n', K', V', rfl, hY⟩⟩ := I
  refine xm_remove hL hX v1 (fun n1 K1 V1 h1 => ?_)
  refine ym_remove hL hY v1 (fun n2 K2 V2 h2 => ?_)
  exact ⟨rfl, _, ab_remL hL v1, ⟨n1, K1, V1, rfl, h1⟩, ⟨n2, K2, V2, rfl, h2⟩⟩
theorem i_vc_clear {k : Nat} {u : SX} {v : SY} (I : i_Rel k u v) (hk : k + 5 ≤ 2560) (v1 : Int32) (v2 : Int32) : wpX_clear (fun r u' => wpY_clear (fun r' v' => r' = r ∧ i_Rel (k + 5) u' v') v v1 v2) u v1 v2 := by
  have I2 := I
  obtain ⟨L, hL, ⟨n, K, V, rfl, hX⟩, ⟨n', K', V', rfl, hY⟩⟩ := I
  refine xm_clear hL hX v1 v2 (fun n1 K1 V1 h1 => ?_)
  refine ym_clear hL hY v1 v2 (fun n2 K2 V2 h2 => ?_)
  exact ⟨rfl, _, pa_Lfil _ hL, ⟨n1, K1, V1, rfl, h1⟩, ⟨n2, K2, V2, rfl, h2⟩⟩
theorem i_vc_slide {k : Nat} {u : SX} {v : SY} (I : i_Rel k u v) (hk : k + 5 ≤ 2560) (v1 : Int32) (v2 : Int32) (v3 : Int32) : wpX_slide (fun r u' => wpY_slide (fun r' v' => r' = r ∧ i_Rel (k + 5) u' v') v v1 v2 v3) u v1 v2 v3 := by
  have I2 := I
  obtain ⟨L, hL, ⟨n, K, V, rfl, hX⟩, ⟨n', K', V', rfl, hY⟩⟩ := I
  refine xm_slide hL hX v1 v2 v3 (fun r L1 s n1 K1 V1 h1 => ?_)
  refine ym_slide hL hY v1 v2 v3 (fun r1 L2 s1 n2 K2 V2 h2 => ?_)
  obtain ⟨e1, e2⟩ := ab_slU s s1
  rw [e2] at h2
  exact ⟨e1, L1, ab_slL hL s, ⟨n1, K1, V1, rfl, h1⟩, ⟨n2, K2, V2, rfl, h2⟩⟩
theorem i_vc_raise {k : Nat} {u : SX} {v : SY} (I : i_Rel k u v) (hk : k + 5 ≤ 2560) (v1 : Int32) (v2 : Int32) (v3 : Int32) : wpX_raise (fun r u' => wpY_raise (fun r' v' => r' = r ∧ i_Rel (k + 5) u' v') v v1 v2 v3) u v1 v2 v3 := by
  have I2 := I
  obtain ⟨L, hL, ⟨n, K, V, rfl, hX⟩, ⟨n', K', V', rfl, hY⟩⟩ := I
  refine xm_raise hL hX v1 v2 v3 (fun n1 K1 V1 h1 => ?_)
  refine ym_raise hL hY v1 v2 v3 (fun n2 K2 V2 h2 => ?_)
  exact ⟨rfl, _, ab_upL hL, ⟨n1, K1, V1, rfl, h1⟩, ⟨n2, K2, V2, rfl, h2⟩⟩
theorem i_vc_size {k : Nat} {u : SX} {v : SY} (I : i_Rel k u v) (hk : k + 5 ≤ 2560) : wpX_size (fun r => wpY_size (fun r' => r' = r ∧ i_Rel (k + 5) u v) v) u := by
  have I2 := I
  obtain ⟨L, hL, ⟨n, K, V, rfl, hX⟩, ⟨n', K', V', rfl, hY⟩⟩ := I
  show nI n' = nI n ∧ _
  exact ⟨by rw [pa_n hX.2, pa_n hY], I2⟩
theorem i_vc_has {k : Nat} {u : SX} {v : SY} (I : i_Rel k u v) (hk : k + 5 ≤ 2560) (v1 : Int32) : wpX_has (fun r => wpY_has (fun r' => r' = r ∧ i_Rel (k + 5) u v) v v1) u v1 := by
  have I2 := I
  obtain ⟨L, hL, ⟨n, K, V, rfl, hX⟩, ⟨n', K', V', rfl, hY⟩⟩ := I
  exact xm_has hL hX v1 (ym_has hL hY v1 ⟨rfl, I2⟩)
theorem i_vc_get {k : Nat} {u : SX} {v : SY} (I : i_Rel k u v) (hk : k + 5 ≤ 2560) (v1 : Int32) : wpX_get (fun r => wpY_get (fun r' => r' = r ∧ i_Rel (k + 5) u v) v v1) u v1 := by
  have I2 := I
  obtain ⟨L, hL, ⟨n, K, V, rfl, hX⟩, ⟨n', K', V', rfl, hY⟩⟩ := I
  refine xm_get hL hX v1 (fun r s => ?_)
  refine ym_get hL hY v1 (fun r1 s1 => ?_)
  exact ⟨sp_get_u hL.2.2 hY s s1, I2⟩
theorem i_vc_rank {k : Nat} {u : SX} {v : SY} (I : i_Rel k u v) (hk : k + 5 ≤ 2560) (v1 : Int32) : wpX_rank (fun r => wpY_rank (fun r' => r' = r ∧ i_Rel (k + 5) u v) v v1) u v1 := by
  have I2 := I
  obtain ⟨L, hL, ⟨n, K, V, rfl, hX⟩, ⟨n', K', V', rfl, hY⟩⟩ := I
  exact xm_rank hL hX v1 (ym_rank hL hY v1 ⟨rfl, I2⟩)
theorem i_vc_select {k : Nat} {u : SX} {v : SY} (I : i_Rel k u v) (hk : k + 5 ≤ 2560) (v1 : Int32) : wpX_select (fun r => wpY_select (fun r' => r' = r ∧ i_Rel (k + 5) u v) v v1) u v1 := by
  have I2 := I
  obtain ⟨L, hL, ⟨n, K, V, rfl, hX⟩, ⟨n', K', V', rfl, hY⟩⟩ := I
  refine xm_select hL hX v1 (fun r s => ?_)
  refine ym_select hL hY v1 (fun r1 s1 => ?_)
  exact ⟨sp_sel_u hL hX s s1, I2⟩
theorem i_vc_next {k : Nat} {u : SX} {v : SY} (I : i_Rel k u v) (hk : k + 5 ≤ 2560) (v1 : Int32) : wpX_next (fun r => wpY_next (fun r' => r' = r ∧ i_Rel (k + 5) u v) v v1) u v1 := by
  have I2 := I
  obtain ⟨L, hL, ⟨n, K, V, rfl, hX⟩, ⟨n', K', V', rfl, hY⟩⟩ := I
  refine xm_next hL hX v1 (fun r s => ?_)
  refine ym_next hL hY v1 (fun r1 s1 => ?_)
  exact ⟨sp_next_u s s1, I2⟩
theorem i_vc_previous {k : Nat} {u : SX} {v : SY} (I : i_Rel k u v) (hk : k + 5 ≤ 2560) (v1 : Int32) : wpX_previous (fun r => wpY_previous (fun r' => r' = r ∧ i_Rel (k + 5) u v) v v1) u v1 := by
  have I2 := I
  obtain ⟨L, hL, ⟨n, K, V, rfl, hX⟩, ⟨n', K', V', rfl, hY⟩⟩ := I
  refine xm_previous hL hX v1 (fun r s => ?_)
  refine ym_previous hL hY v1 (fun r1 s1 => ?_)
  exact ⟨sp_prev_u s s1, I2⟩
theorem i_vc_count {k : Nat} {u : SX} {v : SY} (I : i_Rel k u v) (hk : k + 5 ≤ 2560) (v1 : Int32) (v2 : Int32) : wpX_count (fun r => wpY_count (fun r' => r' = r ∧ i_Rel (k + 5) u v) v v1 v2) u v1 v2 := by
  have I2 := I
  obtain ⟨L, hL, ⟨n, K, V, rfl, hX⟩, ⟨n', K', V', rfl, hY⟩⟩ := I
  exact xm_count hL hX v1 v2 (ym_count hL hY v1 v2 ⟨rfl, I2⟩)
theorem i_vc_sum {k : Nat} {u : SX} {v : SY} (I : i_Rel k u v) (hk : k + 5 ≤ 2560) (v1 : Int32) (v2 : Int32) : wpX_sum (fun r => wpY_sum (fun r' => r' = r ∧ i_Rel (k + 5) u v) v v1 v2) u v1 v2 := by
  have I2 := I
  obtain ⟨L, hL, ⟨n, K, V, rfl, hX⟩, ⟨n', K', V', rfl, hY⟩⟩ := I
  exact xm_sum hL hX v1 v2 (ym_sum hL hY v1 v2 ⟨rfl, I2⟩)
theorem i_vc_best {k : Nat} {u : SX} {v : SY} (I : i_Rel k u v) (hk : k + 5 ≤ 2560) (v1 : Int32) (v2 : Int32) : wpX_best (fun r => wpY_best (fun r' => r' = r ∧ i_Rel (k + 5) u v) v v1 v2) u v1 v2 := by
  have I2 := I
  obtain ⟨L, hL, ⟨n, K, V, rfl, hX⟩, ⟨n', K', V', rfl, hY⟩⟩ := I
  refine xm_best hL hX v1 v2 (fun r s => ?_)
  refine ym_best hL hY v1 v2 (fun r1 s1 => ?_)
  exact ⟨sp_best_u s s1, I2⟩
theorem i_vc_closest {k : Nat} {u : SX} {v : SY} (I : i_Rel k u v) (hk : k + 5 ≤ 2560) : wpX_closest (fun r => wpY_closest (fun r' => r' = r ∧ i_Rel (k + 5) u v) v) u := by
  have I2 := I
  obtain ⟨L, hL, ⟨n, K, V, rfl, hX⟩, ⟨n', K', V', rfl, hY⟩⟩ := I
  refine xm_closest hL hX (fun r s => ?_)
  refine ym_closest hL hY (fun r1 s1 => ?_)
  exact ⟨sp_close_u s s1, I2⟩
theorem i_vc_gap {k : Nat} {u : SX} {v : SY} (I : i_Rel k u v) (hk : k + 5 ≤ 2560) (v1 : Int32) : wpX_gap (fun r => wpY_gap (fun r' => r' = r ∧ i_Rel (k + 5) u v) v v1) u v1 := by
  have I2 := I
  obtain ⟨L, hL, ⟨n, K, V, rfl, hX⟩, ⟨n', K', V', rfl, hY⟩⟩ := I
  refine xm_gap hL hX v1 (fun r s => ?_)
  refine ym_gap hL hY v1 (fun r1 s1 => ?_)
  exact ⟨sp_gap_u s s1, I2⟩
end
