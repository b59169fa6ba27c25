/-! rows pasted from kit/rows: stores, numbers, branches by naturals; then numbers of our own -/
theorem pk_us {f : Nat → Int32} {k : Nat} {x : Int32} : upd f k x k = x := if_pos rfl
theorem pk_un {f : Nat → Int32} {k j : Nat} {x : Int32} (h : j ≠ k) : upd f k x j = f j := if_neg h
theorem pk_sub {a b : Nat} (h : b ≤ a) : nI a - nI b = nI (a - b) := by
  obtain ⟨c, rfl⟩ : ∃ c, a = c + b := ⟨a - b, by omega⟩
  rw [← nI_add, Int32.add_sub_cancel, Nat.add_sub_cancel]
theorem pk_m1 (n : Nat) : nI (n + 1) + (-1) = nI n := by
  rw [← nI_1, Int32.add_assoc, show (1 : Int32) + (-1) = 0 from rfl, Int32.add_zero]
theorem pk_sub_toInt {a b : Nat} (ha : a < 2 ^ 30) (hb : b < 2 ^ 30) : (nI a - nI b).toInt = (a : Int) - b := by
  rw [Int32.toInt_sub, nI_toInt (by omega), nI_toInt (by omega)]
  exact Int.bmod_eq_of_le (by omega) (by omega)
theorem pk_ix (x : Int32) {n : Nat} (hn : n < 2 ^ 31) : x < 0 ∨ nI n ≤ x ∨ ∃ j : Nat, j < n ∧ x = nI j := by
  by_cases h : x < 0
  · exact Or.inl h
  · obtain ⟨j, hj, rfl⟩ := nI_of h
    by_cases h2 : j < n
    · exact Or.inr (Or.inr ⟨j, h2, rfl⟩)
    · exact Or.inr (Or.inl (nI_le (by omega) hj))
theorem pk_le {x y : Int32} {A B : Prop} (a b : Nat) (f : a ≤ b → A) (g : b < a → B) (hx : x = nI a := by rfl) (hy : y = nI b := by rfl) (ha : a < 2 ^ 31 := by omega) (hb : b < 2 ^ 31 := by omega) : (x ≤ y → A) ∧ (¬ x ≤ y → B) := by
  subst hx hy
  rw [nI_leI ha hb]
  exact ⟨f, fun z => g (by omega)⟩
theorem pk_lt {x y : Int32} {A B : Prop} (a b : Nat) (f : a < b → A) (g : b ≤ a → B) (hx : x = nI a := by rfl) (hy : y = nI b := by rfl) (ha : a < 2 ^ 31 := by omega) (hb : b < 2 ^ 31 := by omega) : (x < y → A) ∧ (¬ x < y → B) := by
  subst hx hy
  rw [nI_ltI ha hb]
  exact ⟨f, fun z => g (by omega)⟩
theorem pk_eq {x y : Int32} {A B : Prop} (a b : Nat) (f : a = b → A) (g : a ≠ b → B) (hx : x = nI a := by rfl) (hy : y = nI b := by rfl) (ha : a < 2 ^ 31 := by omega) (hb : b < 2 ^ 31 := by omega) : (x = y → A) ∧ (¬ x = y → B) := by
  subst hx hy
  rw [nI_eq ha hb]
  exact ⟨f, g⟩
theorem pk_in {x : Int32} (n N : Nat) (h : n < N) (hx : x = nI n := by rfl) (hN : N < 2 ^ 31 := by omega) : vp_in x N := by
  subst hx
  exact vp_in_nI h hN
theorem pk_cl {x : Int32} (n : Nat) (hx : x = nI n := by rfl) (h : n < 2 ^ 31 := by omega) : x.toNatClampNeg = n := by
  subst hx
  exact nI_clamp h
theorem pa_m1000 : (-1000 : Int32).toInt = -1000 := by first | rfl | decide | decide +kernel
theorem pa_p1000 : (1000 : Int32).toInt = 1000 := by first | rfl | decide | decide +kernel
theorem pa_m2000 : (-2000 : Int32).toInt = -2000 := by first | rfl | decide | decide +kernel
theorem pa_m100 : (-100 : Int32).toInt = -100 := by first | rfl | decide | decide +kernel
theorem pa_p100 : (100 : Int32).toInt = 100 := by first | rfl | decide | decide +kernel
theorem pa_p48 : (48 : Int32).toInt = 48 := by first | rfl | decide | decide +kernel
theorem pa_p0 : (0 : Int32).toInt = 0 := by first | rfl | decide | decide +kernel
theorem pa_p1 : (1 : Int32).toInt = 1 := by first | rfl | decide | decide +kernel
theorem pa_n1 : (-1 : Int32).toInt = -1 := by first | rfl | decide | decide +kernel
theorem pa_L1 : (-1000 : Int64).toInt = -1000 := by first | rfl | decide | decide +kernel
theorem pa_L2 : (1000 : Int64).toInt = 1000 := by first | rfl | decide | decide +kernel
theorem pa_48 : nI 48 = 48 := by first | rfl | decide | decide +kernel
theorem pa_lt {x y : Int32} : x < y ↔ x.toInt < y.toInt := Int32.lt_iff_toInt_lt
theorem pa_le {x y : Int32} : x ≤ y ↔ x.toInt ≤ y.toInt := Int32.le_iff_toInt_le
theorem pa_eq {x y : Int32} : x = y ↔ x.toInt = y.toInt := Int32.toInt_inj.symm
theorem pa_bd (x : Int32) : -2147483648 ≤ x.toInt ∧ x.toInt < 2147483648 := ⟨by have := x.le_toInt; omega, by have := x.toInt_lt; omega⟩
theorem pa_add {k b : Int32} (h1 : -2147483648 ≤ k.toInt + b.toInt) (h2 : k.toInt + b.toInt < 2147483648) : (k + b).toInt = k.toInt + b.toInt := by
  rw [Int32.toInt_add]
  exact Int.bmod_eq_of_le (by omega) (by omega)
theorem pa_sub {k b : Int32} (h1 : -2147483648 ≤ k.toInt - b.toInt) (h2 : k.toInt - b.toInt < 2147483648) : (k - b).toInt = k.toInt - b.toInt := by
  rw [Int32.toInt_sub]
  exact Int.bmod_eq_of_le (by omega) (by omega)
theorem pa_bm {x y : Int} (h : y = x.bmod (2 ^ 32)) : y = x ∨ y = x - 4294967296 ∨ y = x + 4294967296 ∨ x < -4294967296 ∨ 4294967296 < x := by
  rw [Int.bmod_def] at h
  split at h <;> omega
theorem pa_ga {k b : Int32} (h1 : -1000 ≤ k.toInt) (h2 : k.toInt ≤ 1000) : (-1000 ≤ (k + b).toInt ∧ (k + b).toInt ≤ 1000) ↔ (-1000 ≤ k.toInt + b.toInt ∧ k.toInt + b.toInt ≤ 1000) := by
  have e := pa_bm (Int32.toInt_add k b)
  have hb := pa_bd b
  have hs := pa_bd (k + b)
  constructor
  · intro ⟨a, c⟩
    omega
  · intro ⟨a, c⟩
    rw [pa_add (by omega) (by omega)]
    exact ⟨a, c⟩
theorem pa_gl {k b : Int32} : (k.toInt64 + b.toInt64).toInt = k.toInt + b.toInt := by
  rw [Int64.toInt_add, Int32.toInt_toInt64, Int32.toInt_toInt64]
  have h1 := pa_bd k
  have h2 := pa_bd b
  exact Int.bmod_eq_of_le (by omega) (by omega)
