/-! X's own small methods -/
theorem xa_falL {n : Nat} {K V : Nat → Int32} {b : Int32} {post : Int32 → Prop} (hn : n ≤ 48) (H : ∀ p, p ≤ n → (∀ i, i < p → (K i).toInt < b.toInt) → (p < n → b.toInt ≤ (K p).toInt) → post (nI p)) : ∀ d i, i + d = n → (∀ j, j < i → (K j).toInt < b.toInt) → wX_firstAtLeast_2 post b (nI n) K V (d + 1) (nI i) := by
  intro d
  induction d with
  | zero =>
    intro i hi hj
    exact br_t (nI_le (by omega) (by omega)) (H i (by omega) hj (by omega))
  | succ d ih =>
    intro i hi hj
    refine br_f (nI_ge (by omega) (by omega)) ⟨vp_in_nI (by omega) (by omega), br_c (fun c => ?_) (fun c => ?_)⟩
    · rw [nI_clamp (by omega), pa_le] at c
      exact H i (by omega) hj (fun _ => c)
    · rw [nI_clamp (by omega), pa_le] at c
      refine nm_r (nI_1 i) (ih (i + 1) (by omega) (fun j h => ?_))
      by_cases z : j = i
      · rw [z]
        omega
      · exact hj j (by omega)
theorem xa_fal {n : Nat} {K V : Nat → Int32} (b : Int32) {post : Int32 → Prop} (hn : n ≤ 48) (H : ∀ p, p ≤ n → (∀ i, i < p → (K i).toInt < b.toInt) → (p < n → b.toInt ≤ (K p).toInt) → post (nI p)) : wpX_firstAtLeast post (nI n, K, V) b :=
  ⟨n + 1, xa_falL hn H n 0 (by omega) (fun j hj => absurd hj (Nat.not_lt_zero j))⟩
theorem xa_eorL {n p : Nat} {K V : Nat → Int32} {b : Int32} {post : Int32 → Prop} (hn : n ≤ 48) (H : ∀ e, p ≤ e → e ≤ n → (∀ i, p ≤ i → i < e → (K i).toInt ≤ b.toInt) → (e < n → b.toInt < (K e).toInt) → post (nI e)) : ∀ d i, i + d = n → p ≤ i → (∀ j, p ≤ j → j < i → (K j).toInt ≤ b.toInt) → wX_endOfRange_2 post b (nI n) K V (d + 1) (nI i) := by
  intro d
  induction d with
  | zero =>
    intro i hi hp hj
    exact br_t (nI_le (by omega) (by omega)) (H i hp (by omega) hj (by omega))
  | succ d ih =>
    intro i hi hp hj
    refine br_f (nI_ge (by omega) (by omega)) ⟨vp_in_nI (by omega) (by omega), br_c (fun c => ?_) (fun c => ?_)⟩
    · rw [nI_clamp (by omega), pa_lt] at c
      exact H i hp (by omega) hj (fun _ => c)
    · rw [nI_clamp (by omega), pa_lt] at c
      refine nm_r (nI_1 i) (ih (i + 1) (by omega) (by omega) (fun j h1 h => ?_))
      by_cases z : j = i
      · rw [z]
        omega
      · exact hj j h1 (by omega)
theorem xa_eor {n p : Nat} {K V : Nat → Int32} (b : Int32) {post : Int32 → Prop} (hn : n ≤ 48) (hp : p ≤ n) (H : ∀ e, p ≤ e → e ≤ n → (∀ i, p ≤ i → i < e → (K i).toInt ≤ b.toInt) → (e < n → b.toInt < (K e).toInt) → post (nI e)) : wpX_endOfRange post (nI n, K, V) (nI p) b :=
  ⟨n - p + 1, xa_eorL hn H (n - p) p (by omega) (Nat.le_refl _) (fun j h1 h2 => by omega)⟩
theorem xa_good {x : Int64} {post : Int32 → Prop} (H1 : -1000 ≤ x.toInt ∧ x.toInt ≤ 1000 → post 1) (H0 : ¬ (-1000 ≤ x.toInt ∧ x.toInt ≤ 1000) → post 0) : wpX_isGood post x := by
  refine br_c (fun c => ?_) (fun c => br_c (fun d => ?_) (fun d => ?_))
  · rw [Int64.lt_iff_toInt_lt, pa_L1] at c
    exact H0 (by omega)
  · rw [Int64.lt_iff_toInt_lt, pa_L2] at d
    exact H0 (by omega)
  · rw [Int64.lt_iff_toInt_lt, pa_L1] at c
    rw [Int64.lt_iff_toInt_lt, pa_L2] at d
    exact H1 (by omega)
theorem xa_key {n p : Nat} {K V : Nat → Int32} {k : Int32} {post : Int32 → Prop} (hn : n ≤ 48) (hp : p ≤ n) (H1 : p < n → K p = k → post 1) (H0 : (p < n → K p ≠ k) → post 0) : wpX_isKeyAt post (nI n, K, V) (nI p) k := by
  refine br_c (fun c => ?_) (fun c => ?_)
  · rw [nI_leI (by omega) (by omega)] at c
    exact H0 (fun z => by omega)
  · rw [nI_leI (by omega) (by omega)] at c
    refine ⟨vp_in_nI (by omega) (by omega), br_c (fun e => ?_) (fun e => ?_)⟩
    · rw [nI_clamp (by omega)] at e
      exact H1 (by omega) e
    · rw [nI_clamp (by omega)] at e
      exact H0 (fun _ => e)
theorem xa_none {n p : Nat} {K V : Nat → Int32} {L : List (Int32 × Int32)} (hX : pa_X n K V L) {k : Int32} (h1 : ∀ i, i < p → (K i).toInt < k.toInt) (h2 : p < n → k.toInt ≤ (K p).toInt) (h3 : p < n → K p ≠ k) : ∀ q, q ∈ L → q.1 ≠ k := by
  intro q hq e
  obtain ⟨i, hi, rfl⟩ := pa_idx hX.2 hq
  have e' : K i = k := e
  by_cases c : i < p
  · have := h1 i c
    rw [e'] at this
    omega
  · by_cases z : p = i
    · rw [← z] at e'
      exact h3 (by omega) e'
    · have a := hX.1 p i (by omega) hi
      have b := h2 (by omega)
      rw [e'] at a
      omega
theorem xa_keyAt {n : Nat} {K V : Nat → Int32} {x : Int32} {post : Int32 → Prop} (hn : n ≤ 48) (H1 : ∀ i, i < n → x = nI i → post (K i)) (H0 : (∀ i, i < n → x ≠ nI i) → post (-2000)) : wpX_keyAt post (nI n, K, V) x := by
  refine br_c (fun c => H0 (fun i hi e => ?_)) (fun c => br_c (fun d => H0 (fun i hi e => ?_)) (fun d => ?_))
  · rw [e] at c
    exact nI_pos (by omega) c
  · rw [e, nI_leI (by omega) (by omega)] at d
    omega
  · obtain ⟨j, hj, rfl⟩ := nI_of c
    rw [nI_leI (by omega) hj] at d
    refine ⟨vp_in_nI (by omega) (by omega), ?_⟩
    rw [nI_clamp hj]
    exact H1 j (by omega) rfl
/-- insertAt: the pairs from the place on move up by one -/
theorem xa_insL {n p : Nat} {K V : Nat → Int32} {k v : Int32} {post : SX → Prop} (hn : n < 48) (hp : p ≤ n) (H : ∀ K1 V1, (∀ i, i < p → K1 i = K i ∧ V1 i = V i) → (K1 p = k ∧ V1 p = v) → (∀ i, p ≤ i → i < n → K1 (i + 1) = K i ∧ V1 (i + 1) = V i) → post (nI (n + 1), K1, V1)) : ∀ d K1 V1, p + d ≤ n → (∀ j, j ≤ p + d → K1 j = K j ∧ V1 j = V j) → (∀ j, p + d ≤ j → j < n → K1 (j + 1) = K j ∧ V1 (j + 1) = V j) → wX_insertAt_6 post (nI p) k v (nI n) (d + 1) (nI (p + d)) K1 V1 := by
  intro d
  induction d with
  | zero =>
    intro K1 V1 hd h1 h2
    refine br_t (nI_le (Nat.le_refl _) (by omega)) ⟨vp_in_nI (by omega) (by omega), nm_e ⟨vp_in_nI (by omega) (by omega), nm_e (nm_r (nI_1 n) ?_)⟩⟩
    rw [nI_clamp (by omega)]
    refine H _ _ (fun i hi => ?_) ⟨pk_us, pk_us⟩ (fun i hi hin => ?_)
    · rw [pk_un (by omega), pk_un (by omega)]
      exact h1 i (by omega)
    · rw [pk_un (by omega), pk_un (by omega)]
      exact h2 i hi hin
  | succ d ih =>
    intro K1 V1 hd h1 h2
    have e1 : nI (p + (d + 1)) - 1 = nI (p + d) := nI_pred (p + d)
    refine br_f (nI_ge (by omega) (by omega)) ?_
    rw [e1, nI_clamp (show p + d < 2 ^ 31 by omega), nI_clamp (show p + (d + 1) < 2 ^ 31 by omega)]
    refine ⟨vp_in_nI (by omega) (by omega), vp_in_nI (by omega) (by omega), nm_e ⟨vp_in_nI (by omega) (by omega), vp_in_nI (by omega) (by omega), nm_e (nm_r (pk_m1 (p + d)) ?_)⟩⟩
    refine ih _ _ (by omega) (fun j hj => ?_) (fun j hj hjn => ?_)
    · rw [pk_un (by omega), pk_un (by omega)]
      exact h1 j (by omega)
    · by_cases z : j = p + d
      · subst z
        show upd K1 (p + d + 1) (K1 (p + d)) (p + d + 1) = _ ∧ upd V1 (p + d + 1) (V1 (p + d)) (p + d + 1) = _
        rw [pk_us, pk_us]
        exact h1 (p + d) (by omega)
      · rw [pk_un (by omega), pk_un (by omega)]
        exact h2 j (by omega) hjn
theorem xa_ins {n p : Nat} {K V : Nat → Int32} {k v : Int32} {post : SX → Prop} (hn : n < 48) (hp : p ≤ n) (H : ∀ K1 V1, (∀ i, i < p → K1 i = K i ∧ V1 i = V i) → (K1 p = k ∧ V1 p = v) → (∀ i, p ≤ i → i < n → K1 (i + 1) = K i ∧ V1 (i + 1) = V i) → post (nI (n + 1), K1, V1)) : wpX_insertAt post (nI n, K, V) (nI p) k v := by
  refine ⟨n - p + 1, ?_⟩
  have h := xa_insL hn hp H (n - p) K V (by omega) (fun _ _ => ⟨rfl, rfl⟩) (fun j a b => by omega)
  rw [show p + (n - p) = n by omega] at h
  exact h
/-- takeOut: the pairs behind the run move down by its width -/
theorem xa_outL {n p e : Nat} {K V : Nat → Int32} {post : SX → Prop} (hn : n ≤ 48) (hpe : p ≤ e) (hen : e ≤ n) (H : ∀ K1 V1, (∀ i, i < p → K1 i = K i ∧ V1 i = V i) → (∀ i, e ≤ i → i < n → K1 (i - (e - p)) = K i ∧ V1 (i - (e - p)) = V i) → post (nI (n - (e - p)), K1, V1)) : ∀ d i K1 V1, i + d = n → e ≤ i → (∀ j, j < p → K1 j = K j ∧ V1 j = V j) → (∀ j, e ≤ j → j < i → K1 (j - (e - p)) = K j ∧ V1 (j - (e - p)) = V j) → (∀ j, i ≤ j → j < n → K1 j = K j ∧ V1 j = V j) → wX_takeOut_7 post (nI (e - p)) (nI n) (d + 1) (nI i) K1 V1 := by
  intro d
  induction d with
  | zero =>
    intro i K1 V1 hi he h1 h2 h3
    refine br_t (nI_le (by omega) (by omega)) (nm_r (pk_sub (by omega)) ?_)
    refine H _ _ h1 (fun j a b => h2 j a (by omega))
  | succ d ih =>
    intro i K1 V1 hi he h1 h2 h3
    have e1 : nI i - nI (e - p) = nI (i - (e - p)) := pk_sub (by omega)
    refine br_f (nI_ge (by omega) (by omega)) ?_
    rw [e1, nI_clamp (show i < 2 ^ 31 by omega), nI_clamp (show i - (e - p) < 2 ^ 31 by omega)]
    refine ⟨vp_in_nI (by omega) (by omega), vp_in_nI (by omega) (by omega), nm_e ⟨vp_in_nI (by omega) (by omega), vp_in_nI (by omega) (by omega), nm_e (nm_r (nI_1 i) ?_)⟩⟩
    refine ih (i + 1) _ _ (by omega) (by omega) (fun j hj => ?_) (fun j hj hji => ?_) (fun j hj hjn => ?_)
    · rw [pk_un (by omega), pk_un (by omega)]
      exact h1 j hj
    · by_cases z : j = i
      · subst z
        rw [pk_us, pk_us]
        exact h3 j (Nat.le_refl _) (by omega)
      · rw [pk_un (by omega), pk_un (by omega)]
        exact h2 j hj (by omega)
    · rw [pk_un (by omega), pk_un (by omega)]
      exact h3 j (by omega) hjn
theorem xa_out {n p e : Nat} {K V : Nat → Int32} {post : SX → Prop} (hn : n ≤ 48) (hpe : p ≤ e) (hen : e ≤ n) (H : ∀ K1 V1, (∀ i, i < p → K1 i = K i ∧ V1 i = V i) → (∀ i, e ≤ i → i < n → K1 (i - (e - p)) = K i ∧ V1 (i - (e - p)) = V i) → post (nI (n - (e - p)), K1, V1)) : wpX_takeOut post (nI n, K, V) (nI p) (nI e) := by
  refine nm_r (pk_sub hpe) ⟨n - e + 1, ?_⟩
  exact xa_outL hn hpe hen H (n - e) e K V (by omega) (Nat.le_refl _) (fun _ _ => ⟨rfl, rfl⟩) (fun j a b => by omega) (fun _ _ _ => ⟨rfl, rfl⟩)
/-- staysGood -/
theorem xa_stayL {n p e : Nat} {K V : Nat → Int32} {b : Int32} {post : Int32 → Prop} (hn : n ≤ 48) (hen : e ≤ n) (H1 : (∀ j, p ≤ j → j < e → -1000 ≤ (K j).toInt + b.toInt ∧ (K j).toInt + b.toInt ≤ 1000) → post 1) (H0 : ∀ j, p ≤ j → j < e → ¬ (-1000 ≤ (K j).toInt + b.toInt ∧ (K j).toInt + b.toInt ≤ 1000) → post 0) : ∀ d i, i + d = e → p ≤ i → (∀ j, p ≤ j → j < i → -1000 ≤ (K j).toInt + b.toInt ∧ (K j).toInt + b.toInt ≤ 1000) → wX_staysGood_3 post (nI e) b (nI n) K V (d + 1) (nI i) := by
  intro d
  induction d with
  | zero =>
    intro i hi hp h
    exact br_t (nI_le (by omega) (by omega)) (H1 (fun j a b => h j a (by omega)))
  | succ d ih =>
    intro i hi hp h
    refine br_f (nI_ge (by omega) (by omega)) ⟨vp_in_nI (by omega) (by omega), nm_e ?_⟩
    rw [nI_clamp (show i < 2 ^ 31 by omega)]
    refine xa_good (fun g => ?_) (fun g => ?_)
    · rw [pa_gl] at g
      refine br_f (by decide) (nm_r (nI_1 i) (ih (i + 1) (by omega) (by omega) (fun j a c => ?_)))
      by_cases z : j = i
      · rw [z]
        exact g
      · exact h j a (by omega)
    · rw [pa_gl] at g
      exact br_t rfl (H0 i hp (by omega) g)
theorem xa_stay {n p e : Nat} {K V : Nat → Int32} {b : Int32} {post : Int32 → Prop} (hn : n ≤ 48) (hpe : p ≤ e) (hen : e ≤ n) (H1 : (∀ j, p ≤ j → j < e → -1000 ≤ (K j).toInt + b.toInt ∧ (K j).toInt + b.toInt ≤ 1000) → post 1) (H0 : ∀ j, p ≤ j → j < e → ¬ (-1000 ≤ (K j).toInt + b.toInt ∧ (K j).toInt + b.toInt ≤ 1000) → post 0) : wpX_staysGood post (nI n, K, V) (nI p) (nI e) b :=
  ⟨e - p + 1, xa_stayL hn hen H1 H0 (e - p) p (by omega) (Nat.le_refl _) (fun j a c => by omega)⟩
