/-! Y: the methods that only read -/
theorem ym_has {n : Nat} {K V : Nat → Int32} {L : List (Int32 × Int32)} (hL : pa_L L) (hY : (pa_l K V n).Perm L) (k : Int32) {post : Int32 → Prop} (H : post (ab_has L k)) : wpY_has post (nI n, K, V) k := by
  have hn := pa_n48 hL hY
  unfold ab_has at H
  unfold wpY_has
  dsimp only
  refine ya_good (fun g => ?_) (fun g => ?_)
  · rw [if_pos g] at H
    refine br_f (by decide) ?_
    refine ya_place hn (fun p hp e => ?_) (fun hno => ?_)
    · rw [if_pos (ab_anyT.mpr ⟨_, pa_iL hY hp, e⟩)] at H
      exact br_f (nI_pos (by omega)) H
    · rw [ab_anyF (ya_none hY hno), if_neg Bool.false_ne_true] at H
      exact br_t (by decide) H
  · rw [if_neg g] at H
    exact br_t rfl H
theorem ym_get {n : Nat} {K V : Nat → Int32} {L : List (Int32 × Int32)} (hL : pa_L L) (hY : (pa_l K V n).Perm L) (k : Int32) {post : Int32 → Prop} (H : ∀ r, sp_get L k r → post r) : wpY_get post (nI n, K, V) k := by
  have hn := pa_n48 hL hY
  unfold wpY_get
  dsimp only
  refine ya_place hn (fun p hp e => ?_) (fun hno => ?_)
  · refine br_f (nI_pos (by omega)) ⟨vp_in_nI (by omega) (by omega), ?_⟩
    rw [nI_clamp (by omega)]
    exact H _ (Or.inl ⟨_, pa_iL hY hp, e, rfl⟩)
  · exact br_t (by decide) (H _ (Or.inr ⟨ya_none hY hno, rfl⟩))
theorem ym_rankL {n : Nat} {K V : Nat → Int32} {b : Int32} {post : Int32 → Prop} (hn : n ≤ 48) (H : post (nI (ab_less (pa_l K V n) b))) : ∀ d i, i + d = n → wY_rank_4 post b (nI n) K V (d + 1) (nI (ab_less (pa_l K V i) b)) (nI i) := by
  intro d
  induction d with
  | zero =>
    intro i hi
    have : i = n := by omega
    subst this
    exact br_t (nI_le (by omega) (by omega)) H
  | succ d ih =>
    intro i hi
    have e := ys_less (K := K) (V := V) (i := i) (b := b)
    refine br_f (nI_ge (by omega) (by omega)) ?_
    rw [nI_clamp (show i < 2 ^ 31 by omega)]
    refine ⟨vp_in_nI (by omega) (by omega), br_c (fun c => ?_) (fun c => ?_)⟩
    · rw [pa_le] at c
      rw [if_neg (by omega)] at e
      replace e := e.trans (Nat.add_zero _)
      refine nm_r (nI_1 i) ?_
      rw [← e]
      exact ih (i + 1) (by omega)
    · rw [pa_le] at c
      rw [if_pos (by omega)] at e
      refine nm_r (nI_1 _) (nm_r (nI_1 i) ?_)
      rw [← e]
      exact ih (i + 1) (by omega)
theorem ym_rank {n : Nat} {K V : Nat → Int32} {L : List (Int32 × Int32)} (hL : pa_L L) (hY : (pa_l K V n).Perm L) (b : Int32) {post : Int32 → Prop} (H : post (nI (ab_less L b))) : wpY_rank post (nI n, K, V) b := by
  have hn := pa_n48 hL hY
  rw [← ab_lessP hY] at H
  exact ⟨n + 1, ym_rankL hn H n 0 (by omega)⟩
theorem ym_selL {n : Nat} {K V : Nat → Int32} {L : List (Int32 × Int32)} (hL : pa_L L) (hY : (pa_l K V n).Perm L) {k : Int32} {post : Int32 → Prop} (H : ∀ r, sp_sel L k r → post r) : ∀ d i, i + d = n → (∀ j, j < i → nI (ab_less L (K j)) ≠ k) → wY_select_2 post k (nI n) K V (d + 1) (nI i) := by
  have hn := pa_n48 hL hY
  intro d
  induction d with
  | zero =>
    intro i hi h
    refine br_t (nI_le (by omega) (by omega)) (H _ (Or.inr ⟨fun q hq => ?_, rfl⟩))
    obtain ⟨j, hj, rfl⟩ := pa_idx hY hq
    exact h j (by omega)
  | succ d ih =>
    intro i hi h
    refine br_f (nI_ge (by omega) (by omega)) ?_
    rw [nI_clamp (show i < 2 ^ 31 by omega)]
    refine ⟨vp_in_nI (by omega) (by omega), ?_⟩
    refine ym_rank hL hY (K i) ?_
    refine br_c (fun c => ?_) (fun c => ?_)
    · exact ⟨vp_in_nI (by omega) (by omega), H _ (Or.inl ⟨_, pa_iL hY (by omega), rfl, c⟩)⟩
    · refine nm_r (nI_1 i) (ih (i + 1) (by omega) (fun j hj => ?_))
      by_cases z : j = i
      · rw [z]
        exact c
      · exact h j (by omega)
theorem ym_select {n : Nat} {K V : Nat → Int32} {L : List (Int32 × Int32)} (hL : pa_L L) (hY : (pa_l K V n).Perm L) (k : Int32) {post : Int32 → Prop} (H : ∀ r, sp_sel L k r → post r) : wpY_select post (nI n, K, V) k :=
  ⟨n + 1, ym_selL hL hY H n 0 (by omega) (fun j hj => absurd hj (Nat.not_lt_zero j))⟩
theorem ym_nextL {n : Nat} {K V : Nat → Int32} {L : List (Int32 × Int32)} (hL : pa_L L) (hY : (pa_l K V n).Perm L) {b : Int32} {post : Int32 → Prop} (H : ∀ r, sp_next L b r → post r) : ∀ d i r, i + d = n → sp_next (pa_l K V i) b r → wY_next_6 post b (nI n) K V (d + 1) r (nI i) := by
  have hn := pa_n48 hL hY
  intro d
  induction d with
  | zero =>
    intro i r hi h
    have : i = n := by omega
    subst this
    exact br_t (nI_le (by omega) (by omega)) (H _ (ys_next_P hY h))
  | succ d ih =>
    intro i r hi h
    have hG : ∀ q, q ∈ pa_l K V i → q.1 ≠ -2000 := by
      intro q hq z
      obtain ⟨j, hj, rfl⟩ := pa_mem.mp hq
      have g := pa_g hL hY (show j < n by omega)
      have z' : K j = -2000 := z
      rw [z', pa_m2000] at g
      omega
    refine br_f (nI_ge (by omega) (by omega)) ?_
    rw [nI_clamp (show i < 2 ^ 31 by omega)]
    refine ⟨vp_in_nI (by omega) (by omega), br_c (fun c => ?_) (fun c => ?_)⟩
    · rw [pa_le] at c
      exact nm_r (nI_1 i) (ih (i + 1) r (by omega) (ys_next1 h (by dsimp only; omega)))
    · rw [pa_le] at c
      refine br_c (fun e => ?_) (fun e => ?_)
      · refine ⟨vp_in_nI (by omega) (by omega), nm_e (nm_r (nI_1 i) ?_)⟩
        exact ih (i + 1) _ (by omega) (ys_next3 h (by dsimp only; omega) hG (Or.inl e))
      · refine ⟨vp_in_nI (by omega) (by omega), br_c (fun f => ?_) (fun f => ?_)⟩
        · rw [pa_le] at f
          exact nm_r (nI_1 i) (ih (i + 1) r (by omega) (ys_next2 h e (by dsimp only; omega)))
        · rw [pa_le] at f
          refine ⟨vp_in_nI (by omega) (by omega), nm_e (nm_r (nI_1 i) ?_)⟩
          exact ih (i + 1) _ (by omega) (ys_next3 h (by dsimp only; omega) hG (Or.inr (by dsimp only; omega)))
theorem ym_next {n : Nat} {K V : Nat → Int32} {L : List (Int32 × Int32)} (hL : pa_L L) (hY : (pa_l K V n).Perm L) (b : Int32) {post : Int32 → Prop} (H : ∀ r, sp_next L b r → post r) : wpY_next post (nI n, K, V) b :=
  ⟨n + 1, ym_nextL hL hY H n 0 (-2000) (by omega) (ys_next0 b)⟩
theorem ym_prevL {n : Nat} {K V : Nat → Int32} {L : List (Int32 × Int32)} (hL : pa_L L) (hY : (pa_l K V n).Perm L) {b : Int32} {post : Int32 → Prop} (H : ∀ r, sp_prev L b r → post r) : ∀ d i r, i + d = n → sp_prev (pa_l K V i) b r → wY_previous_6 post b (nI n) K V (d + 1) r (nI i) := by
  have hn := pa_n48 hL hY
  intro d
  induction d with
  | zero =>
    intro i r hi h
    have : i = n := by omega
    subst this
    exact br_t (nI_le (by omega) (by omega)) (H _ (ys_prev_P hY h))
  | succ d ih =>
    intro i r hi h
    have g := pa_g hL hY (show i < n by omega)
    refine br_f (nI_ge (by omega) (by omega)) ?_
    rw [nI_clamp (show i < 2 ^ 31 by omega)]
    refine ⟨vp_in_nI (by omega) (by omega), br_c (fun c => ?_) (fun c => ?_)⟩
    · rw [pa_le] at c
      exact nm_r (nI_1 i) (ih (i + 1) r (by omega) (ys_prev1 h (by dsimp only; omega)))
    · rw [pa_le] at c
      refine ⟨vp_in_nI (by omega) (by omega), br_c (fun f => ?_) (fun f => ?_)⟩
      · rw [pa_le] at f
        exact nm_r (nI_1 i) (ih (i + 1) r (by omega) (ys_prev2 h g.1 (by dsimp only; omega)))
      · rw [pa_le] at f
        refine ⟨vp_in_nI (by omega) (by omega), nm_e (nm_r (nI_1 i) ?_)⟩
        exact ih (i + 1) _ (by omega) (ys_prev3 h (by dsimp only; omega) (by dsimp only; omega))
theorem ym_previous {n : Nat} {K V : Nat → Int32} {L : List (Int32 × Int32)} (hL : pa_L L) (hY : (pa_l K V n).Perm L) (b : Int32) {post : Int32 → Prop} (H : ∀ r, sp_prev L b r → post r) : wpY_previous post (nI n, K, V) b :=
  ⟨n + 1, ym_prevL hL hY H n 0 (-2000) (by omega) (ys_prev0 b)⟩
theorem ym_countL {n : Nat} {K V : Nat → Int32} {lo hi : Int32} {post : Int32 → Prop} (hn : n ≤ 48) (H : post (nI ((pa_l K V n).countP (pa_in lo hi)))) : ∀ d i, i + d = n → wY_count_5 post lo hi (nI n) K V (d + 1) (nI ((pa_l K V i).countP (pa_in lo hi))) (nI i) := by
  intro d
  induction d with
  | zero =>
    intro i hid
    have : i = n := by omega
    subst this
    exact br_t (nI_le (by omega) (by omega)) H
  | succ d ih =>
    intro i hid
    have e := ys_cnt (K := K) (V := V) (i := i) (lo := lo) (hi := hi)
    refine br_f (nI_ge (by omega) (by omega)) ?_
    rw [nI_clamp (show i < 2 ^ 31 by omega)]
    refine ⟨vp_in_nI (by omega) (by omega), ?_⟩
    refine ya_in (fun g => ?_) (fun g => ?_)
    · rw [if_pos g] at e
      refine br_f (by decide) (nm_r (nI_1 _) (nm_r (nI_1 i) ?_))
      rw [← e]
      exact ih (i + 1) (by omega)
    · rw [if_neg g] at e
      replace e := e.trans (Nat.add_zero _)
      refine br_t rfl (nm_r (nI_1 i) ?_)
      rw [← e]
      exact ih (i + 1) (by omega)
theorem ym_count {n : Nat} {K V : Nat → Int32} {L : List (Int32 × Int32)} (hL : pa_L L) (hY : (pa_l K V n).Perm L) (lo hi : Int32) {post : Int32 → Prop} (H : post (nI (L.countP (pa_in lo hi)))) : wpY_count post (nI n, K, V) lo hi := by
  have hn := pa_n48 hL hY
  rw [← hY.countP_eq] at H
  exact ⟨n + 1, ym_countL hn H n 0 (by omega)⟩
theorem ym_sumL {n : Nat} {K V : Nat → Int32} {lo hi : Int32} {post : Int32 → Prop} (hn : n ≤ 48) (H : post (ab_sum lo hi (pa_l K V n))) : ∀ d i, i + d = n → wY_sum_5 post lo hi (nI n) K V (d + 1) (ab_sum lo hi (pa_l K V i)) (nI i) := by
  intro d
  induction d with
  | zero =>
    intro i hid
    have : i = n := by omega
    subst this
    exact br_t (nI_le (by omega) (by omega)) H
  | succ d ih =>
    intro i hid
    have e := ab_sums (K := K) (V := V) (n := i) (lo := lo) (hi := hi)
    unfold ab_f at e
    refine br_f (nI_ge (by omega) (by omega)) ?_
    rw [nI_clamp (show i < 2 ^ 31 by omega)]
    refine ⟨vp_in_nI (by omega) (by omega), ?_⟩
    refine ya_in (fun g => ?_) (fun g => ?_)
    · rw [if_pos (pa_inT.mpr g)] at e
      exact br_f (by decide) ⟨vp_in_nI (by omega) (by omega), nm_r e.symm (nm_r (nI_1 i) (ih (i + 1) (by omega)))⟩
    · rw [if_neg (fun z => g (pa_inT.mp z))] at e
      refine br_t rfl (nm_r (nI_1 i) ?_)
      rw [← e]
      exact ih (i + 1) (by omega)
theorem ym_sum {n : Nat} {K V : Nat → Int32} {L : List (Int32 × Int32)} (hL : pa_L L) (hY : (pa_l K V n).Perm L) (lo hi : Int32) {post : Int32 → Prop} (H : post (ab_sum lo hi L)) : wpY_sum post (nI n, K, V) lo hi := by
  have hn := pa_n48 hL hY
  rw [← ab_sumP hY] at H
  exact ⟨n + 1, ym_sumL hn H n 0 (by omega)⟩
