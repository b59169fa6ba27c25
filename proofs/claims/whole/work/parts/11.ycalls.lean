/-! Y: place, good, in, put, series, remove, clear, raise -/
theorem ya_good {u : SY} {x : Int32} {post : Int32 → Prop} (H1 : -1000 ≤ x.toInt ∧ x.toInt ≤ 1000 → post 1) (H0 : ¬ (-1000 ≤ x.toInt ∧ x.toInt ≤ 1000) → post 0) : wpY_good post u x := by
  obtain ⟨a, b, c⟩ := u
  refine br_c (fun c => ?_) (fun c => br_c (fun d => ?_) (fun d => ?_))
  · rw [pa_lt, pa_m1000] at c
    exact H0 (by omega)
  · rw [pa_lt, pa_p1000] at d
    exact H0 (by omega)
  · rw [pa_lt, pa_m1000] at c
    rw [pa_lt, pa_p1000] at d
    exact H1 (by omega)
theorem ya_in {u : SY} {x lo hi : Int32} {post : Int32 → Prop} (H1 : lo.toInt ≤ x.toInt ∧ x.toInt ≤ hi.toInt → post 1) (H0 : ¬ (lo.toInt ≤ x.toInt ∧ x.toInt ≤ hi.toInt) → post 0) : wpY_in post u x lo hi := by
  obtain ⟨a, b, c⟩ := u
  refine br_c (fun c => ?_) (fun c => br_c (fun d => ?_) (fun d => ?_))
  · rw [pa_lt] at c
    exact H0 (by omega)
  · rw [pa_lt] at d
    exact H0 (by omega)
  · rw [pa_lt] at c
    rw [pa_lt] at d
    exact H1 (by omega)
theorem ya_placeL {n : Nat} {K V : Nat → Int32} {k : Int32} {post : Int32 → Prop} (hn : n ≤ 48) (H1 : ∀ i, i < n → K i = k → post (nI i)) (H0 : (∀ i, i < n → K i ≠ k) → post (-1)) : ∀ d i, i + d = n → (∀ j, j < i → K j ≠ k) → wY_place_2 post k (nI n) K V (d + 1) (nI i) := by
  intro d
  induction d with
  | zero =>
    intro i hi h
    exact br_t (nI_le (by omega) (by omega)) (H0 (fun j hj => h j (by omega)))
  | succ d ih =>
    intro i hi h
    refine br_f (nI_ge (by omega) (by omega)) ?_
    rw [nI_clamp (show i < 2 ^ 31 by omega)]
    refine ⟨vp_in_nI (by omega) (by omega), br_c (fun c => ?_) (fun c => ?_)⟩
    · exact H1 i (by omega) c
    · refine nm_r (nI_1 i) (ih (i + 1) (by omega) (fun j hj => ?_))
      by_cases z : j = i
      · rw [z]
        exact c
      · exact h j (by omega)
theorem ya_place {n : Nat} {K V : Nat → Int32} {k : Int32} {post : Int32 → Prop} (hn : n ≤ 48) (H1 : ∀ i, i < n → K i = k → post (nI i)) (H0 : (∀ i, i < n → K i ≠ k) → post (-1)) : wpY_place post (nI n, K, V) k :=
  ⟨n + 1, ya_placeL hn H1 H0 n 0 (by omega) (fun j hj => absurd hj (Nat.not_lt_zero j))⟩
theorem ya_none {n : Nat} {K V : Nat → Int32} {L : List (Int32 × Int32)} (h : (pa_l K V n).Perm L) {k : Int32} (hk : ∀ i, i < n → K i ≠ k) : ∀ q, q ∈ L → q.1 ≠ k := by
  intro q hq
  obtain ⟨i, hi, rfl⟩ := pa_idx h hq
  exact hk i hi
theorem ym_put {n : Nat} {K V : Nat → Int32} {L : List (Int32 × Int32)} (hL : pa_L L) (hY : (pa_l K V n).Perm L) (k v : Int32) {post : Int32 → SY → Prop} (H : ∀ n1 K1 V1, (pa_l K1 V1 n1).Perm (ab_put L k v).2 → post (ab_put L k v).1 (nI n1, K1, V1)) : wpY_put post (nI n, K, V) k v := by
  have hn := pa_n48 hL hY
  unfold wpY_put
  dsimp only
  refine ya_good (fun g => ?_) (fun g => ?_)
  · refine br_f (by decide) ?_
    refine ya_place hn (fun p hp e => ?_) (fun hno => ?_)
    · rw [ab_put2 g (ab_anyT.mpr ⟨_, pa_iL hY hp, e⟩)] at H
      refine br_f (nI_pos (by omega)) ⟨vp_in_nI (by omega) (by omega), nm_e ?_⟩
      rw [nI_clamp (by omega)]
      exact H n K (upd V p v) (pa_setP hL.2.2 hY hp e)
    · have hno' := ya_none hY hno
      have hl := pa_n hY
      refine br_t (by decide) (br_c (fun c => ?_) (fun c => ?_))
      · rw [← pa_48, nI_ltI (by omega) (by omega)] at c
        rw [ab_put4 g (ab_anyF hno') (by omega)] at H
        refine ⟨vp_in_nI (by omega) (by omega), nm_e ⟨vp_in_nI (by omega) (by omega), nm_e (nm_r (nI_1 n) ?_)⟩⟩
        rw [nI_clamp (by omega)]
        refine H (n + 1) _ _ ?_
        refine (pa_ins (p := n) (Nat.le_refl _) (fun i hi => ?_) pk_us pk_us (fun i a b => by omega)).trans (hY.cons _)
        exact ⟨pk_un (by omega), pk_un (by omega)⟩
      · rw [← pa_48, nI_ltI (by omega) (by omega)] at c
        rw [ab_put3 g (ab_anyF hno') (by omega)] at H
        exact H n K V hY
  · rw [ab_put1 g] at H
    exact br_t rfl (H n K V hY)
theorem ym_serL {L : List (Int32 × Int32)} (hL : pa_L L) (k s v : Int32) {c : Nat} (hc : c ≤ 48) {post : Int32 → SY → Prop} (H : ∀ n1 K1 V1, (pa_l K1 V1 n1).Perm (ab_ser L k s v c) → post (nI n1) (nI n1, K1, V1)) : ∀ d i n K V, i + d = c → (pa_l K V n).Perm (ab_ser L k s v i) → wY_series_42 post k s (nI c) v (d + 1) (nI i) (nI n) K V := by
  intro d
  induction d with
  | zero =>
    intro i n K V hi hX
    have : i = c := by omega
    rw [this] at hX
    exact br_t (nI_le (by omega) (by omega)) (H n K V hX)
  | succ d ih =>
    intro i n K V hi hX
    refine br_f (nI_ge (by omega) (by omega)) ?_
    refine ym_put (ab_serL hL k s v i) hX (k + nI i * s) (v + nI i) (fun n1 K1 V1 h1 => ?_)
    exact nm_r (nI_1 i) (ih (i + 1) n1 K1 V1 (by omega) h1)
theorem ym_series {n : Nat} {K V : Nat → Int32} {L : List (Int32 × Int32)} (hL : pa_L L) (hY : (pa_l K V n).Perm L) (k s c v : Int32) {post : Int32 → SY → Prop} (H : ∀ n1 K1 V1, (pa_l K1 V1 n1).Perm (ab_series L k s c v).2 → post (ab_series L k s c v).1 (nI n1, K1, V1)) : wpY_series post (nI n, K, V) k s c v := by
  unfold wpY_series
  dsimp only
  unfold ab_series at H
  refine ya_good (fun g => ?_) (fun g => ?_)
  · rw [if_pos g] at H
    refine br_f (by decide) (br_c (fun c1 => ?_) (fun c1 => br_c (fun c2 => br_c (fun c3 => ?_) (fun c3 => br_c (fun c4 => ?_) (fun c4 => ?_))) (fun c2 => ?_)))
    · rw [pa_lt, pa_m100] at c1
      rw [if_neg (by omega)] at H
      exact H n K V hY
    · rw [pa_lt, pa_m100] at c1
      rw [pa_le, pa_p100] at c2
      rw [pa_lt, pa_p1] at c3
      rw [if_pos (by omega), if_neg (by omega)] at H
      exact H n K V hY
    · rw [pa_lt, pa_m100] at c1
      rw [pa_le, pa_p100] at c2
      rw [pa_lt, pa_p1] at c3
      rw [pa_le, pa_p48] at c4
      rw [if_pos (by omega), if_pos (by omega)] at H
      obtain ⟨m, hm, rfl, em⟩ := pa_nat (c := c) (by omega)
      rw [em] at H
      refine ⟨m + 1, ?_⟩
      refine ym_serL hL k s v hm (fun n1 K1 V1 h1 => ?_) m 0 n K V (by omega) hY
      have := H n1 K1 V1 h1
      dsimp only at this
      rw [← pa_n h1] at this
      exact this
    · rw [pa_lt, pa_m100] at c1
      rw [pa_le, pa_p100] at c2
      rw [pa_lt, pa_p1] at c3
      rw [pa_le, pa_p48] at c4
      rw [if_pos (by omega), if_neg (by omega)] at H
      exact H n K V hY
    · rw [pa_le, pa_p100] at c2
      rw [if_neg (by omega)] at H
      exact H n K V hY
  · rw [if_neg g] at H
    exact br_t rfl (H n K V hY)
/-- remove: n1 is one less where the key was held -/
theorem ym_remove {n : Nat} {K V : Nat → Int32} {L : List (Int32 × Int32)} (hL : pa_L L) (hY : (pa_l K V n).Perm L) (k : Int32) {post : Int32 → SY → Prop} (H : ∀ n1 K1 V1, (pa_l K1 V1 n1).Perm (ab_rem L k).2 → post (ab_rem L k).1 (nI n1, K1, V1)) : wpY_remove post (nI n, K, V) k := by
  have hn := pa_n48 hL hY
  unfold wpY_remove
  dsimp only
  refine ya_good (fun g => ?_) (fun g => ?_)
  · refine br_f (by decide) ?_
    refine ya_place hn (fun p hp e => ?_) (fun hno => ?_)
    · rw [ab_rem2 g (ab_anyT.mpr ⟨_, pa_iL hY hp, e⟩)] at H
      obtain ⟨m, rfl⟩ : ∃ m, n = m + 1 := ⟨n - 1, by omega⟩
      refine br_t (nI_pos' (by omega)) (nm_r (nI_pred m) ?_)
      rw [nI_clamp (show m < 2 ^ 31 by omega), nI_clamp (show p < 2 ^ 31 by omega)]
      refine ⟨vp_in_nI (by omega) (by omega), vp_in_nI (by omega) (by omega), nm_e ⟨vp_in_nI (by omega) (by omega), vp_in_nI (by omega) (by omega), nm_e ?_⟩⟩
      refine H m _ _ ?_
      have h1 := pa_last (K := K) (V := V) (K1 := upd K p (K m)) (V1 := upd V p (V m)) hp (fun i hi => ⟨pk_un hi, pk_un hi⟩) ⟨pk_us, pk_us⟩
      have h2 := pa_rem hL.2.2 (hY.symm.trans h1)
      dsimp only at h2
      rw [e] at h2
      exact h2
    · rw [ab_rem3 g (ab_anyF (ya_none hY hno))] at H
      exact br_f (by decide) (H n K V hY)
  · rw [ab_rem1 g] at H
    exact br_t rfl (H n K V hY)
theorem ab_remN {L : List (Int32 × Int32)} {k : Int32} (hD : pa_D L) (h : ab_any L k = true) : (L.filter (fun r => decide (r.1 ≠ k))).length + 1 = L.length := by
  obtain ⟨q, hq, rfl⟩ := ab_anyT.mp h
  obtain ⟨s, t, e⟩ := List.append_of_mem hq
  have h1 : L.Perm (q :: (s ++ t)) := by
    rw [e]
    exact List.perm_middle
  have h2 := pa_rem hD h1
  rw [← h2.length_eq, h1.length_eq] <;> rfl
/-- clear: k goes from -1000 to 1000; j of them are done -/
theorem ym_clearL {L : List (Int32 × Int32)} (hL : pa_L L) {lo hi : Int32} {post : Int32 → SY → Prop} (H : ∀ n1 K1 V1, (pa_l K1 V1 n1).Perm (L.filter (ab_out lo hi)) → post (nI (L.countP (pa_in lo hi))) (nI n1, K1, V1)) : ∀ (d j n : Nat) (K V : Nat → Int32) (o : Nat) (x : Int32), j + d = 2001 → x.toInt = (j : Int) - 1000 → o + n = L.length → (pa_l K V n).Perm (L.filter (ab_cl lo hi x.toInt)) → wY_clear_7 post lo hi (d + 1) (nI o) x (nI n) K V := by
  intro d
  induction d with
  | zero =>
    intro j n K V o x hj hx ho hY
    have ex : x.toInt = 1001 := by omega
    refine br_t (by rw [pa_lt, pa_p1000]; omega) ?_
    rw [ex, ab_clE hL] at hY
    have h1 := pa_n hY
    have h2 := ab_outN (L := L) (lo := lo) (hi := hi)
    have : o = L.countP (pa_in lo hi) := by omega
    rw [this]
    exact H n K V hY
  | succ d ih =>
    intro j n K V o x hj hx ho hY
    have hLx := pa_Lfil (ab_cl lo hi x.toInt) hL
    have hn := pa_n48 hLx hY
    have ex1 : (x + 1).toInt = x.toInt + 1 := by
      rw [pa_add (by rw [pa_p1]; omega) (by rw [pa_p1]; omega), pa_p1]
    refine br_f (by rw [pa_lt, pa_p1000]; omega) ?_
    refine ya_in (fun hin => ?_) (fun hin => ?_)
    · refine br_f (by decide) ?_
      refine ya_place hn (fun p hp e => ?_) (fun hno => ?_)
      · refine br_f (nI_pos (by omega)) ?_
        have hany : ab_any (L.filter (ab_cl lo hi x.toInt)) x = true := ab_anyT.mpr ⟨_, pa_iL hY hp, e⟩
        refine ym_remove hLx hY x (fun n1 K1 V1 h1 => ?_)
        rw [ab_rem2 (by omega) hany] at h1
        dsimp only at h1
        have hl : n1 + 1 = n := by
          rw [pa_n h1, pa_n hY]
          exact ab_remN hLx.2.2 hany
        rw [ab_clR hin, ← ex1] at h1
        exact nm_r (nI_1 o) (nm_e (ih (j + 1) n1 K1 V1 (o + 1) (x + 1) (by omega) (by omega) (by omega) h1))
      · refine br_t (by decide) (nm_e (ih (j + 1) n K V o (x + 1) (by omega) (by omega) ho ?_))
        rw [ex1, ← ab_clN (Or.inr (ya_none hY hno))]
        exact hY
    · refine br_t rfl (nm_e (ih (j + 1) n K V o (x + 1) (by omega) (by omega) ho ?_))
      rw [ex1, ← ab_clN (Or.inl hin)]
      exact hY
theorem ym_clear {n : Nat} {K V : Nat → Int32} {L : List (Int32 × Int32)} (hL : pa_L L) (hY : (pa_l K V n).Perm L) (lo hi : Int32) {post : Int32 → SY → Prop} (H : ∀ n1 K1 V1, (pa_l K1 V1 n1).Perm (L.filter (ab_out lo hi)) → post (nI (L.countP (pa_in lo hi))) (nI n1, K1, V1)) : wpY_clear post (nI n, K, V) lo hi := by
  refine ⟨2002, ?_⟩
  have hl := pa_n hY
  refine ym_clearL hL H 2001 0 n K V 0 (-1000) (by omega) (by rw [pa_m1000]; omega) (by omega) ?_
  rw [pa_m1000, ab_cl0 hL]
  exact hY
/-- raise -/
theorem ym_raiseL {n : Nat} {K V : Nat → Int32} {lo hi b : Int32} {post : Int32 → SY → Prop} (hn : n ≤ 48) (H : ∀ V1, (∀ i, i < n → V1 i = if pa_in lo hi (K i, V i) = true then V i + b else V i) → post (nI ((pa_l K V n).countP (pa_in lo hi))) (nI n, K, V1)) : ∀ d i V1, i + d = n → (∀ j, j < i → V1 j = if pa_in lo hi (K j, V j) = true then V j + b else V j) → (∀ j, i ≤ j → V1 j = V j) → wY_raise_6 post lo hi b (nI n) (d + 1) (nI ((pa_l K V i).countP (pa_in lo hi))) (nI i) K V1 := by
  intro d
  induction d with
  | zero =>
    intro i V1 hid h1 h2
    have : i = n := by omega
    subst this
    exact br_t (nI_le (by omega) (by omega)) (H V1 h1)
  | succ d ih =>
    intro i V1 hid h1 h2
    refine br_f (nI_ge (by omega) (by omega)) ?_
    rw [nI_clamp (show i < 2 ^ 31 by omega)]
    refine ⟨vp_in_nI (by omega) (by omega), ?_⟩
    refine ya_in (fun g => ?_) (fun g => ?_)
    · refine br_f (by decide) ⟨vp_in_nI (by omega) (by omega), vp_in_nI (by omega) (by omega), nm_e (nm_r (nI_1 _) (nm_r (nI_1 i) ?_))⟩
      have e := ys_cnt (K := K) (V := V) (i := i) (lo := lo) (hi := hi)
      rw [if_pos g] at e
      rw [← e]
      refine ih (i + 1) _ (by omega) (fun j hj => ?_) (fun j hj => ?_)
      · by_cases z : j = i
        · subst z
          rw [pk_us, if_pos (pa_inT.mpr g), h2 j (Nat.le_refl _)]
        · rw [pk_un z]
          exact h1 j (by omega)
      · rw [pk_un (by omega)]
        exact h2 j (by omega)
    · refine br_t rfl (nm_r (nI_1 i) ?_)
      have e := ys_cnt (K := K) (V := V) (i := i) (lo := lo) (hi := hi)
      rw [if_neg g] at e
      replace e := e.trans (Nat.add_zero _)
      rw [← e]
      refine ih (i + 1) _ (by omega) (fun j hj => ?_) (fun j hj => h2 j (by omega))
      by_cases z : j = i
      · subst z
        rw [if_neg (fun y => g (pa_inT.mp y)), h2 j (Nat.le_refl _)]
      · exact h1 j (by omega)
theorem ym_raise {n : Nat} {K V : Nat → Int32} {L : List (Int32 × Int32)} (hL : pa_L L) (hY : (pa_l K V n).Perm L) (lo hi b : Int32) {post : Int32 → SY → Prop} (H : ∀ n1 K1 V1, (pa_l K1 V1 n1).Perm (L.map (ab_up lo hi b)) → post (nI (L.countP (pa_in lo hi))) (nI n1, K1, V1)) : wpY_raise post (nI n, K, V) lo hi b := by
  have hn := pa_n48 hL hY
  refine ⟨n + 1, ?_⟩
  refine ym_raiseL (V := V) hn (fun V1 h => ?_) n 0 V (by omega) (fun j hj => absurd hj (Nat.not_lt_zero j)) (fun _ _ => rfl)
  rw [hY.countP_eq]
  exact H n K V1 (pa_upP hY h)
