/-! X: the methods that only read -/
theorem xm_has {n : Nat} {K V : Nat → Int32} {L : List (Int32 × Int32)} (hL : pa_L L) (hX : pa_X n K V L) (k : Int32) {post : Int32 → Prop} (H : post (ab_has L k)) : wpX_has post (nI n, K, V) k := by
  have hn := pa_n48 hL hX.2
  have e64 : k.toInt64.toInt = k.toInt := Int32.toInt_toInt64 k
  unfold ab_has at H
  unfold wpX_has
  dsimp only
  refine xa_good (fun g => ?_) (fun g => ?_)
  · rw [e64] at g
    rw [if_pos g] at H
    refine br_f (by decide) ?_
    refine xa_fal k hn (fun p hp h1 h2 => ?_)
    refine xa_key hn hp (fun hpn e => ?_) (fun hne => ?_)
    · rw [if_pos (ab_anyT.mpr ⟨_, pa_iL hX.2 hpn, e⟩)] at H
      exact br_f (by decide) H
    · rw [ab_anyF (xa_none hX h1 h2 hne), if_neg Bool.false_ne_true] at H
      exact br_t rfl H
  · rw [e64] at g
    rw [if_neg g] at H
    exact br_t rfl H
theorem xm_get {n : Nat} {K V : Nat → Int32} {L : List (Int32 × Int32)} (hL : pa_L L) (hX : pa_X n K V L) (k : Int32) {post : Int32 → Prop} (H : ∀ r, sp_get L k r → post r) : wpX_get post (nI n, K, V) k := by
  have hn := pa_n48 hL hX.2
  unfold wpX_get
  dsimp only
  refine xa_fal k hn (fun p hp h1 h2 => ?_)
  refine xa_key hn hp (fun hpn e => ?_) (fun hne => ?_)
  · refine br_f (by decide) ⟨vp_in_nI (by omega) (by omega), ?_⟩
    rw [nI_clamp (by omega)]
    exact H _ (Or.inl ⟨_, pa_iL hX.2 hpn, e, rfl⟩)
  · exact br_t rfl (H _ (Or.inr ⟨xa_none hX h1 h2 hne, rfl⟩))
theorem xm_rank {n : Nat} {K V : Nat → Int32} {L : List (Int32 × Int32)} (hL : pa_L L) (hX : pa_X n K V L) (b : Int32) {post : Int32 → Prop} (H : post (nI (ab_less L b))) : wpX_rank post (nI n, K, V) b := by
  have hn := pa_n48 hL hX.2
  unfold wpX_rank
  dsimp only
  refine xa_fal b hn (fun p hp h1 h2 => ?_)
  rw [ab_lessX hX hp h1 h2] at H
  exact H
theorem xm_select {n : Nat} {K V : Nat → Int32} {L : List (Int32 × Int32)} (hL : pa_L L) (hX : pa_X n K V L) (k : Int32) {post : Int32 → Prop} (H : ∀ r, sp_sel L k r → post r) : wpX_select post (nI n, K, V) k := by
  have hn := pa_n48 hL hX.2
  unfold wpX_select
  dsimp only
  refine xa_keyAt hn (fun i hi e => ?_) (fun h => ?_)
  · exact H _ (Or.inl ⟨_, pa_iL hX.2 hi, rfl, by rw [ab_lessI hX hi]; exact e.symm⟩)
  · refine H _ (Or.inr ⟨fun q hq => ?_, rfl⟩)
    obtain ⟨i, hi, rfl⟩ := pa_idx hX.2 hq
    rw [ab_lessI hX hi]
    exact fun z => h i hi z.symm
theorem xm_next {n : Nat} {K V : Nat → Int32} {L : List (Int32 × Int32)} (hL : pa_L L) (hX : pa_X n K V L) (b : Int32) {post : Int32 → Prop} (H : ∀ r, sp_next L b r → post r) : wpX_next post (nI n, K, V) b := by
  have hn := pa_n48 hL hX.2
  unfold wpX_next
  dsimp only
  refine xa_eor (p := 0) b hn (Nat.zero_le _) (fun e _ hen h3 h4 => ?_)
  refine xa_keyAt hn (fun i hi z => ?_) (fun h => ?_)
  · have ei : e = i := (nI_eq (by omega) (by omega)).mp z
    subst ei
    exact H _ (xs_next hX (fun j hj => h3 j (Nat.zero_le _) hj) (h4 hi) hi)
  · refine H _ (xs_next0 hX (fun j hj => h3 j (Nat.zero_le _) ?_))
    by_cases c : e < n
    · exact absurd rfl (h e c)
    · omega
theorem xm_previous {n : Nat} {K V : Nat → Int32} {L : List (Int32 × Int32)} (hL : pa_L L) (hX : pa_X n K V L) (b : Int32) {post : Int32 → Prop} (H : ∀ r, sp_prev L b r → post r) : wpX_previous post (nI n, K, V) b := by
  have hn := pa_n48 hL hX.2
  unfold wpX_previous
  dsimp only
  refine xa_fal b hn (fun p hp h1 h2 => ?_)
  by_cases c : p = 0
  · subst c
    refine xa_keyAt hn (fun i hi z => ?_) (fun h => H _ (xs_prev0 hX h2))
    exact absurd (show nI i < 0 by rw [← z]; decide) (nI_pos (by omega))
  · obtain ⟨m, rfl⟩ : ∃ m, p = m + 1 := ⟨p - 1, by omega⟩
    rw [nI_pred]
    refine xa_keyAt hn (fun i hi z => ?_) (fun h => absurd rfl (h m (by omega)))
    have ei : m = i := (nI_eq (by omega) (by omega)).mp z
    subst ei
    exact H _ (xs_prev hX (h1 m (by omega)) h2 hi)
theorem xm_count {n : Nat} {K V : Nat → Int32} {L : List (Int32 × Int32)} (hL : pa_L L) (hX : pa_X n K V L) (lo hi : Int32) {post : Int32 → Prop} (H : post (nI (L.countP (pa_in lo hi)))) : wpX_count post (nI n, K, V) lo hi := by
  have hn := pa_n48 hL hX.2
  unfold wpX_count
  dsimp only
  refine xa_fal lo hn (fun p hp h1 h2 => ?_)
  refine xa_eor hi hn hp (fun e hpe hen h3 h4 => ?_)
  have R := pa_rg hX.1 hpe hen h1 h2 h3 h4
  rw [pa_cntR hX.2 R] at H
  rw [pk_sub hpe]
  exact H
theorem xm_sumL {n p e : Nat} {K V : Nat → Int32} {lo hi s : Int32} {post : Int32 → Prop} (hn : n ≤ 48) (hen : e ≤ n) (h1 : ab_sum lo hi (pa_l K V e) = s) (h2 : ∀ i, p ≤ i → i < e → ab_sum lo hi (pa_l K V (i + 1)) = ab_sum lo hi (pa_l K V i) + V i) (H : post s) : ∀ d i, i + d = e → p ≤ i → wX_sum_20 post (nI e) (nI n) K V (d + 1) (ab_sum lo hi (pa_l K V i)) (nI i) := by
  intro d
  induction d with
  | zero =>
    intro i hi hp
    have : i = e := by omega
    rw [this, h1]
    exact br_t (nI_le (by omega) (by omega)) H
  | succ d ih =>
    intro i hi hp
    refine br_f (nI_ge (by omega) (by omega)) ?_
    rw [nI_clamp (show i < 2 ^ 31 by omega)]
    refine ⟨vp_in_nI (by omega) (by omega), nm_r (h2 i hp (by omega)).symm (nm_r (nI_1 i) ?_)⟩
    exact ih (i + 1) (by omega) (by omega)
theorem xm_sum {n : Nat} {K V : Nat → Int32} {L : List (Int32 × Int32)} (hL : pa_L L) (hX : pa_X n K V L) (lo hi : Int32) {post : Int32 → Prop} (H : post (ab_sum lo hi L)) : wpX_sum post (nI n, K, V) lo hi := by
  have hn := pa_n48 hL hX.2
  unfold wpX_sum
  dsimp only
  refine xa_fal lo hn (fun p hp h1 h2 => ?_)
  refine xa_eor hi hn hp (fun e hpe hen h3 h4 => ?_)
  have R := pa_rg hX.1 hpe hen h1 h2 h3 h4
  obtain ⟨s1, s2, s3⟩ := ab_sumX hX.2 R
  refine ⟨e - p + 1, ?_⟩
  have h := xm_sumL hn hen s2 s3 H (e - p) p (by omega) (Nat.le_refl _)
  rw [s1] at h
  exact h
theorem xm_bestL {n p e : Nat} {K V : Nat → Int32} {post : Int32 → Prop} (hn : n ≤ 48) (hen : e ≤ n) (H : ∀ m, p ≤ m → m < e → (∀ j, p ≤ j → j < e → (V j).toInt < (V m).toInt ∨ ((V j).toInt = (V m).toInt ∧ m ≤ j)) → post (K m)) : ∀ d i m, i + d = e → p ≤ m → m < i → (∀ j, p ≤ j → j < i → (V j).toInt < (V m).toInt ∨ ((V j).toInt = (V m).toInt ∧ m ≤ j)) → wX_best_32 post (nI e) (nI n) K V (d + 1) (nI m) (nI i) := by
  intro d
  induction d with
  | zero =>
    intro i m hi hp hm h
    refine br_t (nI_le (by omega) (by omega)) ⟨vp_in_nI (by omega) (by omega), ?_⟩
    rw [nI_clamp (by omega)]
    exact H m hp (by omega) (fun j a b => h j a (by omega))
  | succ d ih =>
    intro i m hi hp hm h
    refine br_f (nI_ge (by omega) (by omega)) ?_
    rw [nI_clamp (show i < 2 ^ 31 by omega), nI_clamp (show m < 2 ^ 31 by omega)]
    refine ⟨vp_in_nI (by omega) (by omega), vp_in_nI (by omega) (by omega), br_c (fun c => ?_) (fun c => ?_)⟩
    · rw [pa_le] at c
      refine nm_r (nI_1 i) (ih (i + 1) m (by omega) hp (by omega) (fun j a b => ?_))
      by_cases z : j = i
      · subst z
        omega
      · exact h j a (by omega)
    · rw [pa_le] at c
      refine nm_r (nI_1 i) (ih (i + 1) i (by omega) (by omega) (by omega) (fun j a b => ?_))
      by_cases z : j = i
      · subst z
        exact Or.inr ⟨rfl, Nat.le_refl _⟩
      · have := h j a (by omega)
        omega
theorem xm_best {n : Nat} {K V : Nat → Int32} {L : List (Int32 × Int32)} (hL : pa_L L) (hX : pa_X n K V L) (lo hi : Int32) {post : Int32 → Prop} (H : ∀ r, sp_best L lo hi r → post r) : wpX_best post (nI n, K, V) lo hi := by
  have hn := pa_n48 hL hX.2
  unfold wpX_best
  dsimp only
  refine xa_fal lo hn (fun p hp h1 h2 => ?_)
  refine xa_eor hi hn hp (fun e hpe hen h3 h4 => ?_)
  have R := pa_rg hX.1 hpe hen h1 h2 h3 h4
  refine br_c (fun c => ?_) (fun c => ?_)
  · rw [nI_ltI (by omega) (by omega)] at c
    refine nm_r (nI_1 p) ⟨e - (p + 1) + 1, ?_⟩
    refine xm_bestL hn hen (fun m a b h => H _ (xs_best hX R a b h)) (e - (p + 1)) (p + 1) p (by omega) (Nat.le_refl _) (by omega) (fun j a b => ?_)
    have : j = p := by omega
    rw [this]
    exact Or.inr ⟨rfl, Nat.le_refl _⟩
  · rw [nI_ltI (by omega) (by omega)] at c
    have : e = p := by omega
    subst this
    exact H _ (xs_best0 hX R)
theorem xm_closeL {n : Nat} {K V : Nat → Int32} {L : List (Int32 × Int32)} (hL : pa_L L) (hX : pa_X n K V L) {post : Int32 → Prop} (H : ∀ r, sp_close L r → post r) : ∀ d i m (r : Int32), i + 1 + d = n → m + 1 ≤ i → r.toInt = (K (m + 1)).toInt - (K m).toInt → (∀ j, j + 1 ≤ i → r.toInt ≤ (K (j + 1)).toInt - (K j).toInt) → wX_closest_26 post (nI n) K V (d + 1) r (nI (i + 1)) := by
  have hn := pa_n48 hL hX.2
  intro d
  induction d with
  | zero =>
    intro i m r hi hm e h
    exact br_t (nI_le (by omega) (by omega)) (H _ (xs_close hX (by omega) e (fun j hj => h j (by omega))))
  | succ d ih =>
    intro i m r hi hm e h
    have g1 := pa_g hL hX.2 (show i < n by omega)
    have g2 := pa_g hL hX.2 (show i + 1 < n by omega)
    have ed : (K (i + 1) - K i).toInt = (K (i + 1)).toInt - (K i).toInt := pa_sub (by omega) (by omega)
    refine br_f (nI_ge (by omega) (by omega)) ?_
    rw [nI_pred, nI_clamp (show i + 1 < 2 ^ 31 by omega), nI_clamp (show i < 2 ^ 31 by omega)]
    refine ⟨vp_in_nI (by omega) (by omega), vp_in_nI (by omega) (by omega), nm_e (br_c (fun c => ?_) (fun c => ?_))⟩
    · rw [pa_le, ed] at c
      refine nm_r (nI_1 (i + 1)) (ih (i + 1) m r (by omega) (by omega) e (fun j hj => ?_))
      by_cases z : j = i
      · subst z
        exact c
      · exact h j (by omega)
    · rw [pa_le, ed] at c
      refine nm_r (nI_1 (i + 1)) (ih (i + 1) i (K (i + 1) - K i) (by omega) (by omega) ed (fun j hj => ?_))
      rw [ed]
      by_cases z : j = i
      · subst z
        exact Int.le_refl _
      · have := h j (by omega)
        omega
theorem xm_closest {n : Nat} {K V : Nat → Int32} {L : List (Int32 × Int32)} (hL : pa_L L) (hX : pa_X n K V L) {post : Int32 → Prop} (H : ∀ r, sp_close L r → post r) : wpX_closest post (nI n, K, V) := by
  have hn := pa_n48 hL hX.2
  unfold wpX_closest
  dsimp only
  refine br_c (fun c => ?_) (fun c => ?_)
  · have c' : 2 ≤ n := (nI_leI (a := 2) (by omega) (by omega)).mp c
    have g1 := pa_g hL hX.2 (show 0 < n by omega)
    have g2 := pa_g hL hX.2 (show 1 < n by omega)
    have ed : (K 1 - K 0).toInt = (K 1).toInt - (K 0).toInt := pa_sub (by omega) (by omega)
    refine nm_e ⟨n - 2 + 1, ?_⟩
    refine xm_closeL hL hX H (n - 2) 1 0 _ (by omega) (by omega) ed (fun j hj => ?_)
    have : j = 0 := by omega
    subst this
    rw [ed]
    exact Int.le_refl _
  · have c' : ¬ 2 ≤ n := fun z => c ((nI_leI (a := 2) (by omega) (by omega)).mpr z)
    exact H _ (xs_close0 hX (by omega))
theorem xm_gapL {n p : Nat} {K V : Nat → Int32} {L : List (Int32 × Int32)} (hL : pa_L L) (hX : pa_X n K V L) {t : Int} {post : Int32 → Prop} (H : ∀ i (g : Int32), p ≤ i → i ≤ n → (∀ j, p ≤ j → j < i → (K j).toInt = t + ((j - p : Nat) : Int)) → g.toInt = t + ((i - p : Nat) : Int) → (i < n → g.toInt < (K i).toInt) → (g.toInt ≤ 1000 → post g) ∧ (¬ g.toInt ≤ 1000 → post (-2000))) : ∀ d i (g : Int32), i + d = n → p ≤ i → (∀ j, p ≤ j → j < i → (K j).toInt = t + ((j - p : Nat) : Int)) → g.toInt = t + ((i - p : Nat) : Int) → (i < n → g.toInt ≤ (K i).toInt) → wX_gap_24 post (nI n) K V (d + 1) g (nI i) := by
  have hn := pa_n48 hL hX.2
  intro d
  induction d with
  | zero =>
    intro i g hi hp h hg h3
    have h' := H i g hp (by omega) h hg (fun z => by omega)
    exact br_t (nI_le (by omega) (by omega)) (br_c (fun c => h'.2 (by rw [pa_lt, pa_p1000] at c; omega)) (fun c => h'.1 (by rw [pa_lt, pa_p1000] at c; omega)))
  | succ d ih =>
    intro i g hi hp h hg h3
    have h3' := h3 (by omega)
    refine br_f (nI_ge (by omega) (by omega)) ?_
    rw [nI_clamp (show i < 2 ^ 31 by omega)]
    refine ⟨vp_in_nI (by omega) (by omega), br_c (fun c => ?_) (fun c => ?_)⟩
    · have gi := pa_g hL hX.2 (show i < n by omega)
      rw [c] at gi
      have eg : (g + 1).toInt = g.toInt + 1 := by
        rw [pa_add (by rw [pa_p1]; omega) (by rw [pa_p1]; omega), pa_p1]
      refine nm_e (nm_r (nI_1 i) (ih (i + 1) (g + 1) (by omega) (by omega) (fun j a b => ?_) ?_ (fun z => ?_)))
      · by_cases y : j = i
        · rw [y, c]
          exact hg
        · exact h j a (by omega)
      · rw [eg, hg]
        omega
      · have := hX.1 i (i + 1) (by omega) z
        rw [c] at this
        omega
    · have c' : (K i).toInt ≠ g.toInt := fun z => c (Int32.toInt_inj.mp z)
      have h' := H i g hp (by omega) h hg (fun _ => by omega)
      exact br_c (fun c => h'.2 (by rw [pa_lt, pa_p1000] at c; omega)) (fun c => h'.1 (by rw [pa_lt, pa_p1000] at c; omega))
theorem xa_gapJ {n : Nat} {K V : Nat → Int32} {L : List (Int32 × Int32)} (hL : pa_L L) (hX : pa_X n K V L) {f z : Int32} {post : Int32 → Prop} (H : ∀ r, sp_gap L f r → post r) (h1 : -1000 ≤ z.toInt) (h2 : f.toInt ≤ z.toInt) (h3 : z.toInt = -1000 ∨ z.toInt = f.toInt) : wX_gap_14 post z (nI n) K V := by
  have hn := pa_n48 hL hX.2
  refine xa_fal z hn (fun p hp a1 a2 => ⟨n - p + 1, ?_⟩)
  refine xm_gapL hL hX (t := z.toInt) (fun i g hpi hi h hg h4 => ?_) (n - p) p z (by omega) (Nat.le_refl _) (fun j a b => by omega) (by omega) a2
  have x := xs_gap hL hX h1 h2 h3 hpi hi a1 h hg h4
  exact ⟨fun a => H _ (x.1 a), fun a => H _ (x.2 a)⟩
theorem xm_gap {n : Nat} {K V : Nat → Int32} {L : List (Int32 × Int32)} (hL : pa_L L) (hX : pa_X n K V L) (f : Int32) {post : Int32 → Prop} (H : ∀ r, sp_gap L f r → post r) : wpX_gap post (nI n, K, V) f := by
  unfold wpX_gap
  dsimp only
  refine br_c (fun c => ?_) (fun c => ?_)
  · rw [pa_le, pa_m1000] at c
    exact xa_gapJ hL hX H c (Int.le_refl _) (Or.inr rfl)
  · rw [pa_le, pa_m1000] at c
    exact xa_gapJ hL hX H (by rw [pa_m1000]; omega) (by rw [pa_m1000]; omega) (Or.inl pa_m1000)
