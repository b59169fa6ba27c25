/-! Y: closest, gap, best, slide -/
theorem ym_closeI {n i : Nat} {K V : Nat → Int32} {L : List (Int32 × Int32)} (hL : pa_L L) (hY : (pa_l K V n).Perm L) {post : Int32 → Prop} {J : Int32 → Int32 → Prop} (hi : i < n) (hJ : ∀ r, yc_I K n (i + 1) 0 r → J r (nI (i + 1))) : ∀ d j r, j + d = n → yc_I K n i j r → wY_closest_14 post J (nI i) (nI n) K V (d + 1) r (nI j) := by
  have hn := pa_n48 hL hY
  intro d
  induction d with
  | zero =>
    intro j r hj h
    have e : j = n := by omega
    subst e
    exact br_t (nI_le (by omega) (by omega)) (nm_r (nI_1 i) (hJ r (yc_row h)))
  | succ d ih =>
    intro j r hj h
    have g1 := pa_g hL hY hi
    have g2 := pa_g hL hY (show j < n by omega)
    have ed : (K i - K j).toInt = (K i).toInt - (K j).toInt := pa_sub (by omega) (by omega)
    refine br_f (nI_ge (by omega) (by omega)) ?_
    rw [nI_clamp (show i < 2 ^ 31 by omega), nI_clamp (show j < 2 ^ 31 by omega)]
    refine ⟨vp_in_nI (by omega) (by omega), vp_in_nI (by omega) (by omega), nm_e (br_c (fun c => ?_) (fun c => br_c (fun c2 => ?_) (fun c2 => br_c (fun c3 => ?_) (fun c3 => ?_))))⟩
    · rw [pa_le, ed, pa_p0] at c
      exact nm_r (nI_1 j) (ih (j + 1) r (by omega) (yc_keep h (fun z => by omega)))
    · rw [pa_le, ed, pa_p0] at c
      exact nm_r (nI_1 j) (ih (j + 1) _ (by omega) (yc_new h ed (by omega) (Or.inl c2)))
    · rw [pa_le, ed] at c3
      exact nm_r (nI_1 j) (ih (j + 1) r (by omega) (yc_keep h (fun z => ⟨c2, c3⟩)))
    · rw [pa_le, ed, pa_p0] at c
      rw [pa_le, ed] at c3
      exact nm_r (nI_1 j) (ih (j + 1) _ (by omega) (yc_new h ed (by omega) (Or.inr (by omega))))
theorem ym_closeO {n : Nat} {K V : Nat → Int32} {L : List (Int32 × Int32)} (hL : pa_L L) (hY : (pa_l K V n).Perm L) {post : Int32 → Prop} (H : ∀ r, sp_close L r → post r) : ∀ d i r, i + d = n → yc_I K n i 0 r → wY_closest_4 post (nI n) K V (d + 1) r (nI i) := by
  have hn := pa_n48 hL hY
  intro d
  induction d with
  | zero =>
    intro i r hi h
    have e : i = n := by omega
    subst e
    exact br_t (nI_le (by omega) (by omega)) (H r (yc_end hY h))
  | succ d ih =>
    intro i r hi h
    refine br_f (nI_ge (by omega) (by omega)) ⟨n + 1, ?_⟩
    exact ym_closeI hL hY (by omega) (fun r1 h1 => ih (i + 1) r1 (by omega) h1) n 0 r (by omega) h
theorem ym_closest {n : Nat} {K V : Nat → Int32} {L : List (Int32 × Int32)} (hL : pa_L L) (hY : (pa_l K V n).Perm L) {post : Int32 → Prop} (H : ∀ r, sp_close L r → post r) : wpY_closest post (nI n, K, V) :=
  ⟨n + 1, ym_closeO hL hY H n 0 0 (by omega) yc_0⟩
theorem ym_gapL {n : Nat} {K V : Nat → Int32} {L : List (Int32 × Int32)} (hL : pa_L L) (hY : (pa_l K V n).Perm L) {f : Int32} {post : Int32 → Prop} (H : ∀ r, sp_gap L f r → post r) : ∀ (d j : Nat) (x : Int32), j + d = 2001 → x.toInt = (j : Int) - 1000 → (∀ t : Int, -1000 ≤ t → f.toInt ≤ t → t < x.toInt → ∃ q, q ∈ L ∧ q.1.toInt = t) → wY_gap_4 post f (nI n) K V (d + 1) x := by
  have hn := pa_n48 hL hY
  intro d
  induction d with
  | zero =>
    intro j x hj hx h
    refine br_t (by rw [pa_lt, pa_p1000]; omega) (H _ (Or.inr ⟨fun t a b c => h t a c (by omega), rfl⟩))
  | succ d ih =>
    intro j x hj hx h
    have ex1 : (x + 1).toInt = x.toInt + 1 := by
      rw [pa_add (by rw [pa_p1]; omega) (by rw [pa_p1]; omega), pa_p1]
    refine br_f (by rw [pa_lt, pa_p1000]; omega) (br_c (fun c => ?_) (fun c => ?_))
    · rw [pa_lt] at c
      refine nm_e (ih (j + 1) (x + 1) (by omega) (by omega) (fun t a b e => ?_))
      exact h t a b (by omega)
    · rw [pa_lt] at c
      refine ya_place hn (fun p hp e => ?_) (fun hno => ?_)
      · refine br_t (nI_pos' (by omega)) (nm_e (ih (j + 1) (x + 1) (by omega) (by omega) (fun t a b y => ?_)))
        by_cases z : t = x.toInt
        · exact ⟨_, pa_iL hY hp, by rw [z, ← e]⟩
        · exact h t a b (by omega)
      · refine br_f (by decide) (H x (Or.inl ⟨by omega, by omega, by omega, fun q hq z => ?_, h⟩))
        exact ya_none hY hno q hq (Int32.toInt_inj.mp z)
theorem ym_gap {n : Nat} {K V : Nat → Int32} {L : List (Int32 × Int32)} (hL : pa_L L) (hY : (pa_l K V n).Perm L) (f : Int32) {post : Int32 → Prop} (H : ∀ r, sp_gap L f r → post r) : wpY_gap post (nI n, K, V) f :=
  ⟨2002, ym_gapL hL hY H 2001 0 (-1000) (by omega) (by rw [pa_m1000]; omega) (fun t a b c => by rw [pa_m1000] at c; omega)⟩
theorem ym_bestL {n : Nat} {K V : Nat → Int32} {L : List (Int32 × Int32)} (hL : pa_L L) (hY : (pa_l K V n).Perm L) {lo hi : Int32} {post : Int32 → Prop} (H : ∀ r, sp_best L lo hi r → post r) : ∀ d i f, i + d = n → yb_I K V lo hi i f → wY_best_5 post lo hi (nI n) K V (d + 1) f (nI i) := by
  have hn := pa_n48 hL hY
  intro d
  induction d with
  | zero =>
    intro i f hi' s
    have e : i = n := by omega
    subst e
    refine br_t (nI_le (by omega) (by omega)) ?_
    have s2 := s
    rcases s with ⟨m, hm, rfl, c, a⟩ | ⟨a, rfl⟩
    · refine br_t (nI_pos' (by omega)) ⟨vp_in_nI (by omega) (by omega), ?_⟩
      rw [nI_clamp (by omega)]
      exact H _ (yb_end hY (by omega) hm s2)
    · exact br_f (by decide) (H _ (yb_end0 hY (by omega) s2))
  | succ d ih =>
    intro i f hi' s
    refine br_f (nI_ge (by omega) (by omega)) ?_
    refine ⟨vp_in_nI (by omega) (by omega), ?_⟩
    rw [nI_clamp (show i < 2 ^ 31 by omega)]
    refine ya_in (fun g => ?_) (fun g => ?_)
    · have gi : pa_in lo hi (K i, V i) = true := pa_inT.mpr g
      refine br_f (by decide) ?_
      have s2 := s
      rcases s with ⟨m, hm, rfl, c, a⟩ | ⟨a, rfl⟩
      · have hv : ∀ z, z < 48 → vp_in (nI z) 48 := fun z hz => vp_in_nI hz (by omega)
        have new : ((V m).toInt < (V i).toInt ∨ ((V i).toInt = (V m).toInt ∧ (K i).toInt < (K m).toInt)) → wY_best_5 post lo hi (nI n) K V (d + 1) (nI i) (nI (i + 1)) := fun h => ih (i + 1) (nI i) (by omega) (yb_new hm s2 (by omega) gi h)
        have keep : ¬ (V m).toInt < (V i).toInt → ¬ ((V i).toInt = (V m).toInt ∧ (K i).toInt < (K m).toInt) → wY_best_5 post lo hi (nI n) K V (d + 1) (nI m) (nI (i + 1)) := fun h h2 => ih (i + 1) (nI m) (by omega) (yb_keep hm s2 (by omega) h h2)
        refine br_f (nI_pos (by omega)) ⟨hv i (by omega), hv m (by omega), ?_⟩
        rw [nI_clamp (show m < 2 ^ 31 by omega)]
        refine br_c (fun c1 => ?_) (fun c1 => ?_)
        · rw [pa_le] at c1
          unfold wY_best_58 wY_best_100 wY_best_101
          refine br_f (nI_pos (by omega)) ⟨hv i (by omega), hv m (by omega), ?_⟩
          rw [nI_clamp (show m < 2 ^ 31 by omega), nI_clamp (show i < 2 ^ 31 by omega)]
          refine br_c (fun e => ⟨hv i (by omega), hv m (by omega), br_c (fun g2 => ?_) (fun g2 => ?_)⟩) (fun e => ?_)
          · rw [pa_le] at g2
            exact br_t rfl (br_t rfl (nm_r (nI_1 i) (keep (by omega) (by omega))))
          · rw [pa_le] at g2
            rw [pa_eq] at e
            exact br_t rfl (br_f (by decide) (nm_r (nI_1 i) (new (by omega))))
          · rw [pa_eq] at e
            exact br_t rfl (br_t rfl (nm_r (nI_1 i) (keep (by omega) (by omega))))
        · rw [pa_le] at c1
          unfold wY_best_53 wY_best_58 wY_best_100 wY_best_101
          refine br_f (nI_pos (by omega)) ⟨hv i (by omega), hv m (by omega), ?_⟩
          rw [nI_clamp (show m < 2 ^ 31 by omega), nI_clamp (show i < 2 ^ 31 by omega)]
          refine br_c (fun e => ⟨hv i (by omega), hv m (by omega), br_c (fun g2 => ?_) (fun g2 => ?_)⟩) (fun e => ?_)
          · exact br_f (by decide) (nm_r (nI_1 i) (new (by omega)))
          · exact br_f (by decide) (nm_r (nI_1 i) (new (by omega)))
          · exact br_f (by decide) (nm_r (nI_1 i) (new (by omega)))
      · refine br_t (by decide) ?_
        unfold wY_best_53 wY_best_58 wY_best_100 wY_best_101
        exact br_t (by decide) (br_f (by decide) (nm_r (nI_1 i) (ih (i + 1) (nI i) (by omega) (yb_first s2 (by omega) gi))))
    · exact br_t rfl (nm_r (nI_1 i) (ih (i + 1) f (by omega) (yb_out s (pa_inF g))))
theorem ym_best {n : Nat} {K V : Nat → Int32} {L : List (Int32 × Int32)} (hL : pa_L L) (hY : (pa_l K V n).Perm L) (lo hi : Int32) {post : Int32 → Prop} (H : ∀ r, sp_best L lo hi r → post r) : wpY_best post (nI n, K, V) lo hi :=
  ⟨n + 1, ym_bestL hL hY H n 0 (-1) (by omega) yb_0⟩
theorem ym_slD {n : Nat} {K V : Nat → Int32} {lo hi b c : Int32} {post : Int32 → SY → Prop} (hn : n ≤ 48) (H : ∀ K1, (∀ i, i < n → K1 i = if pa_in lo hi (K i, V i) = true then K i + b else K i) → post c (nI n, K1, V)) : ∀ d i K1, i + d = n → (∀ j, j < i → K1 j = if pa_in lo hi (K j, V j) = true then K j + b else K j) → (∀ j, i ≤ j → K1 j = K j) → wY_slide_154 post lo hi b c (nI n) (d + 1) (nI i) K1 V := by
  intro d
  induction d with
  | zero =>
    intro i K1 hi h1 h2
    have : i = n := by omega
    subst this
    exact br_t (nI_le (by omega) (by omega)) (H K1 h1)
  | succ d ih =>
    intro i K1 hi h1 h2
    have eK := h2 i (Nat.le_refl _)
    refine br_f (nI_ge (by omega) (by omega)) ?_
    rw [nI_clamp (show i < 2 ^ 31 by omega)]
    refine ⟨vp_in_nI (by omega) (by omega), ?_⟩
    refine ya_in (fun g => ?_) (fun g => ?_)
    · rw [eK] at g
      refine br_f (by decide) ⟨vp_in_nI (by omega) (by omega), vp_in_nI (by omega) (by omega), nm_e (nm_r (nI_1 i) ?_)⟩
      refine ih (i + 1) _ (by omega) (fun j hj => ?_) (fun j hj => ?_)
      · by_cases z : j = i
        · subst z
          rw [pk_us, if_pos (pa_inT.mpr g), eK]
        · rw [pk_un z]
          exact h1 j (by omega)
      · rw [pk_un (by omega)]
        exact h2 j (by omega)
    · rw [eK] at g
      refine br_t rfl (nm_r (nI_1 i) ?_)
      refine ih (i + 1) _ (by omega) (fun j hj => ?_) (fun j hj => h2 j (by omega))
      by_cases z : j = i
      · subst z
        rw [if_neg (fun y => g (pa_inT.mp y)), eK]
      · exact h1 j (by omega)
theorem ym_slC {n i : Nat} {K V : Nat → Int32} {lo hi b c : Int32} {post : Int32 → SY → Prop} {J : Int32 → Int32 → Prop} (hn : n ≤ 48) (hi' : i < n) (H1 : ∀ j, j < n → K j = K i + b → ¬ (lo.toInt ≤ (K j).toInt ∧ (K j).toInt ≤ hi.toInt) → post (-2) (nI n, K, V)) (hJ : (∀ j, j < n → K j = K i + b → lo.toInt ≤ (K j).toInt ∧ (K j).toInt ≤ hi.toInt) → J c (nI (i + 1))) : ∀ d j, j + d = n → (∀ m, m < j → K m = K i + b → lo.toInt ≤ (K m).toInt ∧ (K m).toInt ≤ hi.toInt) → wY_slide_92 post J lo hi b c (nI i) (nI n) K V (d + 1) (nI j) := by
  intro d
  induction d with
  | zero =>
    intro j hj h
    exact br_t (nI_le (by omega) (by omega)) (nm_r (nI_1 i) (hJ (fun m hm => h m (by omega))))
  | succ d ih =>
    intro j hj h
    refine br_f (nI_ge (by omega) (by omega)) ?_
    rw [nI_clamp (show i < 2 ^ 31 by omega), nI_clamp (show j < 2 ^ 31 by omega)]
    refine ⟨vp_in_nI (by omega) (by omega), vp_in_nI (by omega) (by omega), br_c (fun e => ?_) (fun e => ?_)⟩
    · refine ⟨vp_in_nI (by omega) (by omega), ?_⟩
      refine ya_in (fun g => ?_) (fun g => ?_)
      · refine br_f (by decide) (nm_r (nI_1 j) (ih (j + 1) (by omega) (fun m hm => ?_)))
        by_cases z : m = j
        · rw [z]
          exact fun _ => g
        · exact h m (by omega)
      · exact br_t rfl (H1 j (by omega) e g)
    · refine nm_r (nI_1 j) (ih (j + 1) (by omega) (fun m hm => ?_))
      by_cases z : m = j
      · rw [z]
        exact fun y => absurd y e
      · exact h m (by omega)
theorem ym_slB {n : Nat} {K V : Nat → Int32} {L : List (Int32 × Int32)} (hL : pa_L L) (hY : (pa_l K V n).Perm L) {lo hi b : Int32} {post : Int32 → SY → Prop} (hb : ¬ ab_bad L lo hi b) (H : ∀ r L1, ab_sl L lo hi b r L1 → ∀ n1 K1 V1, (pa_l K1 V1 n1).Perm L1 → post r (nI n1, K1, V1)) : ∀ d i, i + d = n → (∀ j, j < i → (lo.toInt ≤ (K j).toInt ∧ (K j).toInt ≤ hi.toInt) → ∀ m, m < n → K m = K j + b → lo.toInt ≤ (K m).toInt ∧ (K m).toInt ≤ hi.toInt) → wY_slide_58 post lo hi b (nI n) K V (d + 1) (nI ((pa_l K V i).countP (pa_in lo hi))) (nI i) := by
  have hn := pa_n48 hL hY
  intro d
  induction d with
  | zero =>
    intro i hi' h
    have : i = n := by omega
    subst this
    have hm := ys_met0 hY h
    refine br_t (nI_le (by omega) (by omega)) ⟨i + 1, ?_⟩
    refine ym_slD (K := K) hn (fun K1 h1 => ?_) i 0 K (by omega) (fun j hj => absurd hj (Nat.not_lt_zero j)) (fun _ _ => rfl)
    rw [hY.countP_eq]
    exact H _ _ (Or.inr (Or.inr ⟨hb, hm, rfl, rfl⟩)) i K1 V (pa_mvP hY h1)
  | succ d ih =>
    intro i hi' h
    have e := ys_cnt (K := K) (V := V) (i := i) (lo := lo) (hi := hi)
    refine br_f (nI_ge (by omega) (by omega)) ?_
    rw [nI_clamp (show i < 2 ^ 31 by omega)]
    refine ⟨vp_in_nI (by omega) (by omega), ?_⟩
    refine ya_in (fun g => ?_) (fun g => ?_)
    · rw [if_pos g] at e
      refine br_f (by decide) (nm_r (nI_1 _) ?_)
      rw [← e]
      refine ⟨n + 1, ?_⟩
      refine ym_slC hn (by omega) (fun j hj ej g2 => ?_) (fun h2 => ?_) n 0 (by omega) (fun m hm => absurd hm (Nat.not_lt_zero m))
      · exact H _ _ (Or.inr (Or.inl ⟨hb, ys_met1 hY (by omega) g hj ej g2, rfl, rfl⟩)) n K V hY
      · refine ih (i + 1) (by omega) (fun j hj => ?_)
        by_cases z : j = i
        · rw [z]
          exact fun _ => h2
        · exact h j (by omega)
    · rw [if_neg g] at e
      replace e := e.trans (Nat.add_zero _)
      refine br_t rfl (nm_r (nI_1 i) ?_)
      rw [← e]
      refine ih (i + 1) (by omega) (fun j hj => ?_)
      by_cases z : j = i
      · rw [z]
        exact fun y => absurd y g
      · exact h j (by omega)
theorem ym_slA {n : Nat} {K V : Nat → Int32} {L : List (Int32 × Int32)} (hL : pa_L L) (hY : (pa_l K V n).Perm L) {lo hi b : Int32} {post : Int32 → SY → Prop} (H : ∀ r L1, ab_sl L lo hi b r L1 → ∀ n1 K1 V1, (pa_l K1 V1 n1).Perm L1 → post r (nI n1, K1, V1)) : ∀ d i, i + d = n → (∀ j, j < i → (lo.toInt ≤ (K j).toInt ∧ (K j).toInt ≤ hi.toInt) → -1000 ≤ (K j + b).toInt ∧ (K j + b).toInt ≤ 1000) → wY_slide_3 post lo hi b (nI n) K V (d + 1) (nI i) := by
  have hn := pa_n48 hL hY
  intro d
  induction d with
  | zero =>
    intro i hi' h
    have : i = n := by omega
    subst this
    have hb := ys_bad0 hY h
    refine br_t (nI_le (by omega) (by omega)) ⟨i + 1, ?_⟩
    exact ym_slB hL hY hb H i 0 (by omega) (fun j hj => absurd hj (Nat.not_lt_zero j))
  | succ d ih =>
    intro i hi' h
    refine br_f (nI_ge (by omega) (by omega)) ?_
    rw [nI_clamp (show i < 2 ^ 31 by omega)]
    refine ⟨vp_in_nI (by omega) (by omega), ?_⟩
    refine ya_in (fun g => ?_) (fun g => ?_)
    · refine br_f (by decide) ⟨vp_in_nI (by omega) (by omega), ?_⟩
      refine ya_good (fun g2 => ?_) (fun g2 => ?_)
      · refine br_f (by decide) (nm_r (nI_1 i) (ih (i + 1) (by omega) (fun j hj => ?_)))
        by_cases z : j = i
        · rw [z]
          exact fun _ => g2
        · exact h j (by omega)
      · exact br_t rfl (H _ _ (Or.inl ⟨ys_bad1 hY (by omega) g g2, rfl, rfl⟩) n K V hY)
    · refine br_t rfl (nm_r (nI_1 i) (ih (i + 1) (by omega) (fun j hj => ?_)))
      by_cases z : j = i
      · rw [z]
        exact fun y => absurd y g
      · exact h j (by omega)
theorem ym_slide {n : Nat} {K V : Nat → Int32} {L : List (Int32 × Int32)} (hL : pa_L L) (hY : (pa_l K V n).Perm L) (lo hi b : Int32) {post : Int32 → SY → Prop} (H : ∀ r L1, ab_sl L lo hi b r L1 → ∀ n1 K1 V1, (pa_l K1 V1 n1).Perm L1 → post r (nI n1, K1, V1)) : wpY_slide post (nI n, K, V) lo hi b :=
  ⟨n + 1, ym_slA hL hY H n 0 (by omega) (fun j hj => absurd hj (Nat.not_lt_zero j))⟩
