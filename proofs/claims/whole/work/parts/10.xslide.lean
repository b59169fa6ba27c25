/-! slide: what it does to L, and X's way -/
def ab_sl (L : List (Int32 × Int32)) (lo hi b r : Int32) (L1 : List (Int32 × Int32)) : Prop := (ab_bad L lo hi b ∧ r = -1 ∧ L1 = L) ∨ (¬ ab_bad L lo hi b ∧ ab_met L lo hi b ∧ r = -2 ∧ L1 = L) ∨ (¬ ab_bad L lo hi b ∧ ¬ ab_met L lo hi b ∧ r = nI (L.countP (pa_in lo hi)) ∧ L1 = L.map (ab_mv lo hi b))
theorem ab_slU {L : List (Int32 × Int32)} {lo hi b r r' : Int32} {L1 L2 : List (Int32 × Int32)} (h : ab_sl L lo hi b r L1) (h' : ab_sl L lo hi b r' L2) : r' = r ∧ L2 = L1 := by
  rcases h with ⟨a, rfl, rfl⟩ | ⟨a, c, rfl, rfl⟩ | ⟨a, c, rfl, rfl⟩
  · rcases h' with ⟨_, rfl, rfl⟩ | ⟨a', _⟩ | ⟨a', _⟩
    · exact ⟨rfl, rfl⟩
    · exact absurd a a'
    · exact absurd a a'
  · rcases h' with ⟨a', _⟩ | ⟨_, _, rfl, rfl⟩ | ⟨_, c', _⟩
    · exact absurd a' a
    · exact ⟨rfl, rfl⟩
    · exact absurd c c'
  · rcases h' with ⟨a', _⟩ | ⟨_, c', _⟩ | ⟨_, _, rfl, rfl⟩
    · exact absurd a' a
    · exact absurd c' c
    · exact ⟨rfl, rfl⟩
theorem ab_slL {L L1 : List (Int32 × Int32)} {lo hi b r : Int32} (hL : pa_L L) (h : ab_sl L lo hi b r L1) : pa_L L1 := by
  rcases h with ⟨a, _, rfl⟩ | ⟨a, c, _, rfl⟩ | ⟨a, c, _, rfl⟩
  · exact hL
  · exact hL
  · exact ab_mvL hL a c
theorem xs_bad1 {n p e j : Nat} {K V : Nat → Int32} {L : List (Int32 × Int32)} {lo hi b : Int32} (hL : pa_L L) (hY : (pa_l K V n).Perm L) (R : pa_R n K lo hi p e) (h1 : p ≤ j) (h2 : j < e) (g : ¬ (-1000 ≤ (K j).toInt + b.toInt ∧ (K j).toInt + b.toInt ≤ 1000)) : ab_bad L lo hi b := by
  have hj : j < n := Nat.lt_of_lt_of_le h2 R.2.1
  have gj := pa_g hL hY hj
  exact ⟨(K j, V j), pa_iL hY hj, pa_inT.mpr ((R.2.2 j hj).mpr ⟨h1, h2⟩), fun z => g ((pa_ga gj.1 gj.2).mp z)⟩
theorem xs_bad0 {n p e : Nat} {K V : Nat → Int32} {L : List (Int32 × Int32)} {lo hi b : Int32} (hL : pa_L L) (hY : (pa_l K V n).Perm L) (R : pa_R n K lo hi p e) (g : ∀ j, p ≤ j → j < e → -1000 ≤ (K j).toInt + b.toInt ∧ (K j).toInt + b.toInt ≤ 1000) : ¬ ab_bad L lo hi b := by
  intro ⟨q, hq, hin, hb⟩
  obtain ⟨j, hj, rfl⟩ := pa_idx hY hq
  have gj := pa_g hL hY hj
  have r := (R.2.2 j hj).mp (pa_inT.mp hin)
  exact hb ((pa_ga gj.1 gj.2).mpr (g j r.1 r.2))
theorem xs_met1 {n p e j i : Nat} {K V : Nat → Int32} {L : List (Int32 × Int32)} {lo hi b : Int32} (hY : (pa_l K V n).Perm L) (R : pa_R n K lo hi p e) (h1 : p ≤ j) (h2 : j < e) (hi' : i < n) (h : K i = K j + b) (h3 : ¬ (p ≤ i ∧ i < e)) : ab_met L lo hi b := by
  have hj : j < n := Nat.lt_of_lt_of_le h2 R.2.1
  exact ⟨(K j, V j), pa_iL hY hj, pa_inT.mpr ((R.2.2 j hj).mpr ⟨h1, h2⟩), (K i, V i), pa_iL hY hi', h, pa_inF (fun z => h3 ((R.2.2 i hi').mp z))⟩
theorem xs_met0 {n p e : Nat} {K V : Nat → Int32} {L : List (Int32 × Int32)} {lo hi b : Int32} (hY : (pa_l K V n).Perm L) (R : pa_R n K lo hi p e) (h : ∀ j, p ≤ j → j < e → ∀ i, i < n → K i = K j + b → p ≤ i ∧ i < e) : ¬ ab_met L lo hi b := by
  intro ⟨q, hq, hin, q', hq', e1, hout⟩
  obtain ⟨j, hj, rfl⟩ := pa_idx hY hq
  obtain ⟨i, hi', rfl⟩ := pa_idx hY hq'
  have r := (R.2.2 j hj).mp (pa_inT.mp hin)
  have r2 := h j r.1 r.2 i hi' e1
  rw [pa_inT.mpr ((R.2.2 i hi').mpr r2)] at hout
  exact absurd hout (by decide)
theorem ys_bad1 {n j : Nat} {K V : Nat → Int32} {L : List (Int32 × Int32)} {lo hi b : Int32} (hY : (pa_l K V n).Perm L) (hj : j < n) (hin : lo.toInt ≤ (K j).toInt ∧ (K j).toInt ≤ hi.toInt) (g : ¬ (-1000 ≤ (K j + b).toInt ∧ (K j + b).toInt ≤ 1000)) : ab_bad L lo hi b :=
  ⟨(K j, V j), pa_iL hY hj, pa_inT.mpr hin, g⟩
theorem ys_bad0 {n : Nat} {K V : Nat → Int32} {L : List (Int32 × Int32)} {lo hi b : Int32} (hY : (pa_l K V n).Perm L) (g : ∀ j, j < n → (lo.toInt ≤ (K j).toInt ∧ (K j).toInt ≤ hi.toInt) → -1000 ≤ (K j + b).toInt ∧ (K j + b).toInt ≤ 1000) : ¬ ab_bad L lo hi b := by
  intro ⟨q, hq, hin, hb⟩
  obtain ⟨j, hj, rfl⟩ := pa_idx hY hq
  exact hb (g j hj (pa_inT.mp hin))
theorem ys_met1 {n j i : Nat} {K V : Nat → Int32} {L : List (Int32 × Int32)} {lo hi b : Int32} (hY : (pa_l K V n).Perm L) (hj : j < n) (hin : lo.toInt ≤ (K j).toInt ∧ (K j).toInt ≤ hi.toInt) (hi' : i < n) (h : K i = K j + b) (h3 : ¬ (lo.toInt ≤ (K i).toInt ∧ (K i).toInt ≤ hi.toInt)) : ab_met L lo hi b :=
  ⟨(K j, V j), pa_iL hY hj, pa_inT.mpr hin, (K i, V i), pa_iL hY hi', h, pa_inF h3⟩
theorem ys_met0 {n : Nat} {K V : Nat → Int32} {L : List (Int32 × Int32)} {lo hi b : Int32} (hY : (pa_l K V n).Perm L) (h : ∀ j, j < n → (lo.toInt ≤ (K j).toInt ∧ (K j).toInt ≤ hi.toInt) → ∀ i, i < n → K i = K j + b → lo.toInt ≤ (K i).toInt ∧ (K i).toInt ≤ hi.toInt) : ¬ ab_met L lo hi b := by
  intro ⟨q, hq, hin, q', hq', e1, hout⟩
  obtain ⟨j, hj, rfl⟩ := pa_idx hY hq
  obtain ⟨i, hi', rfl⟩ := pa_idx hY hq'
  have r := h j hj (pa_inT.mp hin) i hi' e1
  rw [pa_inT.mpr r] at hout
  exact absurd hout (by decide)
/-- the sort: its inner walk, then its outer -/
theorem xa_sortI {n i : Nat} {L : List (Int32 × Int32)} {k v : Int32} {post : SX → Prop} {J : Int32 → (Nat → Int32) → (Nat → Int32) → Prop} (hn : n ≤ 48) (hJ : ∀ K1 V1, (pa_l K1 V1 n).Perm L → pa_W K1 (i + 1) → J (nI (i + 1)) K1 V1) : ∀ c K V, pa_I n L i c K V k v → wX_sortByKey_27 post J (nI i) k v (nI n) (c + 1) (nI c) K V := by
  intro c
  induction c with
  | zero =>
    intro K V h
    have hc := h.1
    have hi := h.2.1
    have x := pa_Ix h (fun a ha => by omega)
    refine br_t (by decide) ?_
    refine ⟨vp_in_nI (by omega) (by omega), nm_e ⟨vp_in_nI (by omega) (by omega), nm_e (nm_r (nI_1 i) ?_)⟩⟩
    rw [nI_clamp (show 0 < 2 ^ 31 by omega)]
    exact hJ _ _ x.1 x.2
  | succ c ih =>
    intro K V h
    have hc := h.1
    have hi := h.2.1
    refine br_f (nI_nle (by omega) (by omega)) ?_
    rw [nI_pred, nI_clamp (show c < 2 ^ 31 by omega)]
    refine ⟨vp_in_nI (by omega) (by omega), br_c (fun g => ?_) (fun g => ?_)⟩
    · rw [pa_le] at g
      have x := pa_Ix h (fun a ha => by
        have : a = c := by omega
        rw [this]
        exact g)
      refine ⟨vp_in_nI (by omega) (by omega), nm_e ⟨vp_in_nI (by omega) (by omega), nm_e (nm_r (nI_1 i) ?_)⟩⟩
      rw [nI_clamp (show c + 1 < 2 ^ 31 by omega)]
      exact hJ _ _ x.1 x.2
    · rw [pa_le] at g
      rw [nI_clamp (show c + 1 < 2 ^ 31 by omega)]
      refine ⟨vp_in_nI (by omega) (by omega), vp_in_nI (by omega) (by omega), nm_e ⟨vp_in_nI (by omega) (by omega), vp_in_nI (by omega) (by omega), nm_e (nm_r (pk_m1 c) ?_)⟩⟩
      exact ih _ _ (pa_Is h (by omega))
theorem xa_sortO {n : Nat} {L : List (Int32 × Int32)} {post : SX → Prop} (hn : n ≤ 48) (H : ∀ K1 V1, (pa_l K1 V1 n).Perm L → pa_W K1 n → post (nI n, K1, V1)) : ∀ d i K V, n ≤ i + d → i ≤ 48 → (pa_l K V n).Perm L → pa_W K i → wX_sortByKey_2 post (nI n) (d + 1) (nI i) K V := by
  intro d
  induction d with
  | zero =>
    intro i K V hi h48 h w
    exact br_t (nI_le (by omega) (by omega)) (H K V h (fun a b hab hb => w a b hab (by omega)))
  | succ d ih =>
    intro i K V hi h48 h w
    by_cases c : i < n
    · refine br_f (nI_ge (by omega) (by omega)) ?_
      rw [nI_clamp (show i < 2 ^ 31 by omega)]
      refine ⟨vp_in_nI (by omega) (by omega), nm_e ⟨vp_in_nI (by omega) (by omega), nm_e ⟨i + 1, ?_⟩⟩⟩
      exact xa_sortI hn (fun K1 V1 h1 w1 => ih (i + 1) K1 V1 (by omega) (by omega) h1 w1) i K V (pa_I0 c h w)
    · exact br_t (nI_le (by omega) (by omega)) (H K V h (fun a b hab hb => w a b hab (by omega)))
theorem xa_sort {n : Nat} {K V : Nat → Int32} {L : List (Int32 × Int32)} {post : SX → Prop} (hn : n ≤ 48) (h : (pa_l K V n).Perm L) (H : ∀ K1 V1, (pa_l K1 V1 n).Perm L → pa_W K1 n → post (nI n, K1, V1)) : wpX_sortByKey post (nI n, K, V) :=
  ⟨n + 1, xa_sortO hn H n 1 K V (by omega) (by omega) h (fun a b hab hb => by omega)⟩
/-- meetsOthers -/
theorem xa_meetL {n p e : Nat} {K V : Nat → Int32} {L : List (Int32 × Int32)} (hX : pa_X n K V L) {b : Int32} {post : Int32 → Prop} (hn : n ≤ 48) (hen : e ≤ n) (H0 : (∀ j, p ≤ j → j < e → ∀ i, i < n → K i = K j + b → p ≤ i ∧ i < e) → post 0) (H1 : ∀ j, p ≤ j → j < e → ∀ i, i < n → K i = K j + b → ¬ (p ≤ i ∧ i < e) → post 1) : ∀ d i, i + d = e → p ≤ i → (∀ j, p ≤ j → j < i → ∀ m, m < n → K m = K j + b → p ≤ m ∧ m < e) → wX_meetsOthers_3 post (nI p) (nI e) b (nI n) K V (d + 1) (nI i) := by
  intro d
  induction d with
  | zero =>
    intro i hi hp h
    exact br_t (nI_le (by omega) (by omega)) (H0 (fun j a c => h j a (by omega)))
  | succ d ih =>
    intro i hi hp h
    refine br_f (nI_ge (by omega) (by omega)) ⟨vp_in_nI (by omega) (by omega), nm_e ?_⟩
    rw [nI_clamp (show i < 2 ^ 31 by omega)]
    refine xa_fal _ hn (fun m hm h1 h2 => ?_)
    have key : ∀ q, q < n → K q = K i + b → q = m := by
      intro q hq e1
      by_cases c : q < m
      · have := h1 q c
        rw [e1] at this
        omega
      · by_cases z : m = q
        · exact z.symm
        · have a := hX.1 m q (by omega) hq
          have b2 := h2 (by omega)
          rw [e1] at a
          omega
    have nxt : (∀ q, q < n → K q = K i + b → p ≤ q ∧ q < e) → wX_meetsOthers_3 post (nI p) (nI e) b (nI n) K V (d + 1) (nI (i + 1)) := by
      intro hc
      refine ih (i + 1) (by omega) (by omega) (fun j a c => ?_)
      by_cases z : j = i
      · rw [z]
        exact hc
      · exact h j a (by omega)
    have outs : ¬ (p ≤ m ∧ m < e) → wX_meetsOthers_44 post (wX_meetsOthers_3 post (nI p) (nI e) b (nI n) K V (d + 1)) (nI p) (nI e) b (nI i) (K i + b) (nI m) (nI n) K V := by
      intro ho
      unfold wX_meetsOthers_44 wX_meetsOthers_45
      refine br_t rfl (xa_key hn hm (fun hmn e1 => ?_) (fun hne => ?_))
      · exact br_f (by decide) (H1 i hp (by omega) m hmn e1 ho)
      · refine br_t rfl (nm_r (nI_1 i) (nxt (fun q hq e1 => ?_)))
        have e2 := key q hq e1
        rw [e2] at e1 hq
        exact absurd e1 (hne hq)
    refine br_c (fun c => ?_) (fun c => br_c (fun c2 => ?_) (fun c2 => ?_))
    · rw [nI_ltI (by omega) (by omega)] at c
      exact outs (by omega)
    · rw [nI_leI (by omega) (by omega)] at c2
      exact outs (by omega)
    · rw [nI_ltI (by omega) (by omega)] at c
      rw [nI_leI (by omega) (by omega)] at c2
      unfold wX_meetsOthers_45
      refine br_f (by decide) (nm_r (nI_1 i) (nxt (fun q hq e1 => ?_)))
      have e2 := key q hq e1
      omega
theorem xa_meet {n p e : Nat} {K V : Nat → Int32} {L : List (Int32 × Int32)} (hX : pa_X n K V L) {b : Int32} {post : Int32 → Prop} (hn : n ≤ 48) (hpe : p ≤ e) (hen : e ≤ n) (H0 : (∀ j, p ≤ j → j < e → ∀ i, i < n → K i = K j + b → p ≤ i ∧ i < e) → post 0) (H1 : ∀ j, p ≤ j → j < e → ∀ i, i < n → K i = K j + b → ¬ (p ≤ i ∧ i < e) → post 1) : wpX_meetsOthers post (nI n, K, V) (nI p) (nI e) b :=
  ⟨e - p + 1, xa_meetL hX hn hen H0 H1 (e - p) p (by omega) (Nat.le_refl _) (fun j a c => by omega)⟩
theorem xm_slideL {n p e : Nat} {K V : Nat → Int32} {L : List (Int32 × Int32)} (hL : pa_L L) (hX : pa_X n K V L) {lo hi b : Int32} (R : pa_R n K lo hi p e) (hb : ¬ ab_bad L lo hi b) (hm : ¬ ab_met L lo hi b) {post : Int32 → SX → Prop} (H : ∀ n1 K1 V1, pa_X n1 K1 V1 (L.map (ab_mv lo hi b)) → post (nI (L.countP (pa_in lo hi))) (nI n1, K1, V1)) : ∀ d i K1, i + d = e → p ≤ i → (∀ j, j < n → K1 j = if p ≤ j ∧ j < i then K j + b else K j) → wX_slide_49 post b (nI p) (nI e) (nI n) (d + 1) (nI i) K1 V := by
  have hn := pa_n48 hL hX.2
  obtain ⟨hpe, hen, hR⟩ := R
  intro d
  induction d with
  | zero =>
    intro i K1 hid hp h
    have ei : i = e := by omega
    subst ei
    refine br_t (nI_le (by omega) (by omega)) ?_
    have hP : (pa_l K1 V n).Perm (L.map (ab_mv lo hi b)) := by
      refine pa_mvP hX.2 (fun j hj => ?_)
      rw [h j hj]
      by_cases c : p ≤ j ∧ j < i
      · rw [if_pos c, if_pos (pa_inT.mpr ((hR j hj).mpr c))]
      · rw [if_neg c, if_neg (fun z => c ((hR j hj).mp (pa_inT.mp z)))]
    refine xa_sort hn hP (fun K2 V2 h2 w2 => ?_)
    rw [pk_sub hpe, ← pa_cntR hX.2 ⟨hpe, hen, hR⟩]
    exact H n K2 V2 (pa_WX (ab_mvL hL hb hm).2.2 h2 w2)
  | succ d ih =>
    intro i K1 hid hp h
    refine br_f (nI_ge (by omega) (by omega)) ?_
    rw [nI_clamp (show i < 2 ^ 31 by omega)]
    refine ⟨vp_in_nI (by omega) (by omega), vp_in_nI (by omega) (by omega), nm_e (nm_r (nI_1 i) ?_)⟩
    refine ih (i + 1) _ (by omega) (by omega) (fun j hj => ?_)
    by_cases z : j = i
    · subst z
      rw [pk_us, if_pos (by omega), h j hj, if_neg (by omega)]
    · rw [pk_un z, h j hj]
      by_cases c : p ≤ j ∧ j < i
      · rw [if_pos c, if_pos (by omega)]
      · rw [if_neg c, if_neg (by omega)]
theorem xm_slide {n : Nat} {K V : Nat → Int32} {L : List (Int32 × Int32)} (hL : pa_L L) (hX : pa_X n K V L) (lo hi b : Int32) {post : Int32 → SX → Prop} (H : ∀ r L1, ab_sl L lo hi b r L1 → ∀ n1 K1 V1, pa_X n1 K1 V1 L1 → post r (nI n1, K1, V1)) : wpX_slide post (nI n, K, V) lo hi b := by
  have hn := pa_n48 hL hX.2
  unfold wpX_slide
  dsimp only
  refine xa_fal lo hn (fun p hp h1 h2 => ?_)
  refine xa_eor hi hn hp (fun e hpe hen h3 h4 => ?_)
  have R := pa_rg hX.1 hpe hen h1 h2 h3 h4
  refine xa_stay hn hpe hen (fun g => ?_) (fun j a c g => ?_)
  · have hb := xs_bad0 (b := b) hL hX.2 R g
    refine br_f (by decide) ?_
    refine xa_meet hX hn hpe hen (fun m => ?_) (fun j a c i hi' e1 h5 => ?_)
    · have hm := xs_met0 hX.2 R m
      refine br_t rfl ⟨e - p + 1, ?_⟩
      refine xm_slideL hL hX R hb hm (fun n1 K1 V1 h => H _ _ (Or.inr (Or.inr ⟨hb, hm, rfl, rfl⟩)) n1 K1 V1 h) (e - p) p K (by omega) (Nat.le_refl _) (fun j hj => ?_)
      rw [if_neg (by omega)]
    · exact br_f (by decide) (H _ _ (Or.inr (Or.inl ⟨hb, xs_met1 hX.2 R a c hi' e1 h5, rfl, rfl⟩)) n K V hX)
  · exact br_t rfl (H _ _ (Or.inl ⟨xs_bad1 hL hX.2 R a c g, rfl, rfl⟩) n K V hX)
