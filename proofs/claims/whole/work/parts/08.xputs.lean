/-! X: put, series, remove, clear, raise -/
theorem pa_setP {n p : Nat} {K V : Nat → Int32} {L : List (Int32 × Int32)} {k v : Int32} (hD : pa_D L) (h : (pa_l K V n).Perm L) (hp : p < n) (e : K p = k) : (pa_l K (upd V p v) n).Perm (L.map (ab_set k v)) := by
  have e1 : pa_l K (upd V p v) n = (pa_l K V n).map (ab_set k v) := by
    refine pa_map (fun i hi => ?_)
    show (K i, upd V p v i) = (K i, if K i = k then v else V i)
    by_cases c : i = p
    · rw [c, pk_us, if_pos e]
    · rw [pk_un c, if_neg (fun z => c (pa_dst hD h hi hp (z.trans e.symm)))]
  rw [e1]
  exact h.map _
theorem pa_upP {n : Nat} {K V V1 : Nat → Int32} {L : List (Int32 × Int32)} {lo hi b : Int32} (h : (pa_l K V n).Perm L) (h1 : ∀ i, i < n → V1 i = if pa_in lo hi (K i, V i) = true then V i + b else V i) : (pa_l K V1 n).Perm (L.map (ab_up lo hi b)) := by
  have e1 : pa_l K V1 n = (pa_l K V n).map (ab_up lo hi b) := pa_map (fun i hi => by rw [h1 i hi]; rfl)
  rw [e1]
  exact h.map _
theorem pa_mvP {n : Nat} {K V K1 : Nat → Int32} {L : List (Int32 × Int32)} {lo hi b : Int32} (h : (pa_l K V n).Perm L) (h1 : ∀ i, i < n → K1 i = if pa_in lo hi (K i, V i) = true then K i + b else K i) : (pa_l K1 V n).Perm (L.map (ab_mv lo hi b)) := by
  have e1 : pa_l K1 V n = (pa_l K V n).map (ab_mv lo hi b) := pa_map (fun i hi => by rw [h1 i hi]; rfl)
  rw [e1]
  exact h.map _
theorem xm_put {n : Nat} {K V : Nat → Int32} {L : List (Int32 × Int32)} (hL : pa_L L) (hX : pa_X n K V L) (k v : Int32) {post : Int32 → SX → Prop} (H : ∀ n1 K1 V1, pa_X n1 K1 V1 (ab_put L k v).2 → post (ab_put L k v).1 (nI n1, K1, V1)) : wpX_put post (nI n, K, V) k v := by
  have hn := pa_n48 hL hX.2
  have e64 : k.toInt64.toInt = k.toInt := Int32.toInt_toInt64 k
  unfold wpX_put
  dsimp only
  refine xa_good (fun g => ?_) (fun g => ?_)
  · rw [e64] at g
    refine br_f (by decide) ?_
    refine xa_fal k hn (fun p hp h1 h2 => ?_)
    refine xa_key hn hp (fun hpn e => ?_) (fun hne => ?_)
    · rw [ab_put2 g (ab_anyT.mpr ⟨_, pa_iL hX.2 hpn, e⟩)] at H
      refine br_f (by decide) ⟨vp_in_nI (by omega) (by omega), nm_e ?_⟩
      rw [nI_clamp (by omega)]
      exact H n K (upd V p v) ⟨hX.1, pa_setP hL.2.2 hX.2 hpn e⟩
    · have hno := xa_none hX h1 h2 hne
      have hl := pa_n hX.2
      refine br_t rfl (br_c (fun c => ?_) (fun c => ?_))
      · rw [← pa_48, nI_ltI (by omega) (by omega)] at c
        rw [ab_put4 g (ab_anyF hno) (by omega)] at H
        refine xa_ins (by omega) hp (fun K1 V1 e1 e2 e3 => ?_)
        refine H (n + 1) K1 V1 (pa_insX hX hp h1 (fun z => ?_) e1 e2 e3)
        have a := h2 z
        have b : (K p).toInt ≠ k.toInt := fun y => hne z (Int32.toInt_inj.mp y)
        omega
      · rw [← pa_48, nI_ltI (by omega) (by omega)] at c
        rw [ab_put3 g (ab_anyF hno) (by omega)] at H
        exact H n K V hX
  · rw [e64] at g
    rw [ab_put1 g] at H
    exact br_t rfl (H n K V hX)
theorem xm_serL {L : List (Int32 × Int32)} (hL : pa_L L) (k s v : Int32) {c : Nat} (hc : c ≤ 48) {post : Int32 → SX → Prop} (H : ∀ n1 K1 V1, pa_X n1 K1 V1 (ab_ser L k s v c) → post (nI n1) (nI n1, K1, V1)) : ∀ d i n K V, i + d = c → pa_X n K V (ab_ser L k s v i) → wX_series_42 post k s (nI c) v (d + 1) (nI i) (nI n) K V := by
  intro d
  induction d with
  | zero =>
    intro i n K V hi hX
    have : i = c := by omega
    rw [this] at hX
    exact br_t (nI_le (by omega) (by omega)) (H n K V hX)
  | succ d ih =>
    intro i n K V hi hX
    refine br_f (nI_ge (by omega) (by omega)) ?_
    refine xm_put (ab_serL hL k s v i) hX (k + nI i * s) (v + nI i) (fun n1 K1 V1 h1 => ?_)
    exact nm_r (nI_1 i) (ih (i + 1) n1 K1 V1 (by omega) h1)
def ab_series (L : List (Int32 × Int32)) (k s c v : Int32) : Int32 × List (Int32 × Int32) :=
  if -1000 ≤ k.toInt ∧ k.toInt ≤ 1000 then
    if -100 ≤ s.toInt ∧ s.toInt ≤ 100 then
      if 1 ≤ c.toInt ∧ c.toInt ≤ 48 then (nI (ab_ser L k s v c.toInt.toNat).length, ab_ser L k s v c.toInt.toNat) else (-3, L)
    else (-2, L)
  else (-1, L)
theorem ab_seriesL {L : List (Int32 × Int32)} (h : pa_L L) (k s c v : Int32) : pa_L (ab_series L k s c v).2 := by
  unfold ab_series
  by_cases a : -1000 ≤ k.toInt ∧ k.toInt ≤ 1000
  · rw [if_pos a]
    by_cases b : -100 ≤ s.toInt ∧ s.toInt ≤ 100
    · rw [if_pos b]
      by_cases d : 1 ≤ c.toInt ∧ c.toInt ≤ 48
      · rw [if_pos d]
        exact ab_serL h _ _ _ _
      · rw [if_neg d]
        exact h
    · rw [if_neg b]
      exact h
  · rw [if_neg a]
    exact h
theorem pa_nat {c : Int32} (h : 1 ≤ c.toInt ∧ c.toInt ≤ 48) : ∃ m : Nat, m ≤ 48 ∧ c = nI m ∧ c.toInt.toNat = m := by
  refine ⟨c.toInt.toNat, by omega, ?_, rfl⟩
  apply Int32.toInt_inj.mp
  rw [nI_toInt (by omega)]
  omega
theorem xm_series {n : Nat} {K V : Nat → Int32} {L : List (Int32 × Int32)} (hL : pa_L L) (hX : pa_X n K V L) (k s c v : Int32) {post : Int32 → SX → Prop} (H : ∀ n1 K1 V1, pa_X n1 K1 V1 (ab_series L k s c v).2 → post (ab_series L k s c v).1 (nI n1, K1, V1)) : wpX_series post (nI n, K, V) k s c v := by
  have e64 : k.toInt64.toInt = k.toInt := Int32.toInt_toInt64 k
  unfold wpX_series
  dsimp only
  unfold ab_series at H
  refine xa_good (fun g => ?_) (fun g => ?_)
  · rw [e64] at g
    rw [if_pos g] at H
    refine br_f (by decide) (br_c (fun c1 => ?_) (fun c1 => br_c (fun c2 => br_c (fun c3 => ?_) (fun c3 => br_c (fun c4 => ?_) (fun c4 => ?_))) (fun c2 => ?_)))
    · rw [pa_lt, pa_m100] at c1
      rw [if_neg (by omega)] at H
      exact H n K V hX
    · rw [pa_lt, pa_m100] at c1
      rw [pa_le, pa_p100] at c2
      rw [pa_lt, pa_p1] at c3
      rw [if_pos (by omega), if_neg (by omega)] at H
      exact H n K V hX
    · rw [pa_lt, pa_m100] at c1
      rw [pa_le, pa_p100] at c2
      rw [pa_lt, pa_p1] at c3
      rw [pa_le, pa_p48] at c4
      rw [if_pos (by omega), if_pos (by omega)] at H
      obtain ⟨m, hm, rfl, em⟩ := pa_nat (c := c) (by omega)
      rw [em] at H
      refine ⟨m + 1, ?_⟩
      refine xm_serL hL k s v hm (fun n1 K1 V1 h1 => ?_) m 0 n K V (by omega) hX
      have := H n1 K1 V1 h1
      dsimp only at this
      rw [← pa_n h1.2] at this
      exact this
    · rw [pa_lt, pa_m100] at c1
      rw [pa_le, pa_p100] at c2
      rw [pa_lt, pa_p1] at c3
      rw [pa_le, pa_p48] at c4
      rw [if_pos (by omega), if_neg (by omega)] at H
      exact H n K V hX
    · rw [pa_le, pa_p100] at c2
      rw [if_neg (by omega)] at H
      exact H n K V hX
  · rw [e64] at g
    rw [if_neg g] at H
    exact br_t rfl (H n K V hX)
def ab_rem (L : List (Int32 × Int32)) (k : Int32) : Int32 × List (Int32 × Int32) :=
  if -1000 ≤ k.toInt ∧ k.toInt ≤ 1000 then
    if ab_any L k = true then (0, L.filter (fun r => decide (r.1 ≠ k))) else (-2, L)
  else (-1, L)
theorem ab_remL {L : List (Int32 × Int32)} (h : pa_L L) (k : Int32) : pa_L (ab_rem L k).2 := by
  unfold ab_rem
  by_cases a : -1000 ≤ k.toInt ∧ k.toInt ≤ 1000
  · rw [if_pos a]
    by_cases b : ab_any L k = true
    · rw [if_pos b]
      exact pa_Lfil _ h
    · rw [if_neg b]
      exact h
  · rw [if_neg a]
    exact h
theorem ab_rem1 {L : List (Int32 × Int32)} {k : Int32} (h : ¬ (-1000 ≤ k.toInt ∧ k.toInt ≤ 1000)) : ab_rem L k = (-1, L) := if_neg h
theorem ab_rem2 {L : List (Int32 × Int32)} {k : Int32} (h : -1000 ≤ k.toInt ∧ k.toInt ≤ 1000) (h2 : ab_any L k = true) : ab_rem L k = (0, L.filter (fun r => decide (r.1 ≠ k))) := by
  unfold ab_rem
  rw [if_pos h, if_pos h2]
theorem ab_rem3 {L : List (Int32 × Int32)} {k : Int32} (h : -1000 ≤ k.toInt ∧ k.toInt ≤ 1000) (h2 : ab_any L k = false) : ab_rem L k = (-2, L) := by
  unfold ab_rem
  rw [if_pos h, h2, if_neg Bool.false_ne_true]
theorem xm_remove {n : Nat} {K V : Nat → Int32} {L : List (Int32 × Int32)} (hL : pa_L L) (hX : pa_X n K V L) (k : Int32) {post : Int32 → SX → Prop} (H : ∀ n1 K1 V1, pa_X n1 K1 V1 (ab_rem L k).2 → post (ab_rem L k).1 (nI n1, K1, V1)) : wpX_remove post (nI n, K, V) k := by
  have hn := pa_n48 hL hX.2
  have e64 : k.toInt64.toInt = k.toInt := Int32.toInt_toInt64 k
  unfold wpX_remove
  dsimp only
  refine xa_good (fun g => ?_) (fun g => ?_)
  · rw [e64] at g
    refine br_f (by decide) ?_
    refine xa_fal k hn (fun p hp h1 h2 => ?_)
    refine xa_key hn hp (fun hpn e => ?_) (fun hne => ?_)
    · rw [ab_rem2 g (ab_anyT.mpr ⟨_, pa_iL hX.2 hpn, e⟩)] at H
      refine br_f (by decide) ?_
      rw [nI_1]
      refine xa_out hn (by omega) (by omega) (fun K1 V1 e1 e2 => ?_)
      refine H _ _ _ (pa_cutX hX (by omega) (by omega) (fun i hi => ?_) e1 e2)
      constructor
      · intro z
        have z' : ¬ (K i ≠ k) := of_decide_eq_false z
        have ek : K i = k := Classical.not_not.mp z'
        have := pa_dst hL.2.2 hX.2 hi hpn (ek.trans e.symm)
        omega
      · intro ⟨a, b⟩
        have : i = p := by omega
        rw [this]
        exact decide_eq_false (fun z => z e)
    · rw [ab_rem3 g (ab_anyF (xa_none hX h1 h2 hne))] at H
      exact br_t rfl (H n K V hX)
  · rw [e64] at g
    rw [ab_rem1 g] at H
    exact br_t rfl (H n K V hX)
theorem xm_clear {n : Nat} {K V : Nat → Int32} {L : List (Int32 × Int32)} (hL : pa_L L) (hX : pa_X n K V L) (lo hi : Int32) {post : Int32 → SX → Prop} (H : ∀ n1 K1 V1, pa_X n1 K1 V1 (L.filter (ab_out lo hi)) → post (nI (L.countP (pa_in lo hi))) (nI n1, K1, V1)) : wpX_clear post (nI n, K, V) lo hi := by
  have hn := pa_n48 hL hX.2
  unfold wpX_clear
  dsimp only
  refine xa_fal lo hn (fun p hp h1 h2 => ?_)
  refine xa_eor hi hn hp (fun e hpe hen h3 h4 => ?_)
  have R := pa_rg hX.1 hpe hen h1 h2 h3 h4
  refine xa_out hn hpe hen (fun K1 V1 e1 e2 => ?_)
  dsimp only
  rw [pk_sub hpe]
  rw [pa_cntR hX.2 R] at H
  exact H _ _ _ (pa_cutX hX hpe hen (pa_outR R) e1 e2)
theorem xm_raiseL {n p e : Nat} {K V : Nat → Int32} {b : Int32} {post : Int32 → SX → Prop} (hn : n ≤ 48) (hpe : p ≤ e) (hen : e ≤ n) (H : ∀ V1, (∀ i, i < n → V1 i = if p ≤ i ∧ i < e then V i + b else V i) → post (nI (e - p)) (nI n, K, V1)) : ∀ d i V1, i + d = e → p ≤ i → (∀ j, j < n → V1 j = if p ≤ j ∧ j < i then V j + b else V j) → wX_raise_20 post b (nI p) (nI e) (nI n) (d + 1) (nI i) K V1 := by
  intro d
  induction d with
  | zero =>
    intro i V1 hi hp h
    refine br_t (nI_le (by omega) (by omega)) ?_
    rw [pk_sub hpe]
    have : i = e := by omega
    rw [this] at h
    exact H V1 h
  | succ d ih =>
    intro i V1 hi hp h
    refine br_f (nI_ge (by omega) (by omega)) ?_
    rw [nI_clamp (show i < 2 ^ 31 by omega)]
    refine ⟨vp_in_nI (by omega) (by omega), vp_in_nI (by omega) (by omega), nm_e (nm_r (nI_1 i) ?_)⟩
    refine ih (i + 1) _ (by omega) (by omega) (fun j hj => ?_)
    by_cases z : j = i
    · subst z
      rw [pk_us, if_pos (by omega), h j hj, if_neg (by omega)]
    · rw [pk_un z, h j hj]
      by_cases c : p ≤ j ∧ j < i
      · rw [if_pos c, if_pos (by omega)]
      · rw [if_neg c, if_neg (by omega)]
theorem xm_raise {n : Nat} {K V : Nat → Int32} {L : List (Int32 × Int32)} (hL : pa_L L) (hX : pa_X n K V L) (lo hi b : Int32) {post : Int32 → SX → Prop} (H : ∀ n1 K1 V1, pa_X n1 K1 V1 (L.map (ab_up lo hi b)) → post (nI (L.countP (pa_in lo hi))) (nI n1, K1, V1)) : wpX_raise post (nI n, K, V) lo hi b := by
  have hn := pa_n48 hL hX.2
  unfold wpX_raise
  dsimp only
  refine xa_fal lo hn (fun p hp h1 h2 => ?_)
  refine xa_eor hi hn hp (fun e hpe hen h3 h4 => ?_)
  have R := pa_rg hX.1 hpe hen h1 h2 h3 h4
  refine ⟨e - p + 1, ?_⟩
  refine xm_raiseL (V := V) hn hpe hen (fun V1 h => ?_) (e - p) p V (by omega) (Nat.le_refl _) (fun j hj => ?_)
  · rw [← pa_cntR hX.2 R]
    refine H n K V1 ⟨hX.1, pa_upP hX.2 (fun i hi' => ?_)⟩
    rw [h i hi']
    by_cases c : p ≤ i ∧ i < e
    · rw [if_pos c, if_pos (pa_inT.mpr ((R.2.2 i hi').mpr c))]
    · rw [if_neg c, if_neg (fun z => c ((R.2.2 i hi').mp (pa_inT.mp z)))]
  · rw [if_neg (by omega)]
