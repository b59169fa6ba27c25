/-! the insertion sort: a place c that waits for the pair (k, v) -/
def pa_I (n : Nat) (L : List (Int32 × Int32)) (i c : Nat) (K V : Nat → Int32) (k v : Int32) : Prop :=
  c ≤ i ∧ i < n ∧ (pa_l (upd K c k) (upd V c v) n).Perm L ∧ (∀ a b, a < b → b ≤ i → a ≠ c → b ≠ c → (K a).toInt ≤ (K b).toInt) ∧ (∀ b, c < b → b ≤ i → k.toInt < (K b).toInt)
def pa_W (K : Nat → Int32) (i : Nat) : Prop := ∀ a b, a < b → b < i → (K a).toInt ≤ (K b).toInt
theorem pa_I0 {n : Nat} {L : List (Int32 × Int32)} {i : Nat} {K V : Nat → Int32} (hi : i < n) (h : (pa_l K V n).Perm L) (w : pa_W K i) : pa_I n L i i K V (K i) (V i) := by
  refine ⟨Nat.le_refl _, hi, ?_, fun a b hab hb _ hbi => w a b hab (by omega), fun b hb hbi => by omega⟩
  have e : pa_l (upd K i (K i)) (upd V i (V i)) n = pa_l K V n := by
    refine pa_ext (fun j _ => ?_)
    by_cases c : j = i
    · rw [c]
      exact ⟨pk_us, pk_us⟩
    · exact ⟨pk_un c, pk_un c⟩
  rw [e]
  exact h
theorem pa_Is {n : Nat} {L : List (Int32 × Int32)} {i c : Nat} {K V : Nat → Int32} {k v : Int32} (h : pa_I n L i (c + 1) K V k v) (hk : k.toInt < (K c).toInt) : pa_I n L i c (upd K (c + 1) (K c)) (upd V (c + 1) (V c)) k v := by
  obtain ⟨h1, h2, h3, h4, h5⟩ := h
  have c1 : c ≠ c + 1 := by omega
  refine ⟨by omega, h2, ?_, ?_, ?_⟩
  · refine List.Perm.trans ?_ h3
    refine pa_sw (p := c) (by omega) ?_ ?_ ?_
    · intro j a b
      exact ⟨by rw [pk_un a, pk_un b, pk_un b], by rw [pk_un a, pk_un b, pk_un b]⟩
    · exact ⟨by rw [pk_us, pk_us], by rw [pk_us, pk_us]⟩
    · exact ⟨by rw [pk_un c1.symm, pk_us, pk_un c1], by rw [pk_un c1.symm, pk_us, pk_un c1]⟩
  · intro a b hab hb ha hbc
    by_cases z : b = c + 1
    · rw [z, pk_us, pk_un (by omega)]
      exact h4 a c (by omega) (by omega) (by omega) c1
    · rw [pk_un z]
      by_cases y : a = c + 1
      · rw [y, pk_us]
        exact h4 c b (by omega) hb c1 z
      · rw [pk_un y]
        exact h4 a b hab hb y z
  · intro b hb hbi
    by_cases z : b = c + 1
    · rw [z, pk_us]
      exact hk
    · rw [pk_un z]
      exact h5 b (by omega) hbi
theorem pa_Ix {n : Nat} {L : List (Int32 × Int32)} {i c : Nat} {K V : Nat → Int32} {k v : Int32} (h : pa_I n L i c K V k v) (hk : ∀ a, a + 1 = c → (K a).toInt ≤ k.toInt) : (pa_l (upd K c k) (upd V c v) n).Perm L ∧ pa_W (upd K c k) (i + 1) := by
  obtain ⟨h1, h2, h3, h4, h5⟩ := h
  refine ⟨h3, ?_⟩
  intro a b hab hb
  by_cases z : b = c
  · rw [z, pk_us, pk_un (by omega)]
    have hc := hk (c - 1) (by omega)
    by_cases y : a = c - 1
    · rw [y]
      exact hc
    · have := h4 a (c - 1) (by omega) (by omega) (by omega) (by omega)
      omega
  · rw [pk_un z]
    by_cases y : a = c
    · rw [y, pk_us]
      have := h5 b (by omega) (by omega)
      omega
    · rw [pk_un y]
      exact h4 a b hab (by omega) y z
theorem pa_WX {n : Nat} {K V : Nat → Int32} {L : List (Int32 × Int32)} (hD : pa_D L) (h : (pa_l K V n).Perm L) (w : pa_W K n) : pa_X n K V L := by
  refine ⟨fun i j hij hj => ?_, h⟩
  have a := w i j hij hj
  have b : (K i).toInt ≠ (K j).toInt := fun e => by
    have := pa_dst hD h (by omega) hj (Int32.toInt_inj.mp e)
    omega
  omega
/-! slide -/
def ab_mv (lo hi b : Int32) (q : Int32 × Int32) : Int32 × Int32 := (if pa_in lo hi q = true then q.1 + b else q.1, q.2)
/-- a key of the range would leave the good ones -/
def ab_bad (L : List (Int32 × Int32)) (lo hi b : Int32) : Prop := ∃ q, q ∈ L ∧ pa_in lo hi q = true ∧ ¬ (-1000 ≤ (q.1 + b).toInt ∧ (q.1 + b).toInt ≤ 1000)
/-- a key of the range would meet one outside -/
def ab_met (L : List (Int32 × Int32)) (lo hi b : Int32) : Prop := ∃ q, q ∈ L ∧ pa_in lo hi q = true ∧ ∃ q', q' ∈ L ∧ q'.1 = q.1 + b ∧ pa_in lo hi q' = false
theorem ab_mvL {L : List (Int32 × Int32)} {lo hi b : Int32} (h : pa_L L) (h1 : ¬ ab_bad L lo hi b) (h2 : ¬ ab_met L lo hi b) : pa_L (L.map (ab_mv lo hi b)) := by
  refine ⟨by rw [List.length_map]; exact h.1, ?_, ?_⟩
  · intro q hq
    obtain ⟨a, ha, rfl⟩ := List.mem_map.mp hq
    show -1000 ≤ (if pa_in lo hi a = true then a.1 + b else a.1).toInt ∧ (if pa_in lo hi a = true then a.1 + b else a.1).toInt ≤ 1000
    by_cases c : pa_in lo hi a = true
    · rw [if_pos c]
      by_cases d : -1000 ≤ (a.1 + b).toInt ∧ (a.1 + b).toInt ≤ 1000
      · exact d
      · exact absurd ⟨a, ha, c, d⟩ h1
    · rw [if_neg c]
      exact h.2.1 a ha
  · refine List.pairwise_map.mpr ?_
    refine List.Pairwise.imp_of_mem ?_ h.2.2
    intro x y hx hy z
    show (if pa_in lo hi x = true then x.1 + b else x.1) ≠ (if pa_in lo hi y = true then y.1 + b else y.1)
    cases cx : pa_in lo hi x with
    | true =>
      cases cy : pa_in lo hi y with
      | true =>
        show x.1 + b ≠ y.1 + b
        exact fun e => z ((Int32.add_left_inj b).mp e)
      | false =>
        show x.1 + b ≠ y.1
        exact fun e => h2 ⟨x, hx, cx, y, hy, e.symm, cy⟩
    | false =>
      cases cy : pa_in lo hi y with
      | true =>
        show x.1 ≠ y.1 + b
        exact fun e => h2 ⟨y, hy, cy, x, hx, e, cx⟩
      | false =>
        show x.1 ≠ y.1
        exact z
def ab_up (lo hi b : Int32) (q : Int32 × Int32) : Int32 × Int32 := (q.1, if pa_in lo hi q = true then q.2 + b else q.2)
theorem ab_upL {L : List (Int32 × Int32)} {lo hi b : Int32} (h : pa_L L) : pa_L (L.map (ab_up lo hi b)) := pa_Lmap (fun _ => rfl) h
/-! sum -/
def ab_f (lo hi : Int32) (s : Int32) (q : Int32 × Int32) : Int32 := if pa_in lo hi q = true then s + q.2 else s
def ab_sum (lo hi : Int32) (L : List (Int32 × Int32)) : Int32 := L.foldl (ab_f lo hi) 0
theorem ab_sums {lo hi : Int32} {K V : Nat → Int32} {n : Nat} : ab_sum lo hi (pa_l K V (n + 1)) = ab_f lo hi (ab_sum lo hi (pa_l K V n)) (K n, V n) := by
  unfold ab_sum
  rw [pa_ls, List.foldl_append] <;> rfl
theorem ab_sumP {lo hi : Int32} {L M : List (Int32 × Int32)} (h : L.Perm M) : ab_sum lo hi L = ab_sum lo hi M := by
  unfold ab_sum
  refine h.foldl_eq' ?_ 0
  intro x _ y _ z
  unfold ab_f
  cases pa_in lo hi x with
  | true =>
    cases pa_in lo hi y with
    | true =>
      show z + x.2 + y.2 = z + y.2 + x.2
      rw [Int32.add_assoc, Int32.add_assoc, Int32.add_comm x.2]
    | false => rfl
  | false =>
    cases pa_in lo hi y with
    | true => rfl
    | false => rfl
theorem ab_sum0 {lo hi : Int32} {K V : Nat → Int32} : ∀ {n : Nat}, (∀ i, i < n → pa_in lo hi (K i, V i) = false) → ab_sum lo hi (pa_l K V n) = 0 := by
  intro n
  induction n with
  | zero => intro _; rfl
  | succ n ih =>
    intro h
    rw [ab_sums, ih (fun i hi => h i (by omega))]
    unfold ab_f
    rw [h n (by omega), if_neg Bool.false_ne_true]
theorem ab_sumE {lo hi : Int32} {K V : Nat → Int32} {e : Nat} : ∀ d : Nat, (∀ i, e ≤ i → i < e + d → pa_in lo hi (K i, V i) = false) → ab_sum lo hi (pa_l K V (e + d)) = ab_sum lo hi (pa_l K V e) := by
  intro d
  induction d with
  | zero => intro _; rfl
  | succ d ih =>
    intro h
    show ab_sum lo hi (pa_l K V (e + d + 1)) = _
    rw [ab_sums, ih (fun i a b => h i a (by omega))]
    unfold ab_f
    rw [h (e + d) (by omega) (by omega), if_neg Bool.false_ne_true]
theorem ab_sumX {n p e : Nat} {K V : Nat → Int32} {L : List (Int32 × Int32)} {lo hi : Int32} (h : (pa_l K V n).Perm L) (R : pa_R n K lo hi p e) : ab_sum lo hi (pa_l K V p) = 0 ∧ ab_sum lo hi (pa_l K V e) = ab_sum lo hi L ∧ ∀ i, p ≤ i → i < e → ab_sum lo hi (pa_l K V (i + 1)) = ab_sum lo hi (pa_l K V i) + V i := by
  obtain ⟨hp, he, hR⟩ := R
  refine ⟨ab_sum0 (fun i hi => pa_inF (fun z => ?_)), ?_, fun i a b => ?_⟩
  · have := (hR i (by omega)).mp z
    omega
  · rw [← ab_sumP h]
    obtain ⟨d, rfl⟩ : ∃ d, n = e + d := ⟨n - e, by omega⟩
    refine (ab_sumE d (fun i a b => pa_inF (fun z => ?_))).symm
    have := (hR i b).mp z
    omega
  · rw [ab_sums]
    unfold ab_f
    rw [if_pos (pa_inT.mpr ((hR i (by omega)).mpr ⟨a, b⟩))] <;> rfl
/-! series: the list after i puts -/
def ab_ser (L : List (Int32 × Int32)) (k s v : Int32) : Nat → List (Int32 × Int32)
  | 0 => L
  | i + 1 => (ab_put (ab_ser L k s v i) (k + nI i * s) (v + nI i)).2
theorem ab_serL {L : List (Int32 × Int32)} (h : pa_L L) (k s v : Int32) : ∀ i, pa_L (ab_ser L k s v i) := by
  intro i
  induction i with
  | zero => exact h
  | succ i ih => exact ab_putL ih _ _
/-! clear, as Y does it: key by key -/
def ab_cl (lo hi : Int32) (t : Int) (q : Int32 × Int32) : Bool := !(pa_in lo hi q && decide (q.1.toInt < t))
def ab_out (lo hi : Int32) (q : Int32 × Int32) : Bool := !(pa_in lo hi q)
theorem ab_cl0 {L : List (Int32 × Int32)} {lo hi : Int32} (h : pa_L L) : L.filter (ab_cl lo hi (-1000)) = L := by
  apply List.filter_eq_self.mpr
  intro q hq
  have g := h.2.1 q hq
  unfold ab_cl
  have d : decide (q.1.toInt < -1000) = false := decide_eq_false (by omega)
  rw [d, Bool.and_false] <;> rfl
theorem ab_clE {L : List (Int32 × Int32)} {lo hi : Int32} (h : pa_L L) : L.filter (ab_cl lo hi 1001) = L.filter (ab_out lo hi) := by
  apply List.filter_congr
  intro q hq
  have g := h.2.1 q hq
  unfold ab_cl ab_out
  have d : decide (q.1.toInt < 1001) = true := decide_eq_true (by omega)
  rw [d, Bool.and_true]
/-- a key that is in the range and held goes out -/
theorem ab_clR {L : List (Int32 × Int32)} {lo hi k : Int32} (hk : lo.toInt ≤ k.toInt ∧ k.toInt ≤ hi.toInt) : (L.filter (ab_cl lo hi k.toInt)).filter (fun r => decide (r.1 ≠ k)) = L.filter (ab_cl lo hi (k.toInt + 1)) := by
  rw [List.filter_filter]
  apply List.filter_congr
  intro q _
  show (decide (q.1 ≠ k) && ab_cl lo hi k.toInt q) = ab_cl lo hi (k.toInt + 1) q
  unfold ab_cl
  by_cases e : q.1 = k
  · have d1 : decide (q.1 ≠ k) = false := decide_eq_false (fun z => z e)
    have d2 : pa_in lo hi q = true := pa_inT.mpr (by rw [e]; exact hk)
    have d3 : decide (q.1.toInt < k.toInt + 1) = true := decide_eq_true (by rw [e]; omega)
    rw [d1, d2, d3] <;> rfl
  · have e2 : q.1.toInt ≠ k.toInt := fun z => e (Int32.toInt_inj.mp z)
    have d1 : decide (q.1 ≠ k) = true := decide_eq_true e
    rw [d1, Bool.true_and]
    by_cases c : q.1.toInt < k.toInt
    · rw [decide_eq_true c, decide_eq_true (show q.1.toInt < k.toInt + 1 by omega)]
    · rw [decide_eq_false c, decide_eq_false (show ¬ q.1.toInt < k.toInt + 1 by omega)]
/-- a key that isn't in the range, or isn't held: nothing changes -/
theorem ab_clN {L : List (Int32 × Int32)} {lo hi k : Int32} (hk : ¬ (lo.toInt ≤ k.toInt ∧ k.toInt ≤ hi.toInt) ∨ ∀ q, q ∈ L.filter (ab_cl lo hi k.toInt) → q.1 ≠ k) : L.filter (ab_cl lo hi k.toInt) = L.filter (ab_cl lo hi (k.toInt + 1)) := by
  apply List.filter_congr
  intro q hq
  by_cases e : q.1 = k
  · rcases hk with h | h
    · unfold ab_cl
      have d2 : pa_in lo hi q = false := pa_inF (by rw [e]; exact h)
      rw [d2, Bool.false_and, Bool.false_and]
    · exfalso
      refine h q (List.mem_filter.mpr ⟨hq, ?_⟩) e
      unfold ab_cl
      have d3 : decide (q.1.toInt < k.toInt) = false := decide_eq_false (by rw [e]; omega)
      rw [d3, Bool.and_false] <;> rfl
  · have e2 : q.1.toInt ≠ k.toInt := fun z => e (Int32.toInt_inj.mp z)
    unfold ab_cl
    by_cases c : q.1.toInt < k.toInt
    · rw [decide_eq_true c, decide_eq_true (show q.1.toInt < k.toInt + 1 by omega)]
    · rw [decide_eq_false c, decide_eq_false (show ¬ q.1.toInt < k.toInt + 1 by omega)]
theorem ab_outN {L : List (Int32 × Int32)} {lo hi : Int32} : (L.filter (ab_out lo hi)).length + L.countP (pa_in lo hi) = L.length := by
  induction L with
  | nil => rfl
  | cons q L ih =>
    cases c : pa_in lo hi q with
    | true =>
      rw [List.filter_cons_of_neg (by simp [ab_out, c]), List.countP_cons_of_pos c]
      show _ = L.length + 1
      omega
    | false =>
      rw [List.filter_cons_of_pos (by simp [ab_out, c]), List.countP_cons_of_neg (by simp [c])]
      show (L.filter (ab_out lo hi)).length + 1 + _ = L.length + 1
      omega
theorem pa_outR {n p e : Nat} {K V : Nat → Int32} {lo hi : Int32} (R : pa_R n K lo hi p e) : ∀ i, i < n → (ab_out lo hi (K i, V i) = false ↔ (p ≤ i ∧ i < e)) := by
  intro i hi'
  rw [← R.2.2 i hi']
  unfold ab_out
  constructor
  · intro h
    refine (pa_inT (q := (K i, V i))).mp ?_
    cases c : pa_in lo hi (K i, V i) with
    | true => rfl
    | false =>
      rw [c] at h
      exact absurd h (by decide)
  · intro h
    rw [pa_inT.mpr h]
    rfl
