/-! Y: best, closest, gap, slide -/
theorem ym_closest {n : Nat} {K V : Nat → Int32} {L : List (Int32 × Int32)} (hL : pa_L L) (hY : (pa_l K V n).Perm L) {post : Int32 → Prop} (H : ∀ r, sp_close L r → post r) : wpY_closest post (nI n, K, V) := by
  sorry
theorem ym_gap {n : Nat} {K V : Nat → Int32} {L : List (Int32 × Int32)} (hL : pa_L L) (hY : (pa_l K V n).Perm L) (f : Int32) {post : Int32 → Prop} (H : ∀ r, sp_gap L f r → post r) : wpY_gap post (nI n, K, V) f := by
  sorry
theorem ym_best {n : Nat} {K V : Nat → Int32} {L : List (Int32 × Int32)} (hL : pa_L L) (hY : (pa_l K V n).Perm L) (lo hi : Int32) {post : Int32 → Prop} (H : ∀ r, sp_best L lo hi r → post r) : wpY_best post (nI n, K, V) lo hi := by
  sorry
theorem ym_slide {n : Nat} {K V : Nat → Int32} {L : List (Int32 × Int32)} (hL : pa_L L) (hY : (pa_l K V n).Perm L) (lo hi b : Int32) {post : Int32 → SY → Prop} (H : ∀ r L1, ab_sl L lo hi b r L1 → ∀ n1 K1 V1, (pa_l K1 V1 n1).Perm L1 → post r (nI n1, K1, V1)) : wpY_slide post (nI n, K, V) lo hi b := by
  sorry
