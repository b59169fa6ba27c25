/-! the relation: both states show one list -/
def i_Rel (k : Nat) (u : SX) (v : SY) : Prop := ∃ L, pa_L L ∧ (∃ n K V, u = (nI n, K, V) ∧ pa_X n K V L) ∧ (∃ n K V, v = (nI n, K, V) ∧ (pa_l K V n).Perm L)
theorem i_up {k : Nat} {u : SX} {v : SY} (h : i_Rel k u v) : i_Rel (k + 5) u v := h
theorem i_vc0 : wpX_init (fun u => wpY_init (fun v => i_Rel 0 u v)) := by
  refine ⟨[], ⟨by decide, fun q hq => absurd hq List.not_mem_nil, List.Pairwise.nil⟩, ⟨0, _, _, rfl, fun i j _ hj => absurd hj (Nat.not_lt_zero j), List.Perm.refl _⟩, ⟨0, _, _, rfl, List.Perm.refl _⟩⟩
theorem i_vc_put {k : Nat} {u : SX} {v : SY} (I : i_Rel k u v) (hk : k + 5 ≤ 2560) (v1 : Int32) (v2 : Int32) : wpX_put (fun r u' => wpY_put (fun r' v' => r' = r ∧ i_Rel (k + 5) u' v') v v1 v2) u v1 v2 := by
  have I2 := I
  obtain ⟨L, hL, ⟨n, K, V, rfl, hX⟩, ⟨n', K', V', rfl, hY⟩⟩ := I
  refine xm_put hL hX v1 v2 (fun n1 K1 V1 h1 => ?_)
  refine ym_put hL hY v1 v2 (fun n2 K2 V2 h2 => ?_)
  exact ⟨rfl, _, ab_putL hL v1 v2, ⟨n1, K1, V1, rfl, h1⟩, ⟨n2, K2, V2, rfl, h2⟩⟩
theorem i_vc_series {k : Nat} {u : SX} {v : SY} (I : i_Rel k u v) (hk : k + 5 ≤ 2560) (v1 : Int32) (v2 : Int32) (v3 : Int32) (v4 : Int32) : wpX_series (fun r u' => wpY_series (fun r' v' => r' = r ∧ i_Rel (k + 5) u' v') v v1 v2 v3 v4) u v1 v2 v3 v4 := by
  have I2 := I
  obtain ⟨L, hL, ⟨n, K, V, rfl, hX⟩, ⟨n', K', V', rfl, hY⟩⟩ := I
  refine xm_series hL hX v1 v2 v3 v4 (fun n1 K1 V1 h1 => ?_)
  refine ym_series hL hY v1 v2 v3 v4 (fun n2 K2 V2 h2 => ?_)
  exact ⟨rfl, _, ab_seriesL hL v1 v2 v3 v4, ⟨n1, K1, V1, rfl, h1⟩, ⟨n2, K2, V2, rfl, h2⟩⟩
theorem i_vc_remove {k : Nat} {u : SX} {v : SY} (I : i_Rel k u v) (hk : k + 5 ≤ 2560) (v1 : Int32) : wpX_remove (fun r u' => wpY_remove (fun r' v' => r' = r ∧ i_Rel (k + 5) u' v') v v1) u v1 := by
  have I2 := I
  obtain ⟨L, hL, ⟨n, K, V, rfl, hX⟩, ⟨n', K', V', rfl, hY⟩⟩ := I
  refine xm_remove hL hX v1 (fun n1 K1 V1 h1 => ?_)
  refine ym_remove hL hY v1 (fun n2 K2 V2 h2 => ?_)
  exact ⟨rfl, _, ab_remL hL v1, ⟨n1, K1, V1, rfl, h1⟩, ⟨n2, K2, V2, rfl, h2⟩⟩
theorem i_vc_clear {k : Nat} {u : SX} {v : SY} (I : i_Rel k u v) (hk : k + 5 ≤ 2560) (v1 : Int32) (v2 : Int32) : wpX_clear (fun r u' => wpY_clear (fun r' v' => r' = r ∧ i_Rel (k + 5) u' v') v v1 v2) u v1 v2 := by
  have I2 := I
  obtain ⟨L, hL, ⟨n, K, V, rfl, hX⟩, ⟨n', K', V', rfl, hY⟩⟩ := I
  refine xm_clear hL hX v1 v2 (fun n1 K1 V1 h1 => ?_)
  refine ym_clear hL hY v1 v2 (fun n2 K2 V2 h2 => ?_)
  exact ⟨rfl, _, pa_Lfil _ hL, ⟨n1, K1, V1, rfl, h1⟩, ⟨n2, K2, V2, rfl, h2⟩⟩
theorem i_vc_slide {k : Nat} {u : SX} {v : SY} (I : i_Rel k u v) (hk : k + 5 ≤ 2560) (v1 : Int32) (v2 : Int32) (v3 : Int32) : wpX_slide (fun r u' => wpY_slide (fun r' v' => r' = r ∧ i_Rel (k + 5) u' v') v v1 v2 v3) u v1 v2 v3 := by
  have I2 := I
  obtain ⟨L, hL, ⟨n, K, V, rfl, hX⟩, ⟨n', K', V', rfl, hY⟩⟩ := I
  refine xm_slide hL hX v1 v2 v3 (fun r L1 s n1 K1 V1 h1 => ?_)
  refine ym_slide hL hY v1 v2 v3 (fun r1 L2 s1 n2 K2 V2 h2 => ?_)
  obtain ⟨e1, e2⟩ := ab_slU s s1
  rw [e2] at h2
  exact ⟨e1, L1, ab_slL hL s, ⟨n1, K1, V1, rfl, h1⟩, ⟨n2, K2, V2, rfl, h2⟩⟩
theorem i_vc_raise {k : Nat} {u : SX} {v : SY} (I : i_Rel k u v) (hk : k + 5 ≤ 2560) (v1 : Int32) (v2 : Int32) (v3 : Int32) : wpX_raise (fun r u' => wpY_raise (fun r' v' => r' = r ∧ i_Rel (k + 5) u' v') v v1 v2 v3) u v1 v2 v3 := by
  have I2 := I
  obtain ⟨L, hL, ⟨n, K, V, rfl, hX⟩, ⟨n', K', V', rfl, hY⟩⟩ := I
  refine xm_raise hL hX v1 v2 v3 (fun n1 K1 V1 h1 => ?_)
  refine ym_raise hL hY v1 v2 v3 (fun n2 K2 V2 h2 => ?_)
  exact ⟨rfl, _, ab_upL hL, ⟨n1, K1, V1, rfl, h1⟩, ⟨n2, K2, V2, rfl, h2⟩⟩
theorem i_vc_size {k : Nat} {u : SX} {v : SY} (I : i_Rel k u v) (hk : k + 5 ≤ 2560) : wpX_size (fun r => wpY_size (fun r' => r' = r ∧ i_Rel (k + 5) u v) v) u := by
  have I2 := I
  obtain ⟨L, hL, ⟨n, K, V, rfl, hX⟩, ⟨n', K', V', rfl, hY⟩⟩ := I
  show nI n' = nI n ∧ _
  exact ⟨by rw [pa_n hX.2, pa_n hY], I2⟩
theorem i_vc_has {k : Nat} {u : SX} {v : SY} (I : i_Rel k u v) (hk : k + 5 ≤ 2560) (v1 : Int32) : wpX_has (fun r => wpY_has (fun r' => r' = r ∧ i_Rel (k + 5) u v) v v1) u v1 := by
  have I2 := I
  obtain ⟨L, hL, ⟨n, K, V, rfl, hX⟩, ⟨n', K', V', rfl, hY⟩⟩ := I
  exact xm_has hL hX v1 (ym_has hL hY v1 ⟨rfl, I2⟩)
theorem i_vc_get {k : Nat} {u : SX} {v : SY} (I : i_Rel k u v) (hk : k + 5 ≤ 2560) (v1 : Int32) : wpX_get (fun r => wpY_get (fun r' => r' = r ∧ i_Rel (k + 5) u v) v v1) u v1 := by
  have I2 := I
  obtain ⟨L, hL, ⟨n, K, V, rfl, hX⟩, ⟨n', K', V', rfl, hY⟩⟩ := I
  refine xm_get hL hX v1 (fun r s => ?_)
  refine ym_get hL hY v1 (fun r1 s1 => ?_)
  exact ⟨sp_get_u hL.2.2 hY s s1, I2⟩
theorem i_vc_rank {k : Nat} {u : SX} {v : SY} (I : i_Rel k u v) (hk : k + 5 ≤ 2560) (v1 : Int32) : wpX_rank (fun r => wpY_rank (fun r' => r' = r ∧ i_Rel (k + 5) u v) v v1) u v1 := by
  have I2 := I
  obtain ⟨L, hL, ⟨n, K, V, rfl, hX⟩, ⟨n', K', V', rfl, hY⟩⟩ := I
  exact xm_rank hL hX v1 (ym_rank hL hY v1 ⟨rfl, I2⟩)
theorem i_vc_select {k : Nat} {u : SX} {v : SY} (I : i_Rel k u v) (hk : k + 5 ≤ 2560) (v1 : Int32) : wpX_select (fun r => wpY_select (fun r' => r' = r ∧ i_Rel (k + 5) u v) v v1) u v1 := by
  have I2 := I
  obtain ⟨L, hL, ⟨n, K, V, rfl, hX⟩, ⟨n', K', V', rfl, hY⟩⟩ := I
  refine xm_select hL hX v1 (fun r s => ?_)
  refine ym_select hL hY v1 (fun r1 s1 => ?_)
  exact ⟨sp_sel_u hL hX s s1, I2⟩
theorem i_vc_next {k : Nat} {u : SX} {v : SY} (I : i_Rel k u v) (hk : k + 5 ≤ 2560) (v1 : Int32) : wpX_next (fun r => wpY_next (fun r' => r' = r ∧ i_Rel (k + 5) u v) v v1) u v1 := by
  have I2 := I
  obtain ⟨L, hL, ⟨n, K, V, rfl, hX⟩, ⟨n', K', V', rfl, hY⟩⟩ := I
  refine xm_next hL hX v1 (fun r s => ?_)
  refine ym_next hL hY v1 (fun r1 s1 => ?_)
  exact ⟨sp_next_u s s1, I2⟩
theorem i_vc_previous {k : Nat} {u : SX} {v : SY} (I : i_Rel k u v) (hk : k + 5 ≤ 2560) (v1 : Int32) : wpX_previous (fun r => wpY_previous (fun r' => r' = r ∧ i_Rel (k + 5) u v) v v1) u v1 := by
  have I2 := I
  obtain ⟨L, hL, ⟨n, K, V, rfl, hX⟩, ⟨n', K', V', rfl, hY⟩⟩ := I
  refine xm_previous hL hX v1 (fun r s => ?_)
  refine ym_previous hL hY v1 (fun r1 s1 => ?_)
  exact ⟨sp_prev_u s s1, I2⟩
theorem i_vc_count {k : Nat} {u : SX} {v : SY} (I : i_Rel k u v) (hk : k + 5 ≤ 2560) (v1 : Int32) (v2 : Int32) : wpX_count (fun r => wpY_count (fun r' => r' = r ∧ i_Rel (k + 5) u v) v v1 v2) u v1 v2 := by
  have I2 := I
  obtain ⟨L, hL, ⟨n, K, V, rfl, hX⟩, ⟨n', K', V', rfl, hY⟩⟩ := I
  exact xm_count hL hX v1 v2 (ym_count hL hY v1 v2 ⟨rfl, I2⟩)
theorem i_vc_sum {k : Nat} {u : SX} {v : SY} (I : i_Rel k u v) (hk : k + 5 ≤ 2560) (v1 : Int32) (v2 : Int32) : wpX_sum (fun r => wpY_sum (fun r' => r' = r ∧ i_Rel (k + 5) u v) v v1 v2) u v1 v2 := by
  have I2 := I
  obtain ⟨L, hL, ⟨n, K, V, rfl, hX⟩, ⟨n', K', V', rfl, hY⟩⟩ := I
  exact xm_sum hL hX v1 v2 (ym_sum hL hY v1 v2 ⟨rfl, I2⟩)
theorem i_vc_best {k : Nat} {u : SX} {v : SY} (I : i_Rel k u v) (hk : k + 5 ≤ 2560) (v1 : Int32) (v2 : Int32) : wpX_best (fun r => wpY_best (fun r' => r' = r ∧ i_Rel (k + 5) u v) v v1 v2) u v1 v2 := by
  have I2 := I
  obtain ⟨L, hL, ⟨n, K, V, rfl, hX⟩, ⟨n', K', V', rfl, hY⟩⟩ := I
  refine xm_best hL hX v1 v2 (fun r s => ?_)
  refine ym_best hL hY v1 v2 (fun r1 s1 => ?_)
  exact ⟨sp_best_u s s1, I2⟩
theorem i_vc_closest {k : Nat} {u : SX} {v : SY} (I : i_Rel k u v) (hk : k + 5 ≤ 2560) : wpX_closest (fun r => wpY_closest (fun r' => r' = r ∧ i_Rel (k + 5) u v) v) u := by
  have I2 := I
  obtain ⟨L, hL, ⟨n, K, V, rfl, hX⟩, ⟨n', K', V', rfl, hY⟩⟩ := I
  refine xm_closest hL hX (fun r s => ?_)
  refine ym_closest hL hY (fun r1 s1 => ?_)
  exact ⟨sp_close_u s s1, I2⟩
theorem i_vc_gap {k : Nat} {u : SX} {v : SY} (I : i_Rel k u v) (hk : k + 5 ≤ 2560) (v1 : Int32) : wpX_gap (fun r => wpY_gap (fun r' => r' = r ∧ i_Rel (k + 5) u v) v v1) u v1 := by
  have I2 := I
  obtain ⟨L, hL, ⟨n, K, V, rfl, hX⟩, ⟨n', K', V', rfl, hY⟩⟩ := I
  refine xm_gap hL hX v1 (fun r s => ?_)
  refine ym_gap hL hY v1 (fun r1 s1 => ?_)
  exact ⟨sp_gap_u s s1, I2⟩
