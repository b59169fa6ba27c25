/-! the relation: both states show one list -/
def i_Rel (k : Nat) (u : SX) (v : SY) : Prop := ∃ L, pa_L L ∧ (∃ n K V, u = (nI n, K, V) ∧ pa_X n K V L) ∧ (∃ n K V, v = (nI n, K, V) ∧ (pa_l K V n).Perm L)
