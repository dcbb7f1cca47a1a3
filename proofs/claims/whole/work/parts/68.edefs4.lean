theorem e_lv_lt {bl bs : Nat → Nat} {c k : Nat} : ∀ (n i : Nat), e_lv bl bs c k n = some i → i < n
  | 0, i, h => by cases h
  | n + 1, i, h => by
    unfold e_lv at h
    split at h
    · cases h
      exact Nat.lt_succ_self _
    · exact Nat.lt_succ_of_lt (e_lv_lt n i h)
/-- a term is a use of a rule -/
def e_us (y : TSt) (bl bs : Nat → Nat) (bd : Nat) (rt : Nat → RSt) (n nd : Nat) : Prop := ¬ x_it y nd = 0 ∧ c_nm (x_sg y (nd + 1)) ∧ (∃ j, j < n ∧ r_mc (rt j) = x_sg y (nd + 1)) ∧ e_lv bl bs (x_sg y (nd + 1)) (x_st y (nd + 1)) bd = none
