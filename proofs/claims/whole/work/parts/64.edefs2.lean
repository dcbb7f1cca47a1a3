/-- a term that is no name and no numeral is a core form -/
def e_wf (x : TSt) (i : Nat) : Prop := ¬ x_it x i = 0 ∧ (x_sg x (i + 1) = 76 → x_it x i = 3 ∧ c_nm (x_sg x (i + 2))) ∧ (x_sg x (i + 1) = 73 → x_it x i = 4) ∧ (x_sg x (i + 1) = 81 → x_it x i = 2)
