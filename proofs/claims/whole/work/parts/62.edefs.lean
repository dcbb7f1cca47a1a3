/-- the innermost of n bound names that is the letter c with the stamp k -/
def e_lv (bl bs : Nat → Nat) (c k : Nat) : Nat → Option Nat
  | 0 => none
  | i + 1 => if bl i = c ∧ bs i = k then some i else e_lv bl bs c k i
theorem nI_dec (i : Nat) : nI i + (-1) = nI i - 1 := (Int32.sub_eq_add_neg _ _).symm
theorem e_neg {j : Nat} (h : j ≤ 12) : nI j - 1 < 0 ↔ j = 0 := by
  cases j with
  | zero => exact ⟨fun _ => rfl, fun _ => by decide⟩
  | succ i =>
    rw [nI_pred]
    exact ⟨fun h9 => absurd h9 (nI_pos (by omega)), fun h9 => by cases h9⟩
