theorem in_n {k : Int32} {n N : Nat} (h0 : ¬ k < 0) (h1 : ¬ nI n ≤ k) (hn : n ≤ N) (hN : N < 2 ^ 31) : vp_in k N ∧ k.toNatClampNeg < n := by
  have h2 : ¬ k.toInt < (0 : Int32).toInt := fun h => h0 (Int32.lt_iff_toInt_lt.mpr h)
  have h3 : ¬ (nI n).toInt ≤ k.toInt := fun h => h1 (Int32.le_iff_toInt_le.mpr h)
  rw [nI_toInt (Nat.lt_of_le_of_lt hn hN)] at h3
  have h4 : (0 : Int32).toInt = 0 := by decide
  rw [h4] at h2
  have h5 : k.toNatClampNeg = k.toInt.toNat := rfl
  have h6 : k.toNatClampNeg < n := by rw [h5]; omega
  refine ⟨fun h => ?_, h6⟩
  rcases h with h | h
  · exact h0 h
  · omega
/-- the mark at a place of n marks -/
def s_at (mk : Nat → Int32) (n : Nat) (k : Int32) : Int32 := if ¬ k < 0 ∧ ¬ nI n ≤ k then mk k.toNatClampNeg else -99
/-- how deep the marks go -/
def s_dp (mk : Nat → Int32) : Nat → Nat → Int32 → Int32 → Int32
  | 0, _, _, b => b
  | k + 1, i, a, b => if mk i = 1 then s_dp mk k (i + 1) (a + 1) (if b < a + 1 then a + 1 else b) else if mk i = 2 then s_dp mk k (i + 1) (a + (-1)) b else s_dp mk k (i + 1) a b
