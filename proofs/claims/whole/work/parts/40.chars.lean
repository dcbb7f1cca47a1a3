theorem nm_of {r : Int32} {c : Nat} (hc : c < 65536) (h : (r = 1 ∧ ¬ nI c < 97 ∧ ¬ 122 < nI c) ∨ (r = 0 ∧ (nI c < 97 ∨ 122 < nI c))) : (r = 1 ∧ c_nm c) ∨ (r = 0 ∧ ¬ c_nm c) := by
  have h31 : c < 2 ^ 31 := Nat.lt_trans hc (by decide)
  rcases h with ⟨a, b, d⟩ | ⟨a, b⟩
  · exact Or.inl ⟨a, Nat.not_lt.mp (fun h9 => b (nI_lt (b := 97) h9 (by decide))), Nat.not_lt.mp (fun h9 => d (nI_lt (a := 122) h9 h31))⟩
  · refine Or.inr ⟨a, fun q => ?_⟩
    rcases b with b | b
    · exact absurd ((nI_ltI (b := 97) h31 (by decide)).mp b) (by omega)
    · exact absurd ((nI_ltI (a := 122) (by decide) h31).mp b) (by omega)
theorem nu_of {r : Int32} {c : Nat} (hc : c < 65536) (h : (r = 1 ∧ ¬ nI c < 48 ∧ ¬ 57 < nI c) ∨ (r = 0 ∧ (nI c < 48 ∨ 57 < nI c))) : (r = 1 ∧ c_nu c) ∨ (r = 0 ∧ ¬ c_nu c) := by
  have h31 : c < 2 ^ 31 := Nat.lt_trans hc (by decide)
  rcases h with ⟨a, b, d⟩ | ⟨a, b⟩
  · exact Or.inl ⟨a, Nat.not_lt.mp (fun h9 => b (nI_lt (b := 48) h9 (by decide))), Nat.not_lt.mp (fun h9 => d (nI_lt (a := 57) h9 h31))⟩
  · refine Or.inr ⟨a, fun q => ?_⟩
    rcases b with b | b
    · exact absurd ((nI_ltI (b := 48) h31 (by decide)).mp b) (by omega)
    · exact absurd ((nI_ltI (a := 57) (by decide) h31).mp b) (by omega)
theorem ceq {c k : Nat} (hc : c < 65536) (hk : k < 65536) : nI c = nI k ↔ c = k := nI_eq (Nat.lt_trans hc (by decide)) (Nat.lt_trans hk (by decide))
theorem dch_lt {sg : Nat → Nat} (hs : ∀ i, sg i < 65536) (n j : Nat) : dch sg n j < 65536 := by
  unfold dch
  split
  · exact hs j
  · decide
/-- a letter's place among the kinds -/
abbrev k_var (kf : Nat → Nat) (c : Nat) : Prop := c_nm c ∧ ¬ kf (c - 97) = 0
abbrev k_many (kf : Nat → Nat) (c : Nat) : Prop := c_nm c ∧ kf (c - 97) = 2
abbrev d_mac (sg : Nat → Nat) (n : Nat) : Prop := dch sg n 0 = 40 ∧ c_nm (dch sg n 1) ∧ ¬ dch sg n 2 = 126
abbrev d_til (sg : Nat → Nat) (n j : Nat) : Prop := ∀ i, i < j → dch sg n i = 126 → dch sg n (i + 1) = 41
