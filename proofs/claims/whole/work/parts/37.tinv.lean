theorem t_add_inv {cap s0 dm c k : Nat} {x y : TSt} (hx : t_inv cap s0 dm x) (hc : c < 65536) (h : t_add cap s0 dm c k x = some y) : t_inv cap s0 dm y ∧ x_z x ≤ x_z y := by
  obtain ⟨i1, i2, i3, i4, i5, i6, i7, i8, i9⟩ := hx
  unfold t_add at h
  split at h
  · rename_i hcan
    obtain ⟨e1, e2, e3, e4⟩ := hcan
    obtain rfl := Option.some.inj h
    refine ⟨⟨i1, ?_, ?_, ?_, i5, ?_, ?_, ?_, ?_⟩, Nat.le_succ _⟩
    · show x_z x + 1 ≤ cap
      omega
    · show s0 ≤ x_z x + 1
      omega
    · show (if c = 40 then x_dp x + 1 else x_dp x) ≤ dm
      split
      · rename_i h9
        have := fun q => e2 ⟨h9, q⟩
        omega
      · exact i4
    · show ∀ j, j < (if c = 40 then x_dp x + 1 else x_dp x) → (if c = 40 then va_up (x_op x) (x_dp x) (x_z x) else x_op x) j < x_z x + 1
      intro j hj
      split at hj
      · rename_i h9
        rw [if_pos h9]
        by_cases hq : j = x_dp x
        · rw [hq, va_up_self]
          exact Nat.lt_succ_self _
        · rw [va_up_ne _ _ hq]
          have := i6 j (by omega)
          omega
      · rename_i h9
        rw [if_neg h9]
        have := i6 j hj
        omega
    · show ∀ l, (if c = 40 then none else some (x_z x)) = some l → l < x_z x + 1
      intro l hl
      split at hl
      · cases hl
      · cases hl
        exact Nat.lt_succ_self _
    · show ∀ i, va_up (x_sg x) (x_z x) c i < 65536
      intro i
      by_cases hq : i = x_z x
      · rw [hq, va_up_self]
        exact hc
      · rw [va_up_ne _ _ hq]
        exact i8 i
    · show ∀ i, va_up (x_rp x) (x_z x) 0 i < 2
      intro i
      by_cases hq : i = x_z x
      · rw [hq, va_up_self]
        decide
      · rw [va_up_ne _ _ hq]
        exact i9 i
  · cases h
theorem t_close_inv {cap s0 dm : Nat} {x y : TSt} (hx : t_inv cap s0 dm x) (h : t_close x = some y) : t_inv cap s0 dm y ∧ x_z x ≤ x_z y := by
  obtain ⟨i1, i2, i3, i4, i5, i6, i7, i8, i9⟩ := hx
  unfold t_close at h
  split at h
  · cases h
  · rename_i h0
    obtain rfl := Option.some.inj h
    refine ⟨⟨i1, i2, i3, ?_, i5, ?_, ?_, i8, i9⟩, Nat.le_refl _⟩
    · show x_dp x - 1 ≤ dm
      omega
    · show ∀ j, j < x_dp x - 1 → x_op x j < x_z x
      exact fun j hj => i6 j (by omega)
    · show ∀ l, some (x_op x (x_dp x - 1)) = some l → l < x_z x
      intro l hl
      cases hl
      exact i6 _ (by omega)
theorem t_rep_inv {cap s0 dm : Nat} {x y : TSt} (hx : t_inv cap s0 dm x) (h : t_rep x = some y) : t_inv cap s0 dm y ∧ x_z x ≤ x_z y := by
  obtain ⟨i1, i2, i3, i4, i5, i6, i7, i8, i9⟩ := hx
  unfold t_rep at h
  split at h
  · cases h
  · rename_i lz hl
    split at h
    · cases h
    · split at h
      · obtain rfl := Option.some.inj h
        refine ⟨⟨i1, i2, i3, i4, i5, i6, ?_, i8, ?_⟩, Nat.le_refl _⟩
        · show ∀ l, some lz = some l → l < x_z x
          intro l h9
          cases h9
          exact i7 lz hl
        · show ∀ i, va_up (x_rp x) lz 1 i < 2
          intro i
          by_cases hq : i = lz
          · rw [hq, va_up_self]
            decide
          · rw [va_up_ne _ _ hq]
            exact i9 i
      · cases h
theorem t_take_inv {cap s0 dm kd c : Nat} {x y : TSt} (hx : t_inv cap s0 dm x) (hc : c < 65536) (h : t_take cap s0 dm kd c x = some y) : t_inv cap s0 dm y ∧ x_z x ≤ x_z y := by
  unfold t_take at h
  split at h
  · exact t_close_inv hx h
  · split at h
    · split at h
      · cases h
      · exact t_rep_inv hx h
    · split at h
      · exact t_add_inv hx hc h
      · cases h
/-- the sign at a place of a draft of n signs -/
abbrev dch (sg : Nat → Nat) (n j : Nat) : Nat := if j < n then sg j else 32
/-- k signs more, from place i on -/
def t_rds (cap s0 dm kd : Nat) (sg : Nat → Nat) (n : Nat) : Nat → Nat → TSt → Option TSt
  | _, 0, x => some x
  | i, k + 1, x => match t_take cap s0 dm kd (dch sg n i) x with
    | none => none
    | some y => t_rds cap s0 dm kd sg n (i + 1) k y
theorem t_rds_inv {cap s0 dm kd n : Nat} {sg : Nat → Nat} (hs : ∀ i, sg i < 65536) : ∀ (k i : Nat) (x y : TSt), t_inv cap s0 dm x → t_rds cap s0 dm kd sg n i k x = some y → t_inv cap s0 dm y ∧ x_z x ≤ x_z y
  | 0, _, x, y, hx, h => by cases h; exact ⟨hx, Nat.le_refl _⟩
  | k + 1, i, x, y, hx, h => by
    unfold t_rds at h
    split at h
    · cases h
    · rename_i w hw
      have hd : dch sg n i < 65536 := by
        unfold dch
        split
        · exact hs i
        · decide
      have h1 := t_take_inv hx hd hw
      have h2 := t_rds_inv hs k (i + 1) w y h1.1 h
      exact ⟨h2.1, Nat.le_trans h1.2 h2.2⟩
/-- the row as a reading begins on it -/
abbrev t_beg (x : TSt) : TSt := (x_sg x, x_st x, x_sp x, x_it x, x_rp x, x_op x, x_z x, 0, none)
/-- a stretch of a draft read as one term -/
def t_res (cap kd : Nat) (sg : Nat → Nat) (n a b : Nat) (x : TSt) : Option TSt :=
  match t_rds cap (x_z x) 8 kd sg n a (b - a) (t_beg x) with
  | none => none
  | some y => if x_dp y = 0 ∧ x_z x < x_z y then some y else none
def t_raw (cap : Nat) (x : TSt) : Prop := cap < 2 ^ 31 ∧ x_z x ≤ cap ∧ (∀ i, x_sg x i < 65536) ∧ (∀ i, x_rp x i < 2)
theorem t_beg_inv {cap : Nat} {x : TSt} (h : t_raw cap x) : t_inv cap (x_z x) 8 (t_beg x) := ⟨h.1, h.2.1, Nat.le_refl _, Nat.zero_le _, by decide, fun j hj => absurd hj (Nat.not_lt_zero _), (fun l hl => by cases hl), h.2.2.1, h.2.2.2⟩
theorem t_inv_raw {cap s0 dm : Nat} {x : TSt} (h : t_inv cap s0 dm x) : t_raw cap x := ⟨h.1, h.2.1, h.2.2.2.2.2.2.2.1, h.2.2.2.2.2.2.2.2⟩
