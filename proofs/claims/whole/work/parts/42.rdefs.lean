/-- every node's span lies inside the row -/
def t_spn (x : TSt) : Prop := ∀ i, i < x_z x → 1 ≤ x_sp x i ∧ i + x_sp x i ≤ x_z x
theorem t_add_spn {cap s0 dm c k : Nat} {x y : TSt} (hs : t_spn x) (h : t_add cap s0 dm c k x = some y) : t_spn y := by
  unfold t_add at h
  split at h
  · obtain rfl := Option.some.inj h
    intro i hi
    have hi2 : i < x_z x + 1 := hi
    show 1 ≤ va_up (x_sp x) (x_z x) 1 i ∧ i + va_up (x_sp x) (x_z x) 1 i ≤ x_z x + 1
    by_cases hq : i = x_z x
    · rw [hq, va_up_self]
      omega
    · rw [va_up_ne _ _ hq]
      have := hs i (by omega)
      omega
  · cases h
theorem t_close_spn {cap s0 dm : Nat} {x y : TSt} (hx : t_inv cap s0 dm x) (hs : t_spn x) (h : t_close x = some y) : t_spn y := by
  unfold t_close at h
  split at h
  · cases h
  · rename_i h0
    obtain rfl := Option.some.inj h
    have h6 := hx.2.2.2.2.2.1 (x_dp x - 1) (by omega)
    intro i hi
    have hi2 : i < x_z x := hi
    show 1 ≤ va_up (x_sp x) (x_op x (x_dp x - 1)) (x_z x - x_op x (x_dp x - 1)) i ∧ i + va_up (x_sp x) (x_op x (x_dp x - 1)) (x_z x - x_op x (x_dp x - 1)) i ≤ x_z x
    by_cases hq : i = x_op x (x_dp x - 1)
    · rw [hq, va_up_self]
      omega
    · rw [va_up_ne _ _ hq]
      exact hs i hi2
theorem t_rep_spn {x y : TSt} (hs : t_spn x) (h : t_rep x = some y) : t_spn y := by
  unfold t_rep at h
  split at h
  · cases h
  · split at h
    · cases h
    · split at h
      · obtain rfl := Option.some.inj h
        exact hs
      · cases h
theorem t_take_spn {cap s0 dm kd c : Nat} {x y : TSt} (hx : t_inv cap s0 dm x) (hs : t_spn x) (h : t_take cap s0 dm kd c x = some y) : t_spn y := by
  unfold t_take at h
  split at h
  · exact t_close_spn hx hs h
  · split at h
    · split at h
      · cases h
      · exact t_rep_spn hs h
    · split at h
      · exact t_add_spn hs h
      · cases h
theorem t_rds_spn {cap s0 dm kd n : Nat} {sg : Nat → Nat} (hg : ∀ i, sg i < 65536) : ∀ (k i : Nat) (x y : TSt), t_inv cap s0 dm x → t_spn x → t_rds cap s0 dm kd sg n i k x = some y → t_spn y
  | 0, _, x, y, _, hs, h => by cases h; exact hs
  | k + 1, i, x, y, hx, hs, h => by
    unfold t_rds at h
    split at h
    · cases h
    · rename_i w hw
      exact t_rds_spn hg k (i + 1) w y (t_take_inv hx (dch_lt hg n i) hw).1 (t_take_spn hx hs hw) h
theorem t_res_spn {cap kd n a b : Nat} {sg : Nat → Nat} {x y : TSt} (hg : ∀ i, sg i < 65536) (hx : t_raw cap x) (hs : t_spn x) (h : t_res cap kd sg n a b x = some y) : t_spn y ∧ x_z x < x_z y := by
  unfold t_res at h
  split at h
  · cases h
  · rename_i w hw
    split at h
    · rename_i hc
      cases h
      exact ⟨t_rds_spn hg _ _ _ _ (t_beg_inv hx) hs hw, hc.2⟩
    · cases h
/-- the pattern's variables, from node i on, k nodes: their kinds; none if one is there twice -/
def fv_go (x : TSt) : Nat → Nat → Nat → (Nat → Nat) → Option (Nat → Nat)
  | 0, _, _, kf => some kf
  | k + 1, i, u, kf => if k_var kf (x_sg x i) then none else fv_go x k (i + 1) (if x_rp x i = 0 then u else i + x_sp x i) (if c_nm (x_sg x i) then va_up kf (x_sg x i - 97) (if i < (if x_rp x i = 0 then u else i + x_sp x i) then 2 else 1) else kf)
/-- a MANY among the nodes of item i -/
def r_hold (x : TSt) (kf : Nat → Nat) (i : Nat) : Prop := ∃ j, i ≤ j ∧ j < i + x_sp x i ∧ k_many kf (x_sg x j)
/-- the template repeats each MANY, and nothing without one: k nodes from i on -/
def rm_go (x : TSt) (kf : Nat → Nat) : Nat → Nat → Nat → Prop
  | 0, _, _ => True
  | k + 1, i, u => (x_rp x i = 0 ∨ r_hold x kf i) ∧ (k_many kf (x_sg x i) → i < (if x_rp x i = 0 then u else i + x_sp x i)) ∧ rm_go x kf k (i + 1) (if x_rp x i = 0 then u else i + x_sp x i)
theorem ite3 (P : Prop) [Decidable P] : (if P then 2 else 1) < 3 := by split <;> decide
theorem fv_go_lt (x : TSt) : ∀ (k i u : Nat) (kf kg : Nat → Nat), (∀ j, kf j < 3) → fv_go x k i u kf = some kg → ∀ j, kg j < 3
  | 0, _, _, kf, kg, h, e => by cases e; exact h
  | k + 1, i, u, kf, kg, h, e => by
    unfold fv_go at e
    split at e
    · cases e
    · refine fv_go_lt x k _ _ _ kg (fun j => ?_) e
      split
      · by_cases hq : j = x_sg x i - 97
        · rw [hq, va_up_self]
          exact ite3 _
        · rw [va_up_ne _ _ hq]
          exact h j
      · exact h j
abbrev rc_J : String := "java/util/Arrays"
abbrev b_J_fill : ByteArray := prog_19_method_103_code
abbrev y_J_fill : MethodName := ⟨"java/util/Arrays", "fill", "([II)V"⟩
