/-! Tokens of a text, and of a row that grows. -/
/-- the tokens of a sign: a tilde has none -/
def c_tk (c : Nat) : List Tk := if c = 41 then [none] else if c = 126 then [] else [some (c, 0)]
/-- the tokens of k signs from i on -/
def d_tk (sg : Nat → Nat) (n : Nat) : Nat → Nat → List Tk
  | _, 0 => []
  | i, k + 1 => c_tk (dch sg n i) ++ d_tk sg n (i + 1) k
theorem bt_rep {s0 : Nat} {x y : TSt} (h : t_rep x = some y) : bt s0 y = bt s0 x := by
  unfold t_rep at h
  split at h
  · cases h
  · split at h
    · cases h
    · split at h
      · obtain rfl := Option.some.inj h
        have e1 : ∀ (rp : Nat → Nat) (la : Option Nat) (d a : Nat), tk_n (x_sg x, x_st x, x_sp x, x_it x, rp, x_op x, x_z x, x_dp x, la) d a = tk_n x d a := by
          intro rp la d
          induction d with
          | zero => exact fun _ => rfl
          | succ d ih =>
            intro a
            have e2 : ∀ (n b : Nat), tk_l (x_sg x, x_st x, x_sp x, x_it x, rp, x_op x, x_z x, x_dp x, la) (tk_n (x_sg x, x_st x, x_sp x, x_it x, rp, x_op x, x_z x, x_dp x, la) d) n b = tk_l x (tk_n x d) n b := by
              intro n
              induction n with
              | zero => exact fun _ => rfl
              | succ n ih2 =>
                intro b
                unfold tk_l
                rw [ih b, ih2]
            unfold tk_n
            rw [e2]
        have e3 : ∀ (rp : Nat → Nat) (la : Option Nat) (n b : Nat), tk_l (x_sg x, x_st x, x_sp x, x_it x, rp, x_op x, x_z x, x_dp x, la) (tk_n (x_sg x, x_st x, x_sp x, x_it x, rp, x_op x, x_z x, x_dp x, la) 60) n b = tk_l x (tk_n x 60) n b := by
          intro rp la n
          induction n with
          | zero => exact fun _ => rfl
          | succ n ih2 =>
            intro b
            unfold tk_l
            rw [e1, ih2]
        have e4 : ∀ (rp : Nat → Nat) (la : Option Nat) (n : Nat), bt_b (x_sg x, x_st x, x_sp x, x_it x, rp, x_op x, x_z x, x_dp x, la) n = bt_b x n := fun rp la n => bt_b_cg n (fun j _ => by
          unfold bt_s
          rw [e3]
          rfl)
        unfold bt
        rw [e1, e4]
      · cases h
theorem bt_take {cap s0 dm kd c : Nat} {x y : TSt} (hx : t_bd s0 x) (hl : t_li x) (h : t_take cap s0 dm kd c x = some y) : bt s0 y = bt s0 x ++ c_tk c := by
  unfold c_tk
  unfold t_take at h
  split at h
  · rename_i h1
    rw [if_pos h1]
    have h0 : x_dp x ≠ 0 := fun e => by
      unfold t_close at h
      rw [if_pos e] at h
      cases h
    exact bt_close hx (hl.2 _ (by omega)) h
  · rename_i h1
    rw [if_neg h1]
    split at h
    · rename_i h2
      rw [if_pos h2, List.append_nil]
      split at h
      · cases h
      · exact bt_rep h
    · rename_i h2
      rw [if_neg h2]
      split at h
      · exact bt_add hx h
      · cases h
theorem bt_rds {cap s0 dm kd n : Nat} {sg : Nat → Nat} : ∀ (k i : Nat) (x y : TSt), t_bd s0 x → t_li x → t_rds cap s0 dm kd sg n i k x = some y → bt s0 y = bt s0 x ++ d_tk sg n i k
  | 0, _, x, y, _, _, h => by
    cases h
    exact (List.append_nil _).symm
  | k + 1, i, x, y, hx, hl, h => by
    unfold t_rds at h
    split at h
    · cases h
    · rename_i w hw
      rw [bt_rds k (i + 1) w y (t_bd_take hx hw) (t_li_take hx hl hw) h, bt_take hx hl hw, List.append_assoc]
      rfl
/-- a text that was read: the term's tokens are the text's -/
theorem t_res_tk {cap kd n a b : Nat} {sg : Nat → Nat} {x y : TSt} (hx : t_wf6 x) (hl : t_lf x) (h : t_res cap kd sg n a b x = some y) : tk_n y 60 (x_z x) = d_tk sg n a (b - a) := by
  unfold t_res at h
  split at h
  · cases h
  · rename_i w hw
    split at h
    · rename_i hc
      cases h
      have h1 := bt_rds _ _ _ _ (t_bd_beg (t_wf6_beg hx) rfl) ⟨hl, fun j hj => absurd hj (Nat.not_lt_zero _)⟩ hw
      have h2 : bt (x_z x) (t_beg x) = [] := by
        unfold bt
        rw [if_pos rfl, if_pos rfl]
      have h4 : x_z (t_beg x) = x_z x := rfl
      rw [h4, h2, List.nil_append] at h1
      unfold bt at h1
      rw [if_pos hc.1, if_neg (by omega)] at h1
      exact h1
    · cases h
theorem wf_reg {x : TSt} (h : t_wf x) {a : Nat} (ha : a < x_z x) : cl_reg x a := fun i q1 q2 => by
  have h1 := h a ha
  have h2 := h i (by omega)
  exact ⟨h2.1, h2.2.2⟩
/-- a row that grows keeps the tokens of what was there -/
theorem tk_ag {x y : TSt} (h : t_wf x) (hg : t_ag (x_z x) x y) {d a : Nat} (ha : a < x_z x) : tk_n x d a = tk_n y d a := tk_cg d a (wf_reg h ha) (h a ha).1 (fun i q1 q2 => by
  have h1 := h a ha
  obtain ⟨e1, e2, e3, e4, e5⟩ := hg i (by omega)
  exact ⟨e1, e2, e3, e4⟩)
