/-- what else holds while a term is added from s0 on: the repeated items don't nest, the last item ends the innermost begun list -/
def t_b2 (s0 : Nat) (x : TSt) : Prop :=
  (∀ i, s0 ≤ i → i < x_z x → ¬ x_rp x i = 0 → t_cd x i ∧ s0 < i) ∧
  (∀ a b, s0 ≤ a → a < b → b < x_z x → ¬ x_rp x a = 0 → ¬ x_rp x b = 0 → a + x_sp x a ≤ b) ∧
  (0 < x_dp x → ∀ l, x_la x = some l → ∃ m, x_it x (x_op x (x_dp x - 1)) = m + 1 ∧ t_ch x m (x_op x (x_dp x - 1) + 1) l ∧ l < x_z x ∧ l + x_sp x l = x_z x ∧ t_cd x l)
theorem t_ch_ge {x : TSt} : ∀ (n a b : Nat), t_ch x n a b → a ≤ b
  | 0, a, b, h => Nat.le_of_eq h
  | n + 1, a, b, h => Nat.le_of_lt h.1
theorem t_b2_beg {x : TSt} : t_b2 (x_z x) (t_beg x) := by
  refine ⟨fun i h1 h2 => ?_, fun _ b h1 h2 h3 => ?_, fun h => ?_⟩
  · have h2 : i < x_z x := h2
    omega
  · have h3 : b < x_z x := h3
    omega
  · exact absurd h (Nat.lt_irrefl _)
theorem t_b2_add {cap s0 dm c k : Nat} {x y : TSt} (hx : t_bd s0 x) (h2 : t_b2 s0 x) (h : t_add cap s0 dm c k x = some y) : t_b2 s0 y := by
  have hy := (t_bd_add hx h).1
  obtain ⟨j1, j2, j3⟩ := h2
  obtain ⟨i1, i2, i3, i4, i5, i6, i7⟩ := hx
  unfold t_add at h
  split at h
  · rename_i hcan
    obtain rfl := Option.some.inj h
    have hrp : ∀ i, ¬ va_up (x_rp x) (x_z x) 0 i = 0 → i ≠ x_z x ∧ va_up (x_rp x) (x_z x) 0 i = x_rp x i := fun i h9 => by
      by_cases hq : i = x_z x
      · rw [hq, va_up_self] at h9; exact absurd rfl h9
      · exact ⟨hq, va_up_ne _ _ hq⟩
    refine ⟨fun i h1 h2 h3 => ?_, fun a b h1 h2 h3 h4 h5 => ?_, fun h0 l hl => ?_⟩
    · have h3 : ¬ va_up (x_rp x) (x_z x) 0 i = 0 := h3
      have h2 : i < x_z x + 1 := h2
      obtain ⟨n1, n2⟩ := hrp i h3
      rw [n2] at h3
      have n3 := j1 i h1 (by omega) h3
      refine ⟨fun j hj => ?_, n3.2⟩
      have hj : j < (if c = 40 then x_dp x + 1 else x_dp x) := hj
      show (if c = 40 then va_up (x_op x) (x_dp x) (x_z x) else x_op x) j ≠ i
      by_cases hc : c = 40
      · rw [if_pos hc] at hj ⊢
        by_cases hq : j = x_dp x
        · rw [hq, va_up_self]; omega
        · rw [va_up_ne _ _ hq]; exact n3.1 j (by omega)
      · rw [if_neg hc] at hj ⊢
        exact n3.1 j hj
    · have h3 : b < x_z x + 1 := h3
      have h4 : ¬ va_up (x_rp x) (x_z x) 0 a = 0 := h4
      have h5 : ¬ va_up (x_rp x) (x_z x) 0 b = 0 := h5
      obtain ⟨n1, n2⟩ := hrp a h4
      obtain ⟨n3, n4⟩ := hrp b h5
      rw [n2] at h4
      rw [n4] at h5
      show a + va_up (x_sp x) (x_z x) 1 a ≤ b
      rw [va_up_ne _ _ n1]
      exact j2 a b h1 h2 (by omega) h4 h5
    · have hl : (if c = 40 then none else some (x_z x)) = some l := hl
      have h0 : 0 < (if c = 40 then x_dp x + 1 else x_dp x) := h0
      by_cases hc : c = 40
      · rw [if_pos hc] at hl; cases hl
      · rw [if_neg hc] at hl h0
        cases hl
        have b1 := i2 (x_dp x - 1) (by omega)
        have e6 : t_ei x (x_dp x - 1) = 0 := if_neg (by omega)
        have e5 : t_en x (x_dp x - 1) = x_z x := if_neg (by omega)
        rw [e6, e5] at b1
        simp only [if_neg hc]
        refine ⟨x_it x (x_op x (x_dp x - 1)), its_o h0 b1.2.1, t_ch_cg (x := x) _ _ _ (fun q _ h9 => (va_up_ne _ _ (by omega)).symm) b1.2.2.2, Nat.lt_succ_self _, ?_, fun j hj => ?_⟩
        · show x_z x + va_up (x_sp x) (x_z x) 1 (x_z x) = x_z x + 1
          rw [va_up_self]
        · have hj : j < x_dp x := hj
          show x_op x j ≠ x_z x
          have := (i2 j hj).2.1
          omega
  · cases h
theorem t_b2_close {s0 : Nat} {x y : TSt} (hx : t_bd s0 x) (h2 : t_b2 s0 x) (h : t_close x = some y) : t_b2 s0 y := by
  obtain ⟨j1, j2, j3⟩ := h2
  obtain ⟨i1, i2, i3, i4, i5, i6, i7⟩ := hx
  unfold t_close at h
  split at h
  · cases h
  · rename_i h0
    obtain rfl := Option.some.inj h
    obtain ⟨c1, c2, c3, c4⟩ := i2 (x_dp x - 1) (by omega)
    refine ⟨fun i h1 h2 h3 => ?_, fun a b h1 h2 h3 h4 h5 => ?_, fun h9 l hl => ?_⟩
    · have n3 := j1 i h1 h2 h3
      exact ⟨fun j hj => n3.1 j (Nat.lt_of_lt_of_le hj (Nat.sub_le _ _)), n3.2⟩
    · show a + va_up (x_sp x) (x_op x (x_dp x - 1)) (x_z x - x_op x (x_dp x - 1)) a ≤ b
      have n3 := (j1 a h1 (Nat.lt_trans h2 h3) h4).1 (x_dp x - 1) (by omega)
      rw [va_up_ne _ _ (Ne.symm n3)]
      exact j2 a b h1 h2 h3 h4 h5
    · have h9 : 0 < x_dp x - 1 := h9
      have hl : some (x_op x (x_dp x - 1)) = some l := hl
      cases hl
      obtain ⟨b1, b2, b3, b4⟩ := i2 (x_dp x - 1 - 1) (by omega)
      have f6 : t_ei x (x_dp x - 1 - 1) = 1 := if_pos (by omega)
      have f5 : t_en x (x_dp x - 1 - 1) = x_op x (x_dp x - 1) := by
        unfold t_en
        rw [if_pos (by omega), show x_dp x - 1 - 1 + 1 = x_dp x - 1 by omega]
      rw [f6] at b3
      rw [f6, f5] at b4
      refine ⟨x_it x (x_op x (x_dp x - 1 - 1)) - 1, ?_, ?_, c2, ?_, fun j hj => ?_⟩
      · show x_it x (x_op x (x_dp x - 1 - 1)) = _
        omega
      · show t_ch _ _ (x_op x (x_dp x - 1 - 1) + 1) (x_op x (x_dp x - 1))
        exact t_ch_cg (x := x) _ _ _ (fun q _ h8 => (va_up_ne _ _ (by omega)).symm) b4
      · show x_op x (x_dp x - 1) + va_up (x_sp x) (x_op x (x_dp x - 1)) (x_z x - x_op x (x_dp x - 1)) (x_op x (x_dp x - 1)) = x_z x
        rw [va_up_self]; omega
      · have hj : j < x_dp x - 1 := hj
        have := i3 j (x_dp x - 1) hj (by omega)
        show x_op x j ≠ x_op x (x_dp x - 1)
        omega
theorem ch_end {x : TSt} (o : Nat) (hw : ∀ i, o < i → i < x_z x → 1 ≤ x_sp x i ∧ i + x_sp x i ≤ x_z x ∧ t_ch x (x_it x i) (i + 1) (i + x_sp x i)) : ∀ (m n a b i : Nat), b ≤ x_z x → b - a ≤ m → o < a → t_ch x n a b → a ≤ i → i < b → i + x_sp x i ≤ b
  | 0, n, a, b, i, hb, hm, ho, h, h1, h2 => by omega
  | m + 1, 0, a, b, i, hb, hm, ho, h, h1, h2 => by
    have h : a = b := h
    omega
  | m + 1, n + 1, a, b, i, hb, hm, ho, h, h1, h2 => by
    have h3 : a < b := h.1
    have h4 := hw a ho (by omega)
    have h5 := t_ch_ge n (a + x_sp x a) b h.2
    rcases Nat.lt_or_ge i (a + x_sp x a) with h6 | h6
    · rcases Nat.eq_or_lt_of_le h1 with h7 | h7
      · subst h7; exact h5
      · have := ch_end o hw m _ (a + 1) (a + x_sp x a) i h4.2.1 (by omega) (by omega) h4.2.2 (by omega) h6
        omega
    · exact ch_end o hw m n (a + x_sp x a) b i hb (by omega) (by omega) h.2 h6 h2
theorem t_b2_rep {s0 : Nat} {x y : TSt} (hx : t_bd s0 x) (h2 : t_b2 s0 x) (h : t_rep x = some y) : t_b2 s0 y := by
  obtain ⟨j1, j2, j3⟩ := h2
  obtain ⟨i1, i2, i3, i4, i5, i6, i7⟩ := hx
  unfold t_rep at h
  split at h
  · cases h
  · rename_i l hl
    split at h
    · cases h
    · rename_i h0
      split at h
      · rename_i hall
        rw [all_rp] at hall
        obtain rfl := Option.some.inj h
        obtain ⟨m, m1, m2, m3, m4, m5⟩ := j3 (by omega) l hl
        have ho := i2 (x_dp x - 1) (by omega)
        have hol := t_ch_ge _ _ _ m2
        have hrp : ∀ i, ¬ va_up (x_rp x) l 1 i = 0 → i ≠ l → ¬ x_rp x i = 0 := fun i h9 hq => by rw [va_up_ne _ _ hq] at h9; exact h9
        have hcd : ∀ i, x_op x (x_dp x - 1) < i → i < x_z x → t_cd x i := fun i q1 q2 j hj => by
          have : x_op x j ≤ x_op x (x_dp x - 1) := by
            rcases Nat.eq_or_lt_of_le (show j ≤ x_dp x - 1 by omega) with e | e
            · rw [e]; exact Nat.le_refl _
            · exact Nat.le_of_lt (i3 j _ e (by omega))
          omega
        refine ⟨fun i h1 h2 h3 => ?_, fun a b h1 h2 h3 h4 h5 => ?_, fun _ l2 hl2 => ?_⟩
        · by_cases hq : i = l
          · rw [hq]
            refine ⟨m5, ?_⟩
            omega
          · exact j1 i h1 h2 (hrp i h3 hq)
        · have h3 : b < x_z x := h3
          show a + x_sp x a ≤ b
          by_cases hb : b = l
          · have ha := hrp a h4 (by omega)
            have ca := (j1 a h1 (by omega) ha).1
            obtain ⟨a1, a2, a3, a4, a5⟩ := i1 a (by omega) ca
            rcases Nat.lt_or_ge a (x_op x (x_dp x - 1)) with q1 | q1
            · have := a5 (x_dp x - 1) (by omega) q1
              omega
            · have q2 := ca (x_dp x - 1) (by omega)
              have := ch_end (x_op x (x_dp x - 1)) (fun i r1 r2 => by obtain ⟨s1, s2, s3, s4, s5⟩ := i1 i r2 (hcd i r1 r2); exact ⟨s1, s3, s4⟩) _ _ (x_op x (x_dp x - 1) + 1) l a (by omega) (Nat.le_refl _) (by omega) m2 (by omega) (by omega)
              omega
          · have hb2 := hrp b h5 hb
            by_cases ha : a = l
            · exact absurd (hall b (by omega) h3) hb2
            · exact j2 a b h1 h2 h3 (hrp a h4 ha) hb2
        · have hl2 : some l = some l2 := hl2
          cases hl2
          exact ⟨m, m1, t_ch_cg (x := x) _ _ _ (fun _ _ _ => rfl) m2, m3, m4, m5⟩
      · cases h
theorem t_b2_take {cap s0 dm kd c : Nat} {x y : TSt} (hx : t_bd s0 x) (h2 : t_b2 s0 x) (h : t_take cap s0 dm kd c x = some y) : t_b2 s0 y := by
  unfold t_take at h
  split at h
  · exact t_b2_close hx h2 h
  · split at h
    · split at h
      · cases h
      · exact t_b2_rep hx h2 h
    · split at h
      · exact t_b2_add hx h2 h
      · cases h
theorem t_ag_rep {s0 : Nat} {x y : TSt} (h2 : t_b2 s0 x) (hx : t_bd s0 x) (h : t_rep x = some y) : t_ag s0 x y := by
  unfold t_rep at h
  split at h
  · cases h
  · rename_i l hl
    split at h
    · cases h
    · rename_i h0
      split at h
      · obtain rfl := Option.some.inj h
        obtain ⟨m, m1, m2, m3, m4, m5⟩ := h2.2.2 (by omega) l hl
        have ho := (hx.2.1 (x_dp x - 1) (by omega)).1
        have := t_ch_ge _ _ _ m2
        exact fun i hi => ⟨rfl, rfl, rfl, rfl, (va_up_ne _ _ (by omega)).symm⟩
      · cases h
theorem t_ag_take {cap s0 dm kd c : Nat} {x y : TSt} (hx : t_bd s0 x) (h2 : t_b2 s0 x) (h : t_take cap s0 dm kd c x = some y) : t_ag s0 x y := by
  unfold t_take at h
  split at h
  · exact (t_bd_close hx h).2
  · split at h
    · split at h
      · cases h
      · exact t_ag_rep h2 hx h
    · split at h
      · exact (t_bd_add hx h).2
      · cases h
theorem t_b2_rds {cap s0 dm kd n : Nat} {sg : Nat → Nat} : ∀ (k i : Nat) (x y : TSt), t_bd s0 x → t_b2 s0 x → t_rds cap s0 dm kd sg n i k x = some y → t_b2 s0 y ∧ t_ag s0 x y
  | 0, _, x, y, _, h2, h => by cases h; exact ⟨h2, t_ag.rf⟩
  | k + 1, i, x, y, hx, h2, h => by
    unfold t_rds at h
    split at h
    · cases h
    · rename_i w hw
      have h3 := t_b2_rds k (i + 1) w y (t_bd_take hx hw) (t_b2_take hx h2 hw) h
      exact ⟨h3.1, (t_ag_take hx h2 hw).tr h3.2⟩
theorem t_res_b2 {cap kd n a b : Nat} {sg : Nat → Nat} {x y : TSt} (hx : t_wf6 x) (h : t_res cap kd sg n a b x = some y) : t_b2 (x_z x) y ∧ t_ag (x_z x) x y ∧ t_bd (x_z x) y := by
  unfold t_res at h
  split at h
  · cases h
  · rename_i w hw
    split at h
    · cases h
      have h1 := t_bd_beg (t_wf6_beg hx) rfl
      have h2 := t_b2_rds _ _ _ _ h1 t_b2_beg hw
      exact ⟨h2.1, h2.2, t_bd_rds _ _ _ _ h1 hw⟩
    · cases h
