/-! A rule's text: its tokens, tildes among them, are what its row holds. -/
theorem tp_l_sn {x : TSt} {g : Nat → List Nat} : ∀ (n a b : Nat), t_ch x n a b → tp_l x g (n + 1) a = tp_l x g n a ++ (g b ++ tp_r x b)
  | 0, a, b, h => by
    have h : a = b := h
    subst h
    show g a ++ (tp_r x a ++ []) = [] ++ (g a ++ tp_r x a)
    simp
  | n + 1, a, b, h => by
    show g a ++ (tp_r x a ++ tp_l x g (n + 1) (a + x_sp x a)) = (g a ++ (tp_r x a ++ tp_l x g n (a + x_sp x a))) ++ (g b ++ tp_r x b)
    rw [tp_l_sn n _ b h.2]
    simp only [List.append_assoc]
theorem tp_cg {x y : TSt} : ∀ (d a : Nat), cl_reg x a → 1 ≤ x_sp x a → (∀ i, a ≤ i → i < a + x_sp x a → x_sg x i = x_sg y i ∧ x_sp x i = x_sp y i ∧ x_it x i = x_it y i) → (∀ i, a < i → i < a + x_sp x a → x_rp x i = x_rp y i) → tp_n x d a = tp_n y d a
  | 0, _, _, _, _, _ => rfl
  | d + 1, a, hr, h1, he, hp => by
    obtain ⟨e1, e3, e4⟩ := he a (Nat.le_refl _) (by omega)
    unfold tp_n
    rw [← e1, ← e4]
    by_cases h : x_sg x a = 40
    · rw [if_pos h, if_pos h]
      rw [tp_l_cg (y := y) (g' := tp_n y d) (x_it x a) (a + 1) (a + x_sp x a) (hr a (Nat.le_refl _) (by omega)).2 (fun i q1 q2 => ⟨(he i (by omega) q2).2.1, hp i (by omega) q2⟩) (fun i q1 q2 q3 => tp_cg d i (cl_sub hr (by omega) q3) (hr i (by omega) q2).1 (fun j r1 r2 => he j (by omega) (by omega)) (fun j r1 r2 => hp j (by omega) (by omega)))]
    · rw [if_neg h, if_neg h]
/-- the j-th begun list, and its items that are there -/
def bp_s (x : TSt) (j : Nat) : List Nat := o_tk (x_sg x (x_op x j)) :: tp_l x (tp_n x 60) (x_it x (x_op x j) - t_ei x j) (x_op x j + 1)
def bp_b (x : TSt) : Nat → List Nat
  | 0 => []
  | j + 1 => bp_b x j ++ bp_s x j
/-- the tokens that were added since s0 -/
def bp (s0 : Nat) (x : TSt) : List Nat := if x_dp x = 0 then (if x_z x = s0 then [] else tp_n x 60 s0) else bp_b x (x_dp x)
theorem bp_b_cg {x y : TSt} : ∀ (n : Nat), (∀ j, j < n → bp_s x j = bp_s y j) → bp_b x n = bp_b y n
  | 0, _ => rfl
  | n + 1, h => by
    show bp_b x n ++ bp_s x n = bp_b y n ++ bp_s y n
    rw [bp_b_cg n (fun j hj => h j (Nat.lt_succ_of_lt hj)), h n (Nat.lt_succ_self _)]
theorem bp_b_pos {x : TSt} : ∀ {n : Nat}, 0 < n → bp_b x n = bp_b x (n - 1) ++ bp_s x (n - 1)
  | 0, h => absurd h (Nat.lt_irrefl _)
  | _ + 1, _ => rfl
/-- the items of a begun list that are there are whole -/
theorem bp_items {s0 : Nat} {x y : TSt} (h : t_bd s0 x) {j n b : Nat} (hj : j < x_dp x) (hb : b = t_en x j) (hc : t_ch x n (x_op x j + 1) b) (he : ∀ i, x_op x j < i → i < b → x_sg x i = x_sg y i ∧ x_sp x i = x_sp y i ∧ x_it x i = x_it y i ∧ x_rp x i = x_rp y i) : tp_l x (tp_n x 60) n (x_op x j + 1) = tp_l y (tp_n y 60) n (x_op x j + 1) := by
  have hbz : b ≤ x_z x := by
    rw [hb]; unfold t_en
    split
    · rename_i h1
      exact Nat.le_of_lt (h.2.1 (j + 1) h1).2.1
    · exact Nat.le_refl _
  refine tp_l_cg n _ b hc (fun i q1 q2 => ⟨(he i (by omega) q2).2.1, (he i (by omega) q2).2.2.2⟩) (fun i q1 q2 q3 => ?_)
  have hci : t_cd x i := fun j2 hj2 e => by
    rcases Nat.lt_trichotomy j2 j with q | q | q
    · have := h.2.2.1 j2 j q hj
      omega
    · subst q; omega
    · have h3 : x_op x (j + 1) ≤ x_op x j2 := by
        rcases Nat.eq_or_lt_of_le (show j + 1 ≤ j2 by omega) with q4 | q4
        · rw [q4]; exact Nat.le_refl _
        · exact Nat.le_of_lt (h.2.2.1 _ _ q4 hj2)
      have h4 : b = x_op x (j + 1) := by
        rw [hb]; unfold t_en
        rw [if_pos (by omega)]
      omega
  exact tp_cg 60 i (t_bd_reg h (by omega) hci) (h.1 i (by omega) hci).1 (fun i2 r1 r2 => ⟨(he i2 (by omega) (by omega)).1, (he i2 (by omega) (by omega)).2.1, (he i2 (by omega) (by omega)).2.2.1⟩) (fun i2 r1 r2 => (he i2 (by omega) (by omega)).2.2.2)
theorem bp_add {cap s0 dm c k : Nat} {x y : TSt} (hx : t_bd s0 x) (h : t_add cap s0 dm c k x = some y) : bp s0 y = bp s0 x ++ [o_tk c] := by
  have hall := hx
  obtain ⟨i1, i2, i3, i4, i5, i6, i7⟩ := hx
  have hy := t_bd_add hall h
  unfold t_add at h
  split at h
  · rename_i hcan
    obtain ⟨e1, e2, e3, e4⟩ := hcan
    obtain rfl := Option.some.inj h
    have ho : 0 < x_dp x → x_op x (x_dp x - 1) < x_z x := fun h0 => (i2 _ (by omega)).2.1
    generalize hyy : (va_up (x_sg x) (x_z x) c, va_up (x_st x) (x_z x) k, va_up (x_sp x) (x_z x) 1, t_its (x_it x) (x_op x) (x_z x) (x_dp x), va_up (x_rp x) (x_z x) 0, (if c = 40 then va_up (x_op x) (x_dp x) (x_z x) else x_op x), x_z x + 1, (if c = 40 then x_dp x + 1 else x_dp x), (if c = 40 then none else some (x_z x))) = y at hy ⊢
    have y1 : x_sg y = va_up (x_sg x) (x_z x) c := by rw [← hyy]
    have y2 : x_rp y = va_up (x_rp x) (x_z x) 0 := by rw [← hyy]
    have y3 : x_sp y = va_up (x_sp x) (x_z x) 1 := by rw [← hyy]
    have y4 : x_it y = t_its (x_it x) (x_op x) (x_z x) (x_dp x) := by rw [← hyy]
    have y5 : x_op y = (if c = 40 then va_up (x_op x) (x_dp x) (x_z x) else x_op x) := by rw [← hyy]
    have y6 : x_z y = x_z x + 1 := by rw [← hyy]
    have y7 : x_dp y = (if c = 40 then x_dp x + 1 else x_dp x) := by rw [← hyy]
    have hop : ∀ j, j < x_dp x → x_op y j = x_op x j := fun j hj => by
      rw [y5]
      split
      · exact va_up_ne _ _ (by omega)
      · rfl
    have hnode : ∀ i, i < x_z x → (0 < x_dp x → i ≠ x_op x (x_dp x - 1)) → x_sg x i = x_sg y i ∧ x_sp x i = x_sp y i ∧ x_it x i = x_it y i ∧ x_rp x i = x_rp y i := fun i q1 q2 => by
      rw [y1, y2, y3, y4]
      exact ⟨(va_up_ne _ _ (by omega)).symm, (va_up_ne _ _ (by omega)).symm, (its_n (by omega) q2).symm, (va_up_ne _ _ (by omega)).symm⟩
    have hold : ∀ j, j + 1 < x_dp x → bp_s y j = bp_s x j := fun j hj => by
      have hb := i2 j (by omega)
      have f6 : t_ei x j = 1 := if_pos hj
      have f5 : t_en x j = x_op x (j + 1) := if_pos hj
      have g6 : t_ei y j = 1 := by
        unfold t_ei
        have : j + 1 < x_dp y := by
          rw [y7]
          split <;> omega
        rw [if_pos this]
      have hj1 := i3 j (j + 1) (by omega) hj
      have hjz := (i2 (j + 1) hj).2.1
      have hjd : x_op x (j + 1) ≤ x_op x (x_dp x - 1) := by
        rcases Nat.eq_or_lt_of_le (show j + 1 ≤ x_dp x - 1 by omega) with q | q
        · rw [q]; exact Nat.le_refl _
        · exact Nat.le_of_lt (i3 _ _ q (by omega))
      have hn := hnode (x_op x j) (by omega) (fun _ => by omega)
      unfold bp_s
      rw [hop j (by omega), ← hn.1, ← hn.2.2.1, g6, f6, bp_items hall (y := y) (by omega) rfl (by rw [f5]; rw [f6, f5] at hb; exact hb.2.2.2) (fun i q1 q2 => hnode i (by rw [f5] at q2; omega) (fun _ => by rw [f5] at q2; omega))]
    by_cases h0 : x_dp x = 0
    · have hz : x_z x = s0 := by
        rcases Nat.lt_or_ge s0 (x_z x) with h7 | h7
        · exact absurd ⟨h0, h7⟩ e1
        · omega
      have hl : bp s0 x = [] := by unfold bp; rw [if_pos h0, if_pos hz]
      rw [hl]
      unfold bp
      by_cases hc : c = 40
      · rw [if_pos hc, h0] at y7
        rw [if_pos hc, h0] at y5
        rw [if_neg (by omega), y7]
        show [] ++ bp_s y 0 = _
        unfold bp_s
        have g6 : t_ei y 0 = 0 := by unfold t_ei; rw [if_neg (by omega)]
        rw [g6, y1, y4, y5, va_up_self, va_up_self, h0, its_z (fun q => absurd q (Nat.lt_irrefl _))]
        rfl
      · rw [if_neg hc] at y7
        rw [if_pos (by omega), if_neg (by omega), tp_n, y1, ← hz, va_up_self, if_neg hc]
        rfl
    · have hl : bp s0 x = bp_b x (x_dp x) := by unfold bp; rw [if_neg h0]
      have hx1 : x_dp x = (x_dp x - 1) + 1 := by omega
      have hb := i2 (x_dp x - 1) (by omega)
      have f6 : t_ei x (x_dp x - 1) = 0 := if_neg (by omega)
      have f5 : t_en x (x_dp x - 1) = x_z x := if_neg (by omega)
      rw [f6, f5] at hb
      have h40 : bp_b y (x_dp x - 1) = bp_b x (x_dp x - 1) := bp_b_cg _ (fun j hj => hold j (by omega))
      have hit := its_o (it := x_it x) (op := x_op x) (z := x_z x) (by omega) hb.2.1
      have hitm : tp_l x (tp_n x 60) (x_it x (x_op x (x_dp x - 1))) (x_op x (x_dp x - 1) + 1) = tp_l y (tp_n y 60) (x_it x (x_op x (x_dp x - 1))) (x_op x (x_dp x - 1) + 1) := bp_items hall (by omega) f5.symm hb.2.2.2 (fun i q1 q2 => hnode i q2 (fun _ => by omega))
      have hsgo : x_sg y (x_op x (x_dp x - 1)) = x_sg x (x_op x (x_dp x - 1)) := by
        rw [y1]
        exact va_up_ne _ _ (by omega)
      rw [hl, bp_b_pos (by omega)]
      unfold bp
      by_cases hc : c = 40
      · rw [if_pos hc] at y7
        rw [if_neg (by omega), y7, bp_b_pos (by omega), Nat.add_sub_cancel, bp_b_pos (x := y) (n := x_dp x) (by omega), h40]
        have s1 : bp_s y (x_dp x - 1) = bp_s x (x_dp x - 1) := by
          unfold bp_s
          have g6 : t_ei y (x_dp x - 1) = 1 := by unfold t_ei; rw [y7, if_pos (by omega)]
          rw [hop _ (by omega), g6, f6, hsgo, y4, hit, Nat.add_sub_cancel, Nat.sub_zero, hitm]
        have s2 : bp_s y (x_dp x) = [o_tk c] := by
          unfold bp_s
          have g6 : t_ei y (x_dp x) = 0 := by unfold t_ei; rw [y7, if_neg (by omega)]
          rw [if_pos hc] at y5
          have e9 : x_op y (x_dp x) = x_z x := by rw [y5, va_up_self]
          rw [g6, e9, y1, y4, va_up_self, its_z ho]
          rfl
        rw [s1, s2]
      · rw [if_neg hc] at y7
        rw [if_neg (by omega), y7, bp_b_pos (by omega), h40, List.append_assoc]
        congr 1
        unfold bp_s
        have g6 : t_ei y (x_dp x - 1) = 0 := by unfold t_ei; rw [y7, if_neg (by omega)]
        have hch : t_ch y (x_it x (x_op x (x_dp x - 1))) (x_op x (x_dp x - 1) + 1) (x_z x) := t_ch_cg (x := x) _ _ _ (fun i q1 q2 => (hnode i q2 (fun _ => by omega)).2.1) hb.2.2.2
        rw [hop _ (by omega), g6, f6, hsgo, y4, hit, Nat.sub_zero, Nat.sub_zero, tp_l_sn _ _ _ hch, ← hitm]
        have hzt : tp_n y 60 (x_z x) = [o_tk c] := by
          rw [tp_n, y1, va_up_self, if_neg hc]
        have hzr : tp_r y (x_z x) = [] := by
          unfold tp_r
          rw [y2, va_up_self, if_pos rfl]
        rw [hzt, hzr]
        rfl
  · cases h
theorem bp_close {s0 : Nat} {x y : TSt} (hx : t_bd s0 x) (h40 : x_sg x (x_op x (x_dp x - 1)) = 40) (hrp : x_rp x (x_op x (x_dp x - 1)) = 0) (h : t_close x = some y) : bp s0 y = bp s0 x ++ [2] := by
  have hall := hx
  obtain ⟨i1, i2, i3, i4, i5, i6, i7⟩ := hx
  have hy := (t_bd_close hall h).1
  unfold t_close at h
  split at h
  · cases h
  · rename_i h0
    obtain rfl := Option.some.inj h
    generalize hyy : (x_sg x, x_st x, va_up (x_sp x) (x_op x (x_dp x - 1)) (x_z x - x_op x (x_dp x - 1)), x_it x, x_rp x, x_op x, x_z x, x_dp x - 1, some (x_op x (x_dp x - 1))) = y at hy ⊢
    have y1 : x_sg y = x_sg x := by rw [← hyy]
    have y2 : x_rp y = x_rp x := by rw [← hyy]
    have y3 : x_sp y = va_up (x_sp x) (x_op x (x_dp x - 1)) (x_z x - x_op x (x_dp x - 1)) := by rw [← hyy]
    have y4 : x_it y = x_it x := by rw [← hyy]
    have y5 : x_op y = x_op x := by rw [← hyy]
    have y6 : x_z y = x_z x := by rw [← hyy]
    have y7 : x_dp y = x_dp x - 1 := by rw [← hyy]
    have hb := i2 (x_dp x - 1) (by omega)
    have f6 : t_ei x (x_dp x - 1) = 0 := if_neg (by omega)
    have f5 : t_en x (x_dp x - 1) = x_z x := if_neg (by omega)
    rw [f6, f5, Nat.sub_zero] at hb
    have hnode : ∀ i, i ≠ x_op x (x_dp x - 1) → x_sg x i = x_sg y i ∧ x_sp x i = x_sp y i ∧ x_it x i = x_it y i ∧ x_rp x i = x_rp y i := fun i q => by
      rw [y1, y2, y3, y4]
      exact ⟨rfl, (va_up_ne _ _ q).symm, rfl, rfl⟩
    have hitm : tp_l x (tp_n x 60) (x_it x (x_op x (x_dp x - 1))) (x_op x (x_dp x - 1) + 1) = tp_l y (tp_n y 60) (x_it x (x_op x (x_dp x - 1))) (x_op x (x_dp x - 1) + 1) := bp_items hall (by omega) f5.symm hb.2.2.2 (fun i q1 q2 => hnode i (by omega))
    have hso : x_sp y (x_op x (x_dp x - 1)) = x_z x - x_op x (x_dp x - 1) := by rw [y3, va_up_self]
    have hcy : t_cd y (x_op x (x_dp x - 1)) := fun j hj => by
      rw [y7] at hj
      rw [y5]
      have := i3 j (x_dp x - 1) hj (by omega)
      omega
    have hreg := t_bd_reg hy (by rw [y6]; exact hb.2.1) hcy
    have hcl := hy.1 _ (by rw [y6]; exact hb.2.1) hcy
    have hch : t_ch y (x_it x (x_op x (x_dp x - 1))) (x_op x (x_dp x - 1) + 1) (x_z x) := t_ch_cg (x := x) _ _ _ (fun i q1 q2 => (hnode i (by omega)).2.1) hb.2.2.2
    have hterm : tp_n y 60 (x_op x (x_dp x - 1)) = bp_s x (x_dp x - 1) ++ [2] := by
      have e1 : tp_n y 60 (x_op x (x_dp x - 1)) = tp_n y (59 + 1) (x_op x (x_dp x - 1)) := rfl
      rw [e1, tp_n, y1, y4, if_pos h40]
      unfold bp_s
      rw [f6, Nat.sub_zero, hitm]
      rw [tp_l_cg (x := y) (y := y) (g := tp_n y 59) (g' := tp_n y 60) _ _ _ hch (fun _ _ _ => ⟨rfl, rfl⟩) (fun i q1 q2 q3 => tp_fu 59 i (cl_sub hreg (by omega) (by rw [hso]; omega)) (hreg i (by omega) (by rw [hso]; omega)).1 (by omega))]
      rfl
    have hl : bp s0 x = bp_b x (x_dp x - 1) ++ bp_s x (x_dp x - 1) := by unfold bp; rw [if_neg h0, bp_b_pos (by omega)]
    rw [hl, List.append_assoc, ← hterm]
    unfold bp
    by_cases h1 : x_dp x = 1
    · have e0 : x_op x 0 = s0 := i7 (by omega)
      have ez : x_dp x - 1 = 0 := by omega
      rw [y7, if_pos ez, y6, ez, e0]
      rw [ez, e0] at hb
      rw [if_neg (by omega)]
      rfl
    · rw [y7, if_neg (by omega), bp_b_pos (by omega)]
      have hj : x_dp x - 1 - 1 < x_dp x := by omega
      have hb2 := i2 (x_dp x - 1 - 1) hj
      have g6 : t_ei x (x_dp x - 1 - 1) = 1 := if_pos (by omega)
      have g5 : t_en x (x_dp x - 1 - 1) = x_op x (x_dp x - 1) := by
        unfold t_en
        rw [if_pos (by omega), show x_dp x - 1 - 1 + 1 = x_dp x - 1 by omega]
      rw [g6, g5] at hb2
      have hlt := i3 (x_dp x - 1 - 1) (x_dp x - 1) (by omega) (by omega)
      have s0' : bp_b y (x_dp x - 1 - 1) = bp_b x (x_dp x - 1 - 1) := (bp_b_cg _ (fun j hj2 => by
        have hbj := i2 j (by omega)
        have k6 : t_ei x j = 1 := if_pos (by omega)
        have k5 : t_en x j = x_op x (j + 1) := if_pos (by omega)
        have k7 : t_ei y j = 1 := by unfold t_ei; rw [y7, if_pos (by omega)]
        have hjl : x_op x (j + 1) ≤ x_op x (x_dp x - 1 - 1) := by
          rcases Nat.eq_or_lt_of_le (show j + 1 ≤ x_dp x - 1 - 1 by omega) with q | q
          · rw [q]; exact Nat.le_refl _
          · exact Nat.le_of_lt (i3 _ _ q (by omega))
        unfold bp_s
        rw [k6, k7, y1, y4, y5, bp_items hall (y := y) (by omega) rfl (by rw [k5]; rw [k6, k5] at hbj; exact hbj.2.2.2) (fun i q1 q2 => hnode i (by rw [k5] at q2; omega))])).symm
      have s1 : bp_s y (x_dp x - 1 - 1) = bp_s x (x_dp x - 1 - 1) ++ tp_n y 60 (x_op x (x_dp x - 1)) := by
        unfold bp_s
        have k7 : t_ei y (x_dp x - 1 - 1) = 0 := by unfold t_ei; rw [y7, if_neg (by omega)]
        obtain ⟨m, hm⟩ : ∃ m, x_it x (x_op x (x_dp x - 1 - 1)) = m + 1 := ⟨x_it x (x_op x (x_dp x - 1 - 1)) - 1, by omega⟩
        rw [hm, Nat.add_sub_cancel] at hb2
        have hc2 : t_ch y m (x_op x (x_dp x - 1 - 1) + 1) (x_op x (x_dp x - 1)) := t_ch_cg (x := x) _ _ _ (fun i q1 q2 => (hnode i (by omega)).2.1) hb2.2.2.2
        have hor : tp_r y (x_op x (x_dp x - 1)) = [] := by
          unfold tp_r
          rw [y2, hrp, if_pos rfl]
        rw [k7, g6, y1, y4, y5, hm, Nat.add_sub_cancel, Nat.sub_zero, tp_l_sn _ _ _ hc2, bp_items hall (y := y) hj g5.symm hb2.2.2.2 (fun i q1 q2 => hnode i (by omega)), hor, List.append_nil]
        rfl
      rw [s0', s1, bp_b_pos (x := x) (n := x_dp x - 1) (by omega), List.append_assoc]
theorem bp_rep {s0 : Nat} {x y : TSt} (hx : t_bd s0 x) (h2 : t_b2 s0 x) (h : t_rep x = some y) : bp s0 y = bp s0 x ++ [7] := by
  obtain ⟨l, b1, b2, b3, b4, b5, b6, b7, b8, b9, b10⟩ := rep_z h
  obtain ⟨m, hm, mm, m1, m2, m3⟩ := h2.2.2 (by omega) l b1
  have hl0 : x_rp x l = 0 := by
    unfold t_rep at h
    rw [b1] at h
    have h : (if x_dp x = 0 then none else if (List.range (x_z x)).all (fun i => decide (i < l) || decide (x_rp x i = 0)) = true then some (x_sg x, x_st x, x_sp x, x_it x, va_up (x_rp x) l 1, x_op x, x_z x, x_dp x, some l) else none) = some y := h
    rw [if_neg b5] at h
    split at h
    · rename_i hq
      exact all_rp.mp hq l (Nat.le_refl _) m1
    · cases h
  have hge := t_ch_ge _ _ _ mm
  have hb := hx.2.1 (x_dp x - 1) (by omega)
  have hnode : ∀ i, i ≠ l → x_sg x i = x_sg y i ∧ x_sp x i = x_sp y i ∧ x_it x i = x_it y i ∧ x_rp x i = x_rp y i := fun i q => by
    rw [b3, b9, b10, b6, va_up_ne _ _ q]
    exact ⟨rfl, rfl, rfl, rfl⟩
  have f6 : t_ei x (x_dp x - 1) = 0 := if_neg (by omega)
  have ei : ∀ j, t_ei y j = t_ei x j := fun j => by unfold t_ei; rw [b4]
  have hold : bp_b y (x_dp x - 1) = bp_b x (x_dp x - 1) := (bp_b_cg _ (fun j hj => by
    have hbj := hx.2.1 j (by omega)
    have k6 : t_ei x j = 1 := if_pos (by omega)
    have k5 : t_en x j = x_op x (j + 1) := if_pos (by omega)
    have hjl : x_op x (j + 1) ≤ x_op x (x_dp x - 1) := by
      rcases Nat.eq_or_lt_of_le (show j + 1 ≤ x_dp x - 1 by omega) with q | q
      · rw [q]; exact Nat.le_refl _
      · exact Nat.le_of_lt (hx.2.2.1 _ _ q (by omega))
    unfold bp_s
    rw [ei, k6, b3, b10, b7, bp_items hx (y := y) (by omega) rfl (by rw [k5]; rw [k6, k5] at hbj; exact hbj.2.2.2) (fun i q1 q2 => hnode i (by rw [k5] at q2; omega))])).symm
  have hlast : bp_s y (x_dp x - 1) = bp_s x (x_dp x - 1) ++ [7] := by
    unfold bp_s
    have hcy : t_ch y m (x_op x (x_dp x - 1) + 1) l := t_ch_cg (x := x) _ _ _ (fun i q1 q2 => (hnode i (by omega)).2.1) mm
    have e1 : tp_l x (tp_n x 60) m (x_op x (x_dp x - 1) + 1) = tp_l y (tp_n y 60) m (x_op x (x_dp x - 1) + 1) := by
      refine tp_l_cg m _ l mm (fun i q1 q2 => ⟨(hnode i (by omega)).2.1, (hnode i (by omega)).2.2.2⟩) (fun i q1 q2 q3 => ?_)
      have hci : t_cd x i := fun j hj e => by
        rcases Nat.eq_or_lt_of_le (show j ≤ x_dp x - 1 by omega) with q | q
        · rw [q] at e; omega
        · have := hx.2.2.1 j (x_dp x - 1) q (by omega)
          omega
      exact tp_cg 60 i (t_bd_reg hx (by omega) hci) (hx.1 i (by omega) hci).1 (fun i2 r1 r2 => ⟨(hnode i2 (by omega)).1, (hnode i2 (by omega)).2.1, (hnode i2 (by omega)).2.2.1⟩) (fun i2 r1 r2 => (hnode i2 (by omega)).2.2.2)
    have e2 : tp_n x 60 l = tp_n y 60 l := tp_cg 60 l (t_bd_reg hx m1 m3) (hx.1 l m1 m3).1 (fun i r1 r2 => by rw [b3, b9, b10]; exact ⟨rfl, rfl, rfl⟩) (fun i r1 r2 => (hnode i (by omega)).2.2.2)
    have e3 : tp_r x l = [] := by unfold tp_r; rw [if_pos hl0]
    have e4 : tp_r y l = [7] := by unfold tp_r; rw [b6, va_up_self]; rfl
    rw [ei, f6, b3, b10, b7, hm, Nat.sub_zero, tp_l_sn _ _ _ hcy, tp_l_sn _ _ _ mm, e1, e2, e3, e4, List.append_nil, List.cons_append, List.append_assoc]
  unfold bp
  rw [b4, if_neg b5, if_neg b5, bp_b_pos (by omega), bp_b_pos (x := x) (by omega), hold, hlast, List.append_assoc]
theorem bp_take {cap s0 kd c : Nat} {x y : TSt} (hx : t_bd s0 x) (h2 : t_b2 s0 x) (hl : t_li x) (h : t_take cap s0 8 kd c x = some y) : bp s0 y = bp s0 x ++ [o_tk c] := by
  rcases take_cases h with ⟨hc, q⟩ | ⟨hc, q⟩ | ⟨_, _, _, q⟩
  · have h0 := (close_z q).2.2.1
    have hrp : x_rp x (x_op x (x_dp x - 1)) = 0 := by
      apply Classical.byContradiction
      intro z
      have hb := hx.2.1 (x_dp x - 1) (by omega)
      exact (h2.1 _ hb.1 hb.2.1 z).1 (x_dp x - 1) (by omega) rfl
    rw [hc]
    exact bp_close hx (hl.2 _ (by omega)) hrp q
  · rw [hc]
    exact bp_rep hx h2 q
  · exact bp_add hx q
theorem bp_rl {cap s0 kd : Nat} : ∀ (C : List Nat) (x y : TSt), t_bd s0 x → t_b2 s0 x → t_li x → t_rl cap s0 8 kd C x = some y → bp s0 y = bp s0 x ++ C.map o_tk
  | [], x, y, _, _, _, h => by
    cases h
    exact (List.append_nil _).symm
  | c :: C, x, y, h1, h2, h3, h => by
    obtain ⟨w, hw, h⟩ := Option.bind_eq_some_iff.mp h
    rw [bp_rl C w y (t_bd_take h1 hw) (t_b2_take h1 h2 hw) (t_li_take h1 h3 hw) h, bp_take h1 h2 h3 hw, List.append_assoc]
    rfl
/-- a rule's tokens -/
theorem ctx_tp {cs : List Nat} {x x2 : TSt} {tm b : Nat} {C C2 : List Nat} {xx x1 : TSt} (h : ctx cs x x2 tm b C C2 xx x1) : tpT x2 0 = (40 :: b :: C).map o_tk ∧ tpT x2 tm = C2.map o_tk := by
  obtain ⟨w1, b1, b2, b3, z1, s0, s1, w2, d1, d2, d3, ag⟩ := ctx_wf h
  obtain ⟨h1, h2, h3, h4, h5, h6, h7, h8, h9, h10, h11, h12, h13⟩ := h
  obtain ⟨a1, a2, a3, a4, a5, a6, a7, a8, a9, a10⟩ := pat2_ad h2 h3
  have hB0 : t_bd 0 (t_beg (t_clr x)) := t_bd_beg (x := t_beg (t_clr x)) (t_wf6_beg (t_wf6_clr x)) rfl
  have hB20 : t_b2 0 (t_beg (t_clr x)) := t_b2_beg (x := t_clr x)
  have hli0 : t_li (t_beg (t_clr x)) := ⟨fun i hi => absurd hi (Nat.not_lt_zero _), fun j hj => absurd hj (Nat.not_lt_zero _)⟩
  have q1 := bp_rl (40 :: b :: C) (t_beg (t_clr x)) x1 hB0 hB20 hli0 ((a10 C).trans h4)
  have q2 : bp 0 (t_beg (t_clr x)) = [] := by
    unfold bp
    rw [if_pos rfl, if_pos rfl]
  rw [q2, List.nil_append] at q1
  unfold bp at q1
  rw [if_pos h5, if_neg (by omega)] at q1
  have c1 : t_bd tm (t_beg x1) := by
    rw [h10]
    exact t_bd_beg (x := t_beg x1) (t_wf6_beg w1) rfl
  have c2 : t_b2 tm (t_beg x1) := by
    rw [h10]
    exact t_b2_beg
  have c3 : t_li (t_beg x1) := ⟨b3.1, fun j hj => absurd hj (Nat.not_lt_zero _)⟩
  have q3 := bp_rl C2 (t_beg x1) x2 c1 c2 c3 h11
  have q4 : bp tm (t_beg x1) = [] := by
    unfold bp
    rw [if_pos rfl, if_pos h10.symm]
  rw [q4, List.nil_append] at q3
  unfold bp at q3
  rw [if_pos h12, if_neg (by omega)] at q3
  refine ⟨?_, q3⟩
  rw [← q1]
  have hw0 := w1.1 0 (by omega)
  refine (tp_cg 60 0 (wf_reg w1.1 (by omega)) hw0.1 (fun i _ r2 => ?_) (fun i _ r2 => ?_)).symm
  · have := ag i (by omega)
    exact ⟨this.1, this.2.2.1, this.2.2.2.1⟩
  · exact (ag i (by omega)).2.2.2.2
