/-! A row's tokens: what was added is what is there. -/
theorem tk_l_sn {x : TSt} {g : Nat → List Tk} : ∀ (n a b : Nat), t_ch x n a b → tk_l x g (n + 1) a = tk_l x g n a ++ g b
  | 0, a, b, h => by
    have h : a = b := h
    subst h
    show g a ++ [] = [] ++ g a
    simp
  | n + 1, a, b, h => by
    show g a ++ tk_l x g (n + 1) (a + x_sp x a) = (g a ++ tk_l x g n (a + x_sp x a)) ++ g b
    rw [tk_l_sn n _ b h.2, List.append_assoc]
theorem tk_l_cg {x y : TSt} {g g' : Nat → List Tk} : ∀ (n a b : Nat), t_ch x n a b → (∀ i, a ≤ i → i < b → x_sp x i = x_sp y i) → (∀ i, a ≤ i → i < b → i + x_sp x i ≤ b → g i = g' i) → tk_l x g n a = tk_l y g' n a
  | 0, _, _, _, _, _ => rfl
  | n + 1, a, b, h, hs, hg => by
    have h1 : a < b := h.1
    have h2 := t_ch_ge n _ b h.2
    show g a ++ tk_l x g n (a + x_sp x a) = g' a ++ tk_l y g' n (a + x_sp y a)
    rw [← hs a (Nat.le_refl _) h1, hg a (Nat.le_refl _) h1 h2, tk_l_cg n (a + x_sp x a) b h.2 (fun i q1 q2 => hs i (by omega) q2) (fun i q1 q2 q3 => hg i (by omega) q2 q3)]
/-- the nodes of a term that is there -/
def cl_reg (x : TSt) (a : Nat) : Prop := ∀ i, a ≤ i → i < a + x_sp x a → 1 ≤ x_sp x i ∧ t_ch x (x_it x i) (i + 1) (i + x_sp x i)
theorem cl_sub {x : TSt} {a c : Nat} (h : cl_reg x a) (h1 : a ≤ c) (h2 : c + x_sp x c ≤ a + x_sp x a) : cl_reg x c := fun i q1 q2 => h i (by omega) (by omega)
theorem tk_cg {x y : TSt} : ∀ (d a : Nat), cl_reg x a → 1 ≤ x_sp x a → (∀ i, a ≤ i → i < a + x_sp x a → x_sg x i = x_sg y i ∧ x_st x i = x_st y i ∧ x_sp x i = x_sp y i ∧ x_it x i = x_it y i) → tk_n x d a = tk_n y d a
  | 0, _, _, _, _ => rfl
  | d + 1, a, hr, h1, he => by
    obtain ⟨e1, e2, e3, e4⟩ := he a (Nat.le_refl _) (by omega)
    unfold tk_n
    rw [← e1, ← e2, ← e4]
    by_cases h : x_sg x a = 40
    · rw [if_pos h, if_pos h]
      rw [tk_l_cg (y := y) (g' := tk_n y d) (x_it x a) (a + 1) (a + x_sp x a) (hr a (Nat.le_refl _) (by omega)).2 (fun i q1 q2 => (he i (by omega) q2).2.2.1) (fun i q1 q2 q3 => tk_cg d i (cl_sub hr (by omega) q3) (hr i (by omega) q2).1 (fun j r1 r2 => he j (by omega) (by omega)))]
    · rw [if_neg h, if_neg h]
theorem tk_fu {x : TSt} : ∀ (d a : Nat), cl_reg x a → 1 ≤ x_sp x a → x_sp x a ≤ d → tk_n x d a = tk_n x (d + 1) a
  | 0, a, _, h1, h2 => by omega
  | d + 1, a, hr, h1, h2 => by
    rw [tk_n, tk_n]
    by_cases h : x_sg x a = 40
    · rw [if_pos h, if_pos h]
      rw [tk_l_cg (x := x) (y := x) (g := tk_n x d) (g' := tk_n x (d + 1)) (x_it x a) (a + 1) (a + x_sp x a) (hr a (Nat.le_refl _) (by omega)).2 (fun _ _ _ => rfl) (fun i q1 q2 q3 => tk_fu d i (cl_sub hr (by omega) q3) (hr i (by omega) q2).1 (by omega))]
    · rw [if_neg h, if_neg h]
theorem t_bd_reg {s0 a : Nat} {x : TSt} (h : t_bd s0 x) (ha : a < x_z x) (hc : t_cd x a) : cl_reg x a := fun i q1 q2 => by
  obtain ⟨a1, a2, a3, a4, a5⟩ := h.1 a ha hc
  have hci : t_cd x i := fun j hj e => by
    rcases Nat.eq_or_lt_of_le q1 with q3 | q3
    · exact hc j hj (by rw [e, q3])
    · have := a5 j hj (by omega)
      omega
  obtain ⟨b1, b2, b3, b4, b5⟩ := h.1 i (by omega) hci
  exact ⟨b1, b4⟩
/-- the j-th begun list, and its items that are there -/
def bt_s (x : TSt) (j : Nat) : List Tk := some (x_sg x (x_op x j), x_st x (x_op x j)) :: tk_l x (tk_n x 60) (x_it x (x_op x j) - t_ei x j) (x_op x j + 1)
def bt_b (x : TSt) : Nat → List Tk
  | 0 => []
  | j + 1 => bt_b x j ++ bt_s x j
/-- the tokens that were added since s0 -/
def bt (s0 : Nat) (x : TSt) : List Tk := if x_dp x = 0 then (if x_z x = s0 then [] else tk_n x 60 s0) else bt_b x (x_dp x)
theorem bt_b_cg {x y : TSt} : ∀ (n : Nat), (∀ j, j < n → bt_s x j = bt_s y j) → bt_b x n = bt_b y n
  | 0, _ => rfl
  | n + 1, h => by
    show bt_b x n ++ bt_s x n = bt_b y n ++ bt_s y n
    rw [bt_b_cg n (fun j hj => h j (Nat.lt_succ_of_lt hj)), h n (Nat.lt_succ_self _)]
theorem bt_b_pos {x : TSt} : ∀ {n : Nat}, 0 < n → bt_b x n = bt_b x (n - 1) ++ bt_s x (n - 1)
  | 0, h => absurd h (Nat.lt_irrefl _)
  | _ + 1, _ => rfl
/-- the items of a begun list that are there are whole -/
theorem bt_items {s0 : Nat} {x y : TSt} (h : t_bd s0 x) {j n b : Nat} (hj : j < x_dp x) (hb : b = t_en x j) (hc : t_ch x n (x_op x j + 1) b) (he : ∀ i, x_op x j < i → i < b → x_sg x i = x_sg y i ∧ x_st x i = x_st y i ∧ x_sp x i = x_sp y i ∧ x_it x i = x_it y i) : tk_l x (tk_n x 60) n (x_op x j + 1) = tk_l y (tk_n y 60) n (x_op x j + 1) := by
  have hbz : b ≤ x_z x := by
    rw [hb]; unfold t_en
    split
    · rename_i h1
      exact Nat.le_of_lt (h.2.1 (j + 1) h1).2.1
    · exact Nat.le_refl _
  refine tk_l_cg n _ b hc (fun i q1 q2 => (he i (by omega) q2).2.2.1) (fun i q1 q2 q3 => ?_)
  have hci : t_cd x i := fun j2 hj2 e => by
    rcases Nat.lt_trichotomy j2 j with q | q | q
    · have := h.2.2.1 j2 j q hj
      omega
    · subst q; omega
    · have h3 : x_op x (j + 1) ≤ x_op x j2 := by
        rcases Nat.eq_or_lt_of_le (show j + 1 ≤ j2 by omega) with q4 | q4
        · rw [q4]; exact Nat.le_refl _
        · exact Nat.le_of_lt (h.2.2.1 _ _ q4 hj2)
      have h4 : b = x_op x (j + 1) := by
        rw [hb]; unfold t_en
        rw [if_pos (by omega)]
      omega
  exact tk_cg 60 i (t_bd_reg h (by omega) hci) (h.1 i (by omega) hci).1 (fun i2 r1 r2 => he i2 (by omega) (by omega))
theorem bt_add {cap s0 dm c k : Nat} {x y : TSt} (hx : t_bd s0 x) (h : t_add cap s0 dm c k x = some y) : bt s0 y = bt s0 x ++ [some (c, k)] := by
  have hall := hx
  obtain ⟨i1, i2, i3, i4, i5, i6, i7⟩ := hx
  have hy := t_bd_add hall h
  unfold t_add at h
  split at h
  · rename_i hcan
    obtain ⟨e1, e2, e3, e4⟩ := hcan
    obtain rfl := Option.some.inj h
    have ho : 0 < x_dp x → x_op x (x_dp x - 1) < x_z x := fun h0 => (i2 _ (by omega)).2.1
    generalize hyy : (va_up (x_sg x) (x_z x) c, va_up (x_st x) (x_z x) k, va_up (x_sp x) (x_z x) 1, t_its (x_it x) (x_op x) (x_z x) (x_dp x), va_up (x_rp x) (x_z x) 0, (if c = 40 then va_up (x_op x) (x_dp x) (x_z x) else x_op x), x_z x + 1, (if c = 40 then x_dp x + 1 else x_dp x), (if c = 40 then none else some (x_z x))) = y at hy ⊢
    have y1 : x_sg y = va_up (x_sg x) (x_z x) c := by rw [← hyy]
    have y2 : x_st y = va_up (x_st x) (x_z x) k := by rw [← hyy]
    have y3 : x_sp y = va_up (x_sp x) (x_z x) 1 := by rw [← hyy]
    have y4 : x_it y = t_its (x_it x) (x_op x) (x_z x) (x_dp x) := by rw [← hyy]
    have y5 : x_op y = (if c = 40 then va_up (x_op x) (x_dp x) (x_z x) else x_op x) := by rw [← hyy]
    have y6 : x_z y = x_z x + 1 := by rw [← hyy]
    have y7 : x_dp y = (if c = 40 then x_dp x + 1 else x_dp x) := by rw [← hyy]
    have hop : ∀ j, j < x_dp x → x_op y j = x_op x j := fun j hj => by
      rw [y5]
      split
      · exact va_up_ne _ _ (by omega)
      · rfl
    have hnode : ∀ i, i < x_z x → (0 < x_dp x → i ≠ x_op x (x_dp x - 1)) → x_sg x i = x_sg y i ∧ x_st x i = x_st y i ∧ x_sp x i = x_sp y i ∧ x_it x i = x_it y i := fun i q1 q2 => by
      rw [y1, y2, y3, y4]
      exact ⟨(va_up_ne _ _ (by omega)).symm, (va_up_ne _ _ (by omega)).symm, (va_up_ne _ _ (by omega)).symm, (its_n (by omega) q2).symm⟩
    have hold : ∀ j, j + 1 < x_dp x → bt_s y j = bt_s x j := fun j hj => by
      have hb := i2 j (by omega)
      have f6 : t_ei x j = 1 := if_pos hj
      have f5 : t_en x j = x_op x (j + 1) := if_pos hj
      have g6 : t_ei y j = 1 := by
        unfold t_ei
        have : j + 1 < x_dp y := by
          rw [y7]
          split <;> omega
        rw [if_pos this]
      have hj1 := i3 j (j + 1) (by omega) hj
      have hjz := (i2 (j + 1) hj).2.1
      have hjd : x_op x (j + 1) ≤ x_op x (x_dp x - 1) := by
        rcases Nat.eq_or_lt_of_le (show j + 1 ≤ x_dp x - 1 by omega) with q | q
        · rw [q]; exact Nat.le_refl _
        · exact Nat.le_of_lt (i3 _ _ q (by omega))
      have hn := hnode (x_op x j) (by omega) (fun _ => by omega)
      unfold bt_s
      rw [hop j (by omega), ← hn.1, ← hn.2.1, ← hn.2.2.2, g6, f6, bt_items hall (y := y) (by omega) rfl (by rw [f5]; rw [f6, f5] at hb; exact hb.2.2.2) (fun i q1 q2 => hnode i (by rw [f5] at q2; omega) (fun _ => by rw [f5] at q2; omega))]
    by_cases h0 : x_dp x = 0
    · have hz : x_z x = s0 := by
        rcases Nat.lt_or_ge s0 (x_z x) with h7 | h7
        · exact absurd ⟨h0, h7⟩ e1
        · omega
      have hl : bt s0 x = [] := by unfold bt; rw [if_pos h0, if_pos hz]
      rw [hl]
      unfold bt
      by_cases hc : c = 40
      · rw [if_pos hc, h0] at y7
        rw [if_pos hc, h0] at y5
        rw [if_neg (by omega), y7]
        show [] ++ bt_s y 0 = _
        unfold bt_s
        have g6 : t_ei y 0 = 0 := by unfold t_ei; rw [if_neg (by omega)]
        rw [g6, y1, y2, y4, y5, va_up_self, va_up_self, va_up_self, h0, its_z (fun q => absurd q (Nat.lt_irrefl _))]
        rfl
      · rw [if_neg hc] at y7
        rw [if_pos (by omega), if_neg (by omega), tk_n, y1, y2, ← hz, va_up_self, va_up_self, if_neg hc]
        rfl
    · have hl : bt s0 x = bt_b x (x_dp x) := by unfold bt; rw [if_neg h0]
      have hx1 : x_dp x = (x_dp x - 1) + 1 := by omega
      have hb := i2 (x_dp x - 1) (by omega)
      have f6 : t_ei x (x_dp x - 1) = 0 := if_neg (by omega)
      have f5 : t_en x (x_dp x - 1) = x_z x := if_neg (by omega)
      rw [f6, f5] at hb
      have h40 : bt_b y (x_dp x - 1) = bt_b x (x_dp x - 1) := bt_b_cg _ (fun j hj => hold j (by omega))
      have hit := its_o (it := x_it x) (op := x_op x) (z := x_z x) (by omega) hb.2.1
      have hitm : tk_l x (tk_n x 60) (x_it x (x_op x (x_dp x - 1))) (x_op x (x_dp x - 1) + 1) = tk_l y (tk_n y 60) (x_it x (x_op x (x_dp x - 1))) (x_op x (x_dp x - 1) + 1) := bt_items hall (by omega) f5.symm hb.2.2.2 (fun i q1 q2 => hnode i q2 (fun _ => by omega))
      have hsgo : x_sg y (x_op x (x_dp x - 1)) = x_sg x (x_op x (x_dp x - 1)) ∧ x_st y (x_op x (x_dp x - 1)) = x_st x (x_op x (x_dp x - 1)) := by
        rw [y1, y2]
        exact ⟨va_up_ne _ _ (by omega), va_up_ne _ _ (by omega)⟩
      rw [hl, bt_b_pos (by omega)]
      unfold bt
      by_cases hc : c = 40
      · rw [if_pos hc] at y7
        rw [if_neg (by omega), y7, bt_b_pos (by omega), Nat.add_sub_cancel, bt_b_pos (x := y) (n := x_dp x) (by omega), h40]
        have s1 : bt_s y (x_dp x - 1) = bt_s x (x_dp x - 1) := by
          unfold bt_s
          have g6 : t_ei y (x_dp x - 1) = 1 := by unfold t_ei; rw [y7, if_pos (by omega)]
          rw [hop _ (by omega), g6, f6, hsgo.1, hsgo.2, y4, hit, Nat.add_sub_cancel, Nat.sub_zero, hitm]
        have s2 : bt_s y (x_dp x) = [some (c, k)] := by
          unfold bt_s
          have g6 : t_ei y (x_dp x) = 0 := by unfold t_ei; rw [y7, if_neg (by omega)]
          rw [if_pos hc] at y5
          have e9 : x_op y (x_dp x) = x_z x := by rw [y5, va_up_self]
          rw [g6, e9, y1, y2, y4, va_up_self, va_up_self, its_z ho]
          rfl
        rw [s1, s2]
      · rw [if_neg hc] at y7
        rw [if_neg (by omega), y7, bt_b_pos (by omega), h40, List.append_assoc]
        congr 1
        unfold bt_s
        have g6 : t_ei y (x_dp x - 1) = 0 := by unfold t_ei; rw [y7, if_neg (by omega)]
        have hch : t_ch y (x_it x (x_op x (x_dp x - 1))) (x_op x (x_dp x - 1) + 1) (x_z x) := t_ch_cg (x := x) _ _ _ (fun i q1 q2 => (hnode i q2 (fun _ => by omega)).2.2.1) hb.2.2.2
        rw [hop _ (by omega), g6, f6, hsgo.1, hsgo.2, y4, hit, Nat.sub_zero, Nat.sub_zero, tk_l_sn _ _ _ hch, ← hitm]
        have hzt : tk_n y 60 (x_z x) = [some (c, k)] := by
          rw [tk_n, y1, y2, va_up_self, va_up_self, if_neg hc]
        rw [hzt]
        rfl
  · cases h
theorem bt_close {s0 : Nat} {x y : TSt} (hx : t_bd s0 x) (h40 : x_sg x (x_op x (x_dp x - 1)) = 40) (h : t_close x = some y) : bt s0 y = bt s0 x ++ [none] := by
  have hall := hx
  obtain ⟨i1, i2, i3, i4, i5, i6, i7⟩ := hx
  have hy := (t_bd_close hall h).1
  unfold t_close at h
  split at h
  · cases h
  · rename_i h0
    obtain rfl := Option.some.inj h
    generalize hyy : (x_sg x, x_st x, va_up (x_sp x) (x_op x (x_dp x - 1)) (x_z x - x_op x (x_dp x - 1)), x_it x, x_rp x, x_op x, x_z x, x_dp x - 1, some (x_op x (x_dp x - 1))) = y at hy ⊢
    have y1 : x_sg y = x_sg x := by rw [← hyy]
    have y2 : x_st y = x_st x := by rw [← hyy]
    have y3 : x_sp y = va_up (x_sp x) (x_op x (x_dp x - 1)) (x_z x - x_op x (x_dp x - 1)) := by rw [← hyy]
    have y4 : x_it y = x_it x := by rw [← hyy]
    have y5 : x_op y = x_op x := by rw [← hyy]
    have y6 : x_z y = x_z x := by rw [← hyy]
    have y7 : x_dp y = x_dp x - 1 := by rw [← hyy]
    have hb := i2 (x_dp x - 1) (by omega)
    have f6 : t_ei x (x_dp x - 1) = 0 := if_neg (by omega)
    have f5 : t_en x (x_dp x - 1) = x_z x := if_neg (by omega)
    rw [f6, f5, Nat.sub_zero] at hb
    have hnode : ∀ i, i ≠ x_op x (x_dp x - 1) → x_sg x i = x_sg y i ∧ x_st x i = x_st y i ∧ x_sp x i = x_sp y i ∧ x_it x i = x_it y i := fun i q => by
      rw [y1, y2, y3, y4]
      exact ⟨rfl, rfl, (va_up_ne _ _ q).symm, rfl⟩
    have hitm : tk_l x (tk_n x 60) (x_it x (x_op x (x_dp x - 1))) (x_op x (x_dp x - 1) + 1) = tk_l y (tk_n y 60) (x_it x (x_op x (x_dp x - 1))) (x_op x (x_dp x - 1) + 1) := bt_items hall (by omega) f5.symm hb.2.2.2 (fun i q1 q2 => hnode i (by omega))
    have hso : x_sp y (x_op x (x_dp x - 1)) = x_z x - x_op x (x_dp x - 1) := by rw [y3, va_up_self]
    have hcy : t_cd y (x_op x (x_dp x - 1)) := fun j hj => by
      rw [y7] at hj
      rw [y5]
      have := i3 j (x_dp x - 1) hj (by omega)
      omega
    have hreg := t_bd_reg hy (by rw [y6]; exact hb.2.1) hcy
    have hcl := hy.1 _ (by rw [y6]; exact hb.2.1) hcy
    have hch : t_ch y (x_it x (x_op x (x_dp x - 1))) (x_op x (x_dp x - 1) + 1) (x_z x) := t_ch_cg (x := x) _ _ _ (fun i q1 q2 => (hnode i (by omega)).2.2.1) hb.2.2.2
    have hterm : tk_n y 60 (x_op x (x_dp x - 1)) = bt_s x (x_dp x - 1) ++ [none] := by
      have e1 : tk_n y 60 (x_op x (x_dp x - 1)) = tk_n y (59 + 1) (x_op x (x_dp x - 1)) := rfl
      rw [e1, tk_n, y1, y2, y4, if_pos h40]
      unfold bt_s
      rw [f6, Nat.sub_zero, hitm]
      rw [tk_l_cg (x := y) (y := y) (g := tk_n y 59) (g' := tk_n y 60) _ _ _ hch (fun _ _ _ => rfl) (fun i q1 q2 q3 => tk_fu 59 i (cl_sub hreg (by omega) (by rw [hso]; omega)) (hreg i (by omega) (by rw [hso]; omega)).1 (by omega))]
      rfl
    have hl : bt s0 x = bt_b x (x_dp x - 1) ++ bt_s x (x_dp x - 1) := by unfold bt; rw [if_neg h0, bt_b_pos (by omega)]
    rw [hl, List.append_assoc, ← hterm]
    unfold bt
    by_cases h1 : x_dp x = 1
    · have e0 : x_op x 0 = s0 := i7 (by omega)
      have ez : x_dp x - 1 = 0 := by omega
      rw [y7, if_pos ez, y6, ez, e0]
      rw [ez, e0] at hb
      rw [if_neg (by omega)]
      rfl
    · rw [y7, if_neg (by omega), bt_b_pos (by omega)]
      have hj : x_dp x - 1 - 1 < x_dp x := by omega
      have hb2 := i2 (x_dp x - 1 - 1) hj
      have g6 : t_ei x (x_dp x - 1 - 1) = 1 := if_pos (by omega)
      have g5 : t_en x (x_dp x - 1 - 1) = x_op x (x_dp x - 1) := by
        unfold t_en
        rw [if_pos (by omega), show x_dp x - 1 - 1 + 1 = x_dp x - 1 by omega]
      rw [g6, g5] at hb2
      have hlt := i3 (x_dp x - 1 - 1) (x_dp x - 1) (by omega) (by omega)
      have s0' : bt_b y (x_dp x - 1 - 1) = bt_b x (x_dp x - 1 - 1) := (bt_b_cg _ (fun j hj2 => by
        have hbj := i2 j (by omega)
        have k6 : t_ei x j = 1 := if_pos (by omega)
        have k5 : t_en x j = x_op x (j + 1) := if_pos (by omega)
        have k7 : t_ei y j = 1 := by unfold t_ei; rw [y7, if_pos (by omega)]
        have hjl : x_op x (j + 1) ≤ x_op x (x_dp x - 1 - 1) := by
          rcases Nat.eq_or_lt_of_le (show j + 1 ≤ x_dp x - 1 - 1 by omega) with q | q
          · rw [q]; exact Nat.le_refl _
          · exact Nat.le_of_lt (i3 _ _ q (by omega))
        unfold bt_s
        rw [k6, k7, y1, y2, y4, y5, bt_items hall (y := y) (by omega) rfl (by rw [k5]; rw [k6, k5] at hbj; exact hbj.2.2.2) (fun i q1 q2 => hnode i (by rw [k5] at q2; omega))])).symm
      have s1 : bt_s y (x_dp x - 1 - 1) = bt_s x (x_dp x - 1 - 1) ++ tk_n y 60 (x_op x (x_dp x - 1)) := by
        unfold bt_s
        have k7 : t_ei y (x_dp x - 1 - 1) = 0 := by unfold t_ei; rw [y7, if_neg (by omega)]
        obtain ⟨m, hm⟩ : ∃ m, x_it x (x_op x (x_dp x - 1 - 1)) = m + 1 := ⟨x_it x (x_op x (x_dp x - 1 - 1)) - 1, by omega⟩
        rw [hm, Nat.add_sub_cancel] at hb2
        have hc2 : t_ch y m (x_op x (x_dp x - 1 - 1) + 1) (x_op x (x_dp x - 1)) := t_ch_cg (x := x) _ _ _ (fun i q1 q2 => (hnode i (by omega)).2.2.1) hb2.2.2.2
        rw [k7, g6, y1, y2, y4, y5, hm, Nat.add_sub_cancel, Nat.sub_zero, tk_l_sn _ _ _ hc2, bt_items hall (y := y) hj g5.symm hb2.2.2.2 (fun i q1 q2 => hnode i (by omega))]
        rfl
      rw [s0', s1, bt_b_pos (x := x) (n := x_dp x - 1) (by omega), List.append_assoc]
theorem t_run_bt {cap s0 dm : Nat} : ∀ (ts : List Tk) (x y : TSt), t_bd s0 x → t_li x → t_run cap s0 dm ts x = some y → bt s0 y = bt s0 x ++ ts
  | [], x, y, _, _, h => by
    cases h
    exact (List.append_nil _).symm
  | some q :: r, x, y, hx, hl, h => by
    rw [t_run_s] at h
    obtain ⟨w, hw, h⟩ := Option.bind_eq_some_iff.mp h
    rw [t_run_bt r w y (t_bd_add hx hw).1 (t_li_add hx hl hw) h, bt_add hx hw, List.append_assoc]
    rfl
  | none :: r, x, y, hx, hl, h => by
    rw [t_run_e] at h
    obtain ⟨w, hw, h⟩ := Option.bind_eq_some_iff.mp h
    have h0 : x_dp x ≠ 0 := fun e => by
      unfold t_close at hw
      rw [if_pos e] at hw
      cases hw
    rw [t_run_bt r w y (t_bd_close hx hw).1 (t_li_close hx hl hw) h, bt_close hx (hl.2 _ (by omega)) hw, List.append_assoc]
    rfl
/-- a term that was put behind a row: its tokens are those that were put -/
theorem t_run_tk {cap dm : Nat} {ts : List Tk} {x y : TSt} (hx : t_wf6 x) (hl : t_lf x) (hb : tk_bal ts) (hz : x_z x < x_z y) (h : t_run cap (x_z x) dm ts (t_beg x) = some y) : tk_n y 60 (x_z x) = ts := by
  have h1 := t_run_bt _ _ _ (t_bd_beg (t_wf6_beg hx) rfl) ⟨hl, fun j hj => absurd hj (Nat.not_lt_zero _)⟩ h
  have h2 : bt (x_z x) (t_beg x) = [] := by
    unfold bt
    rw [if_pos rfl, if_pos rfl]
  have h3 : x_dp y = 0 := by
    have h7 := t_run_dp _ _ _ h
    unfold tk_bal at hb
    have h9 : x_dp (t_beg x) = 0 := rfl
    omega
  have h4 : x_z (t_beg x) = x_z x := rfl
  rw [h4, h2, List.nil_append] at h1
  unfold bt at h1
  rw [if_pos h3, if_neg (by omega)] at h1
  exact h1
