/-! What a rule that was read keeps to. -/
/-- leaves are leaves, begun lists are lists -/
def t_li (x : TSt) : Prop := t_lf x ∧ ∀ j, j < x_dp x → x_sg x (x_op x j) = 40
theorem t_li_add {cap s0 dm c k : Nat} {x y : TSt} (hx : t_bd s0 x) (hl : t_li x) (h : t_add cap s0 dm c k x = some y) : t_li y := by
  obtain ⟨i1, i2, i3, i4, i5, i6, i7⟩ := hx
  obtain ⟨l1, l2⟩ := hl
  unfold t_add at h
  split at h
  · obtain rfl := Option.some.inj h
    have ho : 0 < x_dp x → x_op x (x_dp x - 1) < x_z x := fun h0 => (i2 _ (by omega)).2.1
    refine ⟨fun i hi hs => ?_, fun j hj => ?_⟩
    · have hi : i < x_z x + 1 := hi
      have hs : ¬ va_up (x_sg x) (x_z x) c i = 40 := hs
      show va_up (x_sp x) (x_z x) 1 i = 1 ∧ t_its (x_it x) (x_op x) (x_z x) (x_dp x) i = 0
      by_cases e : i = x_z x
      · rw [e, va_up_self, its_z ho]; exact ⟨rfl, rfl⟩
      · rw [va_up_ne _ _ e] at hs
        have h1 := l1 i (by omega) hs
        rw [va_up_ne _ _ e, its_n e (fun h0 q => hs (by rw [q]; exact l2 _ (by omega)))]
        exact h1
    · have hj : j < (if c = 40 then x_dp x + 1 else x_dp x) := hj
      show va_up (x_sg x) (x_z x) c ((if c = 40 then va_up (x_op x) (x_dp x) (x_z x) else x_op x) j) = 40
      by_cases hc : c = 40
      · rw [if_pos hc] at hj ⊢
        by_cases e : j = x_dp x
        · rw [e, va_up_self, va_up_self]; exact hc
        · have := (i2 j (by omega)).2.1
          rw [va_up_ne _ _ e, va_up_ne _ _ (by omega)]; exact l2 j (by omega)
      · rw [if_neg hc] at hj ⊢
        have := (i2 j hj).2.1
        rw [va_up_ne _ _ (by omega)]; exact l2 j hj
  · cases h
theorem t_li_close {s0 : Nat} {x y : TSt} (hx : t_bd s0 x) (hl : t_li x) (h : t_close x = some y) : t_li y := by
  obtain ⟨l1, l2⟩ := hl
  unfold t_close at h
  split at h
  · cases h
  · rename_i h0
    obtain rfl := Option.some.inj h
    refine ⟨fun i hi hs => ?_, fun j hj => l2 j (Nat.lt_of_lt_of_le hj (Nat.sub_le _ _))⟩
    show va_up (x_sp x) (x_op x (x_dp x - 1)) (x_z x - x_op x (x_dp x - 1)) i = 1 ∧ x_it x i = 0
    rw [va_up_ne _ _ (fun e => hs (by rw [e]; exact l2 _ (by omega)))]
    exact l1 i hi hs
theorem t_li_rep {x y : TSt} (hl : t_li x) (h : t_rep x = some y) : t_li y := by
  unfold t_rep at h
  split at h
  · cases h
  · split at h
    · cases h
    · split at h
      · obtain rfl := Option.some.inj h
        exact hl
      · cases h
theorem t_li_take {cap s0 dm kd c : Nat} {x y : TSt} (hx : t_bd s0 x) (hl : t_li x) (h : t_take cap s0 dm kd c x = some y) : t_li y := by
  unfold t_take at h
  split at h
  · exact t_li_close hx hl h
  · split at h
    · split at h
      · cases h
      · exact t_li_rep hl h
    · split at h
      · exact t_li_add hx hl h
      · cases h
theorem t_li_rds {cap s0 dm kd n : Nat} {sg : Nat → Nat} : ∀ (k i : Nat) (x y : TSt), t_bd s0 x → t_li x → t_rds cap s0 dm kd sg n i k x = some y → t_li y
  | 0, _, x, y, _, hl, h => by cases h; exact hl
  | k + 1, i, x, y, hx, hl, h => by
    unfold t_rds at h
    split at h
    · cases h
    · rename_i w hw
      exact t_li_rds k (i + 1) w y (t_bd_take hx hw) (t_li_take hx hl hw) h
theorem t_res_lf {cap kd n a b : Nat} {sg : Nat → Nat} {x y : TSt} (hx : t_wf6 x) (hl : t_lf x) (h : t_res cap kd sg n a b x = some y) : t_lf y := by
  unfold t_res at h
  split at h
  · cases h
  · rename_i w hw
    split at h
    · cases h
      exact (t_li_rds _ _ _ _ (t_bd_beg (t_wf6_beg hx) rfl) ⟨hl, fun j hj => absurd hj (Nat.not_lt_zero _)⟩ hw).1
    · cases h
theorem t_run_li {cap s0 dm : Nat} : ∀ (ts : List Tk) (x y : TSt), t_bd s0 x → t_li x → t_run cap s0 dm ts x = some y → t_li y
  | [], x, y, _, hl, h => by cases h; exact hl
  | some q :: r, x, y, hx, hl, h => by
    rw [t_run_s] at h
    obtain ⟨w, hw, h⟩ := Option.bind_eq_some_iff.mp h
    exact t_run_li r w y (t_bd_add hx hw).1 (t_li_add hx hl hw) h
  | none :: r, x, y, hx, hl, h => by
    rw [t_run_e] at h
    obtain ⟨w, hw, h⟩ := Option.bind_eq_some_iff.mp h
    exact t_run_li r w y (t_bd_close hx hw).1 (t_li_close hx hl hw) h
/-- a node's sign stays -/
theorem t_take_sg {cap s0 dm kd c i : Nat} {x y : TSt} (hi : i < x_z x) (h : t_take cap s0 dm kd c x = some y) : x_sg y i = x_sg x i ∧ x_z x ≤ x_z y := by
  unfold t_take at h
  split at h
  · unfold t_close at h
    split at h
    · cases h
    · obtain rfl := Option.some.inj h; exact ⟨rfl, Nat.le_refl _⟩
  · split at h
    · split at h
      · cases h
      · unfold t_rep at h
        split at h
        · cases h
        · split at h
          · cases h
          · split at h
            · obtain rfl := Option.some.inj h; exact ⟨rfl, Nat.le_refl _⟩
            · cases h
    · split at h
      · unfold t_add at h
        split at h
        · obtain rfl := Option.some.inj h
          exact ⟨va_up_ne _ _ (by omega), Nat.le_succ _⟩
        · cases h
      · cases h
theorem t_rds_sg {cap s0 dm kd n : Nat} {sg : Nat → Nat} {i0 : Nat} : ∀ (k i : Nat) (x y : TSt), i0 < x_z x → t_rds cap s0 dm kd sg n i k x = some y → x_sg y i0 = x_sg x i0 ∧ x_z x ≤ x_z y
  | 0, _, x, y, _, h => by cases h; exact ⟨rfl, Nat.le_refl _⟩
  | k + 1, i, x, y, hi, h => by
    unfold t_rds at h
    split at h
    · cases h
    · rename_i w hw
      have h1 := t_take_sg hi hw
      have h2 := t_rds_sg k (i + 1) w y (Nat.lt_of_lt_of_le hi h1.2) h
      exact ⟨h2.1.trans h1.1, Nat.le_trans h1.2 h2.2⟩
theorem t_add_z {cap s0 dm c k : Nat} {x y : TSt} (h : t_add cap s0 dm c k x = some y) : x_sg y = va_up (x_sg x) (x_z x) c ∧ x_z y = x_z x + 1 ∧ (c = 40 → x_dp y = x_dp x + 1) := by
  unfold t_add at h
  split at h
  · obtain rfl := Option.some.inj h
    exact ⟨rfl, rfl, fun h9 => if_pos h9⟩
  · cases h
theorem t_take_ad {cap s0 dm kd c : Nat} {x : TSt} (h1 : ¬ c = 41) (h2 : ¬ c = 126) (h3 : c_ok kd c) : t_take cap s0 dm kd c x = t_add cap s0 dm c 0 x := by
  unfold t_take
  rw [if_neg h1, if_neg h2, if_pos h3]
/-- a pattern begins with a list and a name -/
theorem t_pat {cap n e : Nat} {sg : Nat → Nat} {x x1 : TSt} (hm : d_mac sg n) (h : t_res cap 1 sg n 0 e (t_clr x) = some x1) : 2 ≤ x_z x1 ∧ x_sg x1 0 = 40 ∧ x_sg x1 1 = dch sg n 1 := by
  unfold t_res at h
  split at h
  · cases h
  · rename_i w hw
    split at h
    · rename_i hc
      cases h
      rw [Nat.sub_zero] at hw
      match e, hw with
      | 0, hw =>
        unfold t_rds at hw
        cases hw
        exact absurd hc.2 (Nat.lt_irrefl _)
      | e + 1, hw =>
        unfold t_rds at hw
        split at hw
        · cases hw
        · rename_i w2 hw2
          rw [hm.1, t_take_ad (by decide) (by decide) (Or.inl rfl)] at hw2
          obtain ⟨a1, a2, a3⟩ := t_add_z hw2
          have a2 : x_z w2 = 1 := a2
          have a3 : x_dp w2 = 1 := a3 rfl
          have a1 : x_sg w2 = va_up (x_sg x) 0 40 := a1
          match e, hw with
          | 0, hw =>
            unfold t_rds at hw
            cases hw
            have := hc.1
            omega
          | e + 1, hw =>
            unfold t_rds at hw
            split at hw
            · cases hw
            · rename_i w3 hw3
              have hn : c_nm (dch sg n (0 + 1)) := hm.2.1
              rw [t_take_ad (by omega) (by omega) (Or.inr (Or.inl hn))] at hw3
              obtain ⟨b1, b2, -⟩ := t_add_z hw3
              rw [a2] at b1 b2
              have c0 := t_rds_sg (i0 := 0) e _ _ _ (by omega) hw
              have c1 := t_rds_sg (i0 := 1) e _ _ _ (by omega) hw
              refine ⟨by omega, c0.1.trans ?_, c1.1.trans ?_⟩
              · rw [b1, va_up_ne _ _ (by decide), a1, va_up_self]
              · rw [b1, va_up_self]
    · cases h
theorem rm_one {x : TSt} {kf : Nat → Nat} {tm : Nat} : ∀ (k i u : Nat), rm_go x kf k i u → tm ≤ i → (u ≤ i ∨ ∃ a, tm ≤ a ∧ a < i ∧ ¬ x_rp x a = 0 ∧ u = a + x_sp x a) → ∀ j, i ≤ j → j < i + k → k_many kf (x_sg x j) → ∃ a, tm ≤ a ∧ a ≤ j ∧ j < a + x_sp x a ∧ ¬ x_rp x a = 0
  | 0, i, u, _, _, _, j, h1, h2, _ => by omega
  | k + 1, i, u, h, ht, hu, j, h1, h2, hm => by
    unfold rm_go at h
    obtain ⟨g1, g2, g3⟩ := h
    have hu2 : (if x_rp x i = 0 then u else i + x_sp x i) ≤ i + 1 ∨ ∃ a, tm ≤ a ∧ a < i + 1 ∧ ¬ x_rp x a = 0 ∧ (if x_rp x i = 0 then u else i + x_sp x i) = a + x_sp x a := by
      by_cases h9 : x_rp x i = 0
      · rw [if_pos h9]
        rcases hu with h8 | ⟨a, a1, a2, a3, a4⟩
        · exact Or.inl (by omega)
        · exact Or.inr ⟨a, a1, by omega, a3, a4⟩
      · rw [if_neg h9]
        exact Or.inr ⟨i, ht, by omega, h9, rfl⟩
    rcases Nat.eq_or_lt_of_le h1 with h9 | h9
    · subst h9
      have h8 := g2 hm
      by_cases h7 : x_rp x i = 0
      · rw [if_pos h7] at h8
        rcases hu with h6 | ⟨a, a1, a2, a3, a4⟩
        · omega
        · exact ⟨a, a1, by omega, by omega, a3⟩
      · rw [if_neg h7] at h8
        exact ⟨i, ht, Nat.le_refl _, h8, h7⟩
    · exact rm_one k (i + 1) _ g3 (by omega) hu2 j h9 (by omega) hm
/-- what an expansion needs of a rule -/
def r_fit (x : TSt) (kf : Nat → Nat) (tm : Nat) : Prop :=
  t_wf6 x ∧ t_lf x ∧ 2 ≤ tm ∧ tm < x_z x ∧ x_sp x 0 = tm ∧ tm + x_sp x tm = x_z x ∧ c_nm (x_sg x 1) ∧ x_sg x 0 = 40 ∧
  (∀ (y : TSt) (us : Nat) (q r : MSt), m_fi x y 60 0 us 1 q = some r → ∀ v, v < 26 → kf v = 1 → 0 < r.1 v) ∧
  (∀ j, tm ≤ j → j < x_z x → k_many kf (x_sg x j) → ∃ i, tm < i ∧ i ≤ j ∧ j < i + x_sp x i ∧ ¬ x_rp x i = 0)
theorem r_is_fit {cap n e tm : Nat} {sg kf0 kf : Nat → Nat} {x0 x : TSt} (h : r_is cap sg n e x0 kf0 x kf tm) : r_fit x kf tm := by
  obtain ⟨h1, h2, x1, h3, h4, h5, h6, h7⟩ := h
  subst h5
  obtain ⟨p1, p2, p3⟩ := t_pat h1 h3
  have w0 := t_wf6_clr x0
  have w1 := t_res_wf w0 h3
  have b1 := t_res_b2 w0 h3
  have f1 := t_res_lf w0 (fun i hi => absurd hi (Nat.not_lt_zero _)) h3
  have w2 := t_res_wf w1.1 h6
  have b2 := t_res_b2 w1.1 h6
  have f2 := t_res_lf w1.1 f1 h6
  have ag := b2.2.1
  have hz : x_z x1 < x_z x := w2.2.1
  have s0 : x_sp x1 0 = x_z x1 := by
    rcases b1.2.2.2.2.2.2.2.1 w1.2.2 with e | e
    · have e : x_z x1 = 0 := e
      omega
    · have e : 0 + x_sp x1 0 = x_z x1 := e
      omega
  have s2 : x_z x1 + x_sp x (x_z x1) = x_z x := by
    rcases b2.2.2.2.2.2.2.2.1 w2.2.2 with e | e
    · omega
    · exact e
  have e0 := ag 0 (by omega)
  have e1 := ag 1 (by omega)
  have hn1 : c_nm (x_sg x 1) := by rw [← e1.1, p3]; exact h1.2.1
  have l1 := (f2 1 (by omega) (by omega)).1
  refine ⟨w2.1, f2, p1, hz, by rw [← e0.2.2.1]; exact s0, s2, hn1, by rw [← e0.1]; exact p2, fun y us q r hm v hv hk => ?_, fun j j1 j2 j3 => ?_⟩
  · have hnn : ∀ a b, a < b → b < x_z x1 → ¬ x_rp x1 a = 0 → ¬ x_rp x1 b = 0 → a + x_sp x1 a ≤ b := fun a b => b1.1.2.1 a b (Nat.zero_le _)
    rcases fv_one (v := v) (fun i hi => (w1.1.1 i hi).1) hnn (x_z x1 - 2) 2 0 _ kf (by omega) (fun a a1 a2 => by omega) (Nat.le_refl _) h4 hk with c1 | ⟨i0, c1, c2, c3, c4, c5⟩
    · rw [if_pos hv] at c1; cases c1
    · have ei := ag i0 (by omega)
      rw [ei.1] at c3 c4
      have hcov : ∀ a, 1 ≤ a → a ≤ i0 → i0 < a + x_sp x a → x_rp x a = 0 := fun a a1 a2 a3 => by
        rcases Nat.eq_or_lt_of_le a1 with a4 | a4
        · subst a4; omega
        · have ea := ag a (by omega)
          rw [← ea.2.2.2.2]
          exact c5 a a4 a2 (by rw [ea.2.2.1]; exact a3)
      have hw0 := w2.1.1 0 (by omega)
      have hs0 : x_sp x 0 = x_z x1 := by rw [← e0.2.2.1]; exact s0
      rw [hs0, Nat.zero_add, Nat.zero_add] at hw0
      unfold m_fi at hm
      cases hit : x_it y us with
      | zero =>
        rw [hit] at hm
        unfold m_lp at hm
        split at hm
        · rename_i ho
          rcases ho with ho | ⟨ho, -⟩
          · rw [ho] at hw0
            have : 1 = x_z x1 := hw0.2.2
            omega
          · rw [ho] at hw0
            have : 1 + x_sp x 1 = x_z x1 := hw0.2.2.2
            omega
        · cases hm
      | succ m =>
        rw [hit] at hm
        unfold m_lp at hm
        split at hm
        · cases hm
        · rename_i hlf
          rw [if_neg (by decide)] at hm
          simp only at hm
          obtain ⟨l9, hl9⟩ : ∃ l9, x_it x 0 = l9 + 1 := ⟨x_it x 0 - 1, by omega⟩
          have hch : t_ch x (l9 + 1) 1 (x_z x1) := by rw [← hl9]; exact hw0.2.2
          have hhit := m_ft_hit (y := y) w2.1.1 f2 (i0 := i0) c3
          rw [← c4]
          split at hm
          · rw [l1, hl9, Nat.add_sub_cancel] at hm
            have hch2 := hch.2
            rw [l1] at hch2
            exact m_lp_hit w2.1.1 (m_ft_ge 60) (hhit 60) m 1 (0 + 1 + 1) l9 _ (x_z x1) q r (Nat.le_refl _) (by omega) hch2 (by omega) (by omega) (fun a a1 a2 a3 => hcov a (by omega) a2 a3) hm
          · rw [hl9] at hm
            exact m_lp_hit w2.1.1 (m_ft_ge 60) (hhit 60) m 1 (0 + 1) (l9 + 1) _ (x_z x1) q r (Nat.le_refl _) (by omega) hch (by omega) (by omega) (fun a a1 a2 a3 => hcov a (by omega) a2 a3) hm
  · obtain ⟨a, a1, a2, a3, a4⟩ := rm_one _ _ _ h7 (Nat.le_refl _) (Or.inl (Nat.zero_le _)) j j1 (by omega) j3
    exact ⟨a, (b2.1.1 a a1 (by omega) a4).2, a2, a3, a4⟩
