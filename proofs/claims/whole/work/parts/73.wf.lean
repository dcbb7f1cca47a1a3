theorem t_ch_cg {x y : TSt} : ∀ (n a b : Nat), (∀ i, a ≤ i → i < b → x_sp x i = x_sp y i) → t_ch x n a b → t_ch y n a b
  | 0, _, _, _, h => h
  | n + 1, a, b, hg, h => by
    have h1 : a < b := h.1
    refine ⟨h1, ?_⟩
    rw [← hg a (Nat.le_refl _) h1]
    exact t_ch_cg n _ b (fun i hi hb => hg i (Nat.le_trans (Nat.le_add_right _ _) hi) hb) h.2
theorem t_ch_sn {x : TSt} : ∀ (n a b b' : Nat), t_ch x n a b → b < b' → b + x_sp x b = b' → t_ch x (n + 1) a b'
  | 0, a, b, b', h, h1, h2 => by
    have h : a = b := h
    subst h
    exact ⟨h1, h2⟩
  | n + 1, a, b, b', h, h1, h2 => ⟨Nat.lt_trans h.1 h1, t_ch_sn n _ b b' h.2 h1 h2⟩
/-- a node that is no begun list -/
def t_cd (x : TSt) (i : Nat) : Prop := ∀ j, j < x_dp x → x_op x j ≠ i
/-- a node whose term is there -/
def t_cl1 (x : TSt) (i : Nat) : Prop := 1 ≤ x_sp x i ∧ x_sp x i ≤ 60 ∧ i + x_sp x i ≤ x_z x ∧ t_ch x (x_it x i) (i + 1) (i + x_sp x i) ∧ ∀ j, j < x_dp x → i < x_op x j → i + x_sp x i ≤ x_op x j
def t_en (x : TSt) (j : Nat) : Nat := if j + 1 < x_dp x then x_op x (j + 1) else x_z x
def t_ei (x : TSt) (j : Nat) : Nat := if j + 1 < x_dp x then 1 else 0
/-- a row while a term is being added to it from s0 on -/
def t_bd (s0 : Nat) (x : TSt) : Prop :=
  (∀ i, i < x_z x → t_cd x i → t_cl1 x i) ∧ (∀ j, j < x_dp x → s0 ≤ x_op x j ∧ x_op x j < x_z x ∧ t_ei x j ≤ x_it x (x_op x j) ∧ t_ch x (x_it x (x_op x j) - t_ei x j) (x_op x j + 1) (t_en x j)) ∧
  (∀ i j, i < j → j < x_dp x → x_op x i < x_op x j) ∧ s0 ≤ x_z x ∧ x_z x ≤ s0 + 60 ∧ (x_dp x = 0 → x_z x = s0 ∨ s0 + x_sp x s0 = x_z x) ∧ (0 < x_dp x → x_op x 0 = s0)
theorem its_z {it op : Nat → Nat} {z dp : Nat} (h : 0 < dp → op (dp - 1) < z) : t_its it op z dp z = 0 := by
  unfold t_its
  split
  · rename_i h0
    have := h h0
    rw [va_up_ne _ _ (by omega), va_up_self]
  · exact va_up_self _ _ _
theorem its_o {it op : Nat → Nat} {z dp : Nat} (h0 : 0 < dp) (h : op (dp - 1) < z) : t_its it op z dp (op (dp - 1)) = it (op (dp - 1)) + 1 := by
  unfold t_its
  rw [if_pos h0, va_up_self, va_up_ne _ _ (by omega)]
theorem its_n {it op : Nat → Nat} {z dp i : Nat} (h : i ≠ z) (h0 : 0 < dp → i ≠ op (dp - 1)) : t_its it op z dp i = it i := by
  unfold t_its
  split
  · rename_i h1
    rw [va_up_ne _ _ (h0 h1), va_up_ne _ _ h]
  · exact va_up_ne _ _ h
/-- the row below s0 -/
def t_ag (s0 : Nat) (x y : TSt) : Prop := ∀ i, i < s0 → x_sg x i = x_sg y i ∧ x_st x i = x_st y i ∧ x_sp x i = x_sp y i ∧ x_it x i = x_it y i ∧ x_rp x i = x_rp y i
theorem t_ag.rf {s0 : Nat} {x : TSt} : t_ag s0 x x := fun _ _ => ⟨rfl, rfl, rfl, rfl, rfl⟩
theorem t_ag.tr {s0 : Nat} {x y w : TSt} (h : t_ag s0 x y) (h2 : t_ag s0 y w) : t_ag s0 x w := fun i hi => by
  obtain ⟨a1, a2, a3, a4, a5⟩ := h i hi
  obtain ⟨b1, b2, b3, b4, b5⟩ := h2 i hi
  exact ⟨a1.trans b1, a2.trans b2, a3.trans b3, a4.trans b4, a5.trans b5⟩
theorem t_bd_add {cap s0 dm c k : Nat} {x y : TSt} (hx : t_bd s0 x) (h : t_add cap s0 dm c k x = some y) : t_bd s0 y ∧ t_ag s0 x y := by
  obtain ⟨i1, i2, i3, i4, i5, i6, i7⟩ := hx
  unfold t_add at h
  split at h
  · rename_i hcan
    obtain ⟨e1, e2, e3, e4⟩ := hcan
    obtain rfl := Option.some.inj h
    have ho : 0 < x_dp x → x_op x (x_dp x - 1) < x_z x := fun h0 => (i2 _ (by omega)).2.1
    have ho2 : 0 < x_dp x → s0 ≤ x_op x (x_dp x - 1) := fun h0 => (i2 _ (by omega)).1
    have hsp : ∀ i, i < x_z x → va_up (x_sp x) (x_z x) 1 i = x_sp x i := fun i hi => va_up_ne _ _ (by omega)
    have hag : t_ag s0 x (va_up (x_sg x) (x_z x) c, va_up (x_st x) (x_z x) k, va_up (x_sp x) (x_z x) 1, t_its (x_it x) (x_op x) (x_z x) (x_dp x), va_up (x_rp x) (x_z x) 0, (if c = 40 then va_up (x_op x) (x_dp x) (x_z x) else x_op x), x_z x + 1, (if c = 40 then x_dp x + 1 else x_dp x), (if c = 40 then none else some (x_z x))) := fun i hi =>
      ⟨(va_up_ne _ _ (by omega)).symm, (va_up_ne _ _ (by omega)).symm, (hsp i (by omega)).symm, (its_n (by omega) (fun h0 => by have := ho2 h0; omega)).symm, (va_up_ne _ _ (by omega)).symm⟩
    refine ⟨?_, hag⟩
    by_cases hc : c = 40
    · simp only [hc, if_true] at *
      refine ⟨?_, ?_, ?_, ?_, ?_, ?_, ?_⟩
      · intro i hi hcd
        have hi' : i < x_z x + 1 := hi
        have hne : i ≠ x_z x := fun q => hcd (x_dp x) (Nat.lt_succ_self _) (by show va_up (x_op x) (x_dp x) (x_z x) (x_dp x) = i; rw [va_up_self]; exact q.symm)
        have hcd0 : t_cd x i := fun j hj q => hcd j (Nat.lt_succ_of_lt hj) (by show va_up (x_op x) (x_dp x) (x_z x) j = i; rw [va_up_ne _ _ (by omega)]; exact q)
        obtain ⟨a1, a2, a3, a4, a5⟩ := i1 i (by omega) hcd0
        have hit : t_its (x_it x) (x_op x) (x_z x) (x_dp x) i = x_it x i := its_n hne (fun h0 q => hcd0 _ (by omega) q.symm)
        refine ⟨?_, ?_, ?_, ?_, ?_⟩
        · show 1 ≤ va_up (x_sp x) (x_z x) 1 i
          rw [hsp i (by omega)]; exact a1
        · show va_up (x_sp x) (x_z x) 1 i ≤ 60
          rw [hsp i (by omega)]; exact a2
        · show i + va_up (x_sp x) (x_z x) 1 i ≤ x_z x + 1
          rw [hsp i (by omega)]; omega
        · show t_ch _ (t_its (x_it x) (x_op x) (x_z x) (x_dp x) i) (i + 1) (i + va_up (x_sp x) (x_z x) 1 i)
          rw [hsp i (by omega), hit]
          exact t_ch_cg _ _ _ (fun q _ h9 => (hsp q (by omega)).symm) a4
        · intro j hj hlt
          have hj' : j < x_dp x + 1 := hj
          have hlt' : i < va_up (x_op x) (x_dp x) (x_z x) j := hlt
          show i + va_up (x_sp x) (x_z x) 1 i ≤ va_up (x_op x) (x_dp x) (x_z x) j
          rw [hsp i (by omega)]
          by_cases hq : j = x_dp x
          · rw [hq, va_up_self]; exact a3
          · rw [va_up_ne _ _ hq] at hlt' ⊢
            exact a5 j (by omega) hlt'
      · intro j hj
        have hj' : j < x_dp x + 1 := hj
        by_cases hq : j = x_dp x
        · subst hq
          have e9 : va_up (x_op x) (x_dp x) (x_z x) (x_dp x) = x_z x := va_up_self _ _ _
          have e8 : t_its (x_it x) (x_op x) (x_z x) (x_dp x) (x_z x) = 0 := its_z ho
          refine ⟨?_, ?_, ?_, ?_⟩
          · show s0 ≤ va_up (x_op x) (x_dp x) (x_z x) (x_dp x)
            rw [e9]; exact i4
          · show va_up (x_op x) (x_dp x) (x_z x) (x_dp x) < x_z x + 1
            rw [e9]; omega
          · show (if x_dp x + 1 < x_dp x + 1 then 1 else 0) ≤ _
            rw [if_neg (by omega)]; exact Nat.zero_le _
          · show t_ch _ (t_its (x_it x) (x_op x) (x_z x) (x_dp x) (va_up (x_op x) (x_dp x) (x_z x) (x_dp x)) - (if x_dp x + 1 < x_dp x + 1 then 1 else 0)) (va_up (x_op x) (x_dp x) (x_z x) (x_dp x) + 1) (if x_dp x + 1 < x_dp x + 1 then va_up (x_op x) (x_dp x) (x_z x) (x_dp x + 1) else x_z x + 1)
            rw [e9, e8, if_neg (by omega), if_neg (by omega)]
            exact rfl
        · obtain ⟨b1, b2, b3, b4⟩ := i2 j (by omega)
          have e9 : va_up (x_op x) (x_dp x) (x_z x) j = x_op x j := va_up_ne _ _ hq
          have hes : ∀ i, i < x_z x → x_sp x i = va_up (x_sp x) (x_z x) 1 i := fun i hi => (hsp i hi).symm
          by_cases hl : j + 1 = x_dp x
          · have e7 : x_op x j = x_op x (x_dp x - 1) := by rw [← hl]; rfl
            have e8 : t_its (x_it x) (x_op x) (x_z x) (x_dp x) (x_op x j) = x_it x (x_op x j) + 1 := by rw [e7]; exact its_o (by omega) (ho (by omega))
            have e6 : t_ei x j = 0 := if_neg (by omega)
            have e5 : t_en x j = x_z x := if_neg (by omega)
            rw [e6, e5] at b4
            refine ⟨?_, ?_, ?_, ?_⟩
            · show s0 ≤ va_up (x_op x) (x_dp x) (x_z x) j
              rw [e9]; exact b1
            · show va_up (x_op x) (x_dp x) (x_z x) j < x_z x + 1
              rw [e9]; omega
            · show (if j + 1 < x_dp x + 1 then 1 else 0) ≤ t_its (x_it x) (x_op x) (x_z x) (x_dp x) (va_up (x_op x) (x_dp x) (x_z x) j)
              rw [e9, e8, if_pos (by omega)]; omega
            · show t_ch _ (t_its (x_it x) (x_op x) (x_z x) (x_dp x) (va_up (x_op x) (x_dp x) (x_z x) j) - (if j + 1 < x_dp x + 1 then 1 else 0)) (va_up (x_op x) (x_dp x) (x_z x) j + 1) (if j + 1 < x_dp x + 1 then va_up (x_op x) (x_dp x) (x_z x) (j + 1) else x_z x + 1)
              rw [e9, e8, if_pos (by omega), if_pos (by omega), hl, va_up_self, Nat.add_sub_cancel]
              exact t_ch_cg _ _ _ (fun q _ h9 => hes q h9) b4
          · have e8 : t_its (x_it x) (x_op x) (x_z x) (x_dp x) (x_op x j) = x_it x (x_op x j) := its_n (by omega) (fun h0 => by have := i3 j (x_dp x - 1) (by omega) (by omega); omega)
            have e6 : t_ei x j = 1 := if_pos (by omega)
            have e5 : t_en x j = x_op x (j + 1) := if_pos (by omega)
            have b5 := (i2 (j + 1) (by omega)).2.1
            rw [e6] at b3
            rw [e6, e5] at b4
            refine ⟨?_, ?_, ?_, ?_⟩
            · show s0 ≤ va_up (x_op x) (x_dp x) (x_z x) j
              rw [e9]; exact b1
            · show va_up (x_op x) (x_dp x) (x_z x) j < x_z x + 1
              rw [e9]; omega
            · show (if j + 1 < x_dp x + 1 then 1 else 0) ≤ t_its (x_it x) (x_op x) (x_z x) (x_dp x) (va_up (x_op x) (x_dp x) (x_z x) j)
              rw [e9, e8, if_pos (by omega)]; exact b3
            · show t_ch _ (t_its (x_it x) (x_op x) (x_z x) (x_dp x) (va_up (x_op x) (x_dp x) (x_z x) j) - (if j + 1 < x_dp x + 1 then 1 else 0)) (va_up (x_op x) (x_dp x) (x_z x) j + 1) (if j + 1 < x_dp x + 1 then va_up (x_op x) (x_dp x) (x_z x) (j + 1) else x_z x + 1)
              rw [e9, e8, if_pos (by omega), if_pos (by omega), va_up_ne _ _ hl]
              exact t_ch_cg _ _ _ (fun q _ h9 => hes q (by omega)) b4
      · intro i j hij hj
        have hj' : j < x_dp x + 1 := hj
        show va_up (x_op x) (x_dp x) (x_z x) i < va_up (x_op x) (x_dp x) (x_z x) j
        rw [va_up_ne _ _ (show i ≠ x_dp x by omega)]
        by_cases hq : j = x_dp x
        · rw [hq, va_up_self]; exact (i2 i (by omega)).2.1
        · rw [va_up_ne _ _ hq]; exact i3 i j hij (by omega)
      · show s0 ≤ x_z x + 1
        omega
      · show x_z x + 1 ≤ s0 + 60
        omega
      · intro h9
        have h9 : x_dp x + 1 = 0 := h9
        omega
      · intro _
        show va_up (x_op x) (x_dp x) (x_z x) 0 = s0
        by_cases hq : x_dp x = 0
        · rw [hq, va_up_self]
          rcases Nat.lt_or_ge s0 (x_z x) with h9 | h9
          · exact absurd ⟨hq, h9⟩ e1
          · omega
        · rw [va_up_ne _ _ (by omega)]; exact i7 (by omega)
    · simp only [if_neg hc] at *
      refine ⟨?_, ?_, i3, ?_, ?_, ?_, i7⟩
      · intro i hi hcd
        have hi' : i < x_z x + 1 := hi
        have hcd0 : t_cd x i := hcd
        by_cases hne : i = x_z x
        · subst hne
          have e8 : t_its (x_it x) (x_op x) (x_z x) (x_dp x) (x_z x) = 0 := its_z ho
          refine ⟨?_, ?_, ?_, ?_, ?_⟩
          · show 1 ≤ va_up (x_sp x) (x_z x) 1 (x_z x)
            rw [va_up_self]; exact Nat.le_refl _
          · show va_up (x_sp x) (x_z x) 1 (x_z x) ≤ 60
            rw [va_up_self]; decide
          · show x_z x + va_up (x_sp x) (x_z x) 1 (x_z x) ≤ x_z x + 1
            rw [va_up_self]; exact Nat.le_refl _
          · show t_ch _ (t_its (x_it x) (x_op x) (x_z x) (x_dp x) (x_z x)) (x_z x + 1) (x_z x + va_up (x_sp x) (x_z x) 1 (x_z x))
            rw [va_up_self, e8]; exact rfl
          · intro j hj hlt
            have hlt' : x_z x < x_op x j := hlt
            have := (i2 j hj).2.1
            omega
        · obtain ⟨a1, a2, a3, a4, a5⟩ := i1 i (by omega) hcd0
          have hit : t_its (x_it x) (x_op x) (x_z x) (x_dp x) i = x_it x i := its_n hne (fun h0 q => hcd0 _ (by omega) q.symm)
          refine ⟨?_, ?_, ?_, ?_, ?_⟩
          · show 1 ≤ va_up (x_sp x) (x_z x) 1 i
            rw [hsp i (by omega)]; exact a1
          · show va_up (x_sp x) (x_z x) 1 i ≤ 60
            rw [hsp i (by omega)]; exact a2
          · show i + va_up (x_sp x) (x_z x) 1 i ≤ x_z x + 1
            rw [hsp i (by omega)]; omega
          · show t_ch _ (t_its (x_it x) (x_op x) (x_z x) (x_dp x) i) (i + 1) (i + va_up (x_sp x) (x_z x) 1 i)
            rw [hsp i (by omega), hit]
            exact t_ch_cg _ _ _ (fun q _ h9 => (hsp q (by omega)).symm) a4
          · intro j hj hlt
            show i + va_up (x_sp x) (x_z x) 1 i ≤ x_op x j
            rw [hsp i (by omega)]
            exact a5 j hj hlt
      · intro j hj
        have hj' : j < x_dp x := hj
        obtain ⟨b1, b2, b3, b4⟩ := i2 j hj'
        have hes : ∀ i, i < x_z x → x_sp x i = va_up (x_sp x) (x_z x) 1 i := fun i hi => (hsp i hi).symm
        by_cases hl : j + 1 = x_dp x
        · have e7 : x_op x j = x_op x (x_dp x - 1) := by rw [← hl]; rfl
          have e8 : t_its (x_it x) (x_op x) (x_z x) (x_dp x) (x_op x j) = x_it x (x_op x j) + 1 := by rw [e7]; exact its_o (by omega) (ho (by omega))
          have e6 : t_ei x j = 0 := if_neg (by omega)
          have e5 : t_en x j = x_z x := if_neg (by omega)
          rw [e6, e5] at b4
          refine ⟨b1, ?_, ?_, ?_⟩
          · show x_op x j < x_z x + 1
            omega
          · show (if j + 1 < x_dp x then 1 else 0) ≤ _
            rw [if_neg (by omega)]; exact Nat.zero_le _
          · show t_ch _ (t_its (x_it x) (x_op x) (x_z x) (x_dp x) (x_op x j) - (if j + 1 < x_dp x then 1 else 0)) (x_op x j + 1) (if j + 1 < x_dp x then x_op x (j + 1) else x_z x + 1)
            rw [e8, if_neg (by omega), if_neg (by omega)]
            refine t_ch_sn _ _ (x_z x) _ (t_ch_cg _ _ _ (fun q _ h9 => hes q h9) b4) (Nat.lt_succ_self _) ?_
            show x_z x + va_up (x_sp x) (x_z x) 1 (x_z x) = x_z x + 1
            rw [va_up_self]
        · have e8 : t_its (x_it x) (x_op x) (x_z x) (x_dp x) (x_op x j) = x_it x (x_op x j) := its_n (by omega) (fun h0 => by have := i3 j (x_dp x - 1) (by omega) (by omega); omega)
          have e5 : t_en x j = x_op x (j + 1) := if_pos (by omega)
          have b5 := (i2 (j + 1) (by omega)).2.1
          rw [e5] at b4
          refine ⟨b1, ?_, ?_, ?_⟩
          · show x_op x j < x_z x + 1
            omega
          · show t_ei x j ≤ t_its (x_it x) (x_op x) (x_z x) (x_dp x) (x_op x j)
            rw [e8]; exact b3
          · show t_ch _ (t_its (x_it x) (x_op x) (x_z x) (x_dp x) (x_op x j) - t_ei x j) (x_op x j + 1) (if j + 1 < x_dp x then x_op x (j + 1) else x_z x + 1)
            rw [e8, if_pos (by omega)]
            exact t_ch_cg _ _ _ (fun q _ h9 => hes q (by omega)) b4
      · show s0 ≤ x_z x + 1
        omega
      · show x_z x + 1 ≤ s0 + 60
        omega
      · intro h9
        have h9 : x_dp x = 0 := h9
        right
        have h8 : x_z x = s0 := by
          rcases Nat.lt_or_ge s0 (x_z x) with h7 | h7
          · exact absurd ⟨h9, h7⟩ e1
          · omega
        show s0 + va_up (x_sp x) (x_z x) 1 s0 = x_z x + 1
        rw [h8, va_up_self]
  · cases h
theorem t_bd_close {s0 : Nat} {x y : TSt} (hx : t_bd s0 x) (h : t_close x = some y) : t_bd s0 y ∧ t_ag s0 x y := by
  obtain ⟨i1, i2, i3, i4, i5, i6, i7⟩ := hx
  unfold t_close at h
  split at h
  · cases h
  · rename_i h0
    obtain rfl := Option.some.inj h
    obtain ⟨c1, c2, c3, c4⟩ := i2 (x_dp x - 1) (by omega)
    have e6 : t_ei x (x_dp x - 1) = 0 := if_neg (by omega)
    have e5 : t_en x (x_dp x - 1) = x_z x := if_neg (by omega)
    rw [e6, e5] at c4
    have hsp : ∀ i, i ≠ x_op x (x_dp x - 1) → va_up (x_sp x) (x_op x (x_dp x - 1)) (x_z x - x_op x (x_dp x - 1)) i = x_sp x i := fun i hi => va_up_ne _ _ hi
    have hso : va_up (x_sp x) (x_op x (x_dp x - 1)) (x_z x - x_op x (x_dp x - 1)) (x_op x (x_dp x - 1)) = x_z x - x_op x (x_dp x - 1) := va_up_self _ _ _
    refine ⟨⟨?_, ?_, ?_, i4, i5, ?_, ?_⟩, fun i hi => ⟨rfl, rfl, (hsp i (by omega)).symm, rfl, rfl⟩⟩
    · intro i hi hcd
      have hi' : i < x_z x := hi
      have hcd' : ∀ j, j < x_dp x - 1 → x_op x j ≠ i := hcd
      by_cases hio : i = x_op x (x_dp x - 1)
      · subst hio
        refine ⟨?_, ?_, ?_, ?_, ?_⟩
        · show 1 ≤ va_up (x_sp x) (x_op x (x_dp x - 1)) (x_z x - x_op x (x_dp x - 1)) (x_op x (x_dp x - 1))
          rw [hso]; omega
        · show va_up (x_sp x) (x_op x (x_dp x - 1)) (x_z x - x_op x (x_dp x - 1)) (x_op x (x_dp x - 1)) ≤ 60
          rw [hso]; omega
        · show x_op x (x_dp x - 1) + va_up (x_sp x) (x_op x (x_dp x - 1)) (x_z x - x_op x (x_dp x - 1)) (x_op x (x_dp x - 1)) ≤ x_z x
          rw [hso]; omega
        · show t_ch _ (x_it x (x_op x (x_dp x - 1))) (x_op x (x_dp x - 1) + 1) (x_op x (x_dp x - 1) + va_up (x_sp x) (x_op x (x_dp x - 1)) (x_z x - x_op x (x_dp x - 1)) (x_op x (x_dp x - 1)))
          rw [hso, show x_op x (x_dp x - 1) + (x_z x - x_op x (x_dp x - 1)) = x_z x by omega]
          exact t_ch_cg _ _ _ (fun q h8 h9 => (hsp q (by omega)).symm) c4
        · intro j hj hlt
          have hj' : j < x_dp x - 1 := hj
          have hlt' : x_op x (x_dp x - 1) < x_op x j := hlt
          have := i3 j (x_dp x - 1) hj' (by omega)
          omega
      · have hcd0 : t_cd x i := fun j hj q => by
          by_cases hjd : j = x_dp x - 1
          · exact hio (by rw [← q, hjd])
          · exact hcd' j (by omega) q
        obtain ⟨a1, a2, a3, a4, a5⟩ := i1 i hi' hcd0
        refine ⟨?_, ?_, ?_, ?_, ?_⟩
        · show 1 ≤ va_up (x_sp x) (x_op x (x_dp x - 1)) (x_z x - x_op x (x_dp x - 1)) i
          rw [hsp i hio]; exact a1
        · show va_up (x_sp x) (x_op x (x_dp x - 1)) (x_z x - x_op x (x_dp x - 1)) i ≤ 60
          rw [hsp i hio]; exact a2
        · show i + va_up (x_sp x) (x_op x (x_dp x - 1)) (x_z x - x_op x (x_dp x - 1)) i ≤ x_z x
          rw [hsp i hio]; exact a3
        · show t_ch _ (x_it x i) (i + 1) (i + va_up (x_sp x) (x_op x (x_dp x - 1)) (x_z x - x_op x (x_dp x - 1)) i)
          rw [hsp i hio]
          refine t_ch_cg _ _ _ (fun q h8 h9 => (hsp q (fun e => ?_)).symm) a4
          have := a5 (x_dp x - 1) (by omega) (by omega)
          omega
        · intro j hj hlt
          have hj' : j < x_dp x - 1 := hj
          show i + va_up (x_sp x) (x_op x (x_dp x - 1)) (x_z x - x_op x (x_dp x - 1)) i ≤ x_op x j
          rw [hsp i hio]
          exact a5 j (by omega) hlt
    · intro j hj
      have hj' : j < x_dp x - 1 := hj
      obtain ⟨b1, b2, b3, b4⟩ := i2 j (by omega)
      have f6 : t_ei x j = 1 := if_pos (by omega)
      have f5 : t_en x j = x_op x (j + 1) := if_pos (by omega)
      rw [f6] at b3
      rw [f6, f5] at b4
      have f4 := i3 j (j + 1) (by omega) (by omega)
      by_cases hl : j + 1 = x_dp x - 1
      · refine ⟨b1, b2, ?_, ?_⟩
        · show (if j + 1 < x_dp x - 1 then 1 else 0) ≤ _
          rw [if_neg (by omega)]; exact Nat.zero_le _
        · show t_ch _ (x_it x (x_op x j) - (if j + 1 < x_dp x - 1 then 1 else 0)) (x_op x j + 1) (if j + 1 < x_dp x - 1 then x_op x (j + 1) else x_z x)
          rw [if_neg (by omega), if_neg (by omega), show x_it x (x_op x j) - 0 = (x_it x (x_op x j) - 1) + 1 by omega]
          rw [hl] at b4
          refine t_ch_sn _ _ (x_op x (x_dp x - 1)) _ (t_ch_cg _ _ _ (fun q h8 h9 => (hsp q (by omega)).symm) b4) (by omega) ?_
          show x_op x (x_dp x - 1) + va_up (x_sp x) (x_op x (x_dp x - 1)) (x_z x - x_op x (x_dp x - 1)) (x_op x (x_dp x - 1)) = x_z x
          rw [hso]; omega
      · refine ⟨b1, b2, ?_, ?_⟩
        · show (if j + 1 < x_dp x - 1 then 1 else 0) ≤ x_it x (x_op x j)
          rw [if_pos (by omega)]; exact b3
        · show t_ch _ (x_it x (x_op x j) - (if j + 1 < x_dp x - 1 then 1 else 0)) (x_op x j + 1) (if j + 1 < x_dp x - 1 then x_op x (j + 1) else x_z x)
          rw [if_pos (by omega), if_pos (by omega)]
          have := i3 (j + 1) (x_dp x - 1) (by omega) (by omega)
          exact t_ch_cg _ _ _ (fun q h8 h9 => (hsp q (by omega)).symm) b4
    · intro i j hij hj
      have hj' : j < x_dp x - 1 := hj
      exact i3 i j hij (by omega)
    · intro h9
      have h9 : x_dp x - 1 = 0 := h9
      right
      have := i7 (by omega)
      rw [h9] at hso hsp c2 c1
      show s0 + va_up (x_sp x) (x_op x (x_dp x - 1)) (x_z x - x_op x (x_dp x - 1)) s0 = x_z x
      rw [h9, ← this, hso]
      omega
    · intro h9
      have h9 : 0 < x_dp x - 1 := h9
      exact i7 (by omega)
theorem t_bd_rep {s0 : Nat} {x y : TSt} (hx : t_bd s0 x) (h : t_rep x = some y) : t_bd s0 y := by
  unfold t_rep at h
  split at h
  · cases h
  · split at h
    · cases h
    · split at h
      · obtain rfl := Option.some.inj h
        have hc : ∀ (n a b : Nat) (rp : Nat → Nat) (la : Option Nat), t_ch x n a b → t_ch (x_sg x, x_st x, x_sp x, x_it x, rp, x_op x, x_z x, x_dp x, la) n a b := fun n a b rp la h => t_ch_cg (x := x) n a b (fun _ _ _ => rfl) h
        obtain ⟨i1, i2, i3, i4, i5, i6, i7⟩ := hx
        refine ⟨fun i hi hcd => ?_, fun j hj => ?_, i3, i4, i5, i6, i7⟩
        · obtain ⟨a1, a2, a3, a4, a5⟩ := i1 i hi hcd
          exact ⟨a1, a2, a3, hc _ _ _ _ _ a4, a5⟩
        · obtain ⟨b1, b2, b3, b4⟩ := i2 j hj
          exact ⟨b1, b2, b3, hc _ _ _ _ _ b4⟩
      · cases h
/-- a row of whole terms, none of them with more than 60 nodes -/
def t_wf6 (x : TSt) : Prop := t_wf x ∧ ∀ i, i < x_z x → x_sp x i ≤ 60
theorem t_bd_beg {x : TSt} (h : t_wf6 x) (dp0 : x_dp x = 0) : t_bd (x_z x) x := by
  refine ⟨fun i hi _ => ?_, fun j hj => by omega, fun i j _ hj => by omega, Nat.le_refl _, Nat.le_add_right _ _, fun _ => Or.inl rfl, fun h0 => by omega⟩
  obtain ⟨a1, a2, a3⟩ := h.1 i hi
  exact ⟨a1, h.2 i hi, a2, a3, fun j hj => by omega⟩
theorem t_bd_wf {s0 : Nat} {x : TSt} (h : t_bd s0 x) (h0 : x_dp x = 0) : t_wf6 x := by
  refine ⟨fun i hi => ?_, fun i hi => ?_⟩
  · obtain ⟨a1, a2, a3, a4, a5⟩ := h.1 i hi (fun j hj => by omega)
    exact ⟨a1, a3, a4⟩
  · exact (h.1 i hi (fun j hj => by omega)).2.1
theorem t_bd_take {cap s0 dm kd c : Nat} {x y : TSt} (hx : t_bd s0 x) (h : t_take cap s0 dm kd c x = some y) : t_bd s0 y := by
  unfold t_take at h
  split at h
  · exact (t_bd_close hx h).1
  · split at h
    · split at h
      · cases h
      · exact t_bd_rep hx h
    · split at h
      · exact (t_bd_add hx h).1
      · cases h
theorem t_bd_rds {cap s0 dm kd n : Nat} {sg : Nat → Nat} : ∀ (k i : Nat) (x y : TSt), t_bd s0 x → t_rds cap s0 dm kd sg n i k x = some y → t_bd s0 y
  | 0, _, x, y, hx, h => by cases h; exact hx
  | k + 1, i, x, y, hx, h => by
    unfold t_rds at h
    split at h
    · cases h
    · rename_i w hw
      exact t_bd_rds k (i + 1) w y (t_bd_take hx hw) h
theorem t_wf6_beg {x : TSt} (h : t_wf6 x) : t_wf6 (t_beg x) := ⟨fun i hi => by obtain ⟨a1, a2, a3⟩ := h.1 i hi; exact ⟨a1, a2, t_ch_cg (x := x) _ _ _ (fun _ _ _ => rfl) a3⟩, h.2⟩
theorem t_res_wf {cap kd n a b : Nat} {sg : Nat → Nat} {x y : TSt} (hx : t_wf6 x) (h : t_res cap kd sg n a b x = some y) : t_wf6 y ∧ x_z x < x_z y ∧ x_dp y = 0 := by
  unfold t_res at h
  split at h
  · cases h
  · rename_i w hw
    split at h
    · rename_i hc
      cases h
      exact ⟨t_bd_wf (t_bd_rds _ _ _ _ (t_bd_beg (t_wf6_beg hx) rfl) hw) hc.1, hc.2, hc.1⟩
    · cases h
theorem t_wf6_clr (x : TSt) : t_wf6 (t_clr x) := ⟨fun _ hi => absurd hi (Nat.not_lt_zero _), fun _ hi => absurd hi (Nat.not_lt_zero _)⟩
