/-! A rule's text: the reference's lists and tildes, and the row that is read. -/
/-- a repeated node among those from a to b -/
def hr (x : TSt) (a b : Nat) : Prop := ∃ i, a ≤ i ∧ i < b ∧ ¬ x_rp x i = 0
noncomputable def hb (x : TSt) (a b : Nat) : Nat := @ite _ (hr x a b) (Classical.propDecidable _) 1 0
theorem hb_1 {x : TSt} {a b : Nat} (h : hr x a b) : hb x a b = 1 := if_pos h
theorem hb_0 {x : TSt} {a b : Nat} (h : ¬ hr x a b) : hb x a b = 0 := if_neg h
theorem hb_lt {x : TSt} {a b : Nat} : hb x a b < 2 := by
  unfold hb
  split <;> decide
theorem hb_cg {x y : TSt} {a b c d : Nat} (h : hr x a b ↔ hr y c d) : hb x a b = hb y c d := by
  by_cases h1 : hr x a b
  · rw [hb_1 h1, hb_1 (h.mp h1)]
  · rw [hb_0 h1, hb_0 (fun q => h1 (h.mpr q))]
/-- the reference's lists while a text is read; fs: nothing but the macro was read -/
def lsr (gs : OS) (x : TSt) (pn : Nat → Nat) (fs : Prop) : Prop :=
  gs.1 13 = nI (x_dp x) ∧ x_dp x ≤ 8 ∧ (∀ j, j < x_dp x → gs.2 14 (j + 1) = nI (pn (x_op x j)) ∧ gs.2 15 (j + 1) = nI (hb x (x_op x j + 1) (t_en x j))) ∧
  ((gs.1 16 = -1 ∧ (fs ∨ ∀ l, x_la x = some l → ¬ x_rp x l = 0)) ∨ (∃ l, x_la x = some l ∧ x_rp x l = 0 ∧ gs.1 16 = nI (pn l) ∧ gs.1 17 = nI (hb x l (x_z x))))
/-- where each node's token stands -/
def PN (tk : Nat → Nat) (s0 p0 : Nat) (x : TSt) (pn : Nat → Nat) (p : Nat) : Prop :=
  (∀ i, s0 ≤ i → i < x_z x → p0 ≤ pn i ∧ pn i < p ∧ tk (pn i) = o_tk (x_sg x i)) ∧ (∀ i j, s0 ≤ i → i < j → j < x_z x → pn i < pn j) ∧ (∀ t, p0 ≤ t → t < p → 100 ≤ tk t → ∃ i, s0 ≤ i ∧ i < x_z x ∧ pn i = t)
theorem PN_add {tk : Nat → Nat} {s0 p0 p : Nat} {x y : TSt} {pn : Nat → Nat} (h : PN tk s0 p0 x pn p) (hp : p0 ≤ p) (hz : x_z y = x_z x + 1) (hs : ∀ i, i < x_z x → x_sg y i = x_sg x i) (ht : tk p = o_tk (x_sg y (x_z x))) (hs0 : s0 ≤ x_z x) : PN tk s0 p0 y (va_up pn (x_z x) p) (p + 1) := by
  obtain ⟨h1, h2, h3⟩ := h
  refine ⟨fun i q1 q2 => ?_, fun i j q1 q2 q3 => ?_, fun t q1 q2 q3 => ?_⟩
  · rw [hz] at q2
    by_cases hi : i = x_z x
    · rw [hi, va_up_self]
      exact ⟨hp, by omega, ht⟩
    · rw [va_up_ne _ _ hi, hs i (by omega)]
      have := h1 i q1 (by omega)
      exact ⟨this.1, by omega, this.2.2⟩
  · rw [hz] at q3
    have hi : i ≠ x_z x := by omega
    rw [va_up_ne _ _ hi]
    by_cases hj : j = x_z x
    · rw [hj, va_up_self]
      exact (h1 i q1 (by omega)).2.1
    · rw [va_up_ne _ _ hj]
      exact h2 i j q1 q2 (by omega)
  · rw [hz]
    by_cases htp : t = p
    · exact ⟨x_z x, hs0, by omega, by rw [va_up_self]; exact htp.symm⟩
    · obtain ⟨i, a, b, c⟩ := h3 t q1 (by omega) q3
      exact ⟨i, a, by omega, by rw [va_up_ne _ _ (by omega)]; exact c⟩
theorem PN_on {tk : Nat → Nat} {s0 p0 p : Nat} {x y : TSt} {pn : Nat → Nat} (h : PN tk s0 p0 x pn p) (hz : x_z y = x_z x) (hs : x_sg y = x_sg x) (ht : tk p < 100) : PN tk s0 p0 y pn (p + 1) := by
  obtain ⟨h1, h2, h3⟩ := h
  refine ⟨fun i q1 q2 => ?_, fun i j q1 q2 q3 => h2 i j q1 q2 (by omega), fun t q1 q2 q3 => ?_⟩
  · have := h1 i q1 (by omega)
    rw [hs]
    exact ⟨this.1, by omega, this.2.2⟩
  · have htp : t ≠ p := fun q => by rw [q] at q3; omega
    obtain ⟨i, a, b, c⟩ := h3 t q1 (by omega) q3
    exact ⟨i, a, by omega, c⟩
/-- what the lists are kept in -/
def lc (gs g2 : OS) : Prop := (∀ k, k ≠ 13 → k ≠ 16 → k ≠ 17 → g2.1 k = gs.1 k) ∧ ∀ k, k ≠ 14 → k ≠ 15 → g2.2 k = gs.2 k
theorem lc.rf {gs : OS} : lc gs gs := ⟨fun _ _ _ _ => rfl, fun _ _ _ => rfl⟩
theorem lc.tr {a b c : OS} (h : lc a b) (h2 : lc b c) : lc a c := ⟨fun k p q r => (h2.1 k p q r).trans (h.1 k p q r), fun k p q => (h2.2 k p q).trans (h.2 k p q)⟩
theorem sI_u {gs : OS} {k : Nat} {v : Int32} {j : Nat} : (sI gs k v).1 j = if j = k then v else gs.1 j := by
  by_cases h : j = k
  · rw [if_pos h, h, sI_e]
  · rw [if_neg h, sI_n h]
section LIST
variable {F : Nat} {gs : OS} {x y : TSt} {pn : Nat → Nat} {fs : Prop} {s0 p : Nat}
/-- a list is begun -/
theorem ls_open {cap k : Nat} (hL : lsr gs x pn fs) (hB : t_bd s0 x) (hp : p < 9999) : (8 ≤ x_dp x → ∃ g2, rf_openList F gs (nI p) = some (0, g2) ∧ lc gs g2) ∧ (∀ y, t_add cap s0 8 40 k x = some y → ∃ g2, rf_openList F gs (nI p) = some (1, g2) ∧ lc gs g2 ∧ lsr g2 y (va_up pn (x_z x) p) False) := by
  obtain ⟨h13, h8, hj, hit⟩ := hL
  have e13 : gs.1 13 + 1 = nI (x_dp x + 1) := nI_p1 h13
  refine ⟨fun h => ⟨sI gs 13 (gs.1 13 + 1), ?_, ⟨fun k q1 _ _ => sI_n q1, fun _ _ _ => rfl⟩⟩, fun y hy => ?_⟩
  · rw [rf_openList]
    exact rc_leF (b := 8) e13 rfl (by omega) rfl
  · have hcan : t_can cap 40 (x_z x) s0 (x_dp x) 8 := by
      unfold t_add at hy
      split at hy
      · assumption
      · cases hy
    have hd8 : x_dp x < 8 := Nat.lt_of_not_le (fun q => hcan.2.1 ⟨rfl, q⟩)
    have hy' : y = (va_up (x_sg x) (x_z x) 40, va_up (x_st x) (x_z x) k, va_up (x_sp x) (x_z x) 1, t_its (x_it x) (x_op x) (x_z x) (x_dp x), va_up (x_rp x) (x_z x) 0, va_up (x_op x) (x_dp x) (x_z x), x_z x + 1, x_dp x + 1, none) := by
      unfold t_add at hy
      rw [if_pos hcan] at hy
      exact (Option.some.inj hy).symm
    refine ⟨_, by rw [rf_openList]; exact rc_leT (b := 8) e13 rfl (by omega) (rc_in e13 (by omega) (rc_in e13 (by omega) rfl)), ⟨fun j q1 q2 _ => ?_, fun j q1 q2 => ?_⟩, ?_⟩
    · show (sI (sI gs 13 (gs.1 13 + 1)) 16 (-1)).1 j = _
      rw [sI_n q2, sI_n q1]
    · rw [sA_n q2, sA_n q1]
      rfl
    · subst hy'
      have a14 : ∀ g : OS, (sA (sA (sI (sI gs 13 (gs.1 13 + 1)) 16 (-1)) 14 (upd (gs.2 14) (gs.1 13 + 1).toNatClampNeg (nI p))) 15 (upd (gs.2 15) (gs.1 13 + 1).toNatClampNeg (vp_nar .boolean 0))).2 14 = upd (gs.2 14) (x_dp x + 1) (nI p) := fun _ => by
        rw [sA_n (by decide), sA_e, e13, nI_clamp (by omega)]
      have a15 : (sA (sA (sI (sI gs 13 (gs.1 13 + 1)) 16 (-1)) 14 (upd (gs.2 14) (gs.1 13 + 1).toNatClampNeg (nI p))) 15 (upd (gs.2 15) (gs.1 13 + 1).toNatClampNeg (vp_nar .boolean 0))).2 15 = upd (gs.2 15) (x_dp x + 1) (nI 0) := by
        rw [sA_e, e13, nI_clamp (by omega)]
        rfl
      refine ⟨?_, by show x_dp x + 1 ≤ 8; omega, fun j hj2 => ?_, Or.inl ⟨?_, Or.inr (fun l hl => by cases hl)⟩⟩
      · show (sI (sI gs 13 (gs.1 13 + 1)) 16 (-1)).1 13 = nI (x_dp x + 1)
        rw [sI_n (by decide), sI_e]
        exact e13
      · have hj2 : j < x_dp x + 1 := hj2
        rw [a14 gs, a15]
        show upd (gs.2 14) (x_dp x + 1) (nI p) (j + 1) = nI (va_up pn (x_z x) p (va_up (x_op x) (x_dp x) (x_z x) j)) ∧ upd (gs.2 15) (x_dp x + 1) (nI 0) (j + 1) = nI (hb _ (va_up (x_op x) (x_dp x) (x_z x) j + 1) (if j + 1 < x_dp x + 1 then va_up (x_op x) (x_dp x) (x_z x) (j + 1) else x_z x + 1))
        by_cases hq : j = x_dp x
        · subst hq
          rw [upd_e, upd_e, va_up_self, va_up_self, if_neg (by omega)]
          refine ⟨rfl, ?_⟩
          rw [hb_0]
          rintro ⟨i, q1, q2, _⟩
          omega
        · have hop := (hB.2.1 j (by omega)).2.1
          rw [upd_n (by omega), upd_n (by omega), va_up_ne _ _ hq, va_up_ne _ _ (show x_op x j ≠ x_z x by omega)]
          obtain ⟨b1, b2⟩ := hj j (by omega)
          refine ⟨b1, ?_⟩
          rw [b2]
          congr 1
          have een : t_en x j = if j + 1 < x_dp x + 1 then va_up (x_op x) (x_dp x) (x_z x) (j + 1) else x_z x + 1 := by
            unfold t_en
            rw [if_pos (show j + 1 < x_dp x + 1 by omega)]
            by_cases hq2 : j + 1 < x_dp x
            · rw [if_pos hq2, va_up_ne _ _ (by omega)]
            · rw [if_neg hq2, show j + 1 = x_dp x by omega, va_up_self]
          have hen : t_en x j ≤ x_z x := by
            unfold t_en
            split
            · exact Nat.le_of_lt (hB.2.1 (j + 1) (by omega)).2.1
            · exact Nat.le_refl _
          rw [← een]
          refine hb_cg ⟨?_, ?_⟩
          · rintro ⟨i, q1, q2, q3⟩
            refine ⟨i, q1, q2, ?_⟩
            show ¬ va_up (x_rp x) (x_z x) 0 i = 0
            rw [va_up_ne _ _ (by omega)]
            exact q3
          · rintro ⟨i, q1, q2, q3⟩
            have q3 : ¬ va_up (x_rp x) (x_z x) 0 i = 0 := q3
            rw [va_up_ne _ _ (by omega)] at q3
            exact ⟨i, q1, q2, q3⟩
      · show (sI (sI gs 13 (gs.1 13 + 1)) 16 (-1)).1 16 = -1
        rw [sI_e]
/-- a leaf -/
theorem ls_leaf {cap c k : Nat} (hL : lsr gs x pn fs) (hB : t_bd s0 x) (hc : ¬ c = 40) (hy : t_add cap s0 8 c k x = some y) : lsr (sI (sI gs 16 (nI p)) 17 0) y (va_up pn (x_z x) p) False := by
  obtain ⟨h13, h8, hj, hit⟩ := hL
  have hy' : y = (va_up (x_sg x) (x_z x) c, va_up (x_st x) (x_z x) k, va_up (x_sp x) (x_z x) 1, t_its (x_it x) (x_op x) (x_z x) (x_dp x), va_up (x_rp x) (x_z x) 0, x_op x, x_z x + 1, x_dp x, some (x_z x)) := by
    unfold t_add at hy
    split at hy
    · exact (Option.some.inj hy).symm
    · cases hy
  subst hy'
  refine ⟨?_, h8, fun j hj2 => ?_, Or.inr ⟨x_z x, rfl, va_up_self _ _ _, ?_, ?_⟩⟩
  · rw [sI_n (by decide), sI_n (by decide)]
    exact h13
  · have hj2 : j < x_dp x := hj2
    obtain ⟨b1, b2⟩ := hj j hj2
    have hop := (hB.2.1 j hj2).2.1
    show gs.2 14 (j + 1) = nI (va_up pn (x_z x) p (x_op x j)) ∧ gs.2 15 (j + 1) = nI (hb _ (x_op x j + 1) (if j + 1 < x_dp x then x_op x (j + 1) else x_z x + 1))
    rw [va_up_ne _ _ (show x_op x j ≠ x_z x by omega), b2]
    refine ⟨b1, ?_⟩
    congr 1
    refine hb_cg ⟨?_, ?_⟩
    · rintro ⟨i, q1, q2, q3⟩
      have hiz : i < x_z x := by
        unfold t_en at q2
        split at q2
        · have := (hB.2.1 (j + 1) (by omega)).2.1
          omega
        · exact q2
      refine ⟨i, q1, ?_, ?_⟩
      · unfold t_en at q2
        split at q2
        · rw [if_pos (by assumption)]; exact q2
        · rw [if_neg (by assumption)]; omega
      · show ¬ va_up (x_rp x) (x_z x) 0 i = 0
        rw [va_up_ne _ _ (by omega)]
        exact q3
    · rintro ⟨i, q1, q2, q3⟩
      have q3 : ¬ va_up (x_rp x) (x_z x) 0 i = 0 := q3
      have hiz : i ≠ x_z x := fun q => q3 (by rw [q, va_up_self])
      rw [va_up_ne _ _ hiz] at q3
      refine ⟨i, q1, ?_, q3⟩
      unfold t_en
      split at q2
      · rw [if_pos (by assumption)]; exact q2
      · rw [if_neg (by assumption)]; omega
  · rw [sI_n (by decide), sI_e, va_up_self]
  · rw [sI_e]
    show nI 0 = nI (hb _ (x_z x) (x_z x + 1))
    rw [hb_0]
    rintro ⟨i, q1, q2, q3⟩
    have : i = x_z x := by omega
    rw [this] at q3
    exact q3 (va_up_self _ _ _)
/-- a list's end -/
theorem ls_close (hL : lsr gs x pn fs) (hB : t_bd s0 x) (hB2 : t_b2 s0 x) (h0 : ¬ x_dp x = 0) (hy : t_close x = some y) : ∃ g2, rf_closeList F gs = some (0, g2) ∧ lc gs g2 ∧ lsr g2 y pn False := by
  obtain ⟨h13, h8, hj, hit⟩ := hL
  obtain ⟨d, hd⟩ : ∃ d, x_dp x = d + 1 := ⟨x_dp x - 1, by omega⟩
  rw [hd] at h13
  have hy' : y = (x_sg x, x_st x, va_up (x_sp x) (x_op x d) (x_z x - x_op x d), x_it x, x_rp x, x_op x, x_z x, d, some (x_op x d)) := by
    unfold t_close at hy
    rw [if_neg h0, hd, Nat.add_sub_cancel] at hy
    exact (Option.some.inj hy).symm
  obtain ⟨b1, b2⟩ := hj d (by omega)
  have hop := hB.2.1 d (by omega)
  have een : t_en x d = x_z x := by unfold t_en; rw [if_neg (by omega)]
  rw [een] at b2
  have hlt := hb_lt (x := x) (a := x_op x d + 1) (b := x_z x)
  generalize hV : hb x (x_op x d + 1) (x_z x) = V at b2 hlt
  have hrpo : x_rp x (x_op x d) = 0 := by
    by_cases h : x_rp x (x_op x d) = 0
    · exact h
    · exact absurd rfl ((hB2.1 _ hop.1 hop.2.1 h).1 d (by omega))
  have a14 : gs.2 14 (gs.1 13).toNatClampNeg = nI (pn (x_op x d)) := cl_ax h13 b1
  have a15 : gs.2 15 (gs.1 13).toNatClampNeg = nI V := cl_ax h13 b2
  have e1 : gs.1 13 - 1 = nI d := nI_s1 h13
  have hib : ib (gs.2 15 (gs.1 13).toNatClampNeg) := by
    rw [a15]
    rcases (show V = 0 ∨ V = 1 by omega) with h | h
    · rw [h]; exact Or.inl rfl
    · rw [h]; exact Or.inr rfl
  have hitem : hb x (x_op x d) (x_z x) = V := by
    rw [← hV]
    refine hb_cg ⟨?_, ?_⟩
    · rintro ⟨i, q1, q2, q3⟩
      have : i ≠ x_op x d := fun q => q3 (by rw [q]; exact hrpo)
      exact ⟨i, by omega, q2, q3⟩
    · rintro ⟨i, q1, q2, q3⟩
      exact ⟨i, by omega, q2, q3⟩
  -- the state but for the outer list's flag
  have fin : ∀ g : OS, g.1 13 = nI d → g.1 16 = nI (pn (x_op x d)) → g.1 17 = nI V → g.2 14 = gs.2 14 → (∀ j, j < d → j + 1 < d → g.2 15 (j + 1) = gs.2 15 (j + 1)) → (∀ e, d = e + 1 → g.2 15 d = nI (hb x (x_op x e + 1) (x_z x))) → lsr g y pn False := by
    intro g k13 k16 k17 k14 k15 k15e
    subst hy'
    refine ⟨k13, by show d ≤ 8; omega, fun j hj2 => ?_, Or.inr ⟨x_op x d, rfl, hrpo, k16, by rw [k17]; exact congrArg nI hitem.symm⟩⟩
    have hj2 : j < d := hj2
    obtain ⟨c1, c2⟩ := hj j (by omega)
    refine ⟨by rw [k14]; exact c1, ?_⟩
    show g.2 15 (j + 1) = nI (hb _ (x_op x j + 1) (if j + 1 < d then x_op x (j + 1) else x_z x))
    by_cases hq : j + 1 < d
    · rw [if_pos hq, k15 j hj2 hq, c2]
      congr 1
      unfold t_en
      rw [if_pos (by omega)]
      rfl
    · rw [if_neg hq, show j + 1 = d by omega, k15e j (by omega)]
      rfl
  by_cases hd0 : d = 0
  · refine ⟨sI (sI (sI gs 13 (gs.1 13 - 1)) 16 (gs.2 14 (gs.1 13).toNatClampNeg)) 17 (gs.2 15 (gs.1 13).toNatClampNeg), ?_, ⟨fun k q1 q2 q3 => ?_, fun _ _ _ => rfl⟩, fin _ ?_ ?_ ?_ rfl (fun j q1 q2 => by omega) (fun e q => by omega)⟩
    · rw [rf_closeList]
      refine rc_in h13 (by omega) ?_
      refine rc_in h13 (by omega) ?_
      refine rc_ib hib ?_
      refine rc_leT (b := 0) e1 rfl (by omega) ?_
      rfl
    · rw [sI_n q3, sI_n q2, sI_n q1]
    · rw [sI_n (by decide), sI_n (by decide), sI_e]; exact e1
    · rw [sI_n (by decide), sI_e]; exact a14
    · rw [sI_e]; exact a15
  · obtain ⟨e, he⟩ : ∃ e, d = e + 1 := ⟨d - 1, by omega⟩
    obtain ⟨c1, c2⟩ := hj e (by omega)
    have een2 : t_en x e = x_op x d := by unfold t_en; rw [if_pos (by omega), he]
    rw [een2, ← he] at c2
    have hltU := hb_lt (x := x) (a := x_op x e + 1) (b := x_op x d)
    generalize hU : hb x (x_op x e + 1) (x_op x d) = U at c2 hltU
    have hed := hB.2.2.1 e d (by omega) (by omega)
    have a15d : gs.2 15 (gs.1 13 - 1).toNatClampNeg = nI U := cl_ax e1 c2
    have hnew : hb x (x_op x e + 1) (x_z x) = if U = 0 ∧ V = 0 then 0 else 1 := by
      by_cases hu : hr x (x_op x e + 1) (x_op x d)
      · have : U = 1 := by rw [← hU]; exact hb_1 hu
        rw [if_neg (by omega)]
        obtain ⟨i, q1, q2, q3⟩ := hu
        exact hb_1 ⟨i, q1, by omega, q3⟩
      · have hU0 : U = 0 := by rw [← hU]; exact hb_0 hu
        by_cases hv : hr x (x_op x d + 1) (x_z x)
        · have : V = 1 := by rw [← hV]; exact hb_1 hv
          rw [if_neg (by omega)]
          obtain ⟨i, q1, q2, q3⟩ := hv
          exact hb_1 ⟨i, by omega, q2, q3⟩
        · have hV0 : V = 0 := by rw [← hV]; exact hb_0 hv
          rw [if_pos ⟨hU0, hV0⟩]
          refine hb_0 ?_
          rintro ⟨i, q1, q2, q3⟩
          by_cases h1 : i < x_op x d
          · exact hu ⟨i, q1, h1, q3⟩
          · by_cases h2 : i = x_op x d
            · exact q3 (by rw [h2]; exact hrpo)
            · exact hv ⟨i, by omega, q2, q3⟩
    have done : ∀ w y0, w < 2 → y0 = nI w → w = (if U = 0 ∧ V = 0 then 0 else 1) → ∃ g2, rf_closeList_75 F (sI (sI (sI gs 13 (gs.1 13 - 1)) 16 (gs.2 14 (gs.1 13).toNatClampNeg)) 17 (gs.2 15 (gs.1 13).toNatClampNeg)) y0 (gs.1 13 - 1) = some (0, g2) ∧ lc gs g2 ∧ lsr g2 y pn False := by
      intro w y0 hw hy0 hwv
      refine ⟨sA (sI (sI (sI gs 13 (gs.1 13 - 1)) 16 (gs.2 14 (gs.1 13).toNatClampNeg)) 17 (gs.2 15 (gs.1 13).toNatClampNeg)) 15 (upd (gs.2 15) (gs.1 13 - 1).toNatClampNeg (vp_nar .boolean y0)), by rw [rf_closeList_75]; exact rc_in e1 (by omega) rfl, ⟨fun k q1 q2 q3 => ?_, fun k q1 q2 => sA_n q2⟩, fin _ ?_ ?_ ?_ (sA_n (by decide)) (fun j q1 q2 => ?_) (fun e' q => ?_)⟩
      · rw [sA_1, sI_n q3, sI_n q2, sI_n q1]
      · rw [sA_1, sI_n (by decide), sI_n (by decide), sI_e]; exact e1
      · rw [sA_1, sI_n (by decide), sI_e]; exact a14
      · rw [sA_1, sI_e]; exact a15
      · rw [sA_e, e1, nI_clamp (by omega)]
        exact upd_n (by omega)
      · have : e' = e := by omega
        rw [this, sA_e, e1, nI_clamp (by omega), upd_e, hy0, nar_b hw, hnew, hwv]
    have hd1 : ∀ {C : RO}, _ = C → rf_closeList F gs = C := fun {C} k => by
      rw [rf_closeList]
      refine rc_in h13 (by omega) ?_
      refine rc_in h13 (by omega) ?_
      refine rc_ib hib ?_
      refine rc_leF (b := 0) e1 rfl (by omega) ?_
      exact rc_in e1 (by omega) k
    by_cases hu0 : U = 0
    · by_cases hv0 : V = 0
      · obtain ⟨g2, q1, q2, q3⟩ := done 0 0 (by decide) rfl (by rw [if_pos ⟨hu0, hv0⟩])
        refine ⟨g2, hd1 ?_, q2, q3⟩
        refine rc_eqE (b := 0) a15d rfl hu0 ?_
        exact rc_eqE (b := 0) a15 rfl hv0 q1
      · obtain ⟨g2, q1, q2, q3⟩ := done 1 1 (by decide) rfl (by rw [if_neg (by omega)])
        refine ⟨g2, hd1 ?_, q2, q3⟩
        refine rc_eqE (b := 0) a15d rfl hu0 ?_
        refine rc_eqF (b := 0) a15 rfl hv0 ?_
        rw [rf_closeList_70]
        exact q1
    · obtain ⟨g2, q1, q2, q3⟩ := done 1 1 (by decide) rfl (by rw [if_neg (by omega)])
      refine ⟨g2, hd1 ?_, q2, q3⟩
      refine rc_eqF (b := 0) a15d rfl hu0 ?_
      rw [rf_closeList_70]
      exact q1
/-- a tilde -/
theorem ls_tilde (hL : lsr gs x pn False) (hB : t_bd s0 x) (hB2 : t_b2 s0 x) (h0 : ¬ x_dp x = 0) (hpn : ∀ l, x_la x = some l → pn l < 9999) : (t_rep x = none → rf_tilde F gs = some (0, gs)) ∧ (∀ y, t_rep x = some y → ∃ g2 l, x_la x = some l ∧ rf_tilde F gs = some (1, g2) ∧ lc gs g2 ∧ g2.1 16 = nI (pn l) ∧ lsr (sI g2 16 (-1)) y pn False ∧ g2.1 = gs.1) := by
  obtain ⟨h13, h8, hj, hit⟩ := hL
  obtain ⟨d, hd⟩ : ∃ d, x_dp x = d + 1 := ⟨x_dp x - 1, by omega⟩
  rcases hit with ⟨h16, hla⟩ | ⟨l, hla, hrl, h16, h17⟩
  · have hla := hla.resolve_left (fun q => q)
    have hnone : t_rep x = none := by
      unfold t_rep
      cases hq : x_la x with
      | none => rfl
      | some l =>
        show (if x_dp x = 0 then none else if _ then _ else none) = none
        rw [if_neg h0, if_neg]
        intro hall
        have hlz : l < x_z x := by
          obtain ⟨m, _, _, hl, _⟩ := hB2.2.2 (by omega) l hq
          exact hl
        exact hla l hq (all_rp.mp hall l (Nat.le_refl _) hlz)
    refine ⟨fun _ => ?_, fun y hy => by rw [hnone] at hy; cases hy⟩
    rw [rf_tilde]
    exact rc_pT (by rw [h16]; decide) rfl
  · have hpl := hpn l hla
    obtain ⟨m, em, hch, hlz, hlend, hcd⟩ := hB2.2.2 (by omega) l hla
    have hlo := t_ch_ge _ _ _ hch
    rw [hd, Nat.add_sub_cancel] at hlo
    by_cases hrr : hr x l (x_z x)
    · have hnone : t_rep x = none := by
        unfold t_rep
        rw [hla]
        show (if x_dp x = 0 then none else if _ then _ else none) = none
        rw [if_neg h0, if_neg]
        intro hall
        obtain ⟨i, q1, q2, q3⟩ := hrr
        exact q3 (all_rp.mp hall i q1 q2)
      rw [hb_1 hrr] at h17
      refine ⟨fun _ => ?_, fun y hy => by rw [hnone] at hy; cases hy⟩
      rw [rf_tilde]
      refine rc_ltF (b := 0) h16 rfl (Nat.zero_le _) ?_
      exact rc_eqF (b := 0) h17 rfl (by decide) rfl
    · rw [hb_0 hrr] at h17
      have hall : (List.range (x_z x)).all (fun i => decide (i < l) || decide (x_rp x i = 0)) = true := all_rp.mpr (fun i q1 q2 => Classical.byContradiction (fun q => hrr ⟨i, q1, q2, q⟩))
      have hsome : t_rep x = some (x_sg x, x_st x, x_sp x, x_it x, va_up (x_rp x) l 1, x_op x, x_z x, x_dp x, some l) := by
        unfold t_rep
        rw [hla]
        show (if x_dp x = 0 then none else if _ then _ else none) = _
        rw [if_neg h0, if_pos hall]
      refine ⟨fun q => (by rw [hsome] at q; cases q), fun y hy => ?_⟩
      rw [hsome] at hy
      cases hy
      rw [hd] at h13
      refine ⟨sA gs 15 (upd (gs.2 15) (gs.1 13).toNatClampNeg (vp_nar .boolean 1)), l, hla, by rw [rf_tilde]; exact rc_ltF (b := 0) h16 rfl (Nat.zero_le _) (rc_eqE (b := 0) h17 rfl rfl (rc_in h13 (by omega) rfl)), ⟨fun _ _ _ _ => rfl, fun k q1 q2 => sA_n q2⟩, h16, ?_, rfl⟩
      have a15 : (sA gs 15 (upd (gs.2 15) (gs.1 13).toNatClampNeg (vp_nar .boolean 1))).2 15 = upd (gs.2 15) (d + 1) (nI 1) := by
        rw [sA_e, h13, nI_clamp (by omega)]
        rfl
      refine ⟨?_, h8, fun j hj2 => ?_, Or.inl ⟨sI_e _ _ _, Or.inr (fun l' hl' => ?_)⟩⟩
      · show (sI (sA gs 15 (upd (gs.2 15) (gs.1 13).toNatClampNeg (vp_nar .boolean 1))) 16 (-1)).1 13 = nI (x_dp x)
        rw [sI_n (by decide), hd]
        exact h13
      · have hj2 : j < x_dp x := hj2
        obtain ⟨c1, c2⟩ := hj j hj2
        refine ⟨?_, ?_⟩
        · show (sA gs 15 (upd (gs.2 15) (gs.1 13).toNatClampNeg (vp_nar .boolean 1))).2 14 (j + 1) = nI (pn (x_op x j))
          rw [sA_n (by decide)]
          exact c1
        · show (sA gs 15 (upd (gs.2 15) (gs.1 13).toNatClampNeg (vp_nar .boolean 1))).2 15 (j + 1) = nI (hb _ (x_op x j + 1) (t_en x j))
          rw [a15]
          by_cases hq : j = d
          · rw [hq, upd_e, hb_1]
            refine ⟨l, by omega, ?_, ?_⟩
            · unfold t_en
              rw [if_neg (by omega)]
              exact hlz
            · show ¬ va_up (x_rp x) l 1 l = 0
              rw [va_up_self]
              decide
          · rw [upd_n (by omega), c2]
            congr 1
            have hen : t_en x j ≤ x_op x d := by
              unfold t_en
              rw [if_pos (by omega)]
              by_cases hq2 : j + 1 = d
              · rw [hq2]; exact Nat.le_refl _
              · exact Nat.le_of_lt (hB.2.2.1 (j + 1) d (by omega) (by omega))
            refine hb_cg ⟨?_, ?_⟩
            · rintro ⟨i, q1, q2, q3⟩
              refine ⟨i, q1, q2, ?_⟩
              show ¬ va_up (x_rp x) l 1 i = 0
              rw [va_up_ne _ _ (by omega)]
              exact q3
            · rintro ⟨i, q1, q2, q3⟩
              have q3 : ¬ va_up (x_rp x) l 1 i = 0 := q3
              rw [va_up_ne _ _ (by omega)] at q3
              exact ⟨i, q1, q2, q3⟩
      · have hl' : some l = some l' := hl'
        cases hl'
        show ¬ va_up (x_rp x) l 1 l = 0
        rw [va_up_self]
        decide
end LIST
