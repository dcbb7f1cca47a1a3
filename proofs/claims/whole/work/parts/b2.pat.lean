/-! A pattern's text. -/
/-- a node inside a repeated item -/
def inr (x : TSt) (i : Nat) : Prop := ∃ a, 2 ≤ a ∧ a ≤ i ∧ i < a + x_sp x a ∧ ¬ x_rp x a = 0
/-- the pattern's variables, and those that match many -/
def SB (v w : Int32) (x : TSt) : Prop := ∀ c, c < 26 → (bt1 v c = 1 ↔ ∃ i, 2 ≤ i ∧ i < x_z x ∧ x_sg x i = c + 97) ∧ (bt1 w c = 1 ↔ ∃ i, 2 ≤ i ∧ i < x_z x ∧ x_sg x i = c + 97 ∧ inr x i)
/-- what reading a pattern changes -/
def pcg (gs g2 : OS) : Prop := (∀ k, k ≠ 13 → k ≠ 16 → k ≠ 17 → k ≠ 18 → k ≠ 19 → g2.1 k = gs.1 k) ∧ ∀ k, k ≠ 14 → k ≠ 15 → g2.2 k = gs.2 k
theorem pcg.rf {gs : OS} : pcg gs gs := ⟨fun _ _ _ _ _ _ => rfl, fun _ _ _ => rfl⟩
theorem pcg.tr {a b c : OS} (h : pcg a b) (h2 : pcg b c) : pcg a c := ⟨fun k p q r s t => (h2.1 k p q r s t).trans (h.1 k p q r s t), fun k p q => (h2.2 k p q).trans (h.2 k p q)⟩
theorem lc.p {a b : OS} (h : lc a b) : pcg a b := ⟨fun k p q r _ _ => h.1 k p q r, h.2⟩
/-- makeMany -/
theorem mkm_lp {F : Nat} {p : Nat} (hp : p ≤ 60) : ∀ (T : List Nat) (k d : Nat) (gs : OS), At (gs.2 4) k T → (∀ t, t ∈ T → t < 126) → k + T.length = p → T.length < d → ∃ g2, rf_makeMany_2 F d gs (nI p) (nI k) = some (0, g2) ∧ (∀ j, j ≠ 19 → g2.1 j = gs.1 j) ∧ g2.2 = gs.2 ∧ ∀ c, c < 26 → (bt1 (g2.1 19) c = 1 ↔ bt1 (gs.1 19) c = 1 ∨ c + 100 ∈ T)
  | [], k, d, gs, _, _, hl, hd => by
    obtain ⟨d, rfl⟩ : ∃ e, d = e + 1 := ⟨d - 1, by have : 0 < d := hd; omega⟩
    have hl : k + 0 = p := hl
    refine ⟨gs, ?_, fun _ _ => rfl, rfl, fun c hc => ⟨fun h => Or.inl h, fun h => h.resolve_right (fun q => by cases q)⟩⟩
    rw [rf_makeMany_2]
    exact rc_leT rfl rfl (by omega) rfl
  | t :: T, k, d, gs, ha, ht, hl, hd => by
    rw [List.length_cons] at hl hd
    obtain ⟨d, rfl⟩ : ∃ e, d = e + 1 := ⟨d - 1, by omega⟩
    have ht1 := ht t List.mem_cons_self
    have ht2 : ∀ t', t' ∈ T → t' < 126 := fun t h => ht t (List.mem_cons_of_mem _ h)
    have hat : gs.2 4 (nI k).toNatClampNeg = nI t := cl_at ha.1
    by_cases h1 : 100 ≤ t
    · have hlo := letter_ok (F := F) (gs := gs) hat h1
      have hmod : (t - 100) % 32 = t - 100 := by omega
      rw [hmod] at hlo
      obtain ⟨g2, e, r1, r2, r3⟩ := mkm_lp (F := F) hp T (k + 1) d (sI gs 19 (gs.1 19 ||| ((1 : Int32) <<< (nI (t - 100) &&& 31)))) ha.2 ht2 (by omega) (by omega)
      refine ⟨g2, ?_, fun j hj => (r1 j hj).trans (sI_n hj), r2, fun c hc => ?_⟩
      · rw [rf_makeMany_2]
        refine rc_leF rfl rfl (by omega) ?_
        refine rc_in rfl (by omega) ?_
        refine rc_bd (isName_y hat h1) ?_
        refine rc_eqF (a := 1) (b := 0) rfl rfl (by decide) ?_
        refine rc_in rfl (by omega) ?_
        refine rc_bd hlo ?_
        rw [rf_makeMany_39, nI_1]
        exact e
      · rw [r3 c hc, sI_e, bt_or (by omega) (by omega)]
        by_cases hct : c = t - 100
        · rw [if_pos hct]
          refine ⟨fun _ => Or.inr ?_, fun _ => Or.inl rfl⟩
          rw [show c + 100 = t by omega]
          exact List.mem_cons_self
        · rw [if_neg hct]
          constructor
          · rintro (h | h)
            · exact Or.inl h
            · exact Or.inr (List.mem_cons_of_mem _ h)
          · rintro (h | h)
            · exact Or.inl h
            · rcases List.mem_cons.mp h with h | h
              · omega
              · exact Or.inr h
    · obtain ⟨g2, e, r1, r2, r3⟩ := mkm_lp (F := F) hp T (k + 1) d gs ha.2 ht2 (by omega) (by omega)
      refine ⟨g2, ?_, r1, r2, fun c hc => ?_⟩
      · rw [rf_makeMany_2]
        refine rc_leF rfl rfl (by omega) ?_
        refine rc_in rfl (by omega) ?_
        refine rc_bd (isName_n hat (by omega)) ?_
        refine rc_eqE (a := 0) (b := 0) rfl rfl rfl ?_
        rw [rf_makeMany_39, nI_1]
        exact e
      · rw [r3 c hc]
        constructor
        · rintro (h | h)
          · exact Or.inl h
          · exact Or.inr (List.mem_cons_of_mem _ h)
        · rintro (h | h)
          · exact Or.inl h
          · rcases List.mem_cons.mp h with h | h
            · omega
            · exact Or.inr h
/-- tokens from a to b as a list -/
theorem At_seg {f : Nat → Int32} {tk : Nat → Nat} : ∀ (n a : Nat), (∀ i, a ≤ i → i < a + n → f i = nI (tk i)) → At f a ((List.range' a n).map tk)
  | 0, _, _ => trivial
  | n + 1, a, h => by
    rw [List.range'_succ, List.map_cons]
    exact ⟨h a (Nat.le_refl _) (by omega), At_seg n (a + 1) (fun i p q => h i (by omega) (by omega))⟩
theorem seg_mem {tk : Nat → Nat} {a n v : Nat} : v ∈ (List.range' a n).map tk ↔ ∃ i, a ≤ i ∧ i < a + n ∧ tk i = v := by
  rw [List.mem_map]
  constructor
  · rintro ⟨i, h1, h2⟩
    have := List.mem_range'_1.mp h1
    exact ⟨i, this.1, this.2, h2⟩
  · rintro ⟨i, h1, h2, h3⟩
    exact ⟨i, List.mem_range'_1.mpr ⟨h1, h2⟩, h3⟩
/-- when one more sign may follow, as the reference looks at it -/
def pcond (c : Nat) (R : List Nat) (x : TSt) : Prop := (c = 126 → R.head? = some 41 ∧ ¬ x_z x = 2) ∧ (c_nm c → ∀ i, 2 ≤ i → i < x_z x → ¬ x_sg x i = c)
/-- the state while a pattern is read -/
def PS (gs : OS) (tk : Nat → Nat) (N : Nat) (x : TSt) (pn : Nat → Nat) (p : Nat) : Prop :=
  lsr gs x pn (x_z x = 2) ∧ PN tk 0 0 x pn p ∧ SB (gs.1 18) (gs.1 19) x ∧ t_bd 0 x ∧ t_b2 0 x ∧ t_li x ∧ 2 ≤ x_z x ∧ (∀ i, i ≤ N → gs.2 4 i = nI (tk i)) ∧ gs.1 3 = nI N ∧ (x_z x = 2 → 1 ≤ x_dp x → gs.1 16 = -1) ∧ c_nm (x_sg x 1) ∧ x_sg x 0 = 40
theorem inr_lt {x : TSt} (hB : t_bd 0 x) (hB2 : t_b2 0 x) {a : Nat} (ha : a < x_z x) (hr : ¬ x_rp x a = 0) : a + x_sp x a ≤ x_z x := (hB.1 a ha (hB2.1 a (Nat.zero_le _) ha hr).1).2.2.1
/-- one sign more, be it a leaf or a list -/
theorem SB_add {v w : Int32} {cap c k : Nat} {x y : TSt} (h : SB v w x) (hB : t_bd 0 x) (hB2 : t_b2 0 x) (h2 : 2 ≤ x_z x) (hy : t_add cap 0 8 c k x = some y) (hr : ∀ i, x_z x ≤ i → x_rp x i = 0 ∨ True) : ¬ c_nm c → SB v w y := by
  intro hn e he
  obtain ⟨a1, a2, _⟩ := t_add_z hy
  have a3 : x_sp y = va_up (x_sp x) (x_z x) 1 ∧ x_rp y = va_up (x_rp x) (x_z x) 0 := by
    unfold t_add at hy
    split at hy
    · cases hy; exact ⟨rfl, rfl⟩
    · cases hy
  obtain ⟨b1, b2⟩ := h e he
  refine ⟨?_, ?_⟩
  · rw [b1]
    constructor
    · rintro ⟨i, q1, q2, q3⟩
      exact ⟨i, q1, by omega, by rw [a1, va_up_ne _ _ (by omega)]; exact q3⟩
    · rintro ⟨i, q1, q2, q3⟩
      rw [a1] at q3
      by_cases hi : i = x_z x
      · rw [hi, va_up_self] at q3
        exact absurd ⟨by omega, by omega⟩ hn
      · rw [va_up_ne _ _ hi] at q3
        exact ⟨i, q1, by omega, q3⟩
  · rw [b2]
    constructor
    · rintro ⟨i, q1, q2, q3, a, z1, z2, z3, z4⟩
      refine ⟨i, q1, by omega, by rw [a1, va_up_ne _ _ (by omega)]; exact q3, a, z1, z2, ?_, ?_⟩
      · rw [a3.1, va_up_ne _ _ (by omega)]; exact z3
      · rw [a3.2, va_up_ne _ _ (by omega)]; exact z4
    · rintro ⟨i, q1, q2, q3, a, z1, z2, z3, z4⟩
      rw [a3.2] at z4
      have haz : a ≠ x_z x := fun q => z4 (by rw [q, va_up_self])
      rw [va_up_ne _ _ haz] at z4
      rw [a3.1, va_up_ne _ _ haz] at z3
      have := inr_lt hB hB2 (a := a) (by omega) z4
      rw [a1, va_up_ne _ _ (by omega)] at q3
      exact ⟨i, q1, by omega, q3, a, z1, z2, z3, z4⟩
theorem SB_name {v w : Int32} {cap c k : Nat} {x y : TSt} (h : SB v w x) (hB : t_bd 0 x) (hB2 : t_b2 0 x) (h2 : 2 ≤ x_z x) (hy : t_add cap 0 8 c k x = some y) (hn : c_nm c) (hd : ∀ i, 2 ≤ i → i < x_z x → ¬ x_sg x i = c) : SB (v ||| ((1 : Int32) <<< (nI (c - 97) &&& 31))) w y := by
  intro e he
  obtain ⟨a1, a2, _⟩ := t_add_z hy
  have a3 : x_sp y = va_up (x_sp x) (x_z x) 1 ∧ x_rp y = va_up (x_rp x) (x_z x) 0 := by
    unfold t_add at hy
    split at hy
    · cases hy; exact ⟨rfl, rfl⟩
    · cases hy
  obtain ⟨b1, b2⟩ := h e he
  refine ⟨?_, ?_⟩
  · rw [bt_or (by omega) (by omega)]
    by_cases hec : e = c - 97
    · rw [if_pos hec]
      refine ⟨fun _ => ⟨x_z x, h2, by omega, by rw [a1, va_up_self]; omega⟩, fun _ => rfl⟩
    · rw [if_neg hec, b1]
      constructor
      · rintro ⟨i, q1, q2, q3⟩
        exact ⟨i, q1, by omega, by rw [a1, va_up_ne _ _ (by omega)]; exact q3⟩
      · rintro ⟨i, q1, q2, q3⟩
        rw [a1] at q3
        by_cases hi : i = x_z x
        · rw [hi, va_up_self] at q3
          omega
        · rw [va_up_ne _ _ hi] at q3
          exact ⟨i, q1, by omega, q3⟩
  · rw [b2]
    constructor
    · rintro ⟨i, q1, q2, q3, a, z1, z2, z3, z4⟩
      refine ⟨i, q1, by omega, by rw [a1, va_up_ne _ _ (by omega)]; exact q3, a, z1, z2, ?_, ?_⟩
      · rw [a3.1, va_up_ne _ _ (by omega)]; exact z3
      · rw [a3.2, va_up_ne _ _ (by omega)]; exact z4
    · rintro ⟨i, q1, q2, q3, a, z1, z2, z3, z4⟩
      rw [a3.2] at z4
      have haz : a ≠ x_z x := fun q => z4 (by rw [q, va_up_self])
      rw [va_up_ne _ _ haz] at z4
      rw [a3.1, va_up_ne _ _ haz] at z3
      have := inr_lt hB hB2 (a := a) (by omega) z4
      rw [a1, va_up_ne _ _ (by omega)] at q3
      exact ⟨i, q1, by omega, q3, a, z1, z2, z3, z4⟩
theorem SB_close {v w : Int32} {x y : TSt} (h : SB v w x) (hB : t_bd 0 x) (hB2 : t_b2 0 x) (h0 : ¬ x_dp x = 0) (hy : t_close x = some y) : SB v w y := by
  have hy' : y = (x_sg x, x_st x, va_up (x_sp x) (x_op x (x_dp x - 1)) (x_z x - x_op x (x_dp x - 1)), x_it x, x_rp x, x_op x, x_z x, x_dp x - 1, some (x_op x (x_dp x - 1))) := by
    unfold t_close at hy
    rw [if_neg h0] at hy
    exact (Option.some.inj hy).symm
  have hop := hB.2.1 (x_dp x - 1) (by omega)
  have hrp : ∀ a, a < x_z x → ¬ x_rp x a = 0 → a ≠ x_op x (x_dp x - 1) := fun a h1 h2 q => (hB2.1 a (Nat.zero_le _) h1 h2).1 (x_dp x - 1) (by omega) q.symm
  subst hy'
  intro e he
  obtain ⟨b1, b2⟩ := h e he
  refine ⟨b1, ?_⟩
  rw [b2]
  constructor
  · rintro ⟨i, q1, q2, q3, a, z1, z2, z3, z4⟩
    refine ⟨i, q1, q2, q3, a, z1, z2, ?_, z4⟩
    show i < a + va_up (x_sp x) (x_op x (x_dp x - 1)) (x_z x - x_op x (x_dp x - 1)) a
    rw [va_up_ne _ _ (hrp a (by omega) z4)]
    exact z3
  · rintro ⟨i, q1, q2, q3, a, z1, z2, z3, z4⟩
    have q2 : i < x_z x := q2
    have z4 : ¬ x_rp x a = 0 := z4
    have z3 : i < a + va_up (x_sp x) (x_op x (x_dp x - 1)) (x_z x - x_op x (x_dp x - 1)) a := z3
    rw [va_up_ne _ _ (hrp a (by omega) z4)] at z3
    exact ⟨i, q1, q2, q3, a, z1, z2, z3, z4⟩
