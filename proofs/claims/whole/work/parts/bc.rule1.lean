/-! The reference's rule: its parts. -/
theorem At_get {f : Nat → Int32} : ∀ (T : List Nat) (p i : Nat), At f p T → i < T.length → f (p + i) = nI (T.getD i 0)
  | [], p, i, _, hi => absurd hi (Nat.not_lt_zero _)
  | t :: T, p, 0, h, _ => h.1
  | t :: T, p, i + 1, h, hi => by
    have := At_get T (p + 1) i h.2 (Nat.lt_of_succ_lt_succ hi)
    rw [show p + (i + 1) = p + 1 + i by omega, this]
    rfl
theorem TL_mk {tk : Nat → Nat} : ∀ (R : List Nat) (p : Nat), (∀ i, i ≤ R.length → tk (p + i) = (R.map o_tk).getD i 0) → TL tk p R
  | [], p, h => h 0 (Nat.le_refl _)
  | c :: R, p, h => ⟨h 0 (Nat.zero_le _), TL_mk R (p + 1) (fun i hi => by
    have := h (i + 1) (Nat.succ_le_succ hi)
    rw [show p + (i + 1) = p + 1 + i by omega] at this
    exact this)⟩
theorem TL_drop {tk : Nat → Nat} : ∀ (A R : List Nat) (p : Nat), TL tk p (A ++ R) → TL tk (p + A.length) R
  | [], R, p, h => h
  | c :: A, R, p, h => by
    have := TL_drop A R (p + 1) h.2
    rw [List.length_cons, show p + (A.length + 1) = p + 1 + A.length by omega]
    exact this
theorem pg_suf : ∀ (R : List Nat) (x : TSt) (w : List Nat × TSt), pg R x = some w → ∃ A, R = A ++ w.1
  | [], x, w, h => by
    unfold pg at h
    split at h
    · cases h; exact ⟨[], rfl⟩
    · cases h
  | c :: R, x, w, h => by
    unfold pg at h
    by_cases h0 : x_dp x = 0
    · rw [if_pos h0] at h
      cases h
      exact ⟨[], rfl⟩
    · rw [if_neg h0] at h
      by_cases hp : pcond c R x
      · rw [if_pos hp] at h
        cases ht : t_take 60 0 8 1 c x with
        | none => rw [ht] at h; cases h
        | some y =>
          rw [ht] at h
          obtain ⟨A, hA⟩ := pg_suf R y w h
          exact ⟨c :: A, by rw [hA]; rfl⟩
      · rw [if_neg hp] at h
        cases h
theorem rl_sgn2 {cap s0 dm kd : Nat} : ∀ (C : List Nat) (x y : TSt), t_rl cap s0 dm kd C x = some y → ∀ c, c ∈ C → c = 41 ∨ c = 126 ∨ c_ok kd c
  | [], _, _, _, c, hc => by cases hc
  | a :: C, x, y, h, c, hc => by
    obtain ⟨w, hw, h⟩ := Option.bind_eq_some_iff.mp h
    rcases List.mem_cons.mp hc with rfl | hc
    · rcases take_cases hw with ⟨q, _⟩ | ⟨q, _⟩ | ⟨_, _, q, _⟩
      · exact Or.inl q
      · exact Or.inr (Or.inl q)
      · exact Or.inr (Or.inr q)
    · exact rl_sgn2 C w y h c hc
theorem ok21 {kd c : Nat} (h : c_ok kd c) (hk : kd = 1 ∨ kd = 2) : c_ok 1 c := by
  rcases h with q | q | q | q | ⟨q, _⟩
  · exact Or.inl q
  · exact Or.inr (Or.inl q)
  · exact Or.inr (Or.inr (Or.inl q))
  · exact Or.inr (Or.inr (Or.inr (Or.inl q)))
  · exact Or.inr (Or.inr (Or.inr (Or.inr ⟨q, rfl⟩)))
/-- a rule's text has no sign that is no token -/
theorem ctx_all {cs : List Nat} {x x2 : TSt} {tm b : Nat} {C C2 : List Nat} {xx x1 : TSt} (h : ctx cs x x2 tm b C C2 xx x1) : ∀ c, c ∈ cs → ¬ o_tk c = 0 := by
  obtain ⟨h1, h2, h3, h4, h5, h6, h7, h8, h9, h10, h11, h12, h13⟩ := h
  have key : ∀ c, c = 41 ∨ c = 126 ∨ c_ok 1 c → ¬ o_tk c = 0 := by
    intro c hc
    rcases hc with q | q | q
    · rw [q]; decide
    · rw [q]; decide
    · have := (otk_any q).1
      omega
  intro c hc
  rw [h1] at hc
  rcases List.mem_cons.mp hc with q | hc
  · rw [q]; decide
  · rcases List.mem_cons.mp hc with q | hc
    · rw [q, otk_nm h2]; omega
    · rcases List.mem_append.mp hc with hc | hc
      · exact key c (rl_sgn2 C xx x1 h4 c hc)
      · rcases List.mem_cons.mp hc with q | hc
        · rw [q]; decide
        · refine key c ?_
          rcases rl_sgn2 C2 (t_beg x1) x2 h11 c hc with q | q | q
          · exact Or.inl q
          · exact Or.inr (Or.inl q)
          · exact Or.inr (Or.inr (ok21 q (Or.inr rfl)))
/-- the bits of a pattern's variables, and their kinds -/
theorem k_bits {x1 : TSt} {kf kg : Nat → Nat} {v w : Int32} (hw : t_wf6 x1) (hb2 : t_b2 0 x1) (h2 : 2 ≤ x_z x1) (hf : fv_go x1 (x_z x1 - 2) 2 0 (fun j => if j < 26 then 0 else kf j) = some kg) (hS : SB v w x1) : ∀ c, c < 26 → (bt1 w c = 1 ↔ kg c = 2) ∧ bt1 (v &&& (w ^^^ (-1))) c = nI (if kg c = 1 then 1 else 0) ∧ bt1 w c = nI (if kg c = 2 then 1 else 0) := by
  have hks := fv_spec (fun i hi => (hw.1 i hi).1) (fun a b q1 q2 q3 q4 => hb2.2.1 a b (Nat.zero_le _) q1 q2 q3 q4) (x_z x1 - 2) 2 0 (fun j => if j < 26 then 0 else kf j) (by omega) (by omega) (fun j hj => ⟨fun q => by omega, fun ⟨a, q1, q2, _⟩ => by omega⟩)
  intro c hc
  obtain ⟨k1, k2⟩ := hks.2 kg hf c
  obtain ⟨s1, s2⟩ := hS c hc
  have hno : (∀ j, 2 ≤ j → j < x_z x1 → c_nm (x_sg x1 j) → ¬ x_sg x1 j - 97 = c) → kg c = 0 := fun q => by
    rw [k2 q]
    exact if_pos hc
  have hw2 : bt1 w c = 1 ↔ kg c = 2 := by
    rw [s2]
    constructor
    · rintro ⟨i, q1, q2, q3, q4⟩
      exact (k1 i q1 q2 (by omega) (by omega)).1 q4
    · intro q
      apply Classical.byContradiction
      intro hn
      by_cases hex : ∃ j, 2 ≤ j ∧ j < x_z x1 ∧ c_nm (x_sg x1 j) ∧ x_sg x1 j - 97 = c
      · obtain ⟨j, z1, z2, z3, z4⟩ := hex
        by_cases hi : inr x1 j
        · exact hn ⟨j, z1, z2, by clear s1 s2 k1 k2 hno hn; omega, hi⟩
        · have := (k1 j z1 z2 z3 z4).2 hi
          rw [this] at q
          cases q
      · have := hno (fun j z1 z2 z3 z4 => hex ⟨j, z1, z2, z3, z4⟩)
        rw [this] at q
        cases q
  have hv : bt1 v c = 1 ↔ ¬ kg c = 0 := by
    rw [s1]
    constructor
    · rintro ⟨i, q1, q2, q3⟩
      have := k1 i q1 q2 (by omega) (by omega)
      by_cases hi : inr x1 i
      · rw [this.1 hi]; decide
      · rw [this.2 hi]; decide
    · intro q
      apply Classical.byContradiction
      intro hn
      apply q
      exact hno (fun j z1 z2 z3 z4 => hn ⟨j, z1, z2, by clear s1 s2 k1 k2 hno hn; omega⟩)
  refine ⟨hw2, ?_, ?_⟩
  · rw [bt_andn (by omega)]
    by_cases h2 : bt1 w c = 1
    · rw [if_pos h2, hw2.mp h2]
      rfl
    · rw [if_neg h2]
      by_cases h1 : kg c = 1
      · rw [if_pos h1, hv.mpr (by rw [h1]; decide)]
        rfl
      · rw [if_neg h1]
        rcases bt_01 (v := v) (c := c) (by omega) with z | z
        · rw [z]; rfl
        · exfalso
          have hk0 := hv.mp z
          have hk2 : ¬ kg c = 2 := fun q => h2 (hw2.mpr q)
          have hlt : kg c = 0 ∨ kg c = 1 ∨ kg c = 2 := by
            by_cases hex : ∃ j, 2 ≤ j ∧ j < x_z x1 ∧ c_nm (x_sg x1 j) ∧ x_sg x1 j - 97 = c
            · obtain ⟨j, z1, z2, z3, z4⟩ := hex
              by_cases hi : inr x1 j
              · exact Or.inr (Or.inr ((k1 j z1 z2 z3 z4).1 hi))
              · exact Or.inr (Or.inl ((k1 j z1 z2 z3 z4).2 hi))
            · exact Or.inl (hno (fun j z1 z2 z3 z4 => hex ⟨j, z1, z2, z3, z4⟩))
          rcases hlt with q | q | q
          · exact hk0 q
          · exact h1 q
          · exact hk2 q
  · by_cases h2 : kg c = 2
    · rw [if_pos h2, hw2.mpr h2]
      rfl
    · rw [if_neg h2]
      rcases bt_01 (v := w) (c := c) (by omega) with z | z
      · rw [z]; rfl
      · exact absurd (hw2.mp z) h2
theorem nI_sb {a b : Nat} (h : b ≤ a) : nI a - nI b = nI (a - b) := by
  have e : nI a = nI (a - b) + nI b := by rw [nI_add]; congr 1; omega
  rw [e, Int32.add_sub_cancel]
/-- the pattern's tokens are stored -/
theorem st8_lp {F n p : Nat} (hn : n < 12) (hp : p ≤ 60) : ∀ (m k d : Nat) (gs : OS), k + m = p → gs.1 5 = nI n → m < d → ∃ g2, rf_rule_105 F d gs (nI p) (nI k) = rf_rule_136 F g2 (nI p) ∧ g2.1 = gs.1 ∧ (∀ j, j ≠ 8 → g2.2 j = gs.2 j) ∧ (∀ i, k ≤ i → i < p → g2.2 8 (64 * n + i) = gs.2 4 i) ∧ ∀ t, t < 64 * n + k → g2.2 8 t = gs.2 8 t
  | 0, k, d, gs, hk, h5, hd => by
    obtain ⟨d, rfl⟩ : ∃ e, d = e + 1 := ⟨d - 1, by omega⟩
    refine ⟨gs, ?_, rfl, fun _ _ => rfl, fun i q1 q2 => by omega, fun _ _ => rfl⟩
    rw [rf_rule_105]
    exact rc_leT rfl rfl (by omega) rfl
  | m + 1, k, d, gs, hk, h5, hd => by
    obtain ⟨d, rfl⟩ : ∃ e, d = e + 1 := ⟨d - 1, by omega⟩
    have ei : (64 : Int32) * gs.1 5 + nI k = nI (64 * n + k) := by rw [h5, mul64]; exact nI_add _ _
    obtain ⟨g2, e, r1, r2, r3, r4⟩ := st8_lp (F := F) hn hp m (k + 1) d (sA gs 8 (upd (gs.2 8) (64 * n + k) (gs.2 4 k))) (by omega) h5 (by omega)
    refine ⟨g2, ?_, r1, fun j hj => (r2 j hj).trans (sA_n hj), fun i q1 q2 => ?_, fun t ht => ?_⟩
    · rw [rf_rule_105]
      refine rc_leF rfl rfl (by omega) ?_
      refine rc_in rfl (by omega) ?_
      refine rc_in ei (by omega) ?_
      rw [ei, nI_clamp (by omega), nI_clamp (by omega), nI_1]
      exact e
    · by_cases hi : i = k
      · rw [hi, r4 _ (by omega), sA_e, upd_e]
      · rw [r3 i (by omega) q2, sA_n (by decide)]
    · rw [r4 t (by omega), sA_e, upd_n (by omega)]
/-- and the template's -/
theorem st10_lp {F n p N : Nat} (hn : n < 12) (hN : N ≤ 60) : ∀ (m k d : Nat) (gs : OS), k + m = N → p + 1 ≤ k → gs.1 5 = nI n → gs.1 3 = nI N → m < d → ∃ g2, rf_rule_157 F d gs (nI p) (nI k) = rf_rule_195 F g2 (nI p) ∧ g2.1 = gs.1 ∧ (∀ j, j ≠ 10 → g2.2 j = gs.2 j) ∧ (∀ i, k ≤ i → i < N → g2.2 10 (64 * n + (i - p - 1)) = gs.2 4 i) ∧ ∀ t, t < 64 * n + (k - p - 1) → g2.2 10 t = gs.2 10 t
  | 0, k, d, gs, hk, hpk, h5, h3, hd => by
    obtain ⟨d, rfl⟩ : ∃ e, d = e + 1 := ⟨d - 1, by omega⟩
    refine ⟨gs, ?_, rfl, fun _ _ => rfl, fun i q1 q2 => by omega, fun _ _ => rfl⟩
    rw [rf_rule_157]
    exact rc_leT h3 rfl (by omega) rfl
  | m + 1, k, d, gs, hk, hpk, h5, h3, hd => by
    obtain ⟨d, rfl⟩ : ∃ e, d = e + 1 := ⟨d - 1, by omega⟩
    have ei : (64 : Int32) * gs.1 5 + nI k - nI p - 1 = nI (64 * n + (k - p - 1)) := by
      rw [h5, mul64, nI_add, nI_sb (by omega)]
      have e1 : 64 * n + k - p = (64 * n + (k - p - 1)) + 1 := by omega
      rw [e1]
      exact nI_pred _
    obtain ⟨g2, e, r1, r2, r3, r4⟩ := st10_lp (F := F) (p := p) hn hN m (k + 1) d (sA gs 10 (upd (gs.2 10) (64 * n + (k - p - 1)) (gs.2 4 k))) (by omega) (by omega) h5 h3 (by omega)
    refine ⟨g2, ?_, r1, fun j hj => (r2 j hj).trans (sA_n hj), fun i q1 q2 => ?_, fun t ht => ?_⟩
    · rw [rf_rule_157]
      refine rc_leF h3 rfl (by omega) ?_
      refine rc_in rfl (by omega) ?_
      refine rc_in ei (by omega) ?_
      rw [ei, nI_clamp (by omega), nI_clamp (by omega), nI_1]
      exact e
    · by_cases hi : i = k
      · rw [hi, r4 _ (by omega), sA_e, upd_e]
      · rw [r3 i (by omega) q2, sA_n (by decide)]
    · rw [r4 t (by omega), sA_e, upd_n (by omega)]
