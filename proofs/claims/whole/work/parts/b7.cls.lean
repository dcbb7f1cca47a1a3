/-! The class's reading of a rule, sign by sign. -/
def til2 (rest : List Nat) : List Nat → Prop
  | [] => True
  | c :: C => (c = 126 → (C ++ rest).head? = some 41) ∧ til2 rest C
/-- no name is there twice -/
def dsn (x : TSt) : Prop := ∀ i j, 2 ≤ i → i < j → j < x_z x → c_nm (x_sg x i) → ¬ x_sg x i = x_sg x j
theorem rl_sg {cap s0 dm kd : Nat} : ∀ (C : List Nat) (x y : TSt) (i : Nat), i < x_z x → t_rl cap s0 dm kd C x = some y → x_sg y i = x_sg x i ∧ x_z x ≤ x_z y
  | [], x, y, i, hi, h => by cases h; exact ⟨rfl, Nat.le_refl _⟩
  | c :: C, x, y, i, hi, h => by
    obtain ⟨w, hw, h⟩ := Option.bind_eq_some_iff.mp h
    have h1 := t_take_sg hi hw
    have h2 := rl_sg C w y i (by omega) h
    exact ⟨h2.1.trans h1.1, by omega⟩
theorem take_cases {cap s0 dm kd c : Nat} {x y : TSt} (h : t_take cap s0 dm kd c x = some y) : (c = 41 ∧ t_close x = some y) ∨ (c = 126 ∧ t_rep x = some y) ∨ (¬ c = 41 ∧ ¬ c = 126 ∧ c_ok kd c ∧ t_add cap s0 dm c 0 x = some y) := by
  unfold t_take at h
  by_cases h1 : c = 41
  · rw [if_pos h1] at h
    exact Or.inl ⟨h1, h⟩
  · rw [if_neg h1] at h
    by_cases h2 : c = 126
    · rw [if_pos h2] at h
      split at h
      · cases h
      · exact Or.inr (Or.inl ⟨h2, h⟩)
    · rw [if_neg h2] at h
      split at h
      · exact Or.inr (Or.inr ⟨h1, h2, by assumption, h⟩)
      · cases h
theorem close_z {x y : TSt} (h : t_close x = some y) : x_z y = x_z x ∧ x_sg y = x_sg x ∧ x_dp y + 1 = x_dp x ∧ x_rp y = x_rp x ∧ x_op y = x_op x ∧ x_la y = some (x_op x (x_dp x - 1)) ∧ ∀ i, i ≠ x_op x (x_dp x - 1) → x_sp y i = x_sp x i := by
  unfold t_close at h
  split at h
  · cases h
  · cases h
    refine ⟨rfl, rfl, ?_, rfl, rfl, rfl, fun i hi => va_up_ne _ _ hi⟩
    show x_dp x - 1 + 1 = x_dp x
    omega
theorem rep_z {x y : TSt} (h : t_rep x = some y) : ∃ l, x_la x = some l ∧ x_z y = x_z x ∧ x_sg y = x_sg x ∧ x_dp y = x_dp x ∧ ¬ x_dp x = 0 ∧ x_rp y = va_up (x_rp x) l 1 ∧ x_op y = x_op x ∧ x_la y = some l ∧ x_sp y = x_sp x ∧ x_it y = x_it x := by
  unfold t_rep at h
  split at h
  · cases h
  · rename_i l hl
    split at h
    · cases h
    · split at h
      · cases h
        exact ⟨l, hl, rfl, rfl, rfl, by assumption, rfl, rfl, rfl, rfl, rfl⟩
      · cases h
theorem add_f {cap s0 dm c k : Nat} {x y : TSt} (h : t_add cap s0 dm c k x = some y) : x_z y = x_z x + 1 ∧ x_sg y = va_up (x_sg x) (x_z x) c ∧ x_rp y = va_up (x_rp x) (x_z x) 0 ∧ x_sp y = va_up (x_sp x) (x_z x) 1 ∧ x_dp y = (if c = 40 then x_dp x + 1 else x_dp x) ∧ x_op y = (if c = 40 then va_up (x_op x) (x_dp x) (x_z x) else x_op x) ∧ x_la y = (if c = 40 then none else some (x_z x)) ∧ t_can cap c (x_z x) s0 (x_dp x) dm := by
  unfold t_add at h
  split at h
  · cases h
    exact ⟨rfl, rfl, rfl, rfl, rfl, rfl, rfl, by assumption⟩
  · cases h
/-- a pattern that the class reads is read by the reference's steps -/
theorem pg_of {rest : List Nat} {x1 : TSt} (h0 : x_dp x1 = 0) (hds : dsn x1) (hr : ∃ c r, rest = c :: r) : ∀ (C : List Nat) (x : TSt), t_rl 60 0 8 1 C x = some x1 → 0 < x_z x → til2 rest C → 2 ≤ x_z x → (x_z x = 2 → x_dp x ≤ 1) → (x_z x = 2 → ¬ C.head? = some 126) → pg (C ++ rest) x = some (rest, x1)
  | [], x, h, _, _, _, _, _ => by
    cases h
    obtain ⟨c, r, rfl⟩ := hr
    show pg (c :: r) x1 = _
    rw [pg, if_pos h0]
  | c :: C, x, h, hz, ht, h2, hd1, hf => by
    have hdp : ¬ x_dp x = 0 := fun q => by
      have := (rl_end (s0 := 0) q hz h).1
      cases this
    obtain ⟨y, hy, h'⟩ := Option.bind_eq_some_iff.mp h
    have hpc : pcond c (C ++ rest) x := by
      refine ⟨fun q => ⟨ht.1 q, fun q2 => hf q2 (by rw [q]; rfl)⟩, fun q i q1 q2 q3 => ?_⟩
      rcases take_cases hy with ⟨h1, _⟩ | ⟨h1, _⟩ | ⟨_, _, _, h1⟩
      · omega
      · omega
      · obtain ⟨a1, a2, _⟩ := add_f h1
        have s1 := (rl_sg C y x1 i (by omega) h').1
        have s2 := rl_sg C y x1 (x_z x) (by omega) h'
        rw [a2, va_up_ne _ _ (by omega)] at s1
        rw [a2, va_up_self] at s2
        refine hds i (x_z x) q1 q2 (by omega) (by rw [s1, q3]; exact q) ?_
        rw [s1, q3, s2.1]
    show pg (c :: (C ++ rest)) x = _
    rw [pg, if_neg hdp, if_pos hpc, hy]
    have hzy := (t_take_sg (i := 0) hz hy).2
    rcases take_cases hy with ⟨h1, hc⟩ | ⟨h1, hc⟩ | ⟨_, _, _, hc⟩
    · obtain ⟨b1, b2, b3, _⟩ := close_z hc
      refine pg_of h0 hds hr C y h' (by omega) ht.2 (by omega) (fun q => by have := hd1 (by omega); omega) (fun q => ?_)
      have := hd1 (by omega)
      have hC := (rl_end (s0 := 0) (show x_dp y = 0 by omega) (by omega) h').1
      rw [hC]
      intro q9; cases q9
    · obtain ⟨l, b1, b2, b3, b4, _⟩ := rep_z hc
      refine pg_of h0 hds hr C y h' (by omega) ht.2 (by omega) (fun q => by rw [b4]; exact hd1 (by omega)) (fun q => ?_)
      exact absurd (by rw [h1]; rfl) (hf (by omega))
    · obtain ⟨a1, _⟩ := add_f hc
      exact pg_of h0 hds hr C y h' (by omega) ht.2 (by omega) (fun q => by omega) (fun q => by omega)
/-- and the other way round -/
theorem pg_back {C2 : List Nat} {x1 : TSt} : ∀ (R : List Nat) (x : TSt), pg R x = some (61 :: C2, x1) → dsn x → 2 ≤ x_z x → ∃ C, R = C ++ 61 :: C2 ∧ t_rl 60 0 8 1 C x = some x1 ∧ x_dp x1 = 0 ∧ til2 (61 :: C2) C ∧ dsn x1 ∧ (∀ c, c ∈ C → ¬ c = 61) ∧ (x_z x = 2 → ¬ C.head? = some 126)
  | [], x, h, _, _ => by
    unfold pg at h
    split at h
    · cases h
    · cases h
  | c :: R, x, h, hds, h2 => by
    unfold pg at h
    by_cases h0 : x_dp x = 0
    · rw [if_pos h0] at h
      cases h
      exact ⟨[], rfl, rfl, h0, trivial, hds, fun c hc => (by cases hc), fun _ q => (by cases q)⟩
    · rw [if_neg h0] at h
      by_cases hp : pcond c R x
      · rw [if_pos hp] at h
        cases hy : t_take 60 0 8 1 c x with
        | none => rw [hy] at h; cases h
        | some y =>
          rw [hy] at h
          have hzy := (t_take_sg (i := 0) (by omega) hy).2
          have hdsy : dsn y := by
            rcases take_cases hy with ⟨_, hc⟩ | ⟨_, hc⟩ | ⟨_, _, _, hc⟩
            · obtain ⟨b1, b2, _⟩ := close_z hc
              intro i j q1 q2 q3
              rw [b2]
              exact hds i j q1 q2 (by omega)
            · obtain ⟨l, _, b2, b3, _⟩ := rep_z hc
              intro i j q1 q2 q3
              rw [b3]
              exact hds i j q1 q2 (by omega)
            · obtain ⟨a1, a2, _⟩ := add_f hc
              intro i j q1 q2 q3 q4
              rw [a2, va_up_ne _ _ (by omega)] at q4 ⊢
              by_cases hj : j = x_z x
              · rw [hj, va_up_self]
                intro q
                rw [q] at q4
                exact hp.2 q4 i q1 (by omega) q
              · rw [va_up_ne _ _ hj]
                exact hds i j q1 q2 (by omega) q4
          obtain ⟨C, e1, e2, e3, e4, e5, e6, e7⟩ := pg_back R y h hdsy (by omega)
          refine ⟨c :: C, by rw [e1]; rfl, ?_, e3, ⟨fun q => ?_, e4⟩, e5, fun c' hc' => ?_, fun q q9 => ?_⟩
          · show (t_take 60 0 8 1 c x).bind _ = _
            rw [hy]
            exact e2
          · rw [← e1]
            exact (hp.1 q).1
          · rcases List.mem_cons.mp hc' with rfl | hc'
            · intro q
              rcases take_cases hy with ⟨h1, _⟩ | ⟨h1, _⟩ | ⟨_, _, h1, _⟩
              · omega
              · omega
              · rcases h1 with h1 | h1 | h1 | h1 | h1
                · omega
                · omega
                · omega
                · rcases h1 with h1 | h1 | h1 <;> omega
                · omega
            · exact e6 c' hc'
          · exact (hp.1 (Option.some.inj q9)).2 q
      · rw [if_neg hp] at h
        cases h
/-- the kinds of a pattern's variables -/
theorem fv_spec {x : TSt} (hsp : ∀ i, i < x_z x → 1 ≤ x_sp x i) (hnn : ∀ a b, a < b → b < x_z x → ¬ x_rp x a = 0 → ¬ x_rp x b = 0 → a + x_sp x a ≤ b) : ∀ (k i u : Nat) (kf : Nat → Nat), i + k = x_z x → 2 ≤ i → (∀ j, i ≤ j → (j < u ↔ ∃ a, 2 ≤ a ∧ a < i ∧ ¬ x_rp x a = 0 ∧ j < a + x_sp x a)) →
    ((∃ kg, fv_go x k i u kf = some kg) ↔ ∀ j, i ≤ j → j < x_z x → c_nm (x_sg x j) → kf (x_sg x j - 97) = 0 ∧ ∀ j', i ≤ j' → j' < j → ¬ x_sg x j' = x_sg x j) ∧
    ∀ kg, fv_go x k i u kf = some kg → ∀ c, (∀ j, i ≤ j → j < x_z x → c_nm (x_sg x j) → x_sg x j - 97 = c → (inr x j → kg c = 2) ∧ (¬ inr x j → kg c = 1)) ∧ ((∀ j, i ≤ j → j < x_z x → c_nm (x_sg x j) → ¬ x_sg x j - 97 = c) → kg c = kf c)
  | 0, i, u, kf, hk, h2, hu => by
    refine ⟨⟨fun _ j q1 q2 => by omega, fun _ => ⟨kf, rfl⟩⟩, fun kg h c => ?_⟩
    cases h
    exact ⟨fun j q1 q2 => by omega, fun _ => rfl⟩
  | k + 1, i, u, kf, hk, h2, hu => by
    have hi : i < x_z x := by omega
    have hu' : ∀ j, i + 1 ≤ j → (j < (if x_rp x i = 0 then u else i + x_sp x i) ↔ ∃ a, 2 ≤ a ∧ a < i + 1 ∧ ¬ x_rp x a = 0 ∧ j < a + x_sp x a) := by
      intro j hj
      by_cases hr : x_rp x i = 0
      · rw [if_pos hr, hu j (by omega)]
        constructor
        · rintro ⟨a, q1, q2, q3, q4⟩
          exact ⟨a, q1, by omega, q3, q4⟩
        · rintro ⟨a, q1, q2, q3, q4⟩
          have : a ≠ i := fun q => q3 (by rw [q]; exact hr)
          exact ⟨a, q1, by omega, q3, q4⟩
      · rw [if_neg hr]
        constructor
        · intro q
          exact ⟨i, h2, by omega, hr, q⟩
        · rintro ⟨a, q1, q2, q3, q4⟩
          by_cases ha : a = i
          · rw [← ha]; exact q4
          · have := hnn a i (by omega) hi q3 hr
            omega
    have hin : i < (if x_rp x i = 0 then u else i + x_sp x i) ↔ inr x i := by
      unfold inr
      by_cases hr : x_rp x i = 0
      · rw [if_pos hr, hu i (Nat.le_refl _)]
        constructor
        · rintro ⟨a, q1, q2, q3, q4⟩
          exact ⟨a, q1, by omega, q4, q3⟩
        · rintro ⟨a, q1, q2, q3, q4⟩
          have : a ≠ i := fun q => q4 (by rw [q]; exact hr)
          exact ⟨a, q1, by omega, q4, q3⟩
      · rw [if_neg hr]
        have := hsp i hi
        exact ⟨fun _ => ⟨i, h2, Nat.le_refl _, by omega, hr⟩, fun _ => by omega⟩
    generalize hU : (if x_rp x i = 0 then u else i + x_sp x i) = u' at hu' hin
    have efv : fv_go x (k + 1) i u kf = if k_var kf (x_sg x i) then none else fv_go x k (i + 1) u' (if c_nm (x_sg x i) then va_up kf (x_sg x i - 97) (if i < u' then 2 else 1) else kf) := by
      rw [fv_go, hU]
    rw [efv]
    by_cases hv : k_var kf (x_sg x i)
    · rw [if_pos hv]
      refine ⟨⟨fun ⟨kg, h⟩ => (by cases h), fun h => absurd (h i (Nat.le_refl _) hi hv.1).1 hv.2⟩, fun kg h => by cases h⟩
    · rw [if_neg hv]
      by_cases hn : c_nm (x_sg x i)
      · rw [if_pos hn]
        have hk0 : kf (x_sg x i - 97) = 0 := Classical.byContradiction (fun q => hv ⟨hn, q⟩)
        have ih := fv_spec hsp hnn k (i + 1) u' (va_up kf (x_sg x i - 97) (if i < u' then 2 else 1)) (by omega) (by omega) hu'
        refine ⟨?_, fun kg h c => ?_⟩
        · rw [ih.1]
          constructor
          · intro h j q1 q2 q3
            by_cases hj : j = i
            · rw [hj]
              exact ⟨hk0, fun j' z1 z2 => by omega⟩
            · obtain ⟨w1, w2⟩ := h j (by omega) q2 q3
              have hne : ¬ x_sg x j - 97 = x_sg x i - 97 := fun q => by
                rw [q, va_up_self] at w1
                split at w1 <;> cases w1
              rw [va_up_ne _ _ hne] at w1
              refine ⟨w1, fun j' z1 z2 => ?_⟩
              by_cases hj' : j' = i
              · rw [hj']
                intro q
                exact hne (by rw [q])
              · exact w2 j' (by omega) z2
          · intro h j q1 q2 q3
            obtain ⟨w1, w2⟩ := h j (by omega) q2 q3
            have hne : ¬ x_sg x j - 97 = x_sg x i - 97 := fun q => w2 i (Nat.le_refl _) (by omega) (by omega)
            rw [va_up_ne _ _ hne]
            exact ⟨w1, fun j' z1 z2 => w2 j' (by omega) z2⟩
        · have hd := (ih.1.mp ⟨kg, h⟩)
          obtain ⟨w1, w2⟩ := ih.2 kg h c
          refine ⟨fun j q1 q2 q3 q4 => ?_, fun hno => ?_⟩
          · by_cases hj : j = i
            · subst hj
              have hkc : kg c = va_up kf (x_sg x j - 97) (if j < u' then 2 else 1) c := w2 (fun j' z1 z2 z3 z4 => by
                have := (hd j' z1 z2 z3).1
                rw [z4, ← q4, va_up_self] at this
                split at this <;> cases this)
              rw [← q4, va_up_self, q4] at hkc
              exact ⟨fun hq => by rw [hkc, if_pos (hin.mpr hq)], fun hq => by rw [hkc, if_neg (fun z => hq (hin.mp z))]⟩
            · exact w1 j (by omega) q2 q3 q4
          · rw [w2 (fun j z1 z2 z3 => hno j (by omega) z2 z3), va_up_ne _ _ (fun q => hno i (Nat.le_refl _) hi hn q.symm)]
      · rw [if_neg hn]
        have ih := fv_spec hsp hnn k (i + 1) u' kf (by omega) (by omega) hu'
        refine ⟨?_, fun kg h c => ?_⟩
        · rw [ih.1]
          constructor
          · intro h j q1 q2 q3
            by_cases hj : j = i
            · rw [hj] at q3
              exact absurd q3 hn
            · obtain ⟨w1, w2⟩ := h j (by omega) q2 q3
              refine ⟨w1, fun j' z1 z2 => ?_⟩
              by_cases hj' : j' = i
              · rw [hj']
                intro q
                rw [← q] at q3
                exact hn q3
              · exact w2 j' (by omega) z2
          · intro h j q1 q2 q3
            obtain ⟨w1, w2⟩ := h j (by omega) q2 q3
            exact ⟨w1, fun j' z1 z2 => w2 j' (by omega) z2⟩
        · obtain ⟨w1, w2⟩ := ih.2 kg h c
          refine ⟨fun j q1 q2 q3 q4 => ?_, fun hno => w2 (fun j z1 z2 z3 => hno j (by omega) z2 z3)⟩
          by_cases hj : j = i
          · rw [hj] at q3
            exact absurd q3 hn
          · exact w1 j (by omega) q2 q3 q4
