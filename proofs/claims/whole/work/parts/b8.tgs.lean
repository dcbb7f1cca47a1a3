/-! A template by the class's reading and by the reference's. -/
theorem cl_keep {cap s0 dm kd c i : Nat} {x y : TSt} (hi : i < x_z x) (hc : t_cd x i) (h : t_take cap s0 dm kd c x = some y) : x_sp y i = x_sp x i ∧ t_cd y i ∧ (¬ x_rp x i = 0 → ¬ x_rp y i = 0) := by
  rcases take_cases h with ⟨_, h⟩ | ⟨_, h⟩ | ⟨_, _, _, h⟩
  · obtain ⟨b1, b2, b3, b4, b5, b6, b7⟩ := close_z h
    refine ⟨b7 i (fun q => hc (x_dp x - 1) (by omega) q.symm), fun j hj => ?_, by rw [b4]; exact id⟩
    rw [b5]
    exact hc j (by omega)
  · obtain ⟨l, b1, b2, b3, b4, b5, b6, b7, b8, b9, b10⟩ := rep_z h
    refine ⟨by rw [b9], fun j hj => ?_, fun q => ?_⟩
    · rw [b7]
      exact hc j (by omega)
    · rw [b6]
      by_cases hq : i = l
      · rw [hq, va_up_self]; decide
      · rw [va_up_ne _ _ hq]; exact q
  · obtain ⟨b1, b2, b3, b4, b5, b6, b7, b8⟩ := add_f h
    refine ⟨by rw [b4, va_up_ne _ _ (by omega)], fun j hj => ?_, by rw [b3, va_up_ne _ _ (by omega)]; exact id⟩
    rw [b6]
    rw [b5] at hj
    by_cases h40 : c = 40
    · rw [if_pos h40] at hj ⊢
      by_cases hq : j = x_dp x
      · rw [hq, va_up_self]; omega
      · rw [va_up_ne _ _ hq]
        exact hc j (by omega)
    · rw [if_neg h40] at hj ⊢
      exact hc j hj
theorem rl_keep {cap s0 dm kd : Nat} : ∀ (C : List Nat) (x y : TSt) (i : Nat), i < x_z x → t_cd x i → t_rl cap s0 dm kd C x = some y → x_sp y i = x_sp x i ∧ t_cd y i ∧ (¬ x_rp x i = 0 → ¬ x_rp y i = 0)
  | [], x, y, i, hi, hc, h => by cases h; exact ⟨rfl, hc, id⟩
  | c :: C, x, y, i, hi, hc, h => by
    obtain ⟨w, hw, h⟩ := Option.bind_eq_some_iff.mp h
    obtain ⟨a1, a2, a3⟩ := cl_keep hi hc hw
    have hz := (t_take_sg hi hw).2
    obtain ⟨b1, b2, b3⟩ := rl_keep C w y i (by omega) a2 h
    exact ⟨b1.trans a1, b2, fun q => b3 (a3 q)⟩
theorem rl_bd {cap s0 kd : Nat} : ∀ (C : List Nat) (x y : TSt), t_bd s0 x → t_b2 s0 x → t_li x → t_rl cap s0 8 kd C x = some y → t_bd s0 y ∧ t_b2 s0 y ∧ t_li y ∧ t_ag s0 x y
  | [], x, y, h1, h2, h3, h => by cases h; exact ⟨h1, h2, h3, t_ag.rf⟩
  | c :: C, x, y, h1, h2, h3, h => by
    obtain ⟨w, hw, h⟩ := Option.bind_eq_some_iff.mp h
    obtain ⟨a1, a2, a3, a4⟩ := rl_bd C w y (t_bd_take h1 hw) (t_b2_take h1 h2 hw) (t_li_take h1 h3 hw) h
    exact ⟨a1, a2, a3, (t_ag_take h1 h2 hw).tr a4⟩
/-- each repeated node from s0 on holds a MANY -/
def rph (kg : Nat → Nat) (s0 : Nat) (x : TSt) : Prop := ∀ i, s0 ≤ i → i < x_z x → ¬ x_rp x i = 0 → r_hold x kg i
theorem take_nil {cap s0 kd c : Nat} {x y : TSt} (h0 : x_dp x = 0) (hz : x_z x = s0) (hl : x_la x = none) (h : t_take cap s0 8 kd c x = some y) : ¬ c = 126 ∧ x_z y = x_z x + 1 := by
  rcases take_cases h with ⟨_, h⟩ | ⟨_, h⟩ | ⟨_, h2, _, h⟩
  · obtain ⟨_, _, b3, _⟩ := close_z h
    omega
  · obtain ⟨l, b1, _⟩ := rep_z h
    rw [hl] at b1
    cases b1
  · exact ⟨h2, (add_f h).1⟩
theorem take_sd {cap s0 kd c : Nat} {x y : TSt} (hb : t_bd s0 x) (h1 : 1 ≤ x_dp x) (h : t_take cap s0 8 kd c x = some y) : s0 < x_z y := by
  have h2 := hb.2.1 0 (by omega)
  have hz := (t_take_sg h2.2.1 h).2
  omega
theorem tg_of {kg : Nat → Nat} {s0 : Nat} {y : TSt} (h0 : x_dp y = 0) (hy : s0 < x_z y) (hr : rph kg s0 y) : ∀ (C : List Nat) (x : TSt), t_rl 60 s0 8 2 C x = some y → t_bd s0 x → t_b2 s0 x → t_li x → (1 ≤ x_dp x ∨ (x_dp x = 0 ∧ x_z x = s0 ∧ x_la x = none)) → tg kg s0 C x = some y
  | [], x, h, hb, hb2, hl, hs => by
    cases h
    rcases hs with hs | ⟨_, hs, _⟩ <;> omega
  | c :: C, x, h, hb, hb2, hl, hs => by
    obtain ⟨w, hw, h⟩ := Option.bind_eq_some_iff.mp h
    have hbw := t_bd_take hb hw
    have hb2w := t_b2_take hb hb2 hw
    have hlw := t_li_take hb hl hw
    have hsw : s0 < x_z w := by
      rcases hs with hs | ⟨q1, q2, q3⟩
      · exact take_sd hb hs hw
      · have := (take_nil q1 q2 q3 hw).2
        omega
    have htc : tcond kg c x := by
      intro hc l hla
      have hdp : 0 < x_dp x := by
        rcases hs with hs | ⟨q1, q2, q3⟩
        · exact hs
        · rw [q3] at hla; cases hla
      obtain ⟨m, _, _, m1, m2, m3⟩ := hb2.2.2 hdp l hla
      rcases take_cases hw with ⟨q, _⟩ | ⟨_, hrep⟩ | ⟨_, q, _⟩
      · omega
      · obtain ⟨l', b1, b2, b3, b4, b5, b6, b7, b8, b9, b10⟩ := rep_z hrep
        rw [hla] at b1
        cases b1
        have hcw := (cl_keep m1 m3 hw)
        obtain ⟨k1, k2, k3⟩ := rl_keep C w y l (by omega) hcw.2.1 h
        have hsl : s0 ≤ l := by
          have q2 := (hb.2.1 (x_dp x - 1) (by omega)).1
          obtain ⟨m, _, mm, _⟩ := hb2.2.2 hdp l hla
          have := t_ch_ge _ _ _ mm
          omega
        have hzy := (rl_sg C w y l (by omega) h).2
        obtain ⟨j, j1, j2, j3⟩ := hr l hsl (by omega) (k3 (by rw [b6, va_up_self]; decide))
        rw [k1, hcw.1] at j2
        refine ⟨j, j1, by omega, ?_⟩
        have s1 := (rl_sg C w y j (by omega) h).1
        rw [b3] at s1
        rw [← s1]
        exact j3
      · exact absurd hc q
    rw [tg, if_pos htc, hw]
    by_cases hd : x_dp w = 0
    · obtain ⟨e1, e2⟩ := rl_end hd hsw h
      show (if x_dp w = 0 then (if C = [] then some w else none) else tg kg s0 C w) = some y
      rw [if_pos hd, if_pos e1, e2]
    · show (if x_dp w = 0 then (if C = [] then some w else none) else tg kg s0 C w) = some y
      rw [if_neg hd]
      exact tg_of h0 hy hr C w h hbw hb2w hlw (Or.inl (by omega))
theorem rph_take {kg : Nat → Nat} {s0 c : Nat} {x y : TSt} (hb : t_bd s0 x) (hb2 : t_b2 s0 x) (hdp : 0 < x_dp x ∨ x_la x = none) (hc : tcond kg c x) (hr : rph kg s0 x) (h : t_take 60 s0 8 2 c x = some y) : rph kg s0 y := by
  intro i q1 q2 q3
  have old : i < x_z x → ¬ x_rp x i = 0 → r_hold y kg i := fun z1 z2 => by
    obtain ⟨j, j1, j2, j3⟩ := hr i q1 z1 z2
    have hcd := (hb2.1 i q1 z1 z2).1
    obtain ⟨k1, _⟩ := cl_keep z1 hcd h
    have hj : j < x_z x := by
      have := (hb.1 i z1 hcd).2.2.1
      omega
    refine ⟨j, j1, by rw [k1]; exact j2, ?_⟩
    rw [(t_take_sg hj h).1]
    exact j3
  rcases take_cases h with ⟨_, h'⟩ | ⟨h1, h'⟩ | ⟨_, _, _, h'⟩
  · obtain ⟨b1, b2, b3, b4, b5, b6, b7⟩ := close_z h'
    rw [b4] at q3
    exact old (by omega) q3
  · obtain ⟨l, b1, b2, b3, b4, b5, b6, b7, b8, b9, b10⟩ := rep_z h'
    rw [b6] at q3
    by_cases hq : i = l
    · obtain ⟨j, j1, j2, j3⟩ := hc h1 l b1
      rcases hdp with hdp | hdp
      · obtain ⟨m, _, _, m1, m2, m3⟩ := hb2.2.2 hdp l b1
        refine ⟨j, by omega, by rw [b9, hq]; omega, by rw [b3]; exact j3⟩
      · rw [hdp] at b1; cases b1
    · rw [va_up_ne _ _ hq] at q3
      exact old (by omega) q3
  · obtain ⟨b1, b2, b3, b4, b5, b6, b7, b8⟩ := add_f h'
    rw [b3] at q3
    by_cases hq : i = x_z x
    · rw [hq, va_up_self] at q3
      exact absurd rfl q3
    · rw [va_up_ne _ _ hq] at q3
      exact old (by omega) q3
theorem tg_back {kg : Nat → Nat} {s0 : Nat} {y : TSt} : ∀ (C : List Nat) (x : TSt), tg kg s0 C x = some y → t_bd s0 x → t_b2 s0 x → t_li x → (1 ≤ x_dp x ∨ (x_dp x = 0 ∧ x_z x = s0 ∧ x_la x = none)) → rph kg s0 x → t_rl 60 s0 8 2 C x = some y ∧ x_dp y = 0 ∧ s0 < x_z y ∧ rph kg s0 y
  | [], x, h, _, _, _, _, _ => by cases h
  | c :: C, x, h, hb, hb2, hl, hs, hr => by
    by_cases htc : tcond kg c x
    · rw [tg, if_pos htc] at h
      cases hw : t_take 60 s0 8 2 c x with
      | none => rw [hw] at h; cases h
      | some w =>
        rw [hw] at h
        have h : (if x_dp w = 0 then (if C = [] then some w else none) else tg kg s0 C w) = some y := h
        have hbw := t_bd_take hb hw
        have hb2w := t_b2_take hb hb2 hw
        have hlw := t_li_take hb hl hw
        have hrw := rph_take hb hb2 (by rcases hs with hs | ⟨_, _, hs⟩
                                        · exact Or.inl hs
                                        · exact Or.inr hs) htc hr hw
        have hsw : s0 < x_z w := by
          rcases hs with hs | ⟨q1, q2, q3⟩
          · exact take_sd hb hs hw
          · have := (take_nil q1 q2 q3 hw).2
            omega
        have el : t_rl 60 s0 8 2 (c :: C) x = t_rl 60 s0 8 2 C w := by
          show (t_take 60 s0 8 2 c x).bind _ = _
          rw [hw]
          rfl
        rw [el]
        by_cases hd : x_dp w = 0
        · rw [if_pos hd] at h
          by_cases hC : C = []
          · rw [if_pos hC] at h
            cases h
            rw [hC]
            exact ⟨rfl, hd, hsw, hrw⟩
          · rw [if_neg hC] at h
            cases h
        · rw [if_neg hd] at h
          exact tg_back C w h hbw hb2w hlw (Or.inl (by omega)) hrw
    · rw [tg, if_neg htc] at h
      cases h
/-- what repeatsManys asks -/
theorem rm_spec {x : TSt} {kg : Nat → Nat} {tm : Nat} (hsp : ∀ i, i < x_z x → 1 ≤ x_sp x i) (hnn : ∀ a b, tm ≤ a → a < b → b < x_z x → ¬ x_rp x a = 0 → ¬ x_rp x b = 0 → a + x_sp x a ≤ b) : ∀ (k i u : Nat), i + k = x_z x → tm ≤ i → (∀ j, i ≤ j → (j < u ↔ ∃ a, tm ≤ a ∧ a < i ∧ ¬ x_rp x a = 0 ∧ j < a + x_sp x a)) →
    (rm_go x kg k i u ↔ (∀ j, i ≤ j → j < x_z x → ¬ x_rp x j = 0 → r_hold x kg j) ∧ ∀ j, i ≤ j → j < x_z x → k_many kg (x_sg x j) → inT x tm j)
  | 0, i, u, hk, h2, hu => ⟨fun _ => ⟨fun j q1 q2 => by omega, fun j q1 q2 => by omega⟩, fun _ => trivial⟩
  | k + 1, i, u, hk, h2, hu => by
    have hi : i < x_z x := by omega
    have hu' : ∀ j, i + 1 ≤ j → (j < (if x_rp x i = 0 then u else i + x_sp x i) ↔ ∃ a, tm ≤ a ∧ a < i + 1 ∧ ¬ x_rp x a = 0 ∧ j < a + x_sp x a) := by
      intro j hj
      by_cases hr : x_rp x i = 0
      · rw [if_pos hr, hu j (by omega)]
        constructor
        · rintro ⟨a, q1, q2, q3, q4⟩
          exact ⟨a, q1, by omega, q3, q4⟩
        · rintro ⟨a, q1, q2, q3, q4⟩
          have : a ≠ i := fun q => q3 (by rw [q]; exact hr)
          exact ⟨a, q1, by omega, q3, q4⟩
      · rw [if_neg hr]
        constructor
        · intro q
          exact ⟨i, h2, by omega, hr, q⟩
        · rintro ⟨a, q1, q2, q3, q4⟩
          by_cases ha : a = i
          · rw [← ha]; exact q4
          · have := hnn a i q1 (by omega) hi q3 hr
            omega
    have hin : i < (if x_rp x i = 0 then u else i + x_sp x i) ↔ inT x tm i := by
      unfold inT
      by_cases hr : x_rp x i = 0
      · rw [if_pos hr, hu i (Nat.le_refl _)]
        constructor
        · rintro ⟨a, q1, q2, q3, q4⟩
          exact ⟨a, q1, by omega, q4, q3⟩
        · rintro ⟨a, q1, q2, q3, q4⟩
          have : a ≠ i := fun q => q4 (by rw [q]; exact hr)
          exact ⟨a, q1, by omega, q4, q3⟩
      · rw [if_neg hr]
        have := hsp i hi
        exact ⟨fun _ => ⟨i, h2, Nat.le_refl _, by omega, hr⟩, fun _ => by omega⟩
    generalize hU : (if x_rp x i = 0 then u else i + x_sp x i) = u' at hu' hin
    have ih := rm_spec (kg := kg) hsp hnn k (i + 1) u' (by omega) (by omega) hu'
    have erm : rm_go x kg (k + 1) i u = ((x_rp x i = 0 ∨ r_hold x kg i) ∧ (k_many kg (x_sg x i) → i < u') ∧ rm_go x kg k (i + 1) u') := by
      rw [rm_go, hU]
    rw [erm, ih, hin]
    constructor
    · rintro ⟨q1, q2, q3, q4⟩
      refine ⟨fun j z1 z2 z3 => ?_, fun j z1 z2 z3 => ?_⟩
      · by_cases hj : j = i
        · rw [hj] at z3 ⊢
          exact q1.resolve_left z3
        · exact q3 j (by omega) z2 z3
      · by_cases hj : j = i
        · rw [hj] at z3 ⊢
          exact q2 z3
        · exact q4 j (by omega) z2 z3
    · rintro ⟨q1, q2⟩
      refine ⟨?_, fun z => q2 i (Nat.le_refl _) hi z, fun j z1 z2 z3 => q1 j (by omega) z2 z3, fun j z1 z2 z3 => q2 j (by omega) z2 z3⟩
      by_cases hr : x_rp x i = 0
      · exact Or.inl hr
      · exact Or.inr (q1 i (Nat.le_refl _) hi hr)
