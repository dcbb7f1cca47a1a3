/-! Matching: what was found before it begins doesn't matter; what is found are nodes; a SINGLE is found. -/
def m_eqv (q r : MSt) : Prop := (∀ v, v < 26 → q.1 v = r.1 v) ∧ ∀ v k, v < 26 → k < q.1 v → q.2 v k = r.2 v k
def m_eqo : Option MSt → Option MSt → Prop
  | none, none => True
  | some q, some r => m_eqv q r
  | none, some _ => False
  | some _, none => False
theorem m_bd_eqv {v t0 : Nat} {q r : MSt} (hv : v < 26) (h : m_eqv q r) : m_eqo (m_bd v t0 q) (m_bd v t0 r) := by
  unfold m_bd
  rw [← h.1 v hv]
  split
  · refine ⟨fun w hw => ?_, fun w k hw hk => ?_⟩
    · show va_up q.1 v (q.1 v + 1) w = va_up r.1 v (q.1 v + 1) w
      by_cases e : w = v
      · rw [e, va_up_self, va_up_self]
      · rw [va_up_ne _ _ e, va_up_ne _ _ e]; exact h.1 w hw
    · have hk : k < va_up q.1 v (q.1 v + 1) w := hk
      show m_put q.2 v (q.1 v) t0 w k = m_put r.2 v (q.1 v) t0 w k
      by_cases e : w = v
      · subst e
        rw [va_up_self] at hk
        rw [m_put_self, m_put_self]
        by_cases e2 : k = q.1 w
        · rw [e2, va_up_self, va_up_self]
        · rw [va_up_ne _ _ e2, va_up_ne _ _ e2]; exact h.2 w k hw (by omega)
      · rw [va_up_ne _ _ e] at hk
        rw [m_put_ne _ e, m_put_ne _ e]; exact h.2 w k hw hk
  · trivial
theorem m_lp_eqv {x y : TSt} {g : Nat → Nat → MSt → Option MSt} {fs : Nat} (hg : ∀ wt it q r, m_eqv q r → m_eqo (g wt it q) (g wt it r)) : ∀ (n k wt lf it : Nat) (q r : MSt), m_eqv q r → m_eqo (m_lp x y g fs n k wt lf it q) (m_lp x y g fs n k wt lf it r)
  | 0, k, wt, lf, it, q, r, h => by
    unfold m_lp
    split
    · exact h
    · trivial
  | n + 1, k, wt, lf, it, q, r, h => by
    unfold m_lp
    split
    · trivial
    · have h1 : m_eqo (if fs ≤ k then g wt it q else some q) (if fs ≤ k then g wt it r else some r) := by
        split
        · exact hg wt it q r h
        · exact h
      revert h1
      cases (if fs ≤ k then g wt it q else some q) with
      | none => cases (if fs ≤ k then g wt it r else some r) with
        | none => exact fun h1 => h1
        | some b => exact fun h1 => h1.elim
      | some a => cases (if fs ≤ k then g wt it r else some r) with
        | none => exact fun h1 => h1.elim
        | some b =>
          intro h1
          show m_eqo (if x_rp x wt = 0 then _ else _) (if x_rp x wt = 0 then _ else _)
          split
          · exact m_lp_eqv hg n _ _ _ _ a b h1
          · exact m_lp_eqv hg n _ _ _ _ a b h1
theorem m_ft_eqv {x y : TSt} : ∀ (d wt t0 : Nat) (q r : MSt), m_eqv q r → m_eqo (m_ft x y d wt t0 q) (m_ft x y d wt t0 r)
  | 0, _, _, q, r, h => trivial
  | d + 1, wt, t0, q, r, h => by
    unfold m_ft
    split
    · exact h
    · split
      · rename_i hn
        exact m_bd_eqv (by omega) h
      · split
        · split
          · exact m_lp_eqv (m_ft_eqv d) _ _ _ _ _ q r h
          · exact h
        · trivial
theorem m_fi_eqv {x y : TSt} (d li te fs : Nat) {q r : MSt} (h : m_eqv q r) : m_eqo (m_fi x y d li te fs q) (m_fi x y d li te fs r) := m_lp_eqv (m_ft_eqv d) _ _ _ _ _ q r h
/-- all that was found are nodes below Z -/
def m_in (Z : Nat) (q : MSt) : Prop := ∀ v k, v < 26 → k < q.1 v → q.2 v k < Z
theorem m_bd_in {Z v t0 : Nat} {q r : MSt} (ht : t0 < Z) (hq : m_in Z q) (h : m_bd v t0 q = some r) : m_in Z r := by
  unfold m_bd at h
  split at h
  · obtain rfl := Option.some.inj h
    intro w k hw hk
    have hk : k < va_up q.1 v (q.1 v + 1) w := hk
    show m_put q.2 v (q.1 v) t0 w k < Z
    by_cases e : w = v
    · subst e
      rw [va_up_self] at hk
      rw [m_put_self]
      by_cases e2 : k = q.1 w
      · rw [e2, va_up_self]; exact ht
      · rw [va_up_ne _ _ e2]; exact hq w k hw (by omega)
    · rw [va_up_ne _ _ e] at hk
      rw [m_put_ne _ e]; exact hq w k hw hk
  · cases h
theorem m_lp_in {x y : TSt} {g : Nat → Nat → MSt → Option MSt} {fs Z : Nat} (hg : ∀ wt it q r, it < Z → m_in Z q → g wt it q = some r → m_in Z r) : ∀ (n k wt lf it b : Nat) (q r : MSt), t_ch y n it b → b ≤ Z → m_in Z q → m_lp x y g fs n k wt lf it q = some r → m_in Z r
  | 0, k, wt, lf, it, b, q, r, _, _, hq, h => by
    unfold m_lp at h
    split at h
    · cases h; exact hq
    · cases h
  | n + 1, k, wt, lf, it, b, q, r, hc, hb, hq, h => by
    unfold m_lp at h
    split at h
    · cases h
    · split at h
      · cases h
      · rename_i q1 hq1
        have hit : it < b := hc.1
        have h1 : m_in Z q1 := by
          split at hq1
          · exact hg wt it q q1 (by omega) hq hq1
          · cases hq1; exact hq
        split at h
        · exact m_lp_in hg n _ _ _ _ b q1 r hc.2 hb h1 h
        · exact m_lp_in hg n _ _ _ _ b q1 r hc.2 hb h1 h
theorem m_ft_in {x y : TSt} (hw : t_wf y) : ∀ (d wt t0 : Nat) (q r : MSt), t0 < x_z y → m_in (x_z y) q → m_ft x y d wt t0 q = some r → m_in (x_z y) r
  | 0, _, _, q, r, _, _, h => by cases h
  | d + 1, wt, t0, q, r, ht, hq, h => by
    unfold m_ft at h
    split at h
    · cases h; exact hq
    · split at h
      · exact m_bd_in ht hq h
      · split at h
        · split at h
          · have h1 := hw t0 ht
            exact m_lp_in (m_ft_in hw d) _ _ _ _ _ _ q r h1.2.2 h1.2.1 hq h
          · cases h; exact hq
        · cases h
theorem m_fi_in {x y : TSt} (hw : t_wf y) {d li te fs : Nat} {q r : MSt} (ht : te < x_z y) (hq : m_in (x_z y) q) (h : m_fi x y d li te fs q = some r) : m_in (x_z y) r :=
  m_lp_in (m_ft_in hw d) _ _ _ _ _ _ q r (hw te ht).2.2 (hw te ht).2.1 hq h
/-- what was found stays found -/
def m_ge (q r : MSt) : Prop := ∀ v, q.1 v ≤ r.1 v
theorem m_bd_ge {v t0 : Nat} {q r : MSt} (h : m_bd v t0 q = some r) : m_ge q r ∧ 0 < r.1 v := by
  unfold m_bd at h
  split at h
  · obtain rfl := Option.some.inj h
    refine ⟨fun w => ?_, ?_⟩
    · show q.1 w ≤ va_up q.1 v (q.1 v + 1) w
      by_cases e : w = v
      · rw [e, va_up_self]; omega
      · rw [va_up_ne _ _ e]; exact Nat.le_refl _
    · show 0 < va_up q.1 v (q.1 v + 1) v
      rw [va_up_self]; omega
  · cases h
theorem m_lp_ge {x y : TSt} {g : Nat → Nat → MSt → Option MSt} {fs : Nat} (hg : ∀ wt it q r, g wt it q = some r → m_ge q r) : ∀ (n k wt lf it : Nat) (q r : MSt), m_lp x y g fs n k wt lf it q = some r → m_ge q r
  | 0, k, wt, lf, it, q, r, h => by
    unfold m_lp at h
    split at h
    · cases h; exact fun _ => Nat.le_refl _
    · cases h
  | n + 1, k, wt, lf, it, q, r, h => by
    unfold m_lp at h
    split at h
    · cases h
    · split at h
      · cases h
      · rename_i q1 hq1
        have h1 : m_ge q q1 := by
          split at hq1
          · exact hg wt it q q1 hq1
          · cases hq1; exact fun _ => Nat.le_refl _
        split at h
        · exact fun v => Nat.le_trans (h1 v) (m_lp_ge hg n _ _ _ _ q1 r h v)
        · exact fun v => Nat.le_trans (h1 v) (m_lp_ge hg n _ _ _ _ q1 r h v)
theorem m_ft_ge {x y : TSt} : ∀ (d wt t0 : Nat) (q r : MSt), m_ft x y d wt t0 q = some r → m_ge q r
  | 0, _, _, q, r, h => by cases h
  | d + 1, wt, t0, q, r, h => by
    unfold m_ft at h
    split at h
    · cases h; exact fun _ => Nat.le_refl _
    · split at h
      · exact (m_bd_ge h).1
      · split at h
        · split at h
          · exact m_lp_ge (m_ft_ge d) _ _ _ _ _ q r h
          · cases h; exact fun _ => Nat.le_refl _
        · cases h
/-- a node that no list is has itself alone -/
def t_lf (x : TSt) : Prop := ∀ i, i < x_z x → ¬ x_sg x i = 40 → x_sp x i = 1 ∧ x_it x i = 0
theorem m_lp_hit {x y : TSt} (hw : t_wf x) {g : Nat → Nat → MSt → Option MSt} {fs i0 v : Nat} (hge : ∀ wt it q r, g wt it q = some r → m_ge q r)
    (hg : ∀ wt it q r, wt ≤ i0 → i0 < wt + x_sp x wt → wt < x_z x → (∀ a, wt < a → a ≤ i0 → i0 < a + x_sp x a → x_rp x a = 0) → g wt it q = some r → 0 < r.1 v) :
    ∀ (n k wt lf it b : Nat) (q r : MSt), fs ≤ k → b ≤ x_z x → t_ch x lf wt b → wt ≤ i0 → i0 < b → (∀ a, wt ≤ a → a ≤ i0 → i0 < a + x_sp x a → x_rp x a = 0) → m_lp x y g fs n k wt lf it q = some r → 0 < r.1 v
  | 0, k, wt, lf, it, b, q, r, hk, hb, hc, h1, h2, hu, h => by
    unfold m_lp at h
    split at h
    · rename_i ho
      rcases ho with ho | ⟨ho, ho2⟩
      · subst ho
        have hc : wt = b := hc
        omega
      · subst ho
        have hc2 : wt + x_sp x wt = b := hc.2
        exact absurd (hu wt (Nat.le_refl _) h1 (by omega)) ho2
    · cases h
  | n + 1, k, wt, lf, it, b, q, r, hk, hb, hc, h1, h2, hu, h => by
    unfold m_lp at h
    split at h
    · cases h
    · rename_i hlf
      first | rw [if_pos hk] at h | skip
      split at h
      · cases h
      · rename_i q1 hq1
        obtain ⟨l9, rfl⟩ : ∃ l9, lf = l9 + 1 := ⟨lf - 1, by omega⟩
        have hwb : wt < b := hc.1
        split at h
        · rcases Nat.lt_or_ge i0 (wt + x_sp x wt) with h3 | h3
          · have h4 := hg wt it q q1 h1 h3 (by omega) (fun a a1 a2 a3 => hu a (by omega) a2 a3) hq1
            have h5 := m_lp_ge hge n _ _ _ _ q1 r h v
            omega
          · exact m_lp_hit hw hge hg n (k + 1) (wt + x_sp x wt) l9 _ b q1 r (by omega) hb hc.2 h3 h2 (fun a a1 a2 a3 => hu a (by omega) a2 a3) h
        · exact m_lp_hit hw hge hg n (k + 1) wt (l9 + 1) _ b q1 r (by omega) hb hc h1 h2 hu h
theorem m_ft_hit {x y : TSt} (hw : t_wf x) (hl : t_lf x) {i0 : Nat} (hn : c_nm (x_sg x i0)) : ∀ (d wt t0 : Nat) (q r : MSt), wt ≤ i0 → i0 < wt + x_sp x wt → wt < x_z x → (∀ a, wt < a → a ≤ i0 → i0 < a + x_sp x a → x_rp x a = 0) → m_ft x y d wt t0 q = some r → 0 < r.1 (x_sg x i0 - 97)
  | 0, _, _, q, r, _, _, _, _, h => by cases h
  | d + 1, wt, t0, q, r, h1, h2, h3, hu, h => by
    unfold m_ft at h
    have hsame : ¬ x_sg x wt = 40 → wt = i0 := fun q => by
      have := (hl wt h3 q).1
      omega
    split at h
    · rename_i h4
      have h5 := hsame (by omega)
      rw [← h5] at hn
      omega
    · split at h
      · rename_i h4
        have h5 := hsame (by omega)
        rw [← h5]
        exact (m_bd_ge h).2
      · rename_i h4
        split at h
        · split at h
          · rename_i h5
            have h6 := hw wt h3
            have h7 : wt ≠ i0 := fun e => h4 (by rw [e]; exact hn)
            exact m_lp_hit hw (m_ft_ge d) (m_ft_hit hw hl hn d) _ _ _ _ _ _ q r (Nat.zero_le _) h6.2.1 h6.2.2 (by omega) h2 (fun a a1 a2 a3 => hu a (by omega) a2 a3) h
          · rename_i h5
            have h6 := hsame h5
            rw [h6] at h4
            exact absurd hn h4
        · cases h
/-- the kinds of a pattern's variables: a SINGLE stands outside of all that is repeated -/
theorem fv_one {x : TSt} (hs : ∀ i, i < x_z x → 1 ≤ x_sp x i) (hnn : ∀ a b, a < b → b < x_z x → ¬ x_rp x a = 0 → ¬ x_rp x b = 0 → a + x_sp x a ≤ b) {v : Nat} : ∀ (k i u : Nat) (kf kg : Nat → Nat), i + k ≤ x_z x → (∀ a, a < i → 2 ≤ a → ¬ x_rp x a = 0 → a + x_sp x a ≤ u) → 2 ≤ i → fv_go x k i u kf = some kg → kg v = 1 → kf v = 1 ∨ ∃ i0, i ≤ i0 ∧ i0 < i + k ∧ c_nm (x_sg x i0) ∧ x_sg x i0 - 97 = v ∧ ∀ a, 2 ≤ a → a ≤ i0 → i0 < a + x_sp x a → x_rp x a = 0
  | 0, i, u, kf, kg, hz, hu, h2, h, hv => by
    cases h
    exact Or.inl hv
  | k + 1, i, u, kf, kg, hz, hu, h2, h, hv => by
    unfold fv_go at h
    split at h
    · cases h
    · rename_i hnv
      have hu2 : ∀ a, a < i + 1 → 2 ≤ a → ¬ x_rp x a = 0 → a + x_sp x a ≤ (if x_rp x i = 0 then u else i + x_sp x i) := fun a a1 a2 a3 => by
        split
        · rename_i h9
          rcases Nat.lt_succ_iff_lt_or_eq.mp a1 with h8 | h8
          · exact hu a h8 a2 a3
          · rw [h8] at a3; exact absurd h9 a3
        · rename_i h9
          rcases Nat.lt_succ_iff_lt_or_eq.mp a1 with h8 | h8
          · have := hnn a i h8 (by omega) a3 h9
            omega
          · rw [h8]; exact Nat.le_refl _
      rcases fv_one hs hnn k (i + 1) _ _ kg (by omega) hu2 (by omega) h hv with h3 | ⟨i0, a1, a2, a3, a4, a5⟩
      · by_cases hn : c_nm (x_sg x i)
        · rw [if_pos hn] at h3
          by_cases e : v = x_sg x i - 97
          · rw [e, va_up_self] at h3
            by_cases h4 : i < (if x_rp x i = 0 then u else i + x_sp x i)
            · rw [if_pos h4] at h3; cases h3
            · refine Or.inr ⟨i, Nat.le_refl _, by omega, hn, e.symm, fun a b1 b2 b3 => ?_⟩
              have h5 : x_rp x i = 0 := by
                by_cases h6 : x_rp x i = 0
                · exact h6
                · rw [if_neg h6] at h4
                  have := hs i (by omega)
                  omega
              rw [if_pos h5] at h4
              by_cases h6 : x_rp x a = 0
              · exact h6
              · rcases Nat.eq_or_lt_of_le b2 with h7 | h7
                · rw [h7] at h6; exact absurd h5 h6
                · have := hu a h7 b1 h6
                  omega
          · rw [va_up_ne _ _ e] at h3
            exact Or.inl h3
        · rw [if_neg hn] at h3
          exact Or.inl h3
      · exact Or.inr ⟨i0, by omega, by omega, a3, a4, a5⟩
