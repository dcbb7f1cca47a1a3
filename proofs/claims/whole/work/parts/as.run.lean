/-! A template's tokens, added to the row of terms and put by the reference. -/
theorem tkm_is1 {c k : Nat} : tkm (some (c, k)) = 1 ↔ c = 40 := by
  unfold tkm
  simp only
  constructor
  · intro h
    by_cases h1 : c = 40
    · exact h1
    · rw [if_neg h1] at h
      by_cases h2 : c = 76
      · rw [if_pos h2] at h; cases h
      · rw [if_neg h2] at h
        by_cases h3 : c = 73
        · rw [if_pos h3] at h; cases h
        · rw [if_neg h3] at h
          by_cases h4 : c = 81
          · rw [if_pos h4] at h; cases h
          · rw [if_neg h4] at h
            by_cases h5 : c_nu c
            · rw [if_pos h5] at h; omega
            · rw [if_neg h5] at h
              by_cases h6 : c_nm c
              · rw [if_pos h6] at h; omega
              · rw [if_neg h6] at h; cases h
  · intro h
    rw [if_pos h]
theorem tkm_n2 {c k : Nat} : ¬ tkm (some (c, k)) = 2 := by
  unfold tkm
  simp only
  intro h
  by_cases h1 : c = 40
  · rw [if_pos h1] at h; cases h
  · rw [if_neg h1] at h
    by_cases h2 : c = 76
    · rw [if_pos h2] at h; cases h
    · rw [if_neg h2] at h
      by_cases h3 : c = 73
      · rw [if_pos h3] at h; cases h
      · rw [if_neg h3] at h
        by_cases h4 : c = 81
        · rw [if_pos h4] at h; cases h
        · rw [if_neg h4] at h
          by_cases h5 : c_nu c
          · rw [if_pos h5] at h; omega
          · rw [if_neg h5] at h
            by_cases h6 : c_nm c
            · rw [if_pos h6] at h; omega
            · rw [if_neg h6] at h; cases h
/-- a row while a term is added, and what the reference has put -/
def REL (s0 : Nat) (y : TSt) (s : ES) : Prop := s.2.2.2.2 = 0 ∧ s.2.1 + s0 = x_z y ∧ s.2.2.1 = x_dp y ∧ s.2.2.2.1 ≤ 12 ∧ s.2.1 ≤ 60
theorem run_1 {cap s0 c k : Nat} {y : TSt} {s : ES} (hc : s0 + 60 ≤ cap) (h : REL s0 y s) (hw : ¬ (x_dp y = 0 ∧ s0 < x_z y)) : (¬ (em1 (tkm (some (c, k))) s).2.2.2.2 = 0 → t_add cap s0 12 c k y = none) ∧ ((em1 (tkm (some (c, k))) s).2.2.2.2 = 0 → ∃ y2, t_add cap s0 12 c k y = some y2 ∧ REL s0 y2 (em1 (tkm (some (c, k))) s)) := by
  obtain ⟨l, nd, ls, dp, gr⟩ := s
  obtain ⟨h1, h2, h3, h4, h5⟩ := h
  have h2 : nd + s0 = x_z y := h2
  have h3 : ls = x_dp y := h3
  have h4 : dp ≤ 12 := h4
  have n2 := tkm_n2 (c := c) (k := k)
  have is1 := tkm_is1 (c := c) (k := k)
  generalize tkm (some (c, k)) = t at n2 is1
  have e1 : em_nd t nd = nd + 1 := if_neg n2
  have key : (60 < em_nd t nd ∨ 12 < em_dp t ls dp) ↔ ¬ t_can cap c (x_z y) s0 (x_dp y) 12 := by
    rw [e1]
    unfold em_dp
    by_cases ht : t = 1
    · have hc40 := is1.mp ht
      rw [if_pos ht]
      constructor
      · rintro (g | g) ⟨a, b, c', d⟩
        · omega
        · by_cases hq : dp < ls + 1
          · rw [if_pos hq] at g
            exact b ⟨hc40, by omega⟩
          · rw [if_neg hq] at g
            omega
      · intro g
        by_cases hn : 60 < nd + 1
        · exact Or.inl hn
        · right
          by_cases hq : 12 ≤ ls
          · rw [if_pos (by omega)]
            omega
          · exact absurd ⟨hw, fun q => by omega, by omega, by omega⟩ g
    · have hc40 : ¬ c = 40 := fun q => ht (is1.mpr q)
      rw [if_neg ht]
      constructor
      · rintro (g | g) ⟨a, b, c', d⟩
        · omega
        · omega
      · intro g
        by_cases hn : 60 < nd + 1
        · exact Or.inl hn
        · exact absurd ⟨hw, fun q => hc40 q.1, by omega, by omega⟩ g
  unfold em1
  by_cases hg : 60 < em_nd t nd ∨ 12 < em_dp t ls dp
  · rw [if_pos hg]
    refine ⟨fun _ => ?_, fun q => by cases q⟩
    unfold t_add
    rw [if_neg (key.mp hg)]
  · rw [if_neg hg]
    refine ⟨fun q => absurd rfl q, fun _ => ?_⟩
    have hcan : t_can cap c (x_z y) s0 (x_dp y) 12 := Classical.byContradiction (fun q => hg (key.mpr q))
    refine ⟨_, by unfold t_add; rw [if_pos hcan], rfl, ?_, ?_, ?_, ?_⟩
    · show em_nd t nd + s0 = x_z y + 1
      omega
    · show em_ls t ls = if c = 40 then x_dp y + 1 else x_dp y
      unfold em_ls
      by_cases ht : t = 1
      · rw [if_pos ht, if_pos (is1.mp ht)]
        omega
      · rw [if_neg ht, if_neg n2, if_neg (fun q => ht (is1.mpr q))]
        exact h3
    · show em_dp t ls dp ≤ 12
      omega
    · show em_nd t nd ≤ 60
      omega
theorem run_lp {cap s0 : Nat} (hc : s0 + 60 ≤ cap) : ∀ (B : List Tk) (y : TSt) (s : ES) (m : Nat), REL s0 y s → 1 ≤ s.2.2.1 → lvl (B.map tkm) (s.2.2.1 - 1) = some m → (¬ (em (B.map tkm) s).2.2.2.2 = 0 → t_run cap s0 12 B y = none) ∧ ((em (B.map tkm) s).2.2.2.2 = 0 → ∃ y2, t_run cap s0 12 B y = some y2 ∧ REL s0 y2 (em (B.map tkm) s) ∧ (em (B.map tkm) s).2.2.1 = m + 1)
  | [], y, s, m, h, h1, hl => by
    cases hl
    refine ⟨fun q => absurd h.1 q, fun _ => ⟨y, rfl, h, ?_⟩⟩
    show s.2.2.1 = s.2.2.1 - 1 + 1
    omega
  | some (c, k) :: B, y, s, m, h, h1, hl => by
    have e0 : em ((some (c, k) :: B).map tkm) s = em (B.map tkm) (em1 (tkm (some (c, k))) s) := if_pos h.1
    rw [e0, t_run_s]
    have hr := run_1 (c := c) (k := k) hc h (fun q => by have := h.2.2.1; omega)
    have n2 := tkm_n2 (c := c) (k := k)
    by_cases hz : (em1 (tkm (some (c, k))) s).2.2.2.2 = 0
    · obtain ⟨y1, e1, h1'⟩ := hr.2 hz
      rw [e1]
      have els : (em1 (tkm (some (c, k))) s).2.2.1 = em_ls (tkm (some (c, k))) s.2.2.1 := by unfold em1; split <;> rfl
      have hl2 : lvl (B.map tkm) ((em1 (tkm (some (c, k))) s).2.2.1 - 1) = some m := by
        rw [els]
        rw [List.map_cons] at hl
        unfold lvl at hl
        unfold em_ls
        by_cases ht : tkm (some (c, k)) = 1
        · rw [if_pos ht] at hl
          rw [if_pos ht]
          rw [← hl]
          congr 1
          omega
        · rw [if_neg ht, if_neg n2] at hl
          rw [if_neg ht, if_neg n2]
          exact hl
      refine run_lp hc B y1 _ m h1' ?_ hl2
      rw [els]
      unfold em_ls
      rw [if_neg n2]
      split <;> omega
    · rw [hr.1 hz]
      rw [em_1 hz]
      exact ⟨fun _ => rfl, fun q => absurd q hz⟩
  | none :: B, y, s, m, h, h1, hl => by
    have e0 : em ((none :: B).map tkm) s = em (B.map tkm) (em1 2 s) := if_pos h.1
    rw [e0, t_run_e]
    obtain ⟨l, nd, ls, dp, gr⟩ := s
    obtain ⟨g1, g2, g3, g4, g5⟩ := h
    have g5 : nd ≤ 60 := g5
    have g1 : gr = 0 := g1
    have g2 : nd + s0 = x_z y := g2
    have g3 : ls = x_dp y := g3
    have g4 : dp ≤ 12 := g4
    have h1 : 1 ≤ ls := h1
    have hl : lvl (2 :: B.map tkm) (ls - 1) = some m := hl
    have hl2 : 2 ≤ ls ∧ lvl (B.map tkm) (ls - 1 - 1) = some m := by
      unfold lvl at hl
      rw [if_neg (by decide), if_pos rfl] at hl
      by_cases hq : ls - 1 = 0
      · rw [if_pos hq] at hl; cases hl
      · rw [if_neg hq] at hl
        exact ⟨by omega, hl⟩
    have e2 : t_close y = some (x_sg y, x_st y, va_up (x_sp y) (x_op y (x_dp y - 1)) (x_z y - x_op y (x_dp y - 1)), x_it y, x_rp y, x_op y, x_z y, x_dp y - 1, some (x_op y (x_dp y - 1))) := by
      unfold t_close
      rw [if_neg (by omega)]
    rw [e2]
    have hz : ¬ (60 < nd ∨ 12 < dp) := by omega
    have e3 : em1 2 (l, nd, ls, dp, gr) = (l ++ [2], nd, ls - 1, dp, 0) := if_neg hz
    rw [e3]
    exact run_lp hc B _ (l ++ [2], nd, ls - 1, dp, 0) m ⟨rfl, g2, by show ls - 1 = x_dp y - 1; omega, g4, g5⟩ (by show 1 ≤ ls - 1; omega) hl2.2
/-- one term, from a row that is at rest -/
theorem run_tm {cap : Nat} {y : TSt} {T : List Tk} (hc : x_z y + 60 ≤ cap) (hT : tmm (T.map tkm)) : (¬ (em (T.map tkm) ([], 0, 0, 0, 0)).2.2.2.2 = 0 → t_run cap (x_z y) 12 T (t_beg y) = none) ∧ ((em (T.map tkm) ([], 0, 0, 0, 0)).2.2.2.2 = 0 → ∃ y2, t_run cap (x_z y) 12 T (t_beg y) = some y2 ∧ x_z y2 ≤ x_z y + 60 ∧ x_z y < x_z y2 ∧ x_dp y2 = 0) := by
  have h0 : REL (x_z y) (t_beg y) ([], 0, 0, 0, 0) := ⟨rfl, Nat.zero_add _, rfl, Nat.zero_le _, Nat.zero_le _⟩
  have hw : ¬ (x_dp (t_beg y) = 0 ∧ x_z y < x_z (t_beg y)) := fun q => Nat.lt_irrefl _ q.2
  -- the first token
  have first : ∀ c k (R : List Tk), T = some (c, k) :: R → em (T.map tkm) ([], 0, 0, 0, 0) = em (R.map tkm) (em1 (tkm (some (c, k))) ([], 0, 0, 0, 0)) ∧ ∃ y1, t_add cap (x_z y) 12 c k (t_beg y) = some y1 ∧ REL (x_z y) y1 (em1 (tkm (some (c, k))) ([], 0, 0, 0, 0)) ∧ t_run cap (x_z y) 12 T (t_beg y) = t_run cap (x_z y) 12 R y1 := by
    intro c k R e
    have hr := run_1 (c := c) (k := k) hc h0 hw
    have hz : (em1 (tkm (some (c, k))) ([], 0, 0, 0, 0)).2.2.2.2 = 0 := by
      unfold em1
      rw [if_neg (by
        show ¬ (60 < em_nd (tkm (some (c, k))) 0 ∨ 12 < em_dp (tkm (some (c, k))) 0 0)
        unfold em_nd em_dp
        intro q
        rcases q with q | q
        · split at q <;> omega
        · split at q
          · split at q <;> omega
          · omega)]
    obtain ⟨y1, e1, h1⟩ := hr.2 hz
    refine ⟨by rw [e]; exact if_pos rfl, y1, e1, h1, ?_⟩
    rw [e, t_run_s, e1]
    rfl
  rcases hT with ⟨t, et, n1, n2⟩ | ⟨B, et, hB⟩
  · cases T with
    | nil => cases et
    | cons τ R =>
      rw [List.map_cons] at et
      obtain ⟨a1, a2⟩ := List.cons.inj et
      have hR : R = [] := List.map_eq_nil_iff.mp a2
      cases τ with
      | none => exact absurd a1.symm n2
      | some p =>
        obtain ⟨c, k⟩ := p
        subst hR
        obtain ⟨ee, y1, e1, h1, er⟩ := first c k [] rfl
        rw [ee, er]
        refine ⟨fun q => absurd h1.1 q, fun _ => ⟨y1, rfl, ?_, ?_, ?_⟩⟩
        · have := h1.2.1; have := h1.2.2.2.2; omega
        · have hz := h1.2.1
          have : (em1 (tkm (some (c, k))) ([], 0, 0, 0, 0)).2.1 = 1 := by
            have e : (em1 (tkm (some (c, k))) ([], 0, 0, 0, 0)).2.1 = em_nd (tkm (some (c, k))) 0 := by unfold em1; split <;> rfl
            rw [e, em_nd, if_neg tkm_n2]
          omega
        · rw [← h1.2.2.1]
          have e : (em1 (tkm (some (c, k))) ([], 0, 0, 0, 0)).2.2.1 = em_ls (tkm (some (c, k))) 0 := by unfold em1; split <;> rfl
          rw [e, em_ls, if_neg (by rw [a1]; exact n1), if_neg tkm_n2]
  · cases T with
    | nil => cases et
    | cons τ R =>
      rw [List.map_cons] at et
      obtain ⟨a1, a2⟩ := List.cons.inj et
      cases τ with
      | none => cases a1
      | some p =>
        obtain ⟨c, k⟩ := p
        obtain ⟨R1, R2, eR, eR1, eR2⟩ := List.map_eq_append_iff.mp a2
        obtain ⟨ee, y1, e1, h1, er⟩ := first c k R rfl
        cases R2 with
        | nil => cases eR2
        | cons τ2 R3 =>
          rw [List.map_cons] at eR2
          obtain ⟨b1, b2⟩ := List.cons.inj eR2
          have hR3 : R3 = [] := List.map_eq_nil_iff.mp b2
          subst hR3
          cases τ2 with
          | some p2 => exact absurd b1 tkm_n2
          | none =>
            have els : (em1 (tkm (some (c, k))) ([], 0, 0, 0, 0)).2.2.1 = 1 := by
              have e : (em1 (tkm (some (c, k))) ([], 0, 0, 0, 0)).2.2.1 = em_ls (tkm (some (c, k))) 0 := by unfold em1; split <;> rfl
              rw [e, em_ls, if_pos a1]
            have hlp := run_lp hc R1 y1 _ 0 h1 (by rw [els]; exact Nat.le_refl _) (by rw [els, eR1]; exact hB)
            rw [ee, er, eR, List.map_append, em_app, t_run_app]
            by_cases hz : (em (R1.map tkm) (em1 (tkm (some (c, k))) ([], 0, 0, 0, 0))).2.2.2.2 = 0
            · obtain ⟨y2, e2, h2, hls⟩ := hlp.2 hz
              rw [e2]
              have hdp := h2.2.2.1
              have e4 : t_run cap (x_z y) 12 [none] y2 = some (x_sg y2, x_st y2, va_up (x_sp y2) (x_op y2 (x_dp y2 - 1)) (x_z y2 - x_op y2 (x_dp y2 - 1)), x_it y2, x_rp y2, x_op y2, x_z y2, x_dp y2 - 1, some (x_op y2 (x_dp y2 - 1))) := by
                rw [t_run_e]
                unfold t_close
                rw [if_neg (by omega)]
                rfl
              have ez : (em ([none].map tkm) (em (R1.map tkm) (em1 (tkm (some (c, k))) ([], 0, 0, 0, 0)))).2.2.2.2 = 0 := by
                show (if (em (R1.map tkm) (em1 (tkm (some (c, k))) ([], 0, 0, 0, 0))).2.2.2.2 = 0 then em1 2 (em (R1.map tkm) (em1 (tkm (some (c, k))) ([], 0, 0, 0, 0))) else _).2.2.2.2 = 0
                rw [if_pos hz]
                unfold em1
                rw [if_neg (by
                  have q1 := h2.2.2.2.1
                  have q2 := h2.2.2.2.2
                  show ¬ (60 < em_nd 2 (em (R1.map tkm) (em1 (tkm (some (c, k))) ([], 0, 0, 0, 0))).2.1 ∨ 12 < em_dp 2 (em (R1.map tkm) (em1 (tkm (some (c, k))) ([], 0, 0, 0, 0))).2.2.1 (em (R1.map tkm) (em1 (tkm (some (c, k))) ([], 0, 0, 0, 0))).2.2.2.1)
                  unfold em_nd em_dp
                  rw [if_pos rfl, if_neg (by decide)]
                  omega)]
              refine ⟨fun q => absurd ez q, fun _ => ⟨_, e4, ?_, ?_, ?_⟩⟩
              · show x_z y2 ≤ _
                have := h2.2.1; have := h2.2.2.2.2; omega
              · show _ < x_z y2
                have q1 := h2.2.1
                have q2 : 1 ≤ (em (R1.map tkm) (em1 (tkm (some (c, k))) ([], 0, 0, 0, 0))).2.1 := by
                  have mono : ∀ (E : List Nat) (s : ES), s.2.1 ≤ (em E s).2.1 := by
                    intro E
                    induction E with
                    | nil => intro s; exact Nat.le_refl _
                    | cons t E ih =>
                      intro s
                      show _ ≤ (if s.2.2.2.2 = 0 then em E (em1 t s) else s).2.1
                      split
                      · have e : (em1 t s).2.1 = em_nd t s.2.1 := by unfold em1; split <;> rfl
                        have := ih (em1 t s)
                        rw [e] at this
                        have : s.2.1 ≤ em_nd t s.2.1 := by unfold em_nd; split <;> omega
                        omega
                      · exact Nat.le_refl _
                  have := mono (R1.map tkm) (em1 (tkm (some (c, k))) ([], 0, 0, 0, 0))
                  have e : (em1 (tkm (some (c, k))) ([], 0, 0, 0, 0)).2.1 = em_nd (tkm (some (c, k))) 0 := by unfold em1; split <;> rfl
                  rw [e, em_nd, if_neg tkm_n2] at this
                  omega
                omega
              · show x_dp y2 - 1 = 0
                omega
            · rw [hlp.1 hz, em_1 hz]
              exact ⟨fun _ => rfl, fun q => absurd q hz⟩
/-- what was put, where it is not too great -/
theorem em_list : ∀ (E : List Nat) (s : ES), (em E s).2.2.2.2 = 0 → (em E s).1 = s.1 ++ E
  | [], s, _ => (List.append_nil _).symm
  | t :: E, s, h => by
    by_cases hs : s.2.2.2.2 = 0
    · have e : em (t :: E) s = em E (em1 t s) := if_pos hs
      rw [e] at h ⊢
      have h1 : (em1 t s).2.2.2.2 = 0 := by
        by_cases hq : (em1 t s).2.2.2.2 = 0
        · exact hq
        · rw [em_1 hq] at h
          exact absurd h hq
      rw [em_list E _ h]
      have : (em1 t s).1 = s.1 ++ [t] := by
        unfold em1 at h1 ⊢
        split at h1
        · cases h1
        · rw [if_neg (by assumption)]
      rw [this, List.append_assoc]
      rfl
    · rw [em_1 hs] at h
      exact absurd h hs
/-- what is found lies in the row -/
def m_al (Z : Nat) (q : MSt) : Prop := ∀ v k, q.2 v k < Z
theorem m_bd_al {Z v t0 : Nat} {q r : MSt} (ht : t0 < Z) (hq : m_al Z q) (h : m_bd v t0 q = some r) : m_al Z r := by
  unfold m_bd at h
  split at h
  · obtain rfl := Option.some.inj h
    intro v' k'
    show va_up q.2 v (va_up (q.2 v) (q.1 v) t0) v' k' < Z
    by_cases h1 : v' = v
    · rw [h1, va_up_self]
      by_cases h2 : k' = q.1 v
      · rw [h2, va_up_self]; exact ht
      · rw [va_up_ne _ _ h2]; exact hq v k'
    · rw [va_up_ne _ _ h1]; exact hq v' k'
  · cases h
theorem m_lp_al {x y : TSt} {g : Nat → Nat → MSt → Option MSt} {fs Z : Nat} (hg : ∀ wt it q r, it < Z → m_al Z q → g wt it q = some r → m_al Z r) : ∀ (n k wt lf it b : Nat) (q r : MSt), t_ch y n it b → b ≤ Z → m_al Z q → m_lp x y g fs n k wt lf it q = some r → m_al Z r
  | 0, k, wt, lf, it, b, q, r, _, _, hq, h => by
    unfold m_lp at h
    split at h
    · cases h; exact hq
    · cases h
  | n + 1, k, wt, lf, it, b, q, r, hc, hb, hq, h => by
    have h1 : it < b := hc.1
    unfold m_lp at h
    split at h
    · cases h
    · split at h
      · cases h
      · rename_i q1 hq1
        have hq1' : m_al Z q1 := by
          split at hq1
          · exact hg _ _ _ _ (by omega) hq hq1
          · cases hq1; exact hq
        split at h
        · exact m_lp_al hg n _ _ _ _ b _ _ hc.2 hb hq1' h
        · exact m_lp_al hg n _ _ _ _ b _ _ hc.2 hb hq1' h
theorem m_ft_al {x y : TSt} (hw : t_wf y) : ∀ (d wt t0 : Nat) (q r : MSt), t0 < x_z y → m_al (x_z y) q → m_ft x y d wt t0 q = some r → m_al (x_z y) r
  | 0, _, _, _, _, _, _, h => by cases h
  | d + 1, wt, t0, q, r, ht, hq, h => by
    have hwt := hw t0 ht
    unfold m_ft at h
    split at h
    · cases h; exact hq
    · split at h
      · exact m_bd_al ht hq h
      · split at h
        · split at h
          · exact m_lp_al (fun wt it q r h1 h2 h3 => m_ft_al hw d wt it q r h1 h2 h3) _ _ _ _ _ _ _ _ hwt.2.2 hwt.2.1 hq h
          · cases h; exact hq
        · cases h
theorem e_mt_al {x y : TSt} {us : Nat} {r : MSt} (hw : t_wf y) (hu : us < x_z y) (h : e_mt x y us = some r) : m_al (x_z y) r := by
  have hwt := hw us hu
  unfold e_mt m_fi at h
  exact m_lp_al (fun wt it q r h1 h2 h3 => m_ft_al hw 60 wt it q r h1 h2 h3) _ _ _ _ _ _ _ _ hwt.2.2 hwt.2.1 (fun _ _ => by show 0 < x_z y; omega) h
/-- the signs and stamps of what a template is put as -/
def tk_st (K : Nat) (ts : List Tk) : Prop := ∀ q, some q ∈ ts → c_tm q.1 ∧ q.2 ≤ K
theorem f_c_tok {K : Nat} {g : Nat → List Tk} (hg : ∀ j, tk_st K (g j)) : ∀ (n j : Nat), tk_st K (f_c g n j)
  | 0, _ => fun q hq => by cases hq
  | n + 1, j => fun q hq => by
    rcases List.mem_append.mp hq with h | h
    · exact hg j q h
    · exact f_c_tok hg n (j + 1) q h
theorem f_l_tok {K : Nat} {x : TSt} {cp : Nat → Nat} {g : Nat → Nat → List Tk} {k0 tm : Nat} (hg : ∀ a j, tm ≤ a → a < x_z x → tk_st K (g a j)) : ∀ (n a b : Nat), t_ch x n a b → b ≤ x_z x → tm ≤ a → tk_st K (f_l x cp g k0 n a)
  | 0, _, _, _, _, _ => fun q hq => by cases hq
  | n + 1, a, b, hc, hb, ha => fun q hq => by
    have h1 : a < b := hc.1
    unfold f_l at hq
    rcases List.mem_append.mp hq with h | h
    · split at h
      · exact hg a k0 ha (by omega) q h
      · exact f_c_tok (fun j => hg a j ha (by omega)) _ _ q h
    · exact f_l_tok hg n (a + x_sp x a) b hc.2 hb (by omega) q h
theorem f_n_tok {x : TSt} {kf cp : Nat → Nat} {vt : Nat → Nat → List Tk} {md tm : Nat} (hw : t_wf x) (hts : x_tms x tm) (hv : ∀ v k, tk_st (md + 1) (vt v k)) : ∀ (D a k0 : Nat), tm ≤ a → a < x_z x → tk_st (md + 1) (f_n x kf cp vt md D a k0)
  | 0, _, _, _, _ => fun q hq => by cases hq
  | D + 1, a, k0, hta, ha => fun q hq => by
    have hwa := hw a ha
    unfold f_n at hq
    split at hq
    · exact hv _ _ q hq
    · rcases List.mem_cons.mp hq with h | h
      · cases h
        refine ⟨hts a hta ha, ?_⟩
        show (if c_nm (x_sg x a) then md + 1 else 0) ≤ md + 1
        split <;> omega
      · split at h
        · rcases List.mem_append.mp h with h | h
          · exact f_l_tok (fun a j h1 h2 => f_n_tok hw hts hv D a j h1 h2) _ _ _ hwa.2.2 hwa.2.1 (by omega) q h
          · simp at h
        · cases h
theorem tk_st_ln {K : Nat} {x : TSt} {g : Nat → List Tk} : ∀ (n a b : Nat), t_ch x n a b → (∀ i, a ≤ i → i < b → tk_st K (g i)) → tk_st K (tk_l x g n a)
  | 0, _, _, _, _ => fun q hq => by cases hq
  | n + 1, a, b, h, hg => fun q hq => by
    have h1 : a < b := h.1
    unfold tk_l at hq
    rcases List.mem_append.mp hq with hq | hq
    · exact hg a (Nat.le_refl _) h1 q hq
    · exact tk_st_ln n _ b h.2 (fun i q1 q2 => hg i (by omega) q2) q hq
theorem tk_st_n {K : Nat} {x : TSt} (hw : t_wf x) (ho : t_ok x) (hs : ∀ i, i < x_z x → x_st x i ≤ K) : ∀ (d a : Nat), a < x_z x → tk_st K (tk_n x d a)
  | 0, _, _ => fun q hq => by cases hq
  | d + 1, a, ha => fun q hq => by
    have h1 := hw a ha
    unfold tk_n at hq
    rcases List.mem_cons.mp hq with hq | hq
    · cases hq
      exact ⟨ho a ha, hs a ha⟩
    · split at hq
      · rcases List.mem_append.mp hq with hq | hq
        · exact tk_st_ln _ _ _ h1.2.2 (fun i q1 q2 => tk_st_n hw ho hs d i (by omega)) q hq
        · simp at hq
      · cases hq
theorem t_run_tok {cap s0 dm K : Nat} : ∀ (ts : List Tk) (y y2 : TSt), tk_st K ts → (t_ok y ∧ ∀ i, i < x_z y → x_st y i ≤ K) → t_run cap s0 dm ts y = some y2 → t_ok y2 ∧ ∀ i, i < x_z y2 → x_st y2 i ≤ K
  | [], y, y2, _, ho, h => by cases h; exact ho
  | some p :: r, y, y2, ht, ho, h => by
    rw [t_run_s] at h
    obtain ⟨w, hw, h⟩ := Option.bind_eq_some_iff.mp h
    refine t_run_tok r w y2 (fun q hq => ht q (List.mem_cons_of_mem _ hq)) ?_ h
    obtain ⟨e1, e2, _⟩ := t_add_z hw
    have e3 : x_st w = va_up (x_st y) (x_z y) p.2 := by
      unfold t_add at hw
      split at hw
      · cases hw; rfl
      · cases hw
    refine ⟨fun i hi => ?_, fun i hi => ?_⟩
    · rw [e2] at hi
      rw [e1]
      by_cases hq : i = x_z y
      · rw [hq, va_up_self]
        exact (ht p List.mem_cons_self).1
      · rw [va_up_ne _ _ hq]
        exact ho.1 i (by omega)
    · rw [e2] at hi
      rw [e3]
      by_cases hq : i = x_z y
      · rw [hq, va_up_self]
        exact (ht p List.mem_cons_self).2
      · rw [va_up_ne _ _ hq]
        exact ho.2 i (by omega)
  | none :: r, y, y2, ht, ho, h => by
    rw [t_run_e] at h
    obtain ⟨w, hw, h⟩ := Option.bind_eq_some_iff.mp h
    refine t_run_tok r w y2 (fun q hq => ht q (List.mem_cons_of_mem _ hq)) ?_ h
    unfold t_close at hw
    split at hw
    · cases hw
    · cases hw
      exact ho
/-- small stamps, small tokens; the tokens of small terms are few -/
theorem tkT_sml {x : TSt} {K a : Nat} (hw : t_wf x) (ho : t_ok x) (hs : ∀ i, i < x_z x → x_st x i ≤ K) (hK : K ≤ 2 ^ 20) (ha : a < x_z x) : sml (tkT x a) := by
  intro t ht
  unfold tkT at ht
  obtain ⟨τ, h1, h2⟩ := List.mem_map.mp ht
  cases τ with
  | none => rw [← h2]; decide
  | some p =>
    obtain ⟨c, k⟩ := p
    have := (tk_st_n hw ho hs 60 a ha (c, k) h1).2
    rw [← h2]
    exact tkm_lt (Nat.le_trans this hK)
theorem tkS_le {x : TSt} (hw : t_wf6 x) (hl : t_lf x) : ∀ (k n a b : Nat), x_z x - a ≤ k → t_ch x n a b → b ≤ x_z x → (tkS x n a).length ≤ 2 * (b - a)
  | k, 0, a, b, hk, hc, hb => Nat.zero_le _
  | 0, n + 1, a, b, hk, hc, hb => by
    have : a < b := hc.1
    omega
  | k + 1, n + 1, a, b, hk, hc, hb => by
    have h1 : a < b := hc.1
    have h2 := t_ch_ge n _ b hc.2
    have hwa := hw.1 a (by omega)
    have hT : (tkT x a).length ≤ 2 * x_sp x a := by
      by_cases h : x_sg x a = 40
      · have ih := tkS_le hw hl k (x_it x a) (a + 1) (a + x_sp x a) (by omega) hwa.2.2 hwa.2.1
        rw [tkT_list hw (by omega) h]
        have : (1 :: (tkS x (x_it x a) (a + 1) ++ [2])).length = (tkS x (x_it x a) (a + 1)).length + 2 := by simp
        omega
      · rw [tkT_leaf h]
        show 1 ≤ _
        omega
    have ih2 := tkS_le hw hl k n (a + x_sp x a) b (by omega) hc.2 hb
    rw [tkS_s, List.length_append]
    omega
theorem tkT_le {x : TSt} (hw : t_wf6 x) (hl : t_lf x) {a : Nat} (ha : a < x_z x) : (tkT x a).length ≤ 120 := by
  have hwa := hw.1 a ha
  have h6 := hw.2 a ha
  have := tkS_le hw hl (x_z x) 1 a (a + x_sp x a) (by omega) ⟨by omega, rfl⟩ hwa.2.1
  have e : tkS x 1 a = tkT x a ++ [] := tkS_s
  rw [e, List.append_nil] at this
  omega
