/-! Matching: a repeated item. -/
/-- while a repeated item is matched, nodes ahead of w being through -/
def IM (x y : TSt) (kf : Nat → Nat) (a0 ae n0 : Nat) (q0 : MSt) (gs : OS) (q : MSt) (w : Nat) : Prop :=
  MR gs y kf q ∧ (∀ j, w ≤ j → j < ae → c_nm (x_sg x j) → kf (x_sg x j - 97) = 2 ∧ q.1 (x_sg x j - 97) = n0) ∧ (∀ j, a0 ≤ j → j < w → c_nm (x_sg x j) → q.1 (x_sg x j - 97) = n0 + 1) ∧ (∀ c, (∀ j, a0 ≤ j → j < ae → c_nm (x_sg x j) → ¬ x_sg x j - 97 = c) → q.1 c = q0.1 c) ∧ ∀ c, q.1 c ≤ 60
def MPc (F d : Nat) (gs : OS) (to n0 t i lt li : Nat) (res : Option MSt) (post : OS → MSt → Prop) : Prop :=
  (∀ q', res = some q' → ∃ g2, rf_matchPlain_6 F (d + li) gs (nI to) (nI n0) (nI t) (nI i) = rf_matchPlain_6 F d g2 (nI to) (nI n0) (nI (t + lt)) (nI (i + li)) ∧ mch gs g2 ∧ post g2 q') ∧
  (res = none → ∃ g2, rf_matchPlain_6 F (d + li) gs (nI to) (nI n0) (nI t) (nI i) = some (0, g2) ∧ mch gs g2 ∧ g2.1 41 = -1)
theorem MPc.bad {F d : Nat} {gs : OS} {to n0 t i lt li : Nat} {post : OS → MSt → Prop} (h : ∀ d, rf_matchPlain_6 F (d + 1) gs (nI to) (nI n0) (nI t) (nI i) = some (0, sI gs 41 (-1))) (hl : 1 ≤ li) : MPc F d gs to n0 t i lt li none post := by
  refine ⟨fun q' q9 => (by cases q9), fun _ => ⟨_, ?_, mch.rf.i, sI_e _ _ _⟩⟩
  rw [show d + li = (d + (li - 1)) + 1 by omega]
  exact h _
theorem otk_nm {c : Nat} (h : c_nm c) : o_tk c = (c - 97) + 100 := by
  unfold o_tk
  rw [if_pos h]
  omega
theorem otk_95 {c : Nat} (h : c = 95) : o_tk c = 6 := by rw [h]; decide
theorem otk_pl {c : Nat} (hc : c_ok 1 c) (h1 : ¬ c_nm c) (h2 : ¬ c = 95) : o_tk c < 100 ∧ ¬ o_tk c = 6 := by
  unfold o_tk
  rcases hc with h | h | h | h | h
  · rw [h]; decide
  · exact absurd h h1
  · rw [if_neg h1, if_pos h]; omega
  · rcases h with rfl | rfl | rfl <;> decide
  · exact absurd h.1 h2
/-- a plain sign's token is that of a term's node just where the signs are alike -/
theorem otk_tkm {c e k : Nat} (hc : c_ok 1 c) (h1 : ¬ c_nm c) (h2 : ¬ c = 95) (he : c_tm e) : tkm (some (e, k)) = o_tk c ↔ c = e := by
  have hp := otk_pl hc h1 h2
  constructor
  · intro h
    rcases he with he | he | he | he
    · rw [tkm_open he] at h
      rcases hc with g | g | g | g | g
      · rw [g, he]
      · exact absurd g h1
      · unfold o_tk at h
        rw [if_neg h1, if_pos g] at h
        omega
      · rcases g with rfl | rfl | rfl <;> cases h
      · exact absurd g.1 h2
    · rw [tkm_nm he] at h
      omega
    · rw [tkm_nu he] at h
      rcases hc with g | g | g | g | g
      · rw [g] at h
        have : o_tk 40 = 1 := by decide
        omega
      · exact absurd g h1
      · unfold o_tk at h
        rw [if_neg h1, if_pos g] at h
        omega
      · rcases g with rfl | rfl | rfl
        · have : o_tk 76 = 3 := by decide
          omega
        · have : o_tk 73 = 4 := by decide
          omega
        · have : o_tk 81 = 5 := by decide
          omega
      · exact absurd g.1 h2
    · have h35 := tkm_kw (k := k) he
      rcases hc with g | g | g | g | g
      · rw [g] at h
        have : o_tk 40 = 1 := by decide
        omega
      · exact absurd g h1
      · unfold o_tk at h
        rw [if_neg h1, if_pos g] at h
        omega
      · have a1 : o_tk 76 = 3 := by decide
        have a2 : o_tk 73 = 4 := by decide
        have a3 : o_tk 81 = 5 := by decide
        have b1 : tkm (some (76, k)) = 3 := rfl
        have b2 : tkm (some (73, k)) = 4 := rfl
        have b3 : tkm (some (81, k)) = 5 := rfl
        rcases g with rfl | rfl | rfl <;> rcases he with rfl | rfl | rfl <;> omega
      · exact absurd g.1 h2
  · intro h
    subst h
    rcases hc with g | g | g | g | g
    · rw [tkm_open g, g]; decide
    · exact absurd g h1
    · rw [tkm_nu g]
      unfold o_tk
      rw [if_neg h1, if_pos g]
    · rcases g with rfl | rfl | rfl
      · exact (tkm_L rfl).trans (by decide)
      · exact (tkm_I rfl).trans (by decide)
      · exact (tkm_Q rfl).trans (by decide)
    · exact absurd g.1 h2
section MANY
variable {x y : TSt} {kf : Nat → Nat} {F a0 ae n0 to : Nat} {q0 : MSt}
theorem IM_ext {gs : OS} {q : MSt} {w : Nat} (h : IM x y kf a0 ae n0 q0 gs q w) (hn : ¬ c_nm (x_sg x w)) : IM x y kf a0 ae n0 q0 gs q (w + 1) := by
  obtain ⟨h1, h2, h3, h4, h5⟩ := h
  refine ⟨h1, fun j a b c => h2 j (by omega) b c, fun j a b c => ?_, h4, h5⟩
  by_cases h : j = w
  · rw [h] at c
    exact absurd c hn
  · exact h3 j a (by omega) c
theorem mp_lp {g : Nat → Nat → MSt → Option MSt} {D : Nat} (hwx : t_wf6 x) (hox : x_oks x) (hwy : t_wf6 y) (hoy : t_ok y) (hae : ae ≤ x_z x) (hto : to ≤ 768)
    (hg : ∀ wt it q gs i t d, a0 ≤ wt → wt < ae → wt + x_sp x wt ≤ ae → it < x_z y → x_sp x wt ≤ D → (∀ a, wt < a → a < wt + x_sp x wt → x_rp x a = 0) → At (gs.2 8) i (tpT x wt) → i + (tpT x wt).length ≤ to → TA gs y t it → sml (tkT y it) → IM x y kf a0 ae n0 q0 gs q wt → MPc F d gs to n0 t i (tkT y it).length (tpT x wt).length (g wt it q) (fun g2 q' => IM x y kf a0 ae n0 q0 g2 q' (wt + x_sp x wt))) :
    ∀ (n k wt lf it b e : Nat) (q : MSt) (gs : OS) (i t d : Nat), t_ch x lf wt b → b ≤ ae → a0 ≤ wt → t_ch y n it e → e ≤ x_z y → (∀ a, wt ≤ a → a < b → x_rp x a = 0) → b ≤ wt + D → At (gs.2 8) i (tpS x lf wt ++ [2]) → i + (tpS x lf wt).length + 1 ≤ to → At (gs.2 22) t (tkS y n it ++ [2]) → t + (tkS y n it).length + 1 ≤ 2400 → sml (tkS y n it) → IM x y kf a0 ae n0 q0 gs q wt →
      MPc F d gs to n0 t i ((tkS y n it).length + 1) ((tpS x lf wt).length + 1) (m_lp x y g 0 n k wt lf it q) (fun g2 q' => IM x y kf a0 ae n0 q0 g2 q' b)
  | 0, k, wt, lf, it, b, e, q, gs, i, t, d, hcx, hb, ha0, hcy, he, hnr, hD, hpt, hpl, hrow, hrl, hsm, hI => by
    have hr2 : gs.2 22 t = nI 2 := hrow.1
    have hrl : t + 0 + 1 ≤ 2400 := hrl
    unfold m_lp
    cases lf with
    | zero =>
      rw [if_pos (Or.inl rfl)]
      refine ⟨fun q' q9 => ?_, fun q9 => by cases q9⟩
      cases q9
      have hcx : wt = b := hcx
      refine ⟨gs, ?_, mch.rf, by rw [← hcx]; exact hI⟩
      have hpl : i + 0 + 1 ≤ to := hpl
      exact mp_eq (w := 2) (by omega) hto hpt.1 (by decide) (by decide) hr2 (by omega)
    | succ lf =>
      have hwb : wt < b := hcx.1
      rw [if_neg (by
        intro q9
        rcases q9 with q9 | q9
        · cases q9
        · exact q9.2 (hnr wt (Nat.le_refl _) hwb))]
      obtain ⟨s, es⟩ := tpT_hd (x := x) (a := wt)
      have e1 : tpS x (lf + 1) wt ++ [2] = o_tk (x_sg x wt) :: (s ++ (tp_r x wt ++ tpS x lf (wt + x_sp x wt)) ++ [2]) := by rw [tpS_s, es]; rfl
      rw [e1] at hpt
      have hany := otk_any (hox wt (by omega))
      refine MPc.bad (fun d => ?_) (by omega)
      by_cases h1 : c_nm (x_sg x wt) ∨ x_sg x wt = 95
      · refine mp_close (w := o_tk (x_sg x wt)) (by omega) hto hpt.1 ?_ (by omega) hr2 (by omega)
        rcases h1 with h1 | h1
        · right; rw [otk_nm h1]; omega
        · left; exact otk_95 h1
      · have hp := otk_pl (hox wt (by omega)) (fun q9 => h1 (Or.inl q9)) (fun q9 => h1 (Or.inr q9))
        exact mp_ne (w := o_tk (x_sg x wt)) (by omega) hto hpt.1 hp.1 hp.2 hr2 (by decide) (by omega) (by omega)
  | n + 1, k, wt, lf, it, b, e, q, gs, i, t, d, hcx, hb, ha0, hcy, he, hnr, hD, hpt, hpl, hrow, hrl, hsm, hI => by
    have hie : it < e := hcy.1
    have hie2 := t_ch_ge n _ e hcy.2
    rw [tkS_s] at hrow hrl hsm ⊢
    rw [List.length_append] at hrl ⊢
    rw [List.append_assoc] at hrow
    obtain ⟨s0, es0⟩ := tkT_hd2 (y := y) (a := it)
    have hlen : 1 ≤ (tkT y it).length := by rw [es0, List.length_cons]; omega
    unfold m_lp
    cases lf with
    | zero =>
      rw [if_pos rfl]
      have hpl : i + 0 + 1 ≤ to := hpl
      have hh := tmm_hd (tkT_tmm hwy hoy (a := it) (by omega))
      obtain ⟨t0, r0, e0, h2⟩ := hh
      have hr0 : gs.2 22 t = nI t0 := by
        rw [e0] at hrow
        exact hrow.1
      have ht0 : t0 < 2 ^ 30 := hsm t0 (by rw [e0]; exact List.mem_cons_self)
      refine MPc.bad (fun d => ?_) (by show 1 ≤ 0 + 1; omega)
      exact mp_ne (w := 2) (by omega) hto hpt.1 (by decide) (by decide) hr0 ht0 h2 (by omega)
    | succ lf =>
      have hwb : wt < b := hcx.1
      have hwb2 := t_ch_ge lf _ b hcx.2
      rw [if_neg (by omega), if_pos (Nat.zero_le _)]
      have hrp := hnr wt (Nat.le_refl _) hwb
      have er : tp_r x wt = [] := by unfold tp_r; rw [if_pos hrp]
      rw [tpS_s, er, List.nil_append] at hpt hpl ⊢
      rw [List.append_assoc] at hpt
      rw [List.length_append] at hpl ⊢
      have hwa := hwx.1 wt (by omega)
      have h1 := hg wt it q gs i t (d + ((tpS x lf (wt + x_sp x wt)).length + 1)) ha0 (by omega) (by omega) (by omega) (by omega) (fun a p1 p2 => hnr a (by omega) (by omega)) (At_l hpt) (by omega) ⟨by omega, by omega, At_l hrow, sml_l hsm⟩ (sml_l hsm) hI
      cases hgq : g wt it q with
      | none =>
        obtain ⟨g2, e2, hm2, h41⟩ := h1.2 hgq
        refine ⟨fun q' q9 => (by cases q9), fun _ => ⟨g2, ?_, hm2, h41⟩⟩
        rw [show d + ((tpT x wt).length + (tpS x lf (wt + x_sp x wt)).length + 1) = d + ((tpS x lf (wt + x_sp x wt)).length + 1) + (tpT x wt).length by omega]
        exact e2
      | some q1 =>
        obtain ⟨g2, e2, hm2, hI2⟩ := h1.1 q1 hgq
        show MPc F d gs to n0 t i _ _ (if x_rp x wt = 0 then m_lp x y g 0 n (k + 1) (wt + x_sp x wt) (lf + 1 - 1) (it + x_sp y it) q1 else m_lp x y g 0 n (k + 1) wt (lf + 1) (it + x_sp y it) q1) _
        rw [if_pos hrp]
        have ih := mp_lp (g := g) hwx hox hwy hoy hae hto hg n (k + 1) (wt + x_sp x wt) lf (it + x_sp y it) b e q1 g2 (i + (tpT x wt).length) (t + (tkT y it).length) d hcx.2 hb (by omega) hcy.2 he (fun a p1 p2 => hnr a (by omega) p2) (by omega) (by rw [hm2.2 8 (by decide) (by decide)]; exact At_r hpt) (by omega) (by rw [hm2.2 22 (by decide) (by decide)]; exact At_r hrow) (by omega) (sml_r hsm) hI2
        have el : d + ((tpT x wt).length + (tpS x lf (wt + x_sp x wt)).length + 1) = d + ((tpS x lf (wt + x_sp x wt)).length + 1) + (tpT x wt).length := by omega
        refine ⟨fun q' q9 => ?_, fun q9 => ?_⟩
        · obtain ⟨g3, e3, hm3, hI3⟩ := ih.1 q' q9
          refine ⟨g3, ?_, hm2.tr hm3, hI3⟩
          rw [el, e2, e3]
          congr 2 <;> omega
        · obtain ⟨g3, e3, hm3, h41⟩ := ih.2 q9
          refine ⟨g3, ?_, hm2.tr hm3, h41⟩
          rw [el, e2, e3]
theorem mp_ft (hF : 5000 ≤ F) (hwx : t_wf6 x) (hlx : t_lf x) (hox : x_oks x) (hwy : t_wf6 y) (hly : t_lf y) (hoy : t_ok y) (hae : ae ≤ x_z x) (hto : to ≤ 768) (hn0 : n0 < 60) (hds : ∀ i j, a0 ≤ i → i < ae → a0 ≤ j → j < ae → c_nm (x_sg x i) → x_sg x i = x_sg x j → i = j) :
    ∀ (D wt it : Nat) (q : MSt) (gs : OS) (i t d : Nat), a0 ≤ wt → wt < ae → wt + x_sp x wt ≤ ae → it < x_z y → x_sp x wt ≤ D → (∀ a, wt < a → a < wt + x_sp x wt → x_rp x a = 0) → At (gs.2 8) i (tpT x wt) → i + (tpT x wt).length ≤ to → TA gs y t it → sml (tkT y it) → IM x y kf a0 ae n0 q0 gs q wt → MPc F d gs to n0 t i (tkT y it).length (tpT x wt).length (m_ft x y D wt it q) (fun g2 q' => IM x y kf a0 ae n0 q0 g2 q' (wt + x_sp x wt))
  | 0, wt, it, q, gs, i, t, d, _, hwe, _, _, hD, _, _, _, _, _, _ => by
    have := (hwx.1 wt (by omega)).1
    omega
  | D + 1, wt, it, q, gs, i, t, d, ha0, hwe, hse, hit, hD, hnr, hpt, hpl, hta, hsm, hI => by
    have hwa := hwx.1 wt (by omega)
    have hT := tkT_tmm hwy hoy hit
    obtain ⟨hta1, hta2, hta3, _⟩ := hta
    obtain ⟨s0, es0⟩ := tkT_hd2 (y := y) (a := it)
    have hlen : 1 ≤ (tkT y it).length := by rw [es0, List.length_cons]; omega
    have hr0 : gs.2 22 t = nI (tkm (some (x_sg y it, x_st y it))) := by
      rw [es0] at hta3
      exact hta3.1
    have htm : tkm (some (x_sg y it, x_st y it)) < 2 ^ 30 := hsm _ (by rw [es0]; exact List.mem_cons_self)
    unfold m_ft
    by_cases h95 : x_sg x wt = 95
    · rw [if_pos h95]
      have hl := hlx wt (by omega) (by rw [h95]; decide)
      rw [tpT_leaf (by rw [h95]; decide), otk_95 h95] at hpt hpl ⊢
      refine ⟨fun q' q9 => ?_, fun q9 => by cases q9⟩
      cases q9
      have hpl : i + 1 ≤ to := hpl
      refine ⟨gs, mp_wild hF (by omega) hto hpt.1 hT hta3 hsm hta2, mch.rf, ?_⟩
      rw [hl.1]
      exact IM_ext hI (by rw [h95]; decide)
    · rw [if_neg h95]
      by_cases hnm : c_nm (x_sg x wt)
      · rw [if_pos hnm]
        have hne : ¬ x_sg x wt = 40 := by omega
        have hl := hlx wt (by omega) hne
        rw [tpT_leaf hne, otk_nm hnm] at hpt hpl ⊢
        obtain ⟨h1, h2, h3, h4, h5⟩ := hI
        obtain ⟨hk, hc⟩ := h2 wt (Nat.le_refl _) hwe hnm
        obtain ⟨eb, hb⟩ := bind_2 (t := t) (nd := it) h1 (by omega) hk hc hn0 h5 ⟨hta1, hta2, hta3, hsm⟩
        rw [eb]
        refine ⟨fun q' q9 => ?_, fun q9 => by cases q9⟩
        cases q9
        have hpl : i + 1 ≤ to := hpl
        refine ⟨_, mp_name (o := some n0) hF (by omega) hto hpt.1 (by omega) (fun n q9 => by cases q9; exact hn0) hT hta3 hsm hta2, mch.b, hb, fun j p1 p2 p3 => ?_, fun j p1 p2 p3 => ?_, fun c hcn => ?_, fun c => ?_⟩
        · have hj : ¬ x_sg x j - 97 = x_sg x wt - 97 := fun q9 => by
            have := hds wt j ha0 hwe (by omega) p2 hnm (by omega)
            omega
          show kf (x_sg x j - 97) = 2 ∧ va_up q.1 (x_sg x wt - 97) (n0 + 1) (x_sg x j - 97) = n0
          rw [va_up_ne _ _ hj]
          exact h2 j (by omega) p2 p3
        · show va_up q.1 (x_sg x wt - 97) (n0 + 1) (x_sg x j - 97) = n0 + 1
          by_cases hj : x_sg x j - 97 = x_sg x wt - 97
          · rw [hj, va_up_self]
          · rw [va_up_ne _ _ hj]
            refine h3 j p1 ?_ p3
            rw [hl.1] at p2
            have : j ≠ wt := fun q9 => hj (by rw [q9])
            omega
        · show va_up q.1 (x_sg x wt - 97) (n0 + 1) c = q0.1 c
          rw [va_up_ne _ _ (fun q9 => hcn wt ha0 hwe hnm q9.symm)]
          exact h4 c hcn
        · show va_up q.1 (x_sg x wt - 97) (n0 + 1) c ≤ 60
          by_cases hj : c = x_sg x wt - 97
          · rw [hj, va_up_self]
            omega
          · rw [va_up_ne _ _ hj]
            exact h5 c
      · rw [if_neg hnm]
        have hok := hox wt (by omega)
        have hp := otk_pl hok hnm h95
        have heq := otk_tkm (k := x_st y it) hok hnm h95 (hoy it hit)
        obtain ⟨s, es⟩ := tpT_hd (x := x) (a := wt)
        have hpi : gs.2 8 i = nI (o_tk (x_sg x wt)) := by rw [es] at hpt; exact hpt.1
        have hpl1 : 1 ≤ (tpT x wt).length := by rw [es, List.length_cons]; omega
        by_cases hse2 : x_sg x wt = x_sg y it
        · rw [if_pos hse2]
          have htk := heq.mpr hse2
          by_cases h40 : x_sg x wt = 40
          · rw [if_pos h40]
            have h40y : x_sg y it = 40 := by rw [← hse2]; exact h40
            have hwy2 := hwy.1 it hit
            have eT : tkT y it = 1 :: (tkS y (x_it y it) (it + 1) ++ [2]) := tkT_list hwy hit h40y
            have eP : tpT x wt = 1 :: (tpS x (x_it x wt) (wt + 1) ++ [2]) := tpT_list hwx (by omega) h40
            rw [eT] at hta2 hta3 hsm ⊢
            rw [eP] at hpt hpl ⊢
            have l1 : (1 :: (tkS y (x_it y it) (it + 1) ++ [2])).length = (tkS y (x_it y it) (it + 1)).length + 1 + 1 := by simp
            have l2 : (1 :: (tpS x (x_it x wt) (wt + 1) ++ [2])).length = (tpS x (x_it x wt) (wt + 1)).length + 1 + 1 := by simp
            rw [l1] at hta2 ⊢
            rw [l2] at hpl ⊢
            have ih := mp_lp (g := m_ft x y D) (D := D) hwx hox hwy hoy hae hto (fun wt it q gs i t d => mp_ft hF hwx hlx hox hwy hly hoy hae hto hn0 hds D wt it q gs i t d) (x_it y it) 0 (wt + 1) (x_it x wt) (it + 1) (wt + x_sp x wt) (it + x_sp y it) q gs (i + 1) (t + 1) d hwa.2.2 hse (by omega) hwy2.2.2 hwy2.2.1 (fun a p1 p2 => hnr a (by omega) p2) (by omega) hpt.2 (by omega) hta3.2 (by omega) (sml_l (sml_t hsm)) (IM_ext hI hnm)
            have e1 : rf_matchPlain_6 F (d + ((tpS x (x_it x wt) (wt + 1)).length + 1 + 1)) gs (nI to) (nI n0) (nI t) (nI i) = rf_matchPlain_6 F (d + ((tpS x (x_it x wt) (wt + 1)).length + 1)) gs (nI to) (nI n0) (nI (t + 1)) (nI (i + 1)) := by
              rw [show d + ((tpS x (x_it x wt) (wt + 1)).length + 1 + 1) = (d + ((tpS x (x_it x wt) (wt + 1)).length + 1)) + 1 by omega]
              exact mp_eq (w := 1) (by omega) hto hpt.1 (by decide) (by decide) hta3.1 (by omega)
            refine ⟨fun q' q9 => ?_, fun q9 => ?_⟩
            · obtain ⟨g3, e3, hm3, hI3⟩ := ih.1 q' q9
              refine ⟨g3, ?_, hm3, hI3⟩
              rw [e1, e3]
              congr 2 <;> omega
            · obtain ⟨g3, e3, hm3, h41⟩ := ih.2 q9
              refine ⟨g3, ?_, hm3, h41⟩
              rw [e1, e3]
          · rw [if_neg h40]
            have h40y : ¬ x_sg y it = 40 := by rw [← hse2]; exact h40
            have hl := hlx wt (by omega) h40
            rw [tkT_leaf h40y] at hta2 ⊢
            rw [tpT_leaf h40] at hpl ⊢
            refine ⟨fun q' q9 => ?_, fun q9 => by cases q9⟩
            cases q9
            have hpl : i + 1 ≤ to := hpl
            have hta2 : t + 1 ≤ 2400 := hta2
            refine ⟨gs, ?_, mch.rf, ?_⟩
            · exact mp_eq (w := o_tk (x_sg x wt)) (by omega) hto hpi hp.1 hp.2 (by rw [← htk]; exact hr0) (by omega)
            · rw [hl.1]
              exact IM_ext hI hnm
        · rw [if_neg hse2]
          refine MPc.bad (fun d => ?_) hpl1
          exact mp_ne (w := o_tk (x_sg x wt)) (by omega) hto hpi hp.1 hp.2 hr0 htm (fun q9 => hse2 (heq.mp q9)) (by omega)
end MANY
