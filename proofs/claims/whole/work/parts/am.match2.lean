section ML2
variable {x y : TSt} {kf : Nat → Nat} {F tm : Nat}
theorem ml_ft (hF : 5000 ≤ F) (hx : PT x kf tm) (hwy : t_wf6 y) (hly : t_lf y) (hoy : t_ok y) :
    ∀ (D wt it : Nat) (q : MSt) (gs : OS) (i t lv z d : Nat), 2 ≤ wt → wt < tm → wt + x_sp x wt ≤ tm → (∀ a, 2 ≤ a → a ≤ wt → wt < a + x_sp x a → x_rp x a = 0) → it < x_z y → x_sp x wt ≤ D → At (gs.2 8) i (tpT x wt ++ [z]) → ¬ z = 7 → z < 126 → i + (tpT x wt).length < 768 → TA gs y t it → sml (tkT y it) → IV x y kf tm gs q wt → 1 ≤ lv → lv + (tpT x wt).length < 9999 → MLc F d gs t i lv (tkT y it).length (tpT x wt).length lv (m_ft x y D wt it q) (fun g2 q' => IV x y kf tm g2 q' (wt + x_sp x wt))
  | 0, wt, it, q, gs, i, t, lv, z, d, _, hwe, _, _, _, hD, _, _, _, _, _, _, _, _, _ => by
    have := (hx.1.1 wt (by have := hx.2.2.2.1; omega)).1
    omega
  | D + 1, wt, it, q, gs, i, t, lv, z, d, h2w, hwe, hse, hout, hit, hD, hpt, hz, hz2, hpl, hta, hsm, hI, hlv, hlv2 => by
    obtain ⟨hwx, hlx, hox, htm, hlst, hds, hk1, hk2, hnn⟩ := id hx
    have hwa := hwx.1 wt (by omega)
    have hT := tkT_tmm hwy hoy hit
    have hTp := tpT_tmm hwx hox (a := wt) (by omega)
    obtain ⟨hta1, hta2, hta3, _⟩ := hta
    obtain ⟨s0, es0⟩ := tkT_hd2 (y := y) (a := it)
    have hlen : 1 ≤ (tkT y it).length := by rw [es0, List.length_cons]; omega
    have hr0 : gs.2 22 t = nI (tkm (some (x_sg y it, x_st y it))) := by
      rw [es0] at hta3
      exact hta3.1
    have htm2 : tkm (some (x_sg y it, x_st y it)) < 2 ^ 30 := hsm _ (by rw [es0]; exact List.mem_cons_self)
    obtain ⟨s, es⟩ := tpT_hd (x := x) (a := wt)
    have hpi : gs.2 8 i = nI (o_tk (x_sg x wt)) := by rw [es] at hpt; exact hpt.1
    have hany := otk_any (hox wt (by omega))
    have hpl1 : 1 ≤ (tpT x wt).length := by rw [es, List.length_cons]; omega
    obtain ⟨f, hf⟩ : ∃ f, F = f + 1 + 1 := ⟨F - 2, by omega⟩
    have tok : ∀ {C : RO} (d : Nat), rf_matches_95 F (rf_matches_20 F d) gs (nI i) (nI t) (nI lv) (nI (o_tk (x_sg x wt))) = C → rf_matches_20 F (d + 1) gs (nI i) (nI t) (nI lv) = C := fun {C} d k => ml_tok hF hlv (by omega) hpi hany.2.1 hany.2.2.2 hTp.1 hpt (sml_of hTp.2 (by decide)) hz (by omega) (by omega) k
    have hrp0 := hout wt h2w (Nat.le_refl _) (by omega)
    unfold m_ft
    by_cases h95 : x_sg x wt = 95
    · rw [if_pos h95]
      have hl := hlx wt (by omega) (by rw [h95]; decide)
      have e1 := mp_wild (F := F) (d := f + 1) (gs := gs) (to := i + 1) (i := i) (t := t) (x4 := lI none) hF (by omega) (by omega) (by rw [hpi, otk_95 h95]) hT hta3 hsm hta2
      rw [← hf, mp_end (Nat.le_refl _) (by omega)] at e1
      rw [tpT_leaf (by rw [h95]; decide)]
      refine ⟨fun q' q9 => ?_, fun q9 => (by cases q9)⟩
      cases q9
      refine ⟨sI gs 41 (nI (t + (tkT y it).length)), d, Nat.le_refl _, tok d (Eq.trans (ml_good hany.2.2.2 e1 (sI_e _ _ _) (by omega) hlv) ?_), mc2.rf.i, ?_⟩
      · rw [otk_95 h95, if_neg (by decide), if_neg (by decide)]
        rfl
      · rw [hl.1]
        exact IV_ext (IV_cg hI rfl) (by rw [h95]; decide)
    · rw [if_neg h95]
      by_cases hnm : c_nm (x_sg x wt)
      · rw [if_pos hnm]
        have hne : ¬ x_sg x wt = 40 := by omega
        have hl := hlx wt (by omega) hne
        obtain ⟨h1, h2, h3, h4⟩ := id hI
        have hk := hk1 wt h2w hwe hnm hout
        have hc := h2 wt (Nat.le_refl _) hwe hnm
        obtain ⟨eb, hb⟩ := bind_1 (t := t) (nd := it) h1 (by omega) hk hc ⟨hta1, hta2, hta3, hsm⟩
        rw [eb]
        have e1 := mp_name (F := F) (d := f + 1) (gs := gs) (to := i + 1) (i := i) (t := t) (o := none) (c := x_sg x wt - 97) hF (by omega) (by omega) (by rw [hpi, otk_nm hnm]) (by omega) (fun n q9 => by cases q9) hT hta3 hsm hta2
        rw [← hf, mp_end (Nat.le_refl _) (by omega)] at e1
        rw [tpT_leaf hne]
        refine ⟨fun q' q9 => ?_, fun q9 => (by cases q9)⟩
        cases q9
        refine ⟨sI (bnd gs none (x_sg x wt - 97) t) 41 (nI (t + (tkT y it).length)), d, Nat.le_refl _, tok d (Eq.trans (ml_good hany.2.2.2 e1 (sI_e _ _ _) (by omega) hlv) ?_), (mch.b.m).i, ?_⟩
        · have := otk_nm hnm
          rw [if_neg (by omega), if_neg (by omega)]
          rfl
        · refine IV_cg (gs := bnd gs none (x_sg x wt - 97) t) ⟨hb, fun j p1 p2 p3 => ?_, fun j p1 p2 p3 p4 => ?_, fun c => ?_⟩ rfl
          · have hj : ¬ x_sg x j - 97 = x_sg x wt - 97 := fun q9 => by
              have := hds wt j h2w hwe (by omega) p2 hnm (by omega)
              omega
            show va_up q.1 (x_sg x wt - 97) 1 (x_sg x j - 97) = 0
            rw [va_up_ne _ _ hj]
            exact h2 j (by omega) p2 p3
          · have hj : ¬ x_sg x j - 97 = x_sg x wt - 97 := fun q9 => by
              rw [q9, hk] at p4
              cases p4
            show (sA gs 29 _).2 30 _ = nI (va_up q.1 (x_sg x wt - 97) 1 (x_sg x j - 97))
            rw [sA_n (by decide), va_up_ne _ _ hj]
            refine h3 j p1 ?_ p3 p4
            rw [hl.1] at p2
            have : j ≠ wt := fun q9 => hj (by rw [q9])
            omega
          · show va_up q.1 (x_sg x wt - 97) 1 c ≤ 60
            by_cases hj : c = x_sg x wt - 97
            · rw [hj, va_up_self]
              omega
            · rw [va_up_ne _ _ hj]
              exact h4 c
      · rw [if_neg hnm]
        have hok := hox wt (by omega)
        have hp := otk_pl hok hnm h95
        have heq := otk_tkm (k := x_st y it) hok hnm h95 (hoy it hit)
        by_cases hse2 : x_sg x wt = x_sg y it
        · rw [if_pos hse2]
          have htk := heq.mpr hse2
          have e1 := mp_eq (F := F) (d := f + 1) (gs := gs) (to := i + 1) (i := i) (t := t) (x4 := lI none) (w := o_tk (x_sg x wt)) (by omega) (by omega) hpi hp.1 hp.2 (by rw [← htk]; exact hr0) (by omega)
          rw [← hf, mp_end (Nat.le_refl _) (by omega)] at e1
          by_cases h40 : x_sg x wt = 40
          · rw [if_pos h40]
            have h40y : x_sg y it = 40 := by rw [← hse2]; exact h40
            have hwy2 := hwy.1 it hit
            have hsy := hwy.2 it hit
            have hity := t_ch_le hwy.1 _ _ _ hwy2.2.1 hwy2.2.2
            have eT : tkT y it = 1 :: (tkS y (x_it y it) (it + 1) ++ [2]) := tkT_list hwy hit h40y
            have eP : tpT x wt = 1 :: (tpS x (x_it x wt) (wt + 1) ++ [2]) := tpT_list hwx (by omega) h40
            have hw1 : o_tk (x_sg x wt) = 1 := by rw [h40]; decide
            rw [eT] at hta2 hta3 hsm ⊢
            have hpt' := At_l hpt
            rw [eP] at hpt' hpl hlv2 ⊢
            have l1 : (1 :: (tkS y (x_it y it) (it + 1) ++ [2])).length = (tkS y (x_it y it) (it + 1)).length + 1 + 1 := by simp
            have l2 : (1 :: (tpS x (x_it x wt) (wt + 1) ++ [2])).length = (tpS x (x_it x wt) (wt + 1)).length + 1 + 1 := by simp
            rw [l1] at hta2 ⊢
            rw [l2] at hpl hlv2 ⊢
            have ih := ml_lp (x := x) (y := y) (kf := kf) (F := F) (tm := tm) (g := m_ft x y D) (D := D) hF hx hwy hly hoy rfl (fun wt it q gs i t lv z d => ml_ft hF hx hwy hly hoy D wt it q gs i t lv z d) (x_it y it) 0 (wt + 1) (x_it x wt) (it + 1) (wt + x_sp x wt) (it + x_sp y it) q (sI gs 41 (nI (t + 1))) (i + 1) (t + 1) (lv + 1) d hwa.2.2 (hlst wt hwe h40) hse (by omega) (fun a p1 p2 p3 => hout a p1 (by omega) (by omega)) (fun a p1 p2 => by
              by_cases h : a = wt
              · rw [h]; exact Or.inl (Nat.le_refl _)
              · by_cases h6 : a + x_sp x a ≤ wt
                · exact Or.inr (by omega)
                · have hch := ch_end (x := x) a (fun i r1 r2 => hwx.1 i r2) (x_sp x a) (x_it x a) (a + 1) (a + x_sp x a) wt (hwx.1 a (by omega)).2.1 (by omega) (by omega) (hwx.1 a (by omega)).2.2 (by omega) (by omega)
                  exact Or.inl hch) hwy2.2.2 hwy2.2.1 (by omega) (by omega) hpt'.2 (by omega) hta3.2 (by omega) (sml_l (sml_t hsm)) (IV_ext (IV_cg hI rfl) hnm) (by omega) (by omega)
            have e2 : rf_matches_20 F (d + ((tpS x (x_it x wt) (wt + 1)).length + 1 + 1)) gs (nI i) (nI t) (nI lv) = rf_matches_20 F (d + ((tpS x (x_it x wt) (wt + 1)).length + 1)) (sI gs 41 (nI (t + 1))) (nI (i + 1)) (nI (t + 1)) (nI (lv + 1)) := by
              rw [show d + ((tpS x (x_it x wt) (wt + 1)).length + 1 + 1) = (d + ((tpS x (x_it x wt) (wt + 1)).length + 1)) + 1 by omega]
              refine tok _ (Eq.trans (ml_good hany.2.2.2 e1 (sI_e _ _ _) (by omega) hlv) ?_)
              rw [if_pos hw1]
            refine ⟨fun q' q9 => ?_, fun q9 => ?_⟩
            · obtain ⟨g3, d3, hd3, e3, hm3, hI3⟩ := ih.1 q' q9
              refine ⟨g3, d3, hd3, ?_, mc2.rf.i.tr hm3, hI3⟩
              rw [e2, e3]
              congr 2 <;> omega
            · obtain ⟨g3, e3, hm3⟩ := ih.2 q9
              refine ⟨g3, ?_, mc2.rf.i.tr hm3⟩
              rw [e2, e3]
          · rw [if_neg h40]
            have h40y : ¬ x_sg y it = 40 := by rw [← hse2]; exact h40
            have hl := hlx wt (by omega) h40
            rw [tkT_leaf h40y, tpT_leaf h40]
            refine ⟨fun q' q9 => ?_, fun q9 => (by cases q9)⟩
            cases q9
            refine ⟨sI gs 41 (nI (t + 1)), d, Nat.le_refl _, tok d (Eq.trans (ml_good hany.2.2.2 e1 (sI_e _ _ _) (by omega) hlv) ?_), mc2.rf.i, ?_⟩
            · have := otk_leaf hok h40
              rw [if_neg (by omega), if_neg (by omega)]
              rfl
            · rw [hl.1]
              exact IV_ext (IV_cg hI rfl) hnm
        · rw [if_neg hse2]
          refine MLc.bad (fun d => tok d (ml_bad ?_)) mc2.rf.i hpl1
          have e1 := mp_ne (F := F) (d := f + 1) (gs := gs) (to := i + 1) (i := i) (t := t) (x4 := lI none) (w := o_tk (x_sg x wt)) (by omega) (by omega) hpi hp.1 hp.2 hr0 htm2 (fun q9 => hse2 (heq.mp q9)) (by omega)
          rw [← hf] at e1
          exact e1
/-- behind the head, each item is matched -/
theorem m_lp_fs {g : Nat → Nat → MSt → Option MSt} : ∀ (n k wt lf it : Nat) (q : MSt), 1 ≤ k → m_lp x y g 1 n k wt lf it q = m_lp x y g 0 n k wt lf it q
  | 0, k, wt, lf, it, q, h => rfl
  | n + 1, k, wt, lf, it, q, h => by
    unfold m_lp
    rw [if_pos h, if_pos (Nat.zero_le _)]
    by_cases hl : lf = 0
    · rw [if_pos hl, if_pos hl]
    · rw [if_neg hl, if_neg hl]
      cases g wt it q with
      | none => rfl
      | some q1 =>
        show (if x_rp x wt = 0 then _ else _) = (if x_rp x wt = 0 then _ else _)
        rw [m_lp_fs n (k + 1) _ _ _ q1 (by omega), m_lp_fs n (k + 1) _ _ _ q1 (by omega)]
/-- a rule's pattern against a use -/
theorem match_ok {gs : OS} {us pos j m : Nat} (hF : 5000 ≤ F) (hx : PT x kf tm) (hwy : t_wf6 y) (hly : t_lf y) (hoy : t_ok y) (h2 : 2 ≤ tm) (h0 : x_sp x 0 = tm) (h40 : x_sg x 0 = 40) (hnm : c_nm (x_sg x 1)) (hr1 : x_rp x 1 = 0) (hus : us < x_z y) (hy40 : x_sg y us = 40) (hm : x_it y us = m + 1) (hh : c_nm (x_sg y (us + 1))) (hj : j < 12) (hpt : At (gs.2 8) (64 * j) (tpT x 0)) (hpl : (tpT x 0).length ≤ 64) (h36 : gs.1 36 = nI pos) (hrow : At (gs.2 22) pos (tkT y us)) (hrl : pos + (tkT y us).length ≤ 2400) (hsm : sml (tkT y us)) :
    (∀ q', e_mt x y us = some q' → ∃ g2, rf_matches F gs (nI j) = some (1, g2) ∧ mc2 gs g2 ∧ IV x y kf tm g2 q' tm) ∧ (e_mt x y us = none → ∃ g2, rf_matches F gs (nI j) = some (0, g2) ∧ mc2 gs g2) := by
  obtain ⟨hwx, hlx, hox, htm, hlst, hds, hk1, hk2, hnn⟩ := id hx
  have hw0 := hwx.1 0 (by omega)
  have hs0 := hwx.2 0 (by omega)
  have hwy2 := hwy.1 us hus
  have hsy := hwy.2 us hus
  have hity := t_ch_le hwy.1 _ _ _ hwy2.2.1 hwy2.2.2
  have hl1 := hlx 1 (by omega) (by omega)
  have hly1 := hly (us + 1) (by omega) (by omega)
  obtain ⟨lf, hlf⟩ : ∃ lf, x_it x 0 = lf + 1 := by
    cases h : x_it x 0 with
    | zero =>
      rw [h] at hw0
      have : (0 : Nat) + 1 = 0 + x_sp x 0 := hw0.2.2
      omega
    | succ lf => exact ⟨lf, rfl⟩
  have hc0 := hw0.2.2
  rw [hlf] at hc0
  have hc2 : t_ch x lf 2 tm := by
    have := hc0.2
    rw [hl1.1, h0, Nat.zero_add tm] at this
    exact this
  have hcy2 : t_ch y m (us + 2) (us + x_sp y us) := by
    have := hwy2.2.2
    rw [hm] at this
    have := this.2
    rw [hly1.1] at this
    exact this
  have er : tp_r x 1 = [] := by unfold tp_r; rw [if_pos hr1]
  have eP : tpT x 0 = 1 :: o_tk (x_sg x 1) :: (tpS x lf 2 ++ [2]) := by
    rw [tpT_list hwx (by omega) h40, hlf, tpS_s, er, tpT_leaf (show ¬ x_sg x 1 = 40 by omega), hl1.1]
    rfl
  have eT : tkT y us = 1 :: tkm (some (x_sg y (us + 1), x_st y (us + 1))) :: (tkS y m (us + 2) ++ [2]) := by
    rw [tkT_list hwy hus hy40, hm, tkS_s, tkT_leaf (by omega), hly1.1]
    rfl
  rw [eP] at hpt hpl
  rw [eT] at hrow hrl hsm
  have l1 : (1 :: tkm (some (x_sg y (us + 1), x_st y (us + 1))) :: (tkS y m (us + 2) ++ [2])).length = (tkS y m (us + 2)).length + 3 := by simp
  have l2 : (1 :: o_tk (x_sg x 1) :: (tpS x lf 2 ++ [2])).length = (tpS x lf 2).length + 3 := by simp
  rw [l1] at hrl
  rw [l2] at hpl
  have hls := hlst 0 (by omega) h40
  rw [hlf] at hls
  have hls2 : lst x lf 2 := by
    have := hls.2
    rw [hl1.1] at this
    exact this
  have hIV : IV x y kf tm gs (fun _ => 0, fun _ _ => 0) 2 := ⟨fun c hc => ⟨fun _ h => absurd h (Nat.lt_irrefl _), fun _ k h => absurd h (Nat.not_lt_zero _)⟩, fun _ _ _ _ => rfl, fun j p1 p2 _ _ => by omega, fun _ => Nat.zero_le _⟩
  have key := ml_lp (x := x) (y := y) (kf := kf) (F := F) (tm := tm) (g := m_ft x y 60) (D := 60) hF hx hwy hly hoy rfl (fun wt it q gs i t lv z d => ml_ft hF hx hwy hly hoy 60 wt it q gs i t lv z d) m 1 2 lf (us + 2) tm (us + x_sp y us) (fun _ => 0, fun _ _ => 0) gs (64 * j + 2) (pos + 2) 1 (F - ((tpS x lf 2).length + 1)) hc2 hls2 (Nat.le_refl _) (Nat.le_refl _) (fun a p1 p2 => by omega) (fun a p1 p2 => by omega) hcy2 hwy2.2.1 (by omega) (by omega) hpt.2.2 (by omega) hrow.2.2 (by omega) (sml_l (sml_t (sml_t hsm))) hIV (Nat.le_refl _) (by omega)
  have em : e_mt x y us = m_lp x y (m_ft x y 60) 0 m 1 2 lf (us + 2) (fun _ => 0, fun _ _ => 0) := by
    unfold e_mt m_fi
    rw [hm, hlf]
    show (if lf + 1 = 0 then none else match (if 1 ≤ 0 then m_ft x y 60 (0 + 1) (us + 1) (fun _ => 0, fun _ _ => 0) else some ((fun _ => 0, fun _ _ => 0) : MSt)) with | none => none | some q1 => if x_rp x (0 + 1) = 0 then m_lp x y (m_ft x y 60) 1 m (0 + 1) (0 + 1 + x_sp x (0 + 1)) (lf + 1 - 1) (us + 1 + x_sp y (us + 1)) q1 else m_lp x y (m_ft x y 60) 1 m (0 + 1) (0 + 1) (lf + 1) (us + 1 + x_sp y (us + 1)) q1) = _
    rw [if_neg (by omega), if_neg (by omega)]
    show (if x_rp x 1 = 0 then m_lp x y (m_ft x y 60) 1 m 1 (1 + x_sp x 1) lf (us + 1 + x_sp y (us + 1)) _ else _) = _
    rw [if_pos hr1, m_lp_fs _ _ _ _ _ _ (Nat.le_refl _), hl1.1, hly1.1]
  have eF : F - ((tpS x lf 2).length + 1) + ((tpS x lf 2).length + 1) = F := by omega
  unfold MLc at key
  rw [eF] at key
  have e0 : rf_matches F gs (nI j) = rf_matches_20 F F gs (nI (64 * j + 2)) (nI (pos + 2)) (nI 1) := by
    rw [rf_matches, mul64, h36]
    have e1 : nI (64 * j) + 2 = nI (64 * j + 2) := nI_add _ 2
    have e2 : nI pos + 2 = nI (pos + 2) := nI_add _ 2
    rw [e1, e2]
    rfl
  rw [em, e0]
  refine ⟨fun q' q9 => ?_, fun q9 => key.2 q9⟩
  obtain ⟨g2, d2, hd2, e2, hm2, hI2⟩ := key.1 q' q9
  refine ⟨g2, ?_, hm2, hI2⟩
  obtain ⟨d3, hd3⟩ : ∃ d3, d2 = d3 + 1 := ⟨d2 - 1, by omega⟩
  rw [e2, hd3, rf_matches_20]
  exact rc_leT (a := 0) (b := 0) rfl rfl (Nat.le_refl _) rfl
end ML2
