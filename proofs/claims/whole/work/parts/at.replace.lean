/-! The reference's replace, and a replacement by rows. -/
/-- what is known of a rule's row -/
def RG (R : RSt) : Prop := PT (r_x R) (r_kf R) (r_tm R) ∧ 2 ≤ r_tm R ∧ x_sp (r_x R) 0 = r_tm R ∧ x_sg (r_x R) 0 = 40 ∧ c_nm (x_sg (r_x R) 1) ∧ x_rp (r_x R) 1 = 0 ∧ r_tm R < x_z (r_x R) ∧ r_tm R + x_sp (r_x R) (r_tm R) = x_z (r_x R) ∧ x_tms (r_x R) (r_tm R) ∧ (∀ c, r_kf R c < 3) ∧
  (∀ a b, r_tm R ≤ a → a < b → b < x_z (r_x R) → ¬ x_rp (r_x R) a = 0 → ¬ x_rp (r_x R) b = 0 → a + x_sp (r_x R) a ≤ b) ∧
  (∀ j, r_tm R ≤ j → j < x_z (r_x R) → k_many (r_kf R) (x_sg (r_x R) j) → ∃ i, r_tm R ≤ i ∧ i ≤ j ∧ j < i + x_sp (r_x R) i ∧ ¬ x_rp (r_x R) i = 0) ∧
  x_rp (r_x R) (r_tm R) = 0 ∧
  (∀ c, c < 26 → ¬ r_kf R c = 0 → ∃ i, 2 ≤ i ∧ i < r_tm R ∧ c_nm (x_sg (r_x R) i) ∧ x_sg (r_x R) i - 97 = c) ∧
  (∀ (y : TSt) (us : Nat) (q r : MSt), m_fi (r_x R) y 60 0 us 1 q = some r → ∀ v, v < 26 → r_kf R v = 1 → 0 < r.1 v)
/-- a rule as the reference keeps it -/
def RH (gs : OS) (j : Nat) (R : RSt) : Prop := gs.2 6 j = nI (x_sg (r_x R) 1 - 97) ∧ At (gs.2 8) (64 * j) (tpT (r_x R) 0) ∧ (tpT (r_x R) 0).length ≤ 64 ∧ gs.2 9 j = nI (tpT (r_x R) (r_tm R)).length ∧ At (gs.2 10) (64 * j) (tpT (r_x R) (r_tm R) ++ [0]) ∧ (tpT (r_x R) (r_tm R)).length < 64 ∧ ∀ c, c < 26 → ((gs.2 11 j) >>> (nI c &&& 31)) &&& 1 = nI (if r_kf R c = 1 then 1 else 0) ∧ ((gs.2 12 j) >>> (nI c &&& 31)) &&& 1 = nI (if r_kf R c = 2 then 1 else 0)
def RS (gs : OS) (rt : Nat → RSt) (n : Nat) : Prop := gs.1 5 = nI n ∧ n ≤ 12 ∧ ∀ j, j < n → RG (rt j) ∧ RH gs j (rt j)
theorem RH_fr {gs g2 : OS} {j : Nat} {R : RSt} (h : RH gs j R) (hf : fr gs g2) : RH g2 j R := by
  unfold RH at h ⊢
  rw [hf.2 6 (by decide), hf.2 8 (by decide), hf.2 9 (by decide), hf.2 10 (by decide), hf.2 11 (by decide), hf.2 12 (by decide)]
  exact h
theorem RS_fr {gs g2 : OS} {rt : Nat → RSt} {n : Nat} (h : RS gs rt n) (hf : fr gs g2) : RS g2 rt n := ⟨(hf.1 5 (by decide)).trans h.1, h.2.1, fun j hj => ⟨(h.2.2 j hj).1, RH_fr (h.2.2 j hj).2 hf⟩⟩
section REP
variable {F n : Nat} {rt : Nat → RSt} {y : TSt} {us pos m : Nat}
theorem ff_lp (hF : 5000 ≤ F) (hwy : t_wf6 y) (hly : t_lf y) (hoy : t_ok y) (hus : us < x_z y) (hy40 : x_sg y us = 40) (hm : x_it y us = m + 1) (hh : c_nm (x_sg y (us + 1))) (hpl : pos + (tkT y us).length ≤ 2400) (hsm : sml (tkT y us)) : ∀ (k i d : Nat) (gs : OS), i + k = n → k < d → RS gs rt n → gs.1 36 = nI pos → At (gs.2 22) pos (tkT y us) →
    ∃ g2, mc2 gs g2 ∧ (e_ff rt y us k i = none → rf_replace_31 F d gs (nI (x_sg y (us + 1) - 97)) (nI i) = some (0, sI g2 40 2)) ∧ (∀ j mm, e_ff rt y us k i = some (j, mm) → rf_replace_31 F d gs (nI (x_sg y (us + 1) - 97)) (nI i) = rf_replace_63 F g2 (nI j) ∧ j < n ∧ IV (r_x (rt j)) y (r_kf (rt j)) (r_tm (rt j)) g2 mm (r_tm (rt j)) ∧ e_mt (r_x (rt j)) y us = some mm)
  | 0, i, d, gs, hik, hd, hR, h36, hrow => by
    obtain ⟨d, rfl⟩ : ∃ e, d = e + 1 := ⟨d - 1, by omega⟩
    have hn := hR.2.1
    refine ⟨gs, mc2.rf, fun _ => ?_, fun j mm h => by cases h⟩
    rw [rf_replace_31]
    refine rc_leT hR.1 rfl (by omega) ?_
    rw [rf_replace_63]
    refine rc_eqE rfl hR.1 (by omega) ?_
    rfl
  | k + 1, i, d, gs, hik, hd, hR, h36, hrow => by
    obtain ⟨d, rfl⟩ : ∃ e, d = e + 1 := ⟨d - 1, by omega⟩
    have hn := hR.2.1
    obtain ⟨hG, hH⟩ := hR.2.2 i (by omega)
    obtain ⟨g1, g2, g3, g4, g5, g6, g7, g8, g9, g10, g11, g12, g13, g14, g15⟩ := id hG
    obtain ⟨p1, p2, p3, p4, p5, p6, p7⟩ := id hH
    have hmac : gs.2 6 (nI i).toNatClampNeg = nI (x_sg (r_x (rt i)) 1 - 97) := cl_at p1
    have hd0 : ∀ {C : RO}, _ = C → rf_replace_31 F (d + 1) gs (nI (x_sg y (us + 1) - 97)) (nI i) = C := fun {C} k => by
      rw [rf_replace_31]
      refine rc_leF hR.1 rfl (by omega) ?_
      exact rc_in rfl (by omega) k
    unfold e_ff
    by_cases hmc : r_mc (rt i) = x_sg y (us + 1)
    · rw [if_pos hmc]
      have hmc' : x_sg (r_x (rt i)) 1 = x_sg y (us + 1) := hmc
      have hmt := match_ok (x := r_x (rt i)) (kf := r_kf (rt i)) (tm := r_tm (rt i)) (gs := gs) (j := i) hF g1 hwy hly hoy g2 g3 g4 g5 g6 hus hy40 hm hh (by omega) p2 p3 h36 hrow hpl hsm
      cases he : e_mt (r_x (rt i)) y us with
      | none =>
        obtain ⟨g, e1, hc1⟩ := hmt.2 he
        obtain ⟨gf, hcf, hf1, hf2⟩ := ff_lp hF hwy hly hoy hus hy40 hm hh hpl hsm k (i + 1) d g (by omega) (by omega) (RS_fr hR hc1.fr) ((hc1.1 36 (by decide)).trans h36) (by rw [hc1.2 22 (by decide) (by decide) (by decide)]; exact hrow)
        have hst : ∀ {C : RO}, rf_replace_31 F d g (nI (x_sg y (us + 1) - 97)) (nI (i + 1)) = C → rf_replace_31 F (d + 1) gs (nI (x_sg y (us + 1) - 97)) (nI i) = C := fun {C} k => hd0 (by
          refine rc_eqE hmac rfl (by rw [hmc']) ?_
          refine rc_bd e1 ?_
          refine rc_eqE (a := 0) (b := 0) rfl rfl rfl ?_
          rw [rf_replace_57, nI_1]
          exact k)
        exact ⟨gf, hc1.tr hcf, fun h => hst (hf1 h), fun j mm h => ⟨hst (hf2 j mm h).1, (hf2 j mm h).2⟩⟩
      | some mm =>
        obtain ⟨g, e1, hc1, hI⟩ := hmt.1 mm he
        refine ⟨g, hc1, fun h => (by cases h), fun j mm' h => ?_⟩
        cases h
        refine ⟨hd0 ?_, by omega, hI, he⟩
        refine rc_eqE hmac rfl (by rw [hmc']) ?_
        refine rc_bd e1 ?_
        exact rc_eqF (a := 1) (b := 0) rfl rfl (by decide) rfl
    · rw [if_neg hmc]
      have hmc' : ¬ x_sg (r_x (rt i)) 1 - 97 = x_sg y (us + 1) - 97 := fun q => hmc (by
        show x_sg (r_x (rt i)) 1 = x_sg y (us + 1)
        omega)
      obtain ⟨gf, hcf, hf1, hf2⟩ := ff_lp hF hwy hly hoy hus hy40 hm hh hpl hsm k (i + 1) d gs (by omega) (by omega) hR h36 hrow
      have hst : ∀ {C : RO}, rf_replace_31 F d gs (nI (x_sg y (us + 1) - 97)) (nI (i + 1)) = C → rf_replace_31 F (d + 1) gs (nI (x_sg y (us + 1) - 97)) (nI i) = C := fun {C} k => hd0 (by
        refine rc_eqF hmac rfl hmc' ?_
        rw [rf_replace_57, nI_1]
        exact k)
      exact ⟨gf, hcf, fun h => hst (hf1 h), fun j mm h => ⟨hst (hf2 j mm h).1, (hf2 j mm h).2⟩⟩
end REP
/-- goThrough of a rule that matched -/
theorem through_ok {F : Nat} {R : RSt} {y : TSt} {q : MSt} {gs : OS} {md j pb : Nat} {s : ES} (hF : 5000 ≤ F) (hG : RG R) (hH : RH gs j R) (hj : j < 12) (hmd : md ≤ 12) (hpb : pb < 2) (hwy : t_wf6 y) (hoy : t_ok y) (hM : GM gs y (r_kf R) q md j) (h1 : pb = 1 → EM gs s ∧ pe (r_x R) (r_kf R) q.1 (r_tm R) (x_z (r_x R))) :
    ∃ g2 gd, rf_goThrough F gs (nI j) (nI pb) = some (nI gd, g2) ∧ gd < 2 ∧ (gd = 1 ↔ pe (r_x R) (r_kf R) q.1 (r_tm R) (x_z (r_x R))) ∧ (pb = 0 → g2 = gs) ∧ (pb = 1 → ec gs g2 ∧ EM g2 (em ((e_tk R y q md).map tkm) s)) ∧ (pe (r_x R) (r_kf R) q.1 (r_tm R) (x_z (r_x R)) → lv0 ((e_tk R y q md).map tkm) ∧ tmm ((e_tk R y q md).map tkm)) := by
  obtain ⟨g1, g2, g3, g4, g5, g6, g7, g8, g9, g10, g11, g12, g13, g14, g15⟩ := id hG
  obtain ⟨p1, p2, p3, p4, p5, p6, p7⟩ := id hH
  obtain ⟨hwx, hlx, hox, htm, hlst, hds, hk1, hk2, hnn⟩ := id g1
  have hsp := hwx.2 (r_tm R) g7
  have hw := hwx.1 (r_tm R) g7
  have er : tp_r (r_x R) (r_tm R) = [] := by unfold tp_r; rw [if_pos g13]
  have eS : tpS (r_x R) 1 (r_tm R) = tpT (r_x R) (r_tm R) := by
    rw [tpS_s, er]
    show tpT (r_x R) (r_tm R) ++ ([] ++ []) = _
    rw [List.append_nil, List.append_nil]
  have eL : ∀ D, f_l (r_x R) (f_cp (r_x R) (r_kf R) q.1) (f_n (r_x R) (r_kf R) (f_cp (r_x R) (r_kf R) q.1) (f_vt y q.2) md D) 0 1 (r_tm R) = f_n (r_x R) (r_kf R) (f_cp (r_x R) (r_kf R) q.1) (f_vt y q.2) md D (r_tm R) 0 := by
    intro D
    show (if x_rp (r_x R) (r_tm R) = 0 then _ else _) ++ [] = _
    rw [if_pos g13, List.append_nil]
  have key := gt_l (x := r_x R) (y := y) (kf := r_kf R) (q := q) (F := F) (md := md) (r := j) (pb := pb) (to := 64 * j + (tpT (r_x R) (r_tm R)).length) (tm := r_tm R) hF hj hmd hpb (by omega) hwx hlx hox g9 g10 hwy hoy g11 g12 (x_z (r_x R)) 1 (r_tm R) (x_z (r_x R)) (64 * j) (F - (tpT (r_x R) (r_tm R)).length) 0 1 60 gs s (by omega) ⟨by omega, g8⟩ (Nat.le_refl _) (Nat.le_refl _) (fun i q1 q2 => by omega) (fun i q1 q2 => by omega) (by omega) (by rw [eS]; exact p5) (by decide) (by decide) (by rw [eS]; omega) (by rw [eS]; omega) (by decide) hM h1
  rw [eS, eL] at key
  obtain ⟨⟨gg, d2, gd2, hd2, e2, hg2, hp2, h02, h12⟩, hlv⟩ := key
  refine ⟨gg, gd2, ?_, hg2, by rw [hp2]; exact ⟨fun h => h.2, fun h => ⟨rfl, h⟩⟩, h02, h12, fun hp => ⟨hlv hp, ?_⟩⟩
  · rw [rf_goThrough]
    refine rc_in rfl hj ?_
    have e64 : (64 : Int32) * nI j = nI (64 * j) := mul64
    have e9 : gs.2 9 (nI j).toNatClampNeg = nI (tpT (r_x R) (r_tm R)).length := cl_at p4
    rw [e64, e9, nI_add]
    have eF : F - (tpT (r_x R) (r_tm R)).length + (tpT (r_x R) (r_tm R)).length = F := by omega
    rw [eF] at e2
    refine Eq.trans e2 ?_
    obtain ⟨d3, hd3⟩ : ∃ d3, d2 = d3 + 1 := ⟨d2 - 1, by omega⟩
    rw [hd3, rf_goThrough_18]
    refine rc_leT rfl rfl (Nat.le_refl _) ?_
    refine rc_ib ?_ rfl
    rcases (show gd2 = 0 ∨ gd2 = 1 by omega) with rfl | rfl
    · exact Or.inl rfl
    · exact Or.inr rfl
  · -- one term
    unfold e_tk
    by_cases h40 : x_sg (r_x R) (r_tm R) = 40
    · have e : (f_n (r_x R) (r_kf R) (f_cp (r_x R) (r_kf R) q.1) (f_vt y q.2) md (59 + 1) (r_tm R) 0).map tkm = 1 :: ((f_l (r_x R) (f_cp (r_x R) (r_kf R) q.1) (f_n (r_x R) (r_kf R) (f_cp (r_x R) (r_kf R) q.1) (f_vt y q.2) md 59) 0 (x_it (r_x R) (r_tm R)) (r_tm R + 1)).map tkm ++ [2]) := by
        rw [f_n, if_neg (c := k_var (r_kf R) (x_sg (r_x R) (r_tm R))) (fun q9 => by have := q9.1; omega), if_neg (c := c_nm (x_sg (r_x R) (r_tm R))) (by omega), if_pos h40, List.map_cons, List.map_append, tkm_open h40]
        rfl
      refine Or.inr ⟨_, e, ?_⟩
      have hpt := At_l p5
      rw [tpT_list hwx g7 h40] at hpt
      have l2 : (tpT (r_x R) (r_tm R)).length = (tpS (r_x R) (x_it (r_x R) (r_tm R)) (r_tm R + 1)).length + 2 := by rw [tpT_list hwx g7 h40]; simp
      have hin := gt_l (x := r_x R) (y := y) (kf := r_kf R) (q := q) (F := F) (md := md) (r := j) (pb := pb) (to := 64 * j + (tpT (r_x R) (r_tm R)).length) (tm := r_tm R) hF hj hmd hpb (by omega) hwx hlx hox g9 g10 hwy hoy g11 g12 (x_z (r_x R)) (x_it (r_x R) (r_tm R)) (r_tm R + 1) (r_tm R + x_sp (r_x R) (r_tm R)) (64 * j + 1) 0 2 1 59 gs s (by omega) hw.2.2 hw.2.1 (by omega) (fun i q1 q2 q3 => by
        have : i = r_tm R := by omega
        rw [this]; exact g13) (fun i q1 q2 => by
        have : i = r_tm R := by omega
        rw [this]; exact Or.inl (Nat.le_refl _)) (by omega) hpt.2 (by decide) (by decide) (by omega) (by omega) (by decide) hM (fun h => ⟨(h1 h).1, fun i q1 q2 => hp i (by omega) (by omega)⟩)
      exact (hin.2 (fun i q1 q2 => hp i (by omega) (by omega))).1
    · have e := leaf_etk (x := r_x R) (y := y) (kf := r_kf R) (cp := f_cp (r_x R) (r_kf R) q.1) (q := q) (md := md) (D := 59) (k0 := 0) g10 (g9 _ (Nat.le_refl _) g7) h40
      show tmm ((f_n (r_x R) (r_kf R) (f_cp (r_x R) (r_kf R) q.1) (f_vt y q.2) md (59 + 1) (r_tm R) 0).map tkm)
      rw [e]
      have hany := otk_leaf (hox (r_tm R) g7) h40
      have hnm2 : 100 ≤ o_tk (x_sg (r_x R) (r_tm R)) → ¬ r_kf R (o_tk (x_sg (r_x R) (r_tm R)) - 100) = 2 := by
        intro h100 hk2'
        by_cases hn : c_nm (x_sg (r_x R) (r_tm R))
        · have e' := otk_nm hn
          obtain ⟨i0, q1, q2, q3, q4⟩ := g12 (r_tm R) (Nat.le_refl _) g7 ⟨hn, by rw [← hk2']; congr 1; omega⟩
          have : i0 = r_tm R := by omega
          rw [this] at q4
          exact q4 g13
        · have := otk_tm (g9 _ (Nat.le_refl _) g7) hn
          omega
      unfold etk
      by_cases h100 : o_tk (x_sg (r_x R) (r_tm R)) < 100
      · rw [if_pos h100]
        exact Or.inl ⟨_, rfl, by omega, by omega⟩
      · rw [if_neg h100]
        by_cases k1 : r_kf R (o_tk (x_sg (r_x R) (r_tm R)) - 100) = 1
        · rw [if_pos k1]
          exact tkT_tmm hwy hoy (GM_1 hM hany.2.2 (by omega) k1)
        · rw [if_neg k1, if_neg (hnm2 (by omega))]
          exact Or.inl ⟨_, rfl, by omega, by omega⟩
/-- what was matched, as a template uses it -/
theorem GM_of {gs : OS} {R : RSt} {y : TSt} {us j md : Nat} {mm : MSt} (hG : RG R) (hH : RH gs j R) (hI : IV (r_x R) y (r_kf R) (r_tm R) gs mm (r_tm R)) (he : e_mt (r_x R) y us = some mm) (h37 : gs.1 37 = nI md) : GM gs y (r_kf R) mm md j := by
  obtain ⟨g1, g2, g3, g4, g5, g6, g7, g8, g9, g10, g11, g12, g13, g14, g15⟩ := id hG
  obtain ⟨p1, p2, p3, p4, p5, p6, p7⟩ := id hH
  obtain ⟨i1, i2, i3, i4⟩ := hI
  refine ⟨i1, fun c hc hk => ?_, i4, p7, h37, fun c hc hk => g15 y us _ mm he c hc hk⟩
  obtain ⟨i, q1, q2, q3, q4⟩ := g14 c hc (by omega)
  have := i3 i q1 q2 q3 (by rw [q4]; exact hk)
  rw [q4] at this
  exact this
