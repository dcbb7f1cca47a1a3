theorem PN_le {tk : Nat → Nat} {s0 p0 p : Nat} {x : TSt} {pn : Nat → Nat} (h : PN tk s0 p0 x pn p) : ∀ k, s0 + k < x_z x → p0 + k ≤ pn (s0 + k)
  | 0, hk => (h.1 s0 (Nat.le_refl _) hk).1
  | k + 1, hk => by
    have ih := PN_le h k (by omega)
    have := h.2.1 (s0 + k) (s0 + (k + 1)) (by omega) (by omega) hk
    omega
theorem PN_z {tk : Nat → Nat} {s0 p0 p : Nat} {x : TSt} {pn : Nat → Nat} (h : PN tk s0 p0 x pn p) (hs : s0 < x_z x) : x_z x - s0 ≤ p - p0 ∧ p0 ≤ p := by
  obtain ⟨k, hk⟩ : ∃ k, x_z x = s0 + k + 1 := ⟨x_z x - s0 - 1, by omega⟩
  have h1 := PN_le h k (by omega)
  have h2 := (h.1 (s0 + k) (by omega) (by omega)).2.1
  have h3 := (h.1 (s0 + k) (by omega) (by omega)).1
  omega
theorem lsr_F {gs : OS} {x : TSt} {pn : Nat → Nat} {fs : Prop} (h : lsr gs x pn fs) (hf : ¬ fs) : lsr gs x pn False := by
  obtain ⟨a, b, c, d⟩ := h
  refine ⟨a, b, c, d.imp (fun ⟨q1, q2⟩ => ⟨q1, Or.inr (q2.resolve_left hf)⟩) id⟩
theorem lsr_T {gs : OS} {x : TSt} {pn : Nat → Nat} {fs : Prop} (h : lsr gs x pn False) : lsr gs x pn fs := by
  obtain ⟨a, b, c, d⟩ := h
  exact ⟨a, b, c, d.imp (fun ⟨q1, q2⟩ => ⟨q1, Or.inr (q2.resolve_left (fun q => q))⟩) id⟩
theorem lsr_cg {gs g2 : OS} {x : TSt} {pn : Nat → Nat} {fs : Prop} (h : lsr gs x pn fs) (h13 : g2.1 13 = gs.1 13) (h16 : g2.1 16 = gs.1 16) (h17 : g2.1 17 = gs.1 17) (h2 : g2.2 = gs.2) : lsr g2 x pn fs := by
  unfold lsr at h ⊢
  rw [h13, h16, h17, h2]
  exact h
theorem nm97 {a c : Nat} (h : c_nm c) (e : a = c) : a = c - 97 + 97 := by omega
theorem nm97' {a c : Nat} (h : c_nm c) (e : a = c - 97 + 97) : a = c := by omega
theorem pat_tok {F N p c : Nat} {R : List Nat} {x : TSt} {pn : Nat → Nat} {gs : OS} {tk : Nat → Nat} (hF : 5000 ≤ F) (hS : PS gs tk N x pn p) (h1 : 1 ≤ x_dp x) (hp : p < N) (hN : N ≤ 60) (htk : tk p = o_tk c) (hnx : tk (p + 1) = 2 ↔ R.head? = some 41) (hcb : c < 65536) (htb : ∀ i, tk i < 126) :
    (∀ y, pcond c R x → t_take 60 0 8 1 c x = some y → ∃ g2 pn', rf_patternToken F gs (nI p) = some (1, g2) ∧ pcg gs g2 ∧ PS g2 tk N y pn' (p + 1)) ∧ (¬ (pcond c R x ∧ ∃ y, t_take 60 0 8 1 c x = some y) → ∃ g2, rf_patternToken F gs (nI p) = some (0, g2) ∧ pcg gs g2) := by
  obtain ⟨hL, hP, hSB, hB, hB2, hli, hz2, htok, h3, hfs, hm1, hm0⟩ := hS
  have hat : gs.2 4 (nI p).toNatClampNeg = nI (o_tk c) := cl_at (by rw [htok p (by omega), htk])
  have hzp := (PN_z hP (by omega)).1
  have hotb : o_tk c < 126 := by rw [← htk]; exact htb p
  have hd0 : ∀ {C : RO}, _ = C → rf_patternToken F gs (nI p) = C := fun {C} k => by
    rw [rf_patternToken]
    exact rc_in rfl (by omega) k
  have hcan : ¬ c = 40 → t_can 60 c (x_z x) 0 (x_dp x) 8 := fun h => ⟨fun q => by omega, fun q => h q.1, by omega, by omega⟩
  have hadd : ¬ c = 40 → ∃ y, t_add 60 0 8 c 0 x = some y := fun h => ⟨_, by unfold t_add; rw [if_pos (hcan h)]⟩
  -- what is the same for each sign that becomes a leaf
  have leaf : ∀ (g : OS) (y : TSt), ¬ c = 40 → c_ok 1 c → t_add 60 0 8 c 0 x = some y → (∀ k, k ≠ 18 → g.1 k = gs.1 k) → g.2 = gs.2 → SB (g.1 18) (g.1 19) y → PS (sI (sI g 16 (nI p)) 17 0) tk N y (va_up pn (x_z x) p) (p + 1) := by
    intro g y hc40 hok hy k1 k2 hsb
    obtain ⟨a1, a2, _⟩ := t_add_z hy
    have hne : ¬ c = 41 ∧ ¬ c = 126 := by
      rcases hok with h | h | h | h | h
      · omega
      · omega
      · omega
      · rcases h with h | h | h <;> omega
      · omega
    have hty : t_take 60 0 8 1 c x = some y := by rw [t_take_ad hne.1 hne.2 hok]; exact hy
    have hLg : lsr g x pn (x_z x = 2) := lsr_cg hL (k1 13 (by decide)) (k1 16 (by decide)) (k1 17 (by decide)) k2
    refine ⟨lsr_T (ls_leaf hLg hB hc40 hy), PN_add hP (Nat.zero_le _) a2 (fun i hi => by rw [a1, va_up_ne _ _ (by omega)]) (by rw [htk, a1, va_up_self]) (Nat.zero_le _), ?_, t_bd_take hB hty, t_b2_take hB hB2 hty, t_li_take hB hli hty, by omega, fun i hi => ?_, ?_, (fun q => by omega), by rw [(t_take_sg (i := 1) (by omega) hty).1]; exact hm1, by rw [(t_take_sg (i := 0) (by omega) hty).1]; exact hm0⟩
    · rw [sI_n (by decide), sI_n (by decide), sI_n (by decide), sI_n (by decide)]
      exact hsb
    · show g.2 4 i = _
      rw [k2]
      exact htok i hi
    · rw [sI_n (by decide), sI_n (by decide), k1 3 (by decide)]
      exact h3
  by_cases c40 : c = 40
  · -- (
    have ht1 : o_tk c = 1 := by rw [c40]; decide
    have hpc : pcond c R x := ⟨fun q => by omega, fun q => by omega⟩
    have et : t_take 60 0 8 1 c x = t_add 60 0 8 c 0 x := t_take_ad (by omega) (by omega) (Or.inl c40)
    obtain ⟨o1, o2⟩ := ls_open (F := F) (cap := 60) (k := 0) (p := p) hL hB (by omega)
    refine ⟨fun y _ hy => ?_, fun h => ?_⟩
    · rw [et] at hy
      have hy' := hy
      rw [c40] at hy'
      obtain ⟨g2, e, hlc, hL2⟩ := o2 y hy'
      obtain ⟨a1, a2, _⟩ := t_add_z hy
      have hty : t_take 60 0 8 1 c x = some y := by rw [et]; exact hy
      refine ⟨g2, va_up pn (x_z x) p, hd0 ?_, hlc.p, lsr_T hL2, PN_add hP (Nat.zero_le _) a2 (fun i hi => by rw [a1, va_up_ne _ _ (by omega)]) (by rw [htk, a1, va_up_self]) (Nat.zero_le _), ?_, t_bd_take hB hty, t_b2_take hB hB2 hty, t_li_take hB hli hty, by omega, fun i hi => ?_, ?_, (fun q => by omega), by rw [(t_take_sg (i := 1) (by omega) hty).1]; exact hm1, by rw [(t_take_sg (i := 0) (by omega) hty).1]; exact hm0⟩
      · refine rc_eqE (b := 1) hat rfl ht1 ?_
        refine rc_bd e ?_
        exact rc_ib (Or.inr rfl) rfl
      · rw [hlc.1 18 (by decide) (by decide) (by decide), hlc.1 19 (by decide) (by decide) (by decide)]
        exact SB_add hSB hB hB2 hz2 hy (fun _ _ => Or.inr trivial) (by omega)
      · rw [hlc.2 4 (by decide) (by decide)]
        exact htok i hi
      · exact (hlc.1 3 (by decide) (by decide) (by decide)).trans h3
    · have h8 : 8 ≤ x_dp x := by
        apply Classical.byContradiction
        intro q
        refine h ⟨hpc, ?_⟩
        rw [et]
        exact ⟨_, by unfold t_add; rw [if_pos ⟨fun q2 => by omega, fun q2 => q q2.2, by omega, by omega⟩]⟩
      obtain ⟨g2, e, hlc⟩ := o1 h8
      refine ⟨g2, hd0 ?_, hlc.p⟩
      refine rc_eqE (b := 1) hat rfl ht1 ?_
      refine rc_bd e ?_
      exact rc_ib (Or.inl rfl) rfl
  · by_cases c41 : c = 41
    · -- )
      have ht2 : o_tk c = 2 := by rw [c41]; decide
      have hpc : pcond c R x := ⟨fun q => by omega, fun q => by omega⟩
      have et : t_take 60 0 8 1 c x = t_close x := by unfold t_take; rw [if_pos c41]
      obtain ⟨y0, hy0⟩ : ∃ y, t_close x = some y := ⟨_, by unfold t_close; rw [if_neg (by omega)]⟩
      obtain ⟨g2, e, hlc, hL2⟩ := ls_close (F := F) hL hB hB2 (by omega) hy0
      have hty : t_take 60 0 8 1 c x = some y0 := by rw [et]; exact hy0
      have hzs : x_z y0 = x_z x ∧ x_sg y0 = x_sg x ∧ x_dp y0 = x_dp x - 1 := by
        unfold t_close at hy0
        rw [if_neg (by omega)] at hy0
        cases hy0
        exact ⟨rfl, rfl, rfl⟩
      refine ⟨fun y _ hy => ?_, fun h => absurd ⟨hpc, y0, hty⟩ h⟩
      rw [hty] at hy
      cases hy
      refine ⟨g2, pn, hd0 ?_, hlc.p, lsr_T hL2, PN_on hP hzs.1 hzs.2.1 (by rw [htk, ht2]; decide), ?_, t_bd_take hB hty, t_b2_take hB hB2 hty, t_li_take hB hli hty, by omega, fun i hi => ?_, ?_, fun q q2 => ?_, by rw [(t_take_sg (i := 1) (by omega) hty).1]; exact hm1, by rw [(t_take_sg (i := 0) (by omega) hty).1]; exact hm0⟩
      · refine rc_eqF (b := 1) hat rfl (by omega) ?_
        refine rc_eqE (b := 2) hat rfl ht2 ?_
        exact rc_bd e rfl
      · rw [hlc.1 18 (by decide) (by decide) (by decide), hlc.1 19 (by decide) (by decide) (by decide)]
        exact SB_close hSB hB hB2 (by omega) hy0
      · rw [hlc.2 4 (by decide) (by decide)]
        exact htok i hi
      · exact (hlc.1 3 (by decide) (by decide) (by decide)).trans h3
      · -- only the macro, and its list is not closed: its list is the first
        exfalso
        have hdp : 2 ≤ x_dp x := by omega
        have q9 := hB.2.2.1 0 1 (by omega) (by omega)
        have q8 := (hB.2.1 1 (by omega)).2.1
        have q7 := hli.2 1 (by omega)
        have q6 : x_op x 1 = 1 := by omega
        rw [q6] at q7
        omega
    · by_cases cnm : c_nm c
      · -- a variable
        have ht := otk_nm cnm
        have hok : c_ok 1 c := Or.inr (Or.inl cnm)
        obtain ⟨y0, hy0⟩ := hadd c40
        have hty : t_take 60 0 8 1 c x = some y0 := by rw [t_take_ad c41 (by omega) hok]; exact hy0
        have hlo := letter_ok (F := F) (gs := gs) hat (by omega)
        have hmod : (o_tk c - 100) % 32 = c - 97 := by omega
        rw [hmod] at hlo
        have hd1 : ∀ {C : RO}, _ = C → rf_patternToken F gs (nI p) = C := fun {C} k => hd0 (by
          refine rc_eqF (b := 1) hat rfl (by omega) ?_
          refine rc_eqF (b := 2) hat rfl (by omega) ?_
          refine rc_bd (isName_y hat (by omega)) ?_
          exact rc_eqF (a := 1) (b := 0) rfl rfl (by decide) k)
        have hbit := (hSB (c - 97) (by omega)).1
        by_cases hdup : ∃ i, 2 ≤ i ∧ i < x_z x ∧ x_sg x i = c
        · refine ⟨fun y hpc _ => ?_, fun _ => ⟨gs, hd1 ?_, pcg.rf⟩⟩
          · obtain ⟨i, q1, q2, q3⟩ := hdup
            exact absurd q3 (hpc.2 cnm i q1 q2)
          · have hb1 : bt1 (gs.1 18) (c - 97) = 1 := hbit.mpr (by
              obtain ⟨i, q1, q2, q3⟩ := hdup
              exact ⟨i, q1, q2, nm97 cnm q3⟩)
            refine rc_bd (r1 := 0) (g1 := gs) ?_ (rc_ib (Or.inl rfl) rfl)
            rw [rf_addVariable]
            refine rc_in rfl (by omega) ?_
            refine rc_bd hlo ?_
            refine rc_pF (fun q => ?_) rfl
            rw [bt_and0 (by omega), hb1] at q
            exact absurd q (by decide)
        · have hb0 : bt1 (gs.1 18) (c - 97) = 0 := by
            rcases bt_01 (v := gs.1 18) (c := c - 97) (by omega) with h | h
            · exact h
            · exfalso
              obtain ⟨i, q1, q2, q3⟩ := hbit.mp h
              exact hdup ⟨i, q1, q2, nm97' cnm q3⟩
          have hnd : ∀ i, 2 ≤ i → i < x_z x → ¬ x_sg x i = c := fun i q1 q2 q3 => hdup ⟨i, q1, q2, q3⟩
          refine ⟨fun y _ hy => ?_, fun h => absurd ⟨⟨fun q => by omega, fun _ => hnd⟩, y0, hty⟩ h⟩
          rw [hty] at hy
          cases hy
          refine ⟨_, _, hd1 ?_, ?_, leaf (sI gs 18 (gs.1 18 ||| ((1 : Int32) <<< (nI (c - 97) &&& 31)))) y0 c40 hok hy0 (fun k hk => sI_n hk) rfl ?_⟩
          · refine rc_bd (r1 := 1) (g1 := sI (sI (sI gs 18 (gs.1 18 ||| ((1 : Int32) <<< (nI (c - 97) &&& 31)))) 16 (nI p)) 17 0) ?_ (rc_ib (Or.inr rfl) rfl)
            rw [rf_addVariable]
            refine rc_in rfl (by omega) ?_
            refine rc_bd hlo ?_
            refine rc_pT ((bt_and0 (by omega)).mpr hb0) ?_
            rfl
          · exact ⟨fun k q1 q2 q3 q4 q5 => by rw [sI_n q3, sI_n q2, sI_n q4], fun _ _ _ => rfl⟩
          · rw [sI_e, sI_n (by decide)]
            exact SB_name hSB hB hB2 hz2 hy0 cnm hnd
      · by_cases c126 : c = 126
        · -- ~
          have ht7 : o_tk c = 7 := by rw [c126]; decide
          have et : t_take 60 0 8 1 c x = t_rep x := by
            unfold t_take
            rw [if_neg c41, if_pos c126, if_neg (by decide)]
          have hd1 : ∀ {C : RO}, _ = C → rf_patternToken F gs (nI p) = C := fun {C} k => hd0 (by
            refine rc_eqF (b := 1) hat rfl (by omega) ?_
            refine rc_eqF (b := 2) hat rfl (by omega) ?_
            refine rc_bd (isName_n hat (by omega)) ?_
            refine rc_eqE (a := 0) (b := 0) rfl rfl rfl ?_
            exact rc_eqE (b := 7) hat rfl ht7 k)
          by_cases hx2 : x_z x = 2
          · refine ⟨fun y hpc _ => absurd hx2 (hpc.1 c126).2, fun _ => ⟨gs, hd1 ?_, pcg.rf⟩⟩
            refine rc_bd (r1 := 0) (g1 := gs) ?_ (rc_eqE (a := 0) (b := 0) rfl rfl rfl rfl)
            rw [rf_tilde]
            exact rc_pT (by rw [hfs hx2 h1]; decide) rfl
          · obtain ⟨t1, t2⟩ := ls_tilde (F := F) (lsr_F hL hx2) hB hB2 (by omega) (fun l hl => by
              obtain ⟨m, _, _, hlz, _⟩ := hB2.2.2 (by omega) l hl
              have := (hP.1 l (Nat.zero_le _) hlz).2.1
              omega)
            cases hrep : t_rep x with
            | none =>
              refine ⟨fun y _ hy => (by rw [et, hrep] at hy; cases hy), fun _ => ⟨gs, hd1 ?_, pcg.rf⟩⟩
              exact rc_bd (t1 hrep) (rc_eqE (a := 0) (b := 0) rfl rfl rfl rfl)
            | some y0 =>
              obtain ⟨g2, l, hla, e, hlc, h16, hL2, hg1⟩ := t2 y0 hrep
              have hty : t_take 60 0 8 1 c x = some y0 := by rw [et]; exact hrep
              have hg4 : g2.2 4 = gs.2 4 := hlc.2 4 (by decide) (by decide)
              have hat1 : g2.2 4 (nI p + 1).toNatClampNeg = nI (tk (p + 1)) := by
                rw [nI_1]
                exact cl_at (by rw [hg4]; exact htok (p + 1) (by omega))
              have htb1 := htb (p + 1)
              by_cases hn : tk (p + 1) = 2
              · have hpc : pcond c R x := ⟨fun _ => ⟨hnx.mp hn, hx2⟩, fun q => absurd q cnm⟩
                refine ⟨fun y _ hy => ?_, fun h => absurd ⟨hpc, y0, hty⟩ h⟩
                rw [hty] at hy
                cases hy
                obtain ⟨m, em, hch, hlz, hlend, hcd⟩ := hB2.2.2 (by omega) l hla
                have hpl := hP.1 l (Nat.zero_le _) hlz
                have hy' : y0 = (x_sg x, x_st x, x_sp x, x_it x, va_up (x_rp x) l 1, x_op x, x_z x, x_dp x, some l) := by
                  unfold t_rep at hrep
                  rw [hla] at hrep
                  have hrep : (if x_dp x = 0 then none else if (List.range (x_z x)).all (fun i => decide (i < l) || decide (x_rp x i = 0)) = true then some (x_sg x, x_st x, x_sp x, x_it x, va_up (x_rp x) l 1, x_op x, x_z x, x_dp x, some l) else none) = some y0 := hrep
                  rw [if_neg (by omega)] at hrep
                  split at hrep
                  · exact (Option.some.inj hrep).symm
                  · cases hrep
                have hl2 : 2 ≤ l := by
                  apply Classical.byContradiction
                  intro hq
                  have hlo := t_ch_ge _ _ _ hch
                  have hop0 := hB.2.2.2.2.2.2 (by omega)
                  have hc0 := hcd 0 (by omega)
                  have hl1 : l = 1 := by omega
                  have hsp1 := (hli.1 1 (by omega) (by omega)).1
                  rw [hl1] at hlend
                  omega
                obtain ⟨g3, e3, m1, m2, m3⟩ := mkm_lp (F := F) (p := p) (by omega) ((List.range' (pn l) (p - pn l)).map tk) (pn l) F g2 (At_seg _ _ (fun i q1 q2 => by rw [hg4]; exact htok i (by omega))) (fun t ht => by
                  obtain ⟨i, _, _, rfl⟩ := seg_mem.mp ht
                  exact htb i) (by rw [List.length_map, List.length_range']; omega) (by rw [List.length_map, List.length_range']; omega)
                refine ⟨sI g3 16 (-1), pn, hd1 ?_, ?_, ?_⟩
                · refine rc_bd e ?_
                  refine rc_eqF (a := 1) (b := 0) rfl rfl (by decide) ?_
                  refine rc_in (nI_1 p) (by omega) ?_
                  refine rc_eqE (b := 2) hat1 rfl hn ?_
                  rw [h16]
                  refine rc_bd (by rw [rf_makeMany]; exact e3) ?_
                  rfl
                · refine hlc.p.tr ⟨fun k q1 q2 q3 q4 q5 => ?_, fun k _ _ => by show g3.2 k = _; rw [m2]⟩
                  rw [sI_n q2]
                  exact m1 k q5
                · have hL3 : lsr (sI g3 16 (-1)) y0 pn False := lsr_cg (gs := sI g2 16 (-1)) (g2 := sI g3 16 (-1)) hL2 (by rw [sI_n (by decide), sI_n (by decide), m1 13 (by decide)]) (by rw [sI_e, sI_e]) (by rw [sI_n (by decide), sI_n (by decide), m1 17 (by decide)]) m2
                  refine ⟨lsr_T hL3, PN_on hP (by rw [hy']) (by rw [hy']) (by rw [htk, ht7]; decide), ?_, t_bd_take hB hty, t_b2_take hB hB2 hty, t_li_take hB hli hty, by rw [hy']; exact hz2, fun i hi => ?_, ?_, fun q _ => sI_e _ _ _, by rw [(t_take_sg (i := 1) (by omega) hty).1]; exact hm1, by rw [(t_take_sg (i := 0) (by omega) hty).1]; exact hm0⟩
                  · rw [sI_n (by decide), sI_n (by decide)]
                    intro e he
                    have hb3 := m3 e he
                    obtain ⟨b1, b2⟩ := hSB e he
                    have h18 : g3.1 18 = gs.1 18 := by rw [m1 18 (by decide), hg1]
                    rw [h18, hb3, hg1]
                    have hyz : x_z y0 = x_z x ∧ x_sg y0 = x_sg x ∧ x_sp y0 = x_sp x ∧ x_rp y0 = va_up (x_rp x) l 1 := by rw [hy']; exact ⟨rfl, rfl, rfl, rfl⟩
                    refine ⟨by rw [hyz.1, hyz.2.1]; exact b1, ?_⟩
                    rw [b2]
                    unfold inr
                    rw [hyz.1, hyz.2.1, hyz.2.2.1, hyz.2.2.2]
                    constructor
                    · rintro (⟨i, q1, q2, q3, a, z1, z2, z3, z4⟩ | h)
                      · refine ⟨i, q1, q2, q3, a, z1, z2, z3, ?_⟩
                        by_cases hal : a = l
                        · rw [hal, va_up_self]; decide
                        · rw [va_up_ne _ _ hal]; exact z4
                      · obtain ⟨t, q1, q2, q3⟩ := seg_mem.mp h
                        obtain ⟨i, r1, r2, r3⟩ := hP.2.2 t (Nat.zero_le _) (by omega) (by omega)
                        have hli2 : l ≤ i := by
                          apply Classical.byContradiction
                          intro hq
                          have := hP.2.1 i l r1 (by omega) hlz
                          omega
                        have hsg : x_sg x i = e + 97 := by
                          have h9 := (hP.1 i r1 r2).2.2
                          rw [r3, q3] at h9
                          have h8 := hli
                          -- its token is a name's
                          by_cases hnmi : c_nm (x_sg x i)
                          · rw [otk_nm hnmi] at h9
                            omega
                          · exfalso
                            unfold o_tk at h9
                            rw [if_neg hnmi] at h9
                            repeat (first | (split at h9) | omega)
                        exact ⟨i, by omega, r2, hsg, l, hl2, hli2, by omega, by rw [va_up_self]; decide⟩
                    · rintro ⟨i, q1, q2, q3, a, z1, z2, z3, z4⟩
                      by_cases hal : a = l
                      · right
                        have hpi := hP.1 i (Nat.zero_le _) q2
                        refine seg_mem.mpr ⟨pn i, ?_, by omega, ?_⟩
                        · by_cases hil : i = l
                          · rw [hil]; exact Nat.le_refl _
                          · exact Nat.le_of_lt (hP.2.1 l i (Nat.zero_le _) (by omega) q2)
                        · rw [hpi.2.2, otk_nm ⟨by omega, by omega⟩, q3]
                          omega
                      · rw [va_up_ne _ _ hal] at z4
                        exact Or.inl ⟨i, q1, q2, q3, a, z1, z2, z3, z4⟩
                  · show g3.2 4 i = _
                    rw [m2, hg4]
                    exact htok i hi
                  · rw [sI_n (by decide), m1 3 (by decide), hg1]
                    exact h3
              · refine ⟨fun y hpc _ => absurd (hnx.mpr (hpc.1 c126).1) hn, fun _ => ⟨g2, hd1 ?_, hlc.p⟩⟩
                refine rc_bd e ?_
                refine rc_eqF (a := 1) (b := 0) rfl rfl (by decide) ?_
                refine rc_in (nI_1 p) (by omega) ?_
                exact rc_eqF (b := 2) hat1 rfl hn rfl
        · -- another sign
          have hd1 : ∀ {C : RO}, _ = C → rf_patternToken F gs (nI p) = C := fun {C} k => hd0 (by
            have n1 : ¬ o_tk c = 1 ∧ ¬ o_tk c = 2 ∧ o_tk c < 100 ∧ ¬ o_tk c = 7 := by
              unfold o_tk
              rw [if_neg cnm]
              by_cases hnu : c_nu c
              · rw [if_pos hnu]; omega
              · rw [if_neg hnu, if_neg c40, if_neg c41]
                by_cases g1 : c = 61
                · rw [if_pos g1]; decide
                · rw [if_neg g1]
                  by_cases g2 : c = 73
                  · rw [if_pos g2]; decide
                  · rw [if_neg g2]
                    by_cases g3 : c = 76
                    · rw [if_pos g3]; decide
                    · rw [if_neg g3]
                      by_cases g4 : c = 81
                      · rw [if_pos g4]; decide
                      · rw [if_neg g4]
                        by_cases g5 : c = 95
                        · rw [if_pos g5]; decide
                        · rw [if_neg g5, if_neg c126]; decide
            refine rc_eqF (b := 1) hat rfl n1.1 ?_
            refine rc_eqF (b := 2) hat rfl n1.2.1 ?_
            refine rc_bd (isName_n hat n1.2.2.1) ?_
            refine rc_eqE (a := 0) (b := 0) rfl rfl rfl ?_
            exact rc_eqF (b := 7) hat rfl n1.2.2.2 k)
          have hset : ∀ y, c_ok 1 c → t_take 60 0 8 1 c x = some y → rf_patternToken F gs (nI p) = some (1, sI (sI gs 16 (nI p)) 17 0) → ∃ g2 pn', rf_patternToken F gs (nI p) = some (1, g2) ∧ pcg gs g2 ∧ PS g2 tk N y pn' (p + 1) := by
            intro y hok hy e
            rw [t_take_ad c41 c126 hok] at hy
            refine ⟨_, _, e, ⟨fun k q1 q2 q3 q4 q5 => by rw [sI_n q3, sI_n q2], fun _ _ _ => rfl⟩, leaf gs y c40 hok hy (fun _ _ => rfl) rfl (SB_add hSB hB hB2 hz2 hy (fun _ _ => Or.inr trivial) cnm)⟩
          by_cases c95 : c = 95
          · have ht6 := otk_95 c95
            have hok : c_ok 1 c := Or.inr (Or.inr (Or.inr (Or.inr ⟨c95, rfl⟩)))
            have e : rf_patternToken F gs (nI p) = some (1, sI (sI gs 16 (nI p)) 17 0) := hd1 (rc_eqE (b := 6) hat rfl ht6 rfl)
            obtain ⟨y0, hy0⟩ := hadd c40
            exact ⟨fun y _ hy => hset y hok hy e, fun h => absurd ⟨⟨fun q => by omega, fun q => absurd q cnm⟩, y0, by rw [t_take_ad c41 c126 hok]; exact hy0⟩ h⟩
          · by_cases cnu : c_nu c
            · have ht : o_tk c = c - 38 := by unfold o_tk; rw [if_neg cnm, if_pos cnu]
              have hok : c_ok 1 c := Or.inr (Or.inr (Or.inl cnu))
              have e : rf_patternToken F gs (nI p) = some (1, sI (sI gs 16 (nI p)) 17 0) := hd1 (by
                refine rc_eqF (b := 6) hat rfl (by omega) ?_
                refine rc_bd (isNum_y hat (by omega)) ?_
                exact rc_eqF (a := 1) (b := 0) rfl rfl (by decide) rfl)
              obtain ⟨y0, hy0⟩ := hadd c40
              exact ⟨fun y _ hy => hset y hok hy e, fun h => absurd ⟨⟨fun q => by omega, fun q => absurd q cnm⟩, y0, by rw [t_take_ad c41 c126 hok]; exact hy0⟩ h⟩
            · by_cases ckw : c_kw c
              · have ht : 3 ≤ o_tk c ∧ o_tk c ≤ 5 := by rcases ckw with rfl | rfl | rfl <;> decide
                have hok : c_ok 1 c := Or.inr (Or.inr (Or.inr (Or.inl ckw)))
                have e : rf_patternToken F gs (nI p) = some (1, sI (sI gs 16 (nI p)) 17 0) := hd1 (by
                  refine rc_eqF (b := 6) hat rfl (by omega) ?_
                  refine rc_bd (isNum_n hat (by omega)) ?_
                  refine rc_eqE (a := 0) (b := 0) rfl rfl rfl ?_
                  refine rc_bd (isKey_y hat ht) ?_
                  exact rc_eqF (a := 1) (b := 0) rfl rfl (by decide) rfl)
                obtain ⟨y0, hy0⟩ := hadd c40
                exact ⟨fun y _ hy => hset y hok hy e, fun h => absurd ⟨⟨fun q => by omega, fun q => absurd q cnm⟩, y0, by rw [t_take_ad c41 c126 hok]; exact hy0⟩ h⟩
              · have hv : o_tk c = 8 ∨ o_tk c = 0 := by
                  unfold o_tk
                  rw [if_neg cnm, if_neg cnu, if_neg c40, if_neg c41]
                  by_cases g1 : c = 61
                  · rw [if_pos g1]; exact Or.inl rfl
                  · rw [if_neg g1, if_neg (fun q => ckw (Or.inr (Or.inl q))), if_neg (fun q => ckw (Or.inl q)), if_neg (fun q => ckw (Or.inr (Or.inr q))), if_neg c95, if_neg c126]
                    exact Or.inr rfl
                have et : t_take 60 0 8 1 c x = none := by
                  unfold t_take
                  rw [if_neg c41, if_neg c126, if_neg]
                  rintro (h | h | h | h | h)
                  · exact c40 h
                  · exact cnm h
                  · exact cnu h
                  · exact ckw h
                  · exact c95 h.1
                refine ⟨fun y _ hy => (by rw [et] at hy; cases hy), fun _ => ⟨gs, hd1 ?_, pcg.rf⟩⟩
                refine rc_eqF (b := 6) hat rfl (by omega) ?_
                refine rc_bd (isNum_n hat (by omega)) ?_
                refine rc_eqE (a := 0) (b := 0) rfl rfl rfl ?_
                refine rc_bd (isKey_n hat (by omega)) ?_
                exact rc_eqE (a := 0) (b := 0) rfl rfl rfl rfl
