/-- a form -/
theorem st_form {F fu : Nat} {gs : OS} {t1 : Nat} {r1 op nm : List Nat} {mk : Nat → Int32} {fd md : Nat} (hF : 5000 ≤ F) (h : OX gs fu (1 :: t1 :: r1, op, nm, mk, fd, md)) (ht : 3 ≤ t1 ∧ t1 ≤ 5) (hop : ¬ op.length = 12) : ∃ g2, rf_expandForm F gs = some (0, g2) ∧ fr gs g2 ∧ OF g2 fu (o_fm t1 r1 (1 :: t1 :: r1, op, nm, mk, fd, md)) := by
  have h : OY gs fu (1 :: t1 :: r1) op nm mk fd md := h
  obtain ⟨pos, h36, h21, hle, hat, hs, hl, h32, h12, hbk, hb2, h34, hbc, hnm, hsn, hmk, h37, hmd, hf12⟩ := h
  rw [List.length_cons, List.length_cons] at h21 hle
  have hl1 : lvl r1 (op.length + 1) = some 0 := by
    unfold lvl at hl
    rw [if_pos rfl] at hl
    unfold lvl at hl
    rw [if_neg (by omega), if_neg (by omega)] at hl
    exact hl
  have hat1 : At (gs.2 22) (pos + 2) r1 := hat.2.2
  have hs1 := sml_t (sml_t hs)
  have hn12 : nm.length ≤ 12 := by
    have h2 := bcn_le op
    omega
  obtain ⟨B, R', d', eB, hB, hR', hrf, hc0, hc1⟩ := form_lp (F := F) (gs := gs) (x1 := nI t1) (l := op.length) hF r1.length r1 0 (pos + 2) F r1.length (Nat.le_refl _) (Nat.le_refl _) (by omega) hl1 hat1 hs1 (by omega) (by omega)
  have hBl : B.length + 1 + R'.length = r1.length := by
    rw [eB, List.length_append, List.length_cons]
    omega
  generalize hm : o_ct r1.length r1 = m at hrf hc0 hc1
  have hml : m ≤ r1.length + 1 := by
    have : ∀ (f : Nat) (r : List Nat), o_ct f r ≤ f := by
      intro f
      induction f with
      | zero => intro r; exact Nat.zero_le _
      | succ f ih =>
        intro r
        cases r with
        | nil => exact Nat.zero_le _
        | cons t r =>
          unfold o_ct
          split
          · omega
          · have := ih (sk (t :: r) 0)
            omega
    have := this r1.length r1
    omega
  rw [Nat.zero_add] at hrf
  have p1 : gs.1 36 + 1 = nI (pos + 1) := nI_p1 h36
  have p2 : gs.1 36 + 2 = nI (pos + 2) := by rw [h36]; exact nI_add pos 2
  have at1 : gs.2 22 (gs.1 36 + 1).toNatClampNeg = nI t1 := cl_ax p1 hat.2.1
  have hend : gs.2 22 (nI (pos + 2 + B.length)).toNatClampNeg = nI 2 := by
    rw [eB] at hat1
    exact cl_at (At_r hat1).1
  have hhd : gs.2 22 (gs.1 36 + 2).toNatClampNeg = nI (r1.headD 0) := by
    cases r1 with
    | nil => exact absurd (Option.some.inj hl1) (by omega)
    | cons x r => exact cl_ax p2 hat1.1
  have hhs : r1.headD 0 < 2 ^ 30 := by
    cases r1 with
    | nil => decide
    | cons x r => exact sml_h hs1
  have e0 : rf_expandForm F gs = rf_expandForm_21 F (d' + 1) gs (nI t1) (nI m) (nI (pos + 2 + B.length)) := by
    rw [rf_expandForm]
    refine rc_in p1 (by omega) ?_
    rw [at1, p2]
    exact hrf
  -- bad
  have hbad : ∀ g, g = gs → rf_expandForm_106 F g (nI t1) (nI (pos + 2 + B.length)) 0 = some (0, sI gs 40 2) := by
    intro g hg
    rw [hg, rf_expandForm_106]
    exact rc_eqE (a := 0) (b := 0) rfl rfl rfl rfl
  have hbad2 : ∀ C : OR OQ, C = .error (2, md) → OF (sI gs 40 2) fu C := by
    intro C hC
    rw [hC]
    exact ⟨sI_e _ _ _, Or.inl rfl, (sI_n (by decide)).trans h37, by show md ≤ 12; omega⟩
  -- good
  obtain ⟨g1, e1, hsm1, hm1⟩ := put_ok (F := F) (m := 1) hmk
  obtain ⟨g3, e3, hsm3, hm3⟩ := put_ok (F := F) (m := nI t1) hm1
  have hsm := hsm1.tr hsm3
  have hm3 : MK g3 (pm [1, nI t1] (fd, mk, 0)) := hm3
  have q36 : g3.1 36 = nI pos := (hsm.1 36 (by decide) (by decide)).trans h36
  have q2 : g3.1 36 + 2 = nI (pos + 2) := by rw [q36]; exact nI_add pos 2
  have q3 : g3.1 36 + 3 = nI (pos + 3) := by rw [q36]; exact nI_add pos 3
  have r22 : g3.2 22 = gs.2 22 := hsm.2 22 (by decide)
  rcases (show t1 = 3 ∨ t1 = 4 ∨ t1 = 5 by omega) with rfl | rfl | rfl
  · -- L
    have hfm : ∀ q : OQ, o_fm 3 r1 q = if m = 2 ∧ 100 ≤ r1.headD 0 then ob (ob (o_put 1 q) (o_put (nI 3))) (fun q => .ok (r1.tail, 1 :: q.2.1, r1.headD 0 :: q.2.2.1, q.2.2.2)) else .error (2, q.2.2.2.2.2) := by
      intro q
      unfold o_fm
      rw [hm]
      rfl
    by_cases hg : m = 2 ∧ 100 ≤ r1.headD 0
    · obtain ⟨g4, e4, o32, obk, oi, oa⟩ := openRow_ok (F := F) (gs := g3) (op := op) (b := 1) (x := 1) rfl (by decide) ((hsm.1 32 (by decide) (by decide)).trans h32) (by omega) (by rw [hsm.2 33 (by decide)]; exact hbk)
      have w36 : g4.1 36 = nI pos := (oi 36 (by decide)).trans q36
      have w2 : g4.1 36 + 2 = nI (pos + 2) := by rw [w36]; exact nI_add pos 2
      have w3 : g4.1 36 + 3 = nI (pos + 3) := by rw [w36]; exact nI_add pos 3
      have w34 : g4.1 34 = nI nm.length := ((oi 34 (by decide)).trans (hsm.1 34 (by decide) (by decide))).trans h34
      have w22 : g4.2 22 = gs.2 22 := (oa 22 (by decide)).trans r22
      have wat : g4.2 22 (g4.1 36 + 2).toNatClampNeg = nI (r1.headD 0) := by
        rw [w22, w2, ← p2]
        exact hhd
      refine ⟨sI (sA (sI g4 34 (g4.1 34 + 1)) 35 (upd (g4.2 35) (g4.1 34).toNatClampNeg (g4.2 22 (g4.1 36 + 2).toNatClampNeg))) 36 (g4.1 36 + 3), ?_, ?_, ?_⟩
      · rw [e0, rf_expandForm_21]
        refine rc_in rfl (by omega) ?_
        refine rc_eqE (b := 2) hend rfl rfl ?_
        refine rc_eqE (b := 3) rfl rfl rfl ?_
        refine rc_eqE (b := 2) rfl rfl hg.1 ?_
        refine rc_in p2 (by omega) ?_
        refine rc_bd (isName_y hhd hg.2) ?_
        refine rc_eqF (a := 1) (b := 0) rfl rfl (by decide) ?_
        rw [rf_expandForm_106]
        refine rc_eqF (a := 1) (b := 0) rfl rfl (by decide) ?_
        refine rc_bd e1 ?_
        refine rc_bd e3 ?_
        refine rc_eqF (a := 3) (b := 5) rfl rfl (by decide) ?_
        refine rc_eqE (a := 3) (b := 3) rfl rfl rfl ?_
        rw [rf_expandForm_227]
        refine rc_bd e4 ?_
        refine rc_eqE (a := 3) (b := 3) rfl rfl rfl ?_
        refine rc_in w2 (by omega) ?_
        refine rc_in w34 (by omega) ?_
        rw [rf_expandForm_265]
        refine rc_eqE (a := 3) (b := 3) rfl rfl rfl ?_
        rw [rf_expandForm_286]
        rfl
      · refine (((hsm.fr.tr ⟨fun k hk => oi k (by omega), fun k hk => oa k (by omega)⟩).i (by decide)).a (by decide)).i (by decide)
      · rw [hfm, if_pos hg, ob2, ob_puts]
        refine OF_of (s := pm [1, nI 3] (fd, mk, 0)) ?_ ?_
        · cases r1 with
          | nil => exact absurd (Option.some.inj hl1) (by omega)
          | cons x r =>
            have hx : 100 ≤ x := hg.2
            have hxs : x < 2 ^ 30 := sml_h hs1
            refine ⟨pos + 3, (sI_e _ _ _).trans w3, ?_, ?_, ?_, sml_t hs1, ?_, ?_, ?_, ?_, ?_, ?_, ?_, ?_, ?_, ?_, hmd, hf12⟩
            · show g4.1 21 = nI (pos + 3 + r.length)
              rw [oi 21 (by decide), hsm.1 21 (by decide) (by decide), h21, List.length_cons]
              congr 1
              omega
            · show pos + 3 + r.length ≤ 120 + 120 * md
              rw [List.length_cons] at hle
              omega
            · show At (g4.2 22) _ _
              rw [w22]
              exact hat1.2
            · show lvl r (op.length + 1) = some 0
              unfold lvl at hl1
              rw [if_neg (by omega), if_neg (by omega)] at hl1
              exact hl1
            · exact o32
            · show op.length + 1 ≤ 12
              omega
            · exact obk
            · intro b hb
              rcases List.mem_cons.mp hb with rfl | hb
              · decide
              · exact hb2 b hb
            · show g4.1 34 + 1 = _
              exact nI_p1 w34
            · show nm.length + 1 = 1 + bcn op
              omega
            · have e5 : (sA (sI g4 34 (g4.1 34 + 1)) 35 (upd (g4.2 35) (g4.1 34).toNatClampNeg (g4.2 22 (g4.1 36 + 2).toNatClampNeg))).2 35 = upd (gs.2 35) nm.length (nI x) := by
                rw [sA_e, w34, nI_clamp (by omega), wat, oa 35 (by decide), hsm.2 35 (by decide)]
                rfl
              show Bk ((sA (sI g4 34 (g4.1 34 + 1)) 35 (upd (g4.2 35) (g4.1 34).toNatClampNeg (g4.2 22 (g4.1 36 + 2).toNatClampNeg))).2 35) (x :: nm)
              rw [e5]
              exact Bk_push hnm
            · intro z hz
              rcases List.mem_cons.mp hz with rfl | hz
              · exact hxs
              · exact hsn z hz
            · exact ((oi 37 (by decide)).trans (hsm.1 37 (by decide) (by decide))).trans h37
        · exact MK_cg (MK_cg hm3 (oi 38 (by decide)) (oi 40 (by decide)) (oa 39 (by decide))) rfl rfl rfl
    · refine ⟨sI gs 40 2, ?_, fr.rf.i (by decide), hbad2 _ (by rw [hfm, if_neg hg])⟩
      rw [e0, rf_expandForm_21]
      refine rc_in rfl (by omega) ?_
      refine rc_eqE (b := 2) hend rfl rfl ?_
      refine rc_eqE (b := 3) rfl rfl rfl ?_
      by_cases hm2 : m = 2
      · refine rc_eqE (b := 2) rfl rfl hm2 ?_
        refine rc_in p2 (by omega) ?_
        refine rc_bd (isName_n hhd (by omega)) ?_
        refine rc_eqE (a := 0) (b := 0) rfl rfl rfl ?_
        rw [rf_expandForm_74]
        exact hbad _ rfl
      · refine rc_eqF (b := 2) rfl rfl hm2 ?_
        rw [rf_expandForm_74]
        exact hbad _ rfl
  · -- I
    have hfm : ∀ q : OQ, o_fm 4 r1 q = if m = 3 then ob (ob (o_put 1 q) (o_put (nI 4))) (fun q => .ok (r1, 0 :: q.2.1, q.2.2)) else .error (2, q.2.2.2.2.2) := by
      intro q
      unfold o_fm
      rw [hm]
      rfl
    by_cases hg : m = 3
    · obtain ⟨g4, e4, o32, obk, oi, oa⟩ := openRow_ok (F := F) (gs := g3) (op := op) (b := 0) (x := 0) rfl (by decide) ((hsm.1 32 (by decide) (by decide)).trans h32) (by omega) (by rw [hsm.2 33 (by decide)]; exact hbk)
      have w36 : g4.1 36 = nI pos := (oi 36 (by decide)).trans q36
      have w2 : g4.1 36 + 2 = nI (pos + 2) := by rw [w36]; exact nI_add pos 2
      have w34 : g4.1 34 = nI nm.length := ((oi 34 (by decide)).trans (hsm.1 34 (by decide) (by decide))).trans h34
      have w22 : g4.2 22 = gs.2 22 := (oa 22 (by decide)).trans r22
      refine ⟨sI g4 36 (g4.1 36 + 2), ?_, ?_, ?_⟩
      · rw [e0, rf_expandForm_21]
        refine rc_in rfl (by omega) ?_
        refine rc_eqE (b := 2) hend rfl rfl ?_
        refine rc_eqF (a := 4) (b := 3) rfl rfl (by decide) ?_
        refine rc_eqE (b := 4) rfl rfl rfl ?_
        refine rc_eqE (b := 3) rfl rfl hg ?_
        rw [rf_expandForm_106]
        refine rc_eqF (a := 1) (b := 0) rfl rfl (by decide) ?_
        refine rc_bd e1 ?_
        refine rc_bd e3 ?_
        refine rc_eqF (a := 4) (b := 5) rfl rfl (by decide) ?_
        refine rc_eqF (a := 4) (b := 3) rfl rfl (by decide) ?_
        rw [rf_expandForm_227]
        refine rc_bd e4 ?_
        refine rc_eqF (a := 4) (b := 3) rfl rfl (by decide) ?_
        rw [rf_expandForm_265]
        refine rc_eqF (a := 4) (b := 3) rfl rfl (by decide) ?_
        rw [rf_expandForm_286]
      · exact (hsm.fr.tr ⟨fun k hk => oi k (by omega), fun k hk => oa k (by omega)⟩).i (by decide)
      · rw [hfm, if_pos hg, ob2, ob_puts]
        refine OF_of (s := pm [1, nI 4] (fd, mk, 0)) ?_ ?_
        · refine ⟨pos + 2, (sI_e _ _ _).trans w2, ?_, ?_, ?_, hs1, hl1, o32, ?_, obk, ?_, w34, ?_, ?_, hsn, ?_, hmd, hf12⟩
          · show g4.1 21 = nI (pos + 2 + r1.length)
            rw [oi 21 (by decide), hsm.1 21 (by decide) (by decide), h21]
            congr 1
            omega
          · show pos + 2 + r1.length ≤ 120 + 120 * md
            omega
          · show At (g4.2 22) _ _
            rw [w22]
            exact hat1
          · show op.length + 1 ≤ 12
            omega
          · intro b hb
            rcases List.mem_cons.mp hb with rfl | hb
            · decide
            · exact hb2 b hb
          · show nm.length = 0 + bcn op
            omega
          · show Bk (g4.2 35) nm
            rw [oa 35 (by decide), hsm.2 35 (by decide)]
            exact hnm
          · exact ((oi 37 (by decide)).trans (hsm.1 37 (by decide) (by decide))).trans h37
        · exact MK_cg (MK_cg hm3 (oi 38 (by decide)) (oi 40 (by decide)) (oa 39 (by decide))) rfl rfl rfl
    · refine ⟨sI gs 40 2, ?_, fr.rf.i (by decide), hbad2 _ (by rw [hfm, if_neg hg])⟩
      rw [e0, rf_expandForm_21]
      refine rc_in rfl (by omega) ?_
      refine rc_eqE (b := 2) hend rfl rfl ?_
      refine rc_eqF (a := 4) (b := 3) rfl rfl (by decide) ?_
      refine rc_eqE (b := 4) rfl rfl rfl ?_
      refine rc_eqF (b := 3) rfl rfl hg ?_
      exact hbad _ rfl
  · -- Q
    have hfm : ∀ q : OQ, o_fm 5 r1 q = if m = 1 then ob (ob (o_put 1 q) (o_put (nI 5))) (fun q => ob (o_puts ((o_1st r1).map o_qm ++ [2]) q) (fun q => .ok ((sk r1 0).tail, q.2.1, q.2.2))) else .error (2, q.2.2.2.2.2) := by
      intro q
      unfold o_fm
      rw [hm]
      rfl
    by_cases hg : m = 1
    · have hT := hc1 hg
      have hsk : sk r1 0 = 2 :: R' := by
        rw [eB]
        exact tmm_sk hT _
      have h1st : o_1st r1 = B := by
        unfold o_1st
        rw [hsk, List.length_cons, eB]
        have : (B ++ 2 :: R').length - (R'.length + 1) = B.length := by
          rw [List.length_append, List.length_cons]
          omega
        rw [this, List.take_left']
        rfl
      rw [eB] at hat1 hs1
      obtain ⟨g4, e4, hm4, hi4, ha4, hp4⟩ := quote_lp (F := F) B (pos + 2) F g3 _ (by omega) (by rw [r22]; exact At_l hat1) (sml_l hs1) (by omega) hm3
      refine ⟨g4, ?_, ?_, ?_⟩
      · rw [e0, rf_expandForm_21]
        refine rc_in rfl (by omega) ?_
        refine rc_eqE (b := 2) hend rfl rfl ?_
        refine rc_eqF (a := 5) (b := 3) rfl rfl (by decide) ?_
        refine rc_eqF (a := 5) (b := 4) rfl rfl (by decide) ?_
        refine rc_eqE (b := 1) rfl rfl hg ?_
        rw [rf_expandForm_106]
        refine rc_eqF (a := 1) (b := 0) rfl rfl (by decide) ?_
        refine rc_bd e1 ?_
        refine rc_bd e3 ?_
        refine rc_eqE (a := 5) (b := 5) rfl rfl rfl ?_
        rw [q2]
        exact e4
      · exact hsm.fr.tr ⟨fun k hk => hi4 k (by omega) (by omega) (by omega), fun k hk => ha4 k (by omega)⟩
      · have eob : ob (ob (o_put 1 (1 :: 5 :: r1, op, nm, mk, fd, md)) (o_put (nI 5))) (fun q => ob (o_puts ((o_1st r1).map o_qm ++ [2]) q) (fun q => .ok ((sk r1 0).tail, q.2.1, q.2.2))) = if (pm (B.map o_qm ++ [2]) (pm [1, nI 5] (fd, mk, 0))).2.2 = 0 then .ok (R', op, nm, (pm (B.map o_qm ++ [2]) (pm [1, nI 5] (fd, mk, 0))).2.1, (pm (B.map o_qm ++ [2]) (pm [1, nI 5] (fd, mk, 0))).1, md) else .error (3, md) := by
          rw [ob2, ob_puts]
          show (if (pm [1, nI 5] (fd, mk, 0)).2.2 = 0 then _ else _) = _
          by_cases h0 : (pm [1, nI 5] (fd, mk, 0)).2.2 = 0
          · rw [if_pos h0]
            show ob (o_puts ((o_1st r1).map o_qm ++ [2]) (1 :: 5 :: r1, op, nm, (pm [1, nI 5] (fd, mk, 0)).2.1, (pm [1, nI 5] (fd, mk, 0)).1, md)) _ = _
            rw [ob_puts, h1st]
            have e9 : ((pm [1, nI 5] (fd, mk, 0)).1, (pm [1, nI 5] (fd, mk, 0)).2.1, 0) = pm [1, nI 5] (fd, mk, 0) := by
              generalize pm [1, nI 5] (fd, mk, 0) = s at h0 ⊢
              obtain ⟨a, b, c⟩ := s
              cases h0
              rfl
            show (if (pm (B.map o_qm ++ [2]) ((pm [1, nI 5] (fd, mk, 0)).1, (pm [1, nI 5] (fd, mk, 0)).2.1, 0)).2.2 = 0 then Except.ok ((sk r1 0).tail, op, nm, (pm (B.map o_qm ++ [2]) ((pm [1, nI 5] (fd, mk, 0)).1, (pm [1, nI 5] (fd, mk, 0)).2.1, 0)).2.1, (pm (B.map o_qm ++ [2]) ((pm [1, nI 5] (fd, mk, 0)).1, (pm [1, nI 5] (fd, mk, 0)).2.1, 0)).1, md) else Except.error (3, md)) = _
            rw [e9, hsk]
            rfl
          · rw [if_neg h0]
            have h3 := hm3.2.2.2.1.resolve_left h0
            rw [if_neg (by rw [pm_3 _ _ h3]; decide)]
        rw [hfm, if_pos hg, eob]
        refine OF_of ?_ hm4
        refine ⟨pos + 2 + B.length + 1, hp4, ?_, ?_, ?_, sml_t (sml_r hs1), hR', ?_, h12, ?_, hb2, ?_, hbc, ?_, hsn, ?_, hmd, hf12⟩
        · rw [hi4 21 (by decide) (by decide) (by decide), hsm.1 21 (by decide) (by decide), h21]
          congr 1
          omega
        · omega
        · rw [ha4 22 (by decide), r22]
          exact (At_r hat1).2
        · exact ((hi4 32 (by decide) (by decide) (by decide)).trans (hsm.1 32 (by decide) (by decide))).trans h32
        · rw [ha4 33 (by decide), hsm.2 33 (by decide)]
          exact hbk
        · exact ((hi4 34 (by decide) (by decide) (by decide)).trans (hsm.1 34 (by decide) (by decide))).trans h34
        · rw [ha4 35 (by decide), hsm.2 35 (by decide)]
          exact hnm
        · exact ((hi4 37 (by decide) (by decide) (by decide)).trans (hsm.1 37 (by decide) (by decide))).trans h37
    · refine ⟨sI gs 40 2, ?_, fr.rf.i (by decide), hbad2 _ (by rw [hfm, if_neg hg])⟩
      rw [e0, rf_expandForm_21]
      refine rc_in rfl (by omega) ?_
      refine rc_eqE (b := 2) hend rfl rfl ?_
      refine rc_eqF (a := 5) (b := 3) rfl rfl (by decide) ?_
      refine rc_eqF (a := 5) (b := 4) rfl rfl (by decide) ?_
      refine rc_eqF (b := 1) rfl rfl hg ?_
      exact hbad _ rfl
