theorem xc_uo3 : xc uoN = 3 := xc_uo
/-- a use: the reference's replace does what a replacement by rows does -/
theorem rep_ok {F fu n cap nd fd : Nat} {rt : Nat → RSt} {gs : OS} {q : XSt} {r op nm : List Nat} {mk : Nat → Int32} (hF : 5000 ≤ F) (hR : RS gs rt n) (hcap : 780 ≤ cap) (hrt : ∀ j, j < n → t_raw 60 (r_x (rt j))) (hq : x_inv cap q) (ho : t_oq q) (hnd : nd < x_z q.1) (hit : ¬ x_it q.1 nd = 0) (hh : c_nm (x_sg q.1 (nd + 1))) (hO : OY gs fu (tkT q.1 nd ++ r) op nm mk fd q.2.1) :
    ∃ g2, rf_replace F gs (nI fu) = some (0, g2) ∧ fr gs g2 ∧ (∀ e, e_rp cap rt n fu nd q = .error e → g2.1 40 = nI (xc e.1) ∧ g2.1 37 = nI q.2.1 ∧ e.2 = q.2.1) ∧ (∀ t p, e_rp cap rt n fu nd q = .ok (t, p) → OY g2 fu (tkT p.1 t ++ r) op nm mk fd (q.2.1 + 1) ∧ t_oq p ∧ p.2 = (q.2.1 + 1, q.2.2)) := by
  obtain ⟨y, md, mk0, fd0⟩ := q
  have hq' := hq
  obtain ⟨hraw, hwy, hly, hsm0, hmd12, hfd⟩ := hq
  have hwy : t_wf6 y := hwy
  have hly : t_lf y := hly
  have hmd12 : md ≤ 12 := hmd12
  obtain ⟨hoy, hz, hstp⟩ := ho
  have hstp : ∀ i, i < x_z y → x_st y i ≤ md := hstp
  have hoy : t_ok y := hoy
  have hz : x_z y ≤ 60 * (md + 1) := hz
  have hnd : nd < x_z y := hnd
  have hit : ¬ x_it y nd = 0 := hit
  have hh : c_nm (x_sg y (nd + 1)) := hh
  have hO : OY gs fu (tkT y nd ++ r) op nm mk fd md := hO
  obtain ⟨pos, h36, h21, hle, hat, hs, hl, h32, h12, hbk, hb2, h34, hbc, hnm, hsn, hmk, h37, hmd, hf12⟩ := hO
  rw [List.length_append] at h21 hle
  have hn12 := hR.2.1
  have h40 := lf_list hly hnd hit
  obtain ⟨m, hm⟩ : ∃ m, x_it y nd = m + 1 := ⟨x_it y nd - 1, by omega⟩
  have hitle := t_it_le hwy.1 hnd
  have hT := tkT_tmm hwy hoy hnd
  have hsT := sml_l hs
  have hrow := At_l hat
  have hlr : lvl r op.length = some 0 := by
    rw [lvl_app, tmm_lvl hT] at hl
    exact hl
  -- the head's letter
  have ehd := tkT_head hwy hnd h40 hm
  rw [tkT_leaf (a := nd + 1) (by omega), tkm_nm hh] at ehd
  have hst : x_sg y (nd + 1) + 3 + 32 * x_st y (nd + 1) < 2 ^ 30 := hsT _ (by rw [ehd]; exact List.mem_cons_of_mem _ List.mem_cons_self)
  have hlen2 : 2 ≤ (tkT y nd).length := by rw [ehd]; simp
  have p1 : gs.1 36 + 1 = nI (pos + 1) := nI_p1 h36
  have hat1 : gs.2 22 (gs.1 36 + 1).toNatClampNeg = nI (x_sg y (nd + 1) + 3 + 32 * x_st y (nd + 1)) := by
    rw [ehd] at hrow
    exact cl_ax p1 hrow.2.1
  have hlet := letter_ok (F := F) (gs := gs) hat1 (by omega)
  have hmod : (x_sg y (nd + 1) + 3 + 32 * x_st y (nd + 1) - 100) % 32 = x_sg y (nd + 1) - 97 := by omega
  rw [hmod] at hlet
  by_cases hfu : md = fu
  · -- no replacement is left
    have e1 : e_rp cap rt n fu nd (y, md, mk0, fd0) = .error (uoN, md) := by
      unfold e_rp
      rw [if_pos (by show fu ≤ md; omega)]
    refine ⟨sI gs 40 3, ?_, fr.rf.i (by decide), fun e h => ?_, fun t p h => by rw [e1] at h; cases h⟩
    · rw [rf_replace]
      exact rc_eqE h37 rfl hfu rfl
    · rw [e1] at h
      cases h
      exact ⟨by rw [sI_e, xc_uo]; rfl, (sI_n (by decide)).trans h37, rfl⟩
  · have e0 : ∀ {C : RO}, rf_replace_31 F F gs (nI (x_sg y (nd + 1) - 97)) 0 = C → rf_replace F gs (nI fu) = C := fun {C} k => by
      rw [rf_replace]
      refine rc_eqF h37 rfl hfu ?_
      refine rc_in p1 (by omega) ?_
      exact rc_bd hlet k
    obtain ⟨g1, hc1, hn1, hs1⟩ := ff_lp (rt := rt) (n := n) (pos := pos) hF hwy hly hoy hnd h40 hm hh (by omega) hsT n 0 F gs (by omega) (by omega) hR h36 hrow
    have hrp : ∀ x, e_rp cap rt n fu nd (y, md, mk0, fd0) = x ↔ (match e_ff rt y nd n 0 with
        | none => .error (isN, md)
        | some (i, mm) => @ite _ (m_ev (r_x (rt i)) (r_kf (rt i)) mm.1 (r_tm (rt i))) (Classical.propDecidable _) (match t_run cap (x_z y) 12 (e_tk (rt i) y mm md) (t_beg y) with
          | none => .error (uoN, md)
          | some y2 => .ok (x_z y, y2, md + 1, mk0, fd0)) (.error (isN, md))) = x := by
      intro x
      unfold e_rp
      rw [if_neg (by show ¬ fu ≤ md; omega)]
      exact Iff.rfl
    cases hff : e_ff rt y nd n 0 with
    | none =>
      have e1 : e_rp cap rt n fu nd (y, md, mk0, fd0) = .error (isN, md) := (hrp _).mpr (by rw [hff])
      refine ⟨sI g1 40 2, e0 (hn1 hff), hc1.fr.i (by decide), fun e h => ?_, fun t p h => by rw [e1] at h; cases h⟩
      rw [e1] at h
      cases h
      exact ⟨by rw [sI_e, xc_is]; rfl, (sI_n (by decide)).trans ((hc1.1 37 (by decide)).trans h37), rfl⟩
    | some w =>
      obtain ⟨j, mm⟩ := w
      obtain ⟨e31, hjn, hI, hmt⟩ := hs1 j mm hff
      obtain ⟨hG, hH⟩ := hR.2.2 j hjn
      have hH1 := RH_fr hH hc1.fr
      have h37a : g1.1 37 = nI md := (hc1.1 37 (by decide)).trans h37
      have hM := GM_of hG hH1 hI hmt h37a
      have h5 : g1.1 5 = nI n := (hc1.1 5 (by decide)).trans hR.1
      have hr22 : g1.2 22 = gs.2 22 := hc1.2 22 (by decide) (by decide) (by decide)
      obtain ⟨ga, gd, ea, hgd, hga, hg0, _, _⟩ := through_ok (pb := 0) (s := ([], 0, 0, 0, 0)) hF hG hH1 (by omega) hmd12 (by decide) hwy hoy hM (fun q9 => by cases q9)
      have hg0 := hg0 rfl
      subst hg0
      have e63 : ∀ {C : RO}, _ = C → rf_replace F gs (nI fu) = C := fun {C} k => e0 (by
        refine e31.trans ?_
        rw [rf_replace_63]
        refine rc_eqF rfl h5 (by omega) ?_
        exact rc_bd ea k)
      by_cases hev : pe (r_x (rt j)) (r_kf (rt j)) mm.1 (r_tm (rt j)) (x_z (r_x (rt j)))
      · have hgd1 := hga.mpr hev
        -- put
        have hcE : fr ga (sI (sI (sI (sI (sI ga 23 0) 25 0) 26 0) 27 0) 28 0) := ((((fr.rf.i (by decide)).i (by decide)).i (by decide)).i (by decide)).i (by decide)
        have hec0 : ec ga (sI (sI (sI (sI (sI ga 23 0) 25 0) 26 0) 27 0) 28 0) := ⟨fun k q1 q2 q3 q4 q5 => (sI_n q5).trans ((sI_n q4).trans ((sI_n q3).trans ((sI_n q2).trans (sI_n q1)))), fun _ _ => rfl⟩
        have hEM : EM (sI (sI (sI (sI (sI ga 23 0) 25 0) 26 0) 27 0) 28 0) ([], 0, 0, 0, 0) := by
          refine ⟨?_, trivial, ?_, ?_, ?_, sI_e _ _ _, by decide, fun _ => ⟨by decide, by decide, by decide, by decide⟩⟩
          · exact (sI_n (by decide)).trans ((sI_n (by decide)).trans ((sI_n (by decide)).trans ((sI_n (by decide)).trans (sI_e _ _ _))))
          · exact (sI_n (by decide)).trans ((sI_n (by decide)).trans ((sI_n (by decide)).trans (sI_e _ _ _)))
          · exact (sI_n (by decide)).trans ((sI_n (by decide)).trans (sI_e _ _ _))
          · exact (sI_n (by decide)).trans (sI_e _ _ _)
        obtain ⟨gb, gdb, eb, _, _, _, hb1, hlt⟩ := through_ok (pb := 1) (s := ([], 0, 0, 0, 0)) hF hG (RH_fr hH1 hcE) (by omega) hmd12 (by decide) hwy hoy (GM_ec hM hec0) (fun _ => ⟨hEM, hev⟩)
        obtain ⟨hecb, hEb⟩ := hb1 rfl
        obtain ⟨hlv, htm⟩ := hlt hev
        have hec := hec0.tr hecb
        have hrun := run_tm (cap := cap) (y := y) (T := e_tk (rt j) y mm md) (by omega) htm
        have hfr : fr gs gb := hc1.fr.tr hec.fr
        have e64 : ∀ {C : RO}, _ = C → rf_replace F gs (nI fu) = C := fun {C} k => e63 (by
          refine rc_eqF (a := 1) (b := 0) (by rw [hgd1]) rfl (by decide) ?_
          exact rc_bd eb k)
        have h37b : gb.1 37 = nI md := (hec.1 37 (by decide) (by decide) (by decide) (by decide) (by decide)).trans h37a
        by_cases hgr : (em ((e_tk (rt j) y mm md).map tkm) ([], 0, 0, 0, 0)).2.2.2.2 = 0
        · obtain ⟨y2, ey2, hz2, hz3, hdp2⟩ := hrun.2 hgr
          have e1 : e_rp cap rt n fu nd (y, md, mk0, fd0) = .ok (x_z y, y2, md + 1, mk0, fd0) := (hrp _).mpr (by
            rw [hff]
            show @ite _ _ (Classical.propDecidable _) _ _ = _
            rw [if_pos (show m_ev (r_x (rt j)) (r_kf (rt j)) mm.1 (r_tm (rt j)) from hev), ey2])
          have htk : tkT y2 (x_z y) = (e_tk (rt j) y mm md).map tkm := by
            unfold tkT
            rw [t_run_tk hwy hly ?_ hz3 ey2]
            exact f_n_bal (fun v k => tk_n_bal _ _) _ _ _
          have hel := em_list _ _ hgr
          rw [List.nil_append] at hel
          -- the state behind what was put
          obtain ⟨b1, b2, b3, b4, b5, b6, b7, b8⟩ := hEb
          rw [hel] at b1 b2
          obtain ⟨c1, c2, c3, c4⟩ := b8 hgr
          rw [hel] at c3
          have hEl : ((e_tk (rt j) y mm md).map tkm).length ≤ 120 := by omega
          generalize hE : (e_tk (rt j) y mm md).map tkm = E at b1 b2 c3 htk hlv htm hEl
          have b28 : gb.1 28 = nI 0 := by rw [b6, hgr]
          have k36 : gb.1 36 = nI pos := (hec.1 36 (by decide) (by decide) (by decide) (by decide) (by decide)).trans ((hc1.1 36 (by decide)).trans h36)
          have k21 : gb.1 21 = nI (pos + ((tkT y nd).length + r.length)) := (hec.1 21 (by decide) (by decide) (by decide) (by decide) (by decide)).trans ((hc1.1 21 (by decide)).trans h21)
          have k22 : gb.2 22 = gs.2 22 := (hec.2 22 (by decide)).trans hr22
          have hskp := skip_ok (F := F) (gs := sI gb 37 (gb.1 37 + 1)) (x := gb.1 36) hF k36 hT (by show At (gb.2 22) _ _; rw [k22]; exact hrow) hsT (by omega)
          have hx5 : gb.1 21 - nI (pos + (tkT y nd).length) = nI r.length := by
            rw [k21, nsub (by omega)]
            congr 1
            omega
          obtain ⟨gm, hcm, em2, ham⟩ := mv_ok (F := F) (m := E.length) (e0 := pos + (tkT y nd).length) (l := E) (r := r) (gs := sI gb 37 (gb.1 37 + 1)) (x4 := nI (pos + (tkT y nd).length)) (x5 := gb.1 21 - nI (pos + (tkT y nd).length)) hF (by omega) rfl ((sI_n (by decide)).trans b1) b2 (by show At (gb.2 22) _ _; rw [k22]; exact At_r hat) (by omega) rfl hx5
          have hgm : ∀ k, k ≠ 37 → gm.1 k = gb.1 k := fun k hk => by rw [hcm.1]; exact sI_n hk
          have hgm37 : gm.1 37 = nI (md + 1) := by rw [hcm.1, sI_e]; exact nI_p1 h37b
          have hgb : ∀ k, k ≠ 41 → k ≠ 23 → k ≠ 25 → k ≠ 26 → k ≠ 27 → k ≠ 28 → gb.1 k = gs.1 k := fun k q0 q1 q2 q3 q4 q5 => (hec.1 k q1 q2 q3 q4 q5).trans (hc1.1 k q0)
          have hga2 : ∀ k, k ≠ 22 → k ≠ 24 → k ≠ 29 → k ≠ 30 → k ≠ 31 → gm.2 k = gs.2 k := fun k q0 q1 q2 q3 q4 => (hcm.2 k q0).trans ((hec.2 k q1).trans (hc1.2 k q2 q3 q4))
          refine ⟨sI (sI gm 21 (gm.1 23 + nI r.length)) 36 0, ?_, ?_, fun e h => (by rw [e1] at h; cases h), fun t p h => ?_⟩
          · refine e64 ?_
            refine rc_eqE (b := 0) b28 rfl rfl ?_
            refine rc_bd hskp ?_
            exact em2
          · refine ((hfr.tr ⟨fun k hk => ?_, fun k hk => ?_⟩).i (by decide)).i (by decide)
            · exact hgm k (by omega)
            · exact hcm.2 k (by omega)
          · rw [e1] at h
            cases h
            have hto := t_run_tok (K := md + 1) _ _ _ (f_n_tok hG.1.1.1 hG.2.2.2.2.2.2.2.2.1 (fun v k => tk_st_n hwy.1 hoy (fun i hi => Nat.le_succ_of_le (hstp i hi)) 60 _ (e_mt_al hwy.1 hnd hmt v k)) 60 _ _ (Nat.le_refl _) hG.2.2.2.2.2.2.1) (show t_ok (t_beg y) ∧ ∀ i, i < x_z (t_beg y) → x_st (t_beg y) i ≤ md + 1 from ⟨hoy, fun i hi => Nat.le_succ_of_le (hstp i hi)⟩) ey2
            refine ⟨?_, ⟨hto.1, ?_, hto.2⟩, rfl⟩
            · show OY _ fu (tkT y2 (x_z y) ++ r) op nm mk fd (md + 1)
              rw [htk]
              refine ⟨0, sI_e _ _ _, ?_, ?_, ham, sml_app hlv.2 (sml_r hs), ?_, ?_, h12, ?_, hb2, ?_, hbc, ?_, hsn, ?_, ?_, ?_, hf12⟩
              · show gm.1 23 + nI r.length = nI (0 + (E ++ r).length)
                rw [hgm 23 (by decide), b1, nI_add, List.length_append, Nat.zero_add]
              · rw [List.length_append]
                omega
              · rw [lvl_app, tmm_lvl htm]
                exact hlr
              · exact (show gm.1 32 = _ from (hgm 32 (by decide)).trans (hgb 32 (by decide) (by decide) (by decide) (by decide) (by decide) (by decide))).trans h32
              · show Bk (gm.2 33) op
                rw [hga2 33 (by decide) (by decide) (by decide) (by decide) (by decide)]
                exact hbk
              · exact (show gm.1 34 = _ from (hgm 34 (by decide)).trans (hgb 34 (by decide) (by decide) (by decide) (by decide) (by decide) (by decide))).trans h34
              · show Bk (gm.2 35) nm
                rw [hga2 35 (by decide) (by decide) (by decide) (by decide) (by decide)]
                exact hnm
              · exact MK_cg hmk (show gm.1 38 = _ from (hgm 38 (by decide)).trans (hgb 38 (by decide) (by decide) (by decide) (by decide) (by decide) (by decide))) (show gm.1 40 = _ from (hgm 40 (by decide)).trans (hgb 40 (by decide) (by decide) (by decide) (by decide) (by decide) (by decide))) (hga2 39 (by decide) (by decide) (by decide) (by decide) (by decide))
              · exact hgm37
              · show md + 1 ≤ fu
                omega
            · show x_z y2 ≤ 60 * (md + 1 + 1)
              omega
        · have e1 : e_rp cap rt n fu nd (y, md, mk0, fd0) = .error (uoN, md) := (hrp _).mpr (by
            rw [hff]
            show @ite _ _ (Classical.propDecidable _) _ _ = _
            rw [if_pos (show m_ev (r_x (rt j)) (r_kf (rt j)) mm.1 (r_tm (rt j)) from hev), hrun.1 hgr])
          have hg28 := hEb.2.2.2.2.2.1
          have hg28b := hEb.2.2.2.2.2.2.1
          refine ⟨sI gb 40 3, ?_, hfr.i (by decide), fun e h => ?_, fun t p h => by rw [e1] at h; cases h⟩
          · refine e64 ?_
            exact rc_eqF (b := 0) hg28 rfl hgr rfl
          · rw [e1] at h
            cases h
            exact ⟨by rw [sI_e, xc_uo]; rfl, (sI_n (by decide)).trans h37b, rfl⟩
      · have e1 : e_rp cap rt n fu nd (y, md, mk0, fd0) = .error (isN, md) := (hrp _).mpr (by
          rw [hff]
          show @ite _ _ (Classical.propDecidable _) _ _ = _
          rw [if_neg (show ¬ m_ev (r_x (rt j)) (r_kf (rt j)) mm.1 (r_tm (rt j)) from hev)])
        have hgd0 : gd = 0 := by
          have : ¬ gd = 1 := fun q9 => hev (hga.mp q9)
          omega
        refine ⟨sI ga 40 2, ?_, hc1.fr.i (by decide), fun e h => ?_, fun t p h => by rw [e1] at h; cases h⟩
        · refine e63 ?_
          refine rc_eqE (b := 0) (by rw [hgd0]) rfl rfl ?_
          rfl
        · rw [e1] at h
          cases h
          exact ⟨by rw [sI_e, xc_is]; rfl, (sI_n (by decide)).trans h37a, rfl⟩
