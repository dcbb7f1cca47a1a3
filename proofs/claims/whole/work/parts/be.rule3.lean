/-! A rule is stored. -/
theorem store_ok {F n p N b : Nat} {gs : OS} {tk : Nat → Nat} (hF : 5000 ≤ F) (hn : n < 12) (hpN : p + 1 ≤ N) (hN : N ≤ 60) (hb : c_nm b) (h5 : gs.1 5 = nI n) (h3 : gs.1 3 = nI N) (ht1 : gs.2 4 1 = nI (o_tk b)) :
    ∃ g2, rf_rule_75 F gs (nI p) = bd (rf_countOf F g2 (nI (b - 97))) (fun r2 gs3 => (some (r2, gs3))) ∧ g2.1 5 = nI (n + 1) ∧ (∀ k, k ≠ 5 → g2.1 k = gs.1 k) ∧ (∀ k, k < 6 ∨ 12 < k → g2.2 k = gs.2 k) ∧
      g2.2 6 n = nI (b - 97) ∧ (∀ i, i < p → g2.2 8 (64 * n + i) = gs.2 4 i) ∧ g2.2 9 n = nI (N - p - 1) ∧ (∀ i, i < N - p - 1 → g2.2 10 (64 * n + i) = gs.2 4 (p + 1 + i)) ∧ g2.2 10 (64 * n + (N - p - 1)) = nI 0 ∧ g2.2 11 n = gs.1 18 ∧ g2.2 12 n = gs.1 19 ∧
      (∀ j, j < n → g2.2 6 j = gs.2 6 j ∧ g2.2 9 j = gs.2 9 j ∧ g2.2 11 j = gs.2 11 j ∧ g2.2 12 j = gs.2 12 j) ∧ ∀ t, t < 64 * n → g2.2 8 t = gs.2 8 t ∧ g2.2 10 t = gs.2 10 t := by
  have hob := otk_nm hb
  have hlet : rf_letterOf F gs (gs.2 4 1) = some (nI (b - 97), gs) := by
    have := letter_ok (F := F) (gs := gs) ht1 (by omega)
    rw [this]
    congr 3
    rw [hob]
    omega
  obtain ⟨gB, hgB⟩ : ∃ g, g = sA (sA gs 6 (upd (gs.2 6) n (nI (b - 97)))) 7 (upd (gs.2 7) n (nI p)) := ⟨_, rfl⟩
  have B5 : gB.1 5 = nI n := by rw [hgB]; exact h5
  obtain ⟨g8, e8, r1, r2, r3, r4⟩ := st8_lp (F := F) hn (show p ≤ 60 by omega) p 0 F gB (by omega) B5 (by omega)
  have e9 : g8.1 3 - nI p - 1 = nI (N - p - 1) := by
    rw [r1, hgB]
    show gs.1 3 - nI p - 1 = _
    rw [h3, nI_sb (by omega), show N - p = (N - p - 1) + 1 by omega]
    exact nI_pred _
  obtain ⟨gC, hgC⟩ : ∃ g, g = sA g8 9 (upd (g8.2 9) n (nI (N - p - 1))) := ⟨_, rfl⟩
  have C1 : gC.1 = gs.1 := by rw [hgC, sA_1, r1, hgB]; rfl
  obtain ⟨g10, e10, s1, s2, s3, s4⟩ := st10_lp (F := F) (p := p) hn hN (N - (p + 1)) (p + 1) F gC (by omega) (Nat.le_refl _) (by rw [C1]; exact h5) (by rw [C1]; exact h3) (by omega)
  have T1 : g10.1 = gs.1 := s1.trans C1
  have ei : (64 : Int32) * g10.1 5 + g10.1 3 - nI p - 1 = nI (64 * n + (N - p - 1)) := by
    rw [T1, h5, h3, mul64, nI_add, nI_sb (by omega), show 64 * n + N - p = (64 * n + (N - p - 1)) + 1 by omega]
    exact nI_pred _
  obtain ⟨gD, hgD⟩ : ∃ g, g = sA g10 10 (upd (g10.2 10) (64 * n + (N - p - 1)) 0) := ⟨_, rfl⟩
  have D1 : gD.1 = gs.1 := by rw [hgD]; exact T1
  obtain ⟨gE, hgE⟩ : ∃ g, g = sA (sA gD 11 (upd (gD.2 11) n (gs.1 18))) 12 (upd (gD.2 12) n (gs.1 19)) := ⟨_, rfl⟩
  have E1 : gE.1 = gs.1 := by rw [hgE]; exact D1
  have row : ∀ k, (sI gE 5 (nI (n + 1))).2 k = gE.2 k := fun k => rfl
  have f12 : gE.2 12 = upd (gD.2 12) n (gs.1 19) := by rw [hgE, sA_e]
  have f11 : gE.2 11 = upd (gD.2 11) n (gs.1 18) := by rw [hgE, sA_n (by decide), sA_e]
  have fE : ∀ k, k ≠ 11 → k ≠ 12 → gE.2 k = gD.2 k := fun k q1 q2 => by rw [hgE, sA_n q2, sA_n q1]
  have fD10 : gD.2 10 = upd (g10.2 10) (64 * n + (N - p - 1)) 0 := by rw [hgD, sA_e]
  have fD : ∀ k, k ≠ 10 → gD.2 k = g10.2 k := fun k q => by rw [hgD, sA_n q]
  have fC9 : gC.2 9 = upd (g8.2 9) n (nI (N - p - 1)) := by rw [hgC, sA_e]
  have fC : ∀ k, k ≠ 9 → gC.2 k = g8.2 k := fun k q => by rw [hgC, sA_n q]
  have fB6 : gB.2 6 = upd (gs.2 6) n (nI (b - 97)) := by rw [hgB, sA_n (by decide), sA_e]
  have fB : ∀ k, k ≠ 6 → k ≠ 7 → gB.2 k = gs.2 k := fun k q1 q2 => by rw [hgB, sA_n q2, sA_n q1]
  have k6 : gE.2 6 = upd (gs.2 6) n (nI (b - 97)) := by rw [fE 6 (by decide) (by decide), fD 6 (by decide), s2 6 (by decide), fC 6 (by decide), r2 6 (by decide), fB6]
  have k9 : gE.2 9 = upd (gs.2 9) n (nI (N - p - 1)) := by rw [fE 9 (by decide) (by decide), fD 9 (by decide), s2 9 (by decide), fC9, r2 9 (by decide), fB 9 (by decide) (by decide)]
  have k8 : gE.2 8 = g8.2 8 := by rw [fE 8 (by decide) (by decide), fD 8 (by decide), s2 8 (by decide), fC 8 (by decide)]
  have k11 : gD.2 11 = gs.2 11 := by rw [fD 11 (by decide), s2 11 (by decide), fC 11 (by decide), r2 11 (by decide), fB 11 (by decide) (by decide)]
  have k12 : gD.2 12 = gs.2 12 := by rw [fD 12 (by decide), s2 12 (by decide), fC 12 (by decide), r2 12 (by decide), fB 12 (by decide) (by decide)]
  have kC4 : gC.2 4 = gs.2 4 := by rw [fC 4 (by decide), r2 4 (by decide), fB 4 (by decide) (by decide)]
  have kC10 : gC.2 10 = gs.2 10 := by rw [fC 10 (by decide), r2 10 (by decide), fB 10 (by decide) (by decide)]
  have k10 : gE.2 10 = upd (g10.2 10) (64 * n + (N - p - 1)) 0 := by rw [fE 10 (by decide) (by decide), fD10]
  refine ⟨sI gE 5 (nI (n + 1)), ?_, sI_e _ _ _, fun k hk => by rw [sI_n hk, E1], fun k hk => ?_, ?_, fun i hi => ?_, ?_, fun i hi => ?_, ?_, ?_, ?_, fun j hj => ⟨?_, ?_, ?_, ?_⟩, fun t ht => ⟨?_, ?_⟩⟩
  · rw [rf_rule_75]
    refine rc_in (a := 1) rfl (by decide) ?_
    refine rc_bd hlet ?_
    rw [rf_rule_92]
    refine rc_in h5 (by omega) ?_
    rw [h5, nI_clamp (by omega), rf_rule_93]
    refine rc_in h5 (by omega) ?_
    have eB : sA (sA gs 6 (upd (gs.2 6) n (nI (b - 97)))) 7 (upd ((sA gs 6 (upd (gs.2 6) n (nI (b - 97)))).2 7) ((sA gs 6 (upd (gs.2 6) n (nI (b - 97)))).1 5).toNatClampNeg (nI p)) = gB := by
      rw [hgB, sA_1, h5, nI_clamp (by omega), sA_n (by decide)]
    rw [eB]
    refine Eq.trans e8 ?_
    rw [rf_rule_136]
    refine rc_in (show g8.1 5 = nI n by rw [r1]; exact B5) (by omega) ?_
    have eC : sA g8 9 (upd (g8.2 9) (g8.1 5).toNatClampNeg (g8.1 3 - nI p - 1)) = gC := by
      rw [hgC, e9, show g8.1 5 = nI n by rw [r1]; exact B5, nI_clamp (by omega)]
    rw [eC, nI_1]
    refine Eq.trans e10 ?_
    rw [rf_rule_195]
    refine rc_in ei (by omega) ?_
    rw [ei, nI_clamp (by omega), ← hgD, rf_rule_217]
    have D5 : gD.1 5 = nI n := by rw [D1]; exact h5
    refine rc_in D5 (by omega) ?_
    refine rc_in D5 (by omega) ?_
    rw [D5, nI_clamp (by omega), D1, ← hgE, rf_rule_243]
    have E5 : gE.1 5 = nI n := by rw [E1]; exact h5
    have ep1 : gE.1 5 + 1 = nI (n + 1) := by rw [E5]; exact nI_1 n
    have em1 : gE.1 5 + 1 - 1 = nI n := by rw [ep1]; exact nI_pred n
    refine rc_in em1 (by omega) ?_
    rw [em1, ep1, nI_clamp (by omega), k6, upd_e]
  · rw [row]
    rcases hk with hk | hk
    · rw [fE k (by omega) (by omega), fD k (by omega), s2 k (by omega), fC k (by omega), r2 k (by omega), fB k (by omega) (by omega)]
    · rw [fE k (by omega) (by omega), fD k (by omega), s2 k (by omega), fC k (by omega), r2 k (by omega), fB k (by omega) (by omega)]
  · rw [row, k6, upd_e]
  · rw [row, k8, r3 i (Nat.zero_le _) hi, fB 4 (by decide) (by decide)]
  · rw [row, k9, upd_e]
  · rw [row, k10, upd_n (by omega)]
    have := s3 (p + 1 + i) (by omega) (by omega)
    rw [show p + 1 + i - p - 1 = i by omega, kC4] at this
    exact this
  · rw [row, k10, upd_e]; rfl
  · rw [row, f11, upd_e]
  · rw [row, f12, upd_e]
  · rw [row, k6, upd_n (by omega)]
  · rw [row, k9, upd_n (by omega)]
  · rw [row, f11, upd_n (by omega), k11]
  · rw [row, f12, upd_n (by omega), k12]
  · rw [row, k8, r4 t (by omega), fB 8 (by decide) (by decide)]
  · rw [row, k10, upd_n (by omega), s4 t (by omega), kC10]
theorem map_at {cs A B : List Nat} {f : Nat → Int32} (hA : At f 0 (cs.map o_tk ++ [0])) (h : cs = A ++ B) : At f A.length (B.map o_tk ++ [0]) := by
  rw [h, List.map_append, List.append_assoc] at hA
  have := At_r hA
  rw [Nat.zero_add, List.length_map] at this
  exact this
theorem rule_ok {F n dn : Nat} {rt : Nat → RSt} {gs : OS} {dl : List Nat} {sgn : Nat → Nat} (hF : 5000 ≤ F) (hD : DR gs dl) (hds : Ds sgn dn (dcs dl)) (hR : RS gs rt n) (hk : ∀ c, r_kf (rt n) c < 3) :
    (∀ Q, r_rd sgn dn (rt n) Q 0 → ∃ g2, rf_rule F gs = some (0, g2) ∧ g2.1 0 = nI 1 ∧ DR g2 [] ∧ rcg gs g2) ∧
    (∀ Q, r_rd sgn dn (rt n) Q 1 → n = 12 → ∃ g2, rf_rule F gs = some (0, g2) ∧ g2.1 0 = nI 2 ∧ DR g2 [] ∧ rcg gs g2) ∧
    (∀ Q rt2, r_rd sgn dn (rt n) Q 1 → n < 12 → rt2 n = Q → (∀ j, j ≠ n → rt2 j = rt j) → ∃ g2, rf_rule F gs = some (nI (r_ct rt2 (r_mc Q) (n + 1)), g2) ∧ g2.1 0 = nI 0 ∧ DR g2 [] ∧ RS g2 rt2 (n + 1) ∧ g2.1 37 = gs.1 37 ∧ g2.1 38 = gs.1 38 ∧ g2.2 39 = gs.2 39) := by
  have hlen := dcs_len dl
  have h60 := hD.2.1
  rcases rule_run (F := F) (x := r_x (rt n)) (kf := r_kf (rt n)) hF hD hR.1 with ⟨g, e, z1, rc, hno⟩ | ⟨g, x2, kg, tm, b, R, xx, C2, x1, p, hr, e, hp, z0, z1, rc, z3, hA, hbits⟩
  · have nois : ∀ e0, d_eq sgn dn e0 → ∀ a k c, ¬ r_is 60 sgn dn e0 (r_x (rt n)) (r_kf (rt n)) a k c := fun e0 he a k c q => by
      obtain ⟨b, C, xx, C2, x1, w1, w2, w3⟩ := (ris_iff hds he).mp q
      obtain ⟨R, hr⟩ := rtx_iff.mpr ⟨C, w1, w2, w3⟩
      exact hno _ _ _ _ _ _ _ _ hr
    refine ⟨fun Q _ => ⟨_, e, sI_e _ _ _, DR_0 ((sI_n (by decide)).trans z1), rc.i (by decide)⟩, fun Q hq => ?_, fun Q rt2 hq => ?_⟩
    · exfalso
      obtain ⟨e0, he, ⟨_, tm, _, _, _, hq⟩ | ⟨q, _⟩⟩ := hq
      · exact nois e0 he _ _ _ hq
      · exact absurd q (by decide)
    · exfalso
      obtain ⟨e0, he, ⟨_, tm, _, _, _, hq⟩ | ⟨q, _⟩⟩ := hq
      · exact nois e0 he _ _ _ hq
      · exact absurd q (by decide)
  · have g5 : g.1 5 = nI n := (rc.1 5 (Or.inl rfl)).trans hR.1
    refine ⟨fun Q hq => ?_, fun Q hq hn => ?_, fun Q rt2 hq hn h2 h3 => ?_⟩
    · exfalso
      obtain ⟨e0, he, ⟨q, _⟩ | ⟨_, hq⟩⟩ := hq
      · exact absurd q (by decide)
      · obtain ⟨C, w1, w2, w3⟩ := rtx_iff.mp ⟨R, hr⟩
        exact hq _ _ _ ((ris_iff hds he).mpr ⟨b, C, xx, C2, x1, w1, w2, w3⟩)
    · refine ⟨sI g 0 2, ?_, sI_e _ _ _, DR_0 ((sI_n (by decide)).trans z1), rc.i (by decide)⟩
      rw [e]
      exact rc_eqE (b := 12) g5 rfl hn rfl
    · obtain ⟨e0, he, ⟨_, tm', htm, hspn, htz, hq⟩ | ⟨q, _⟩⟩ := hq
      · obtain ⟨b', C, xx', C2', x1', w1, w2, w3⟩ := (ris_iff hds he).mp hq
        obtain ⟨R', hr'⟩ := rtx_iff.mpr ⟨C, w1, w2, w3⟩
        obtain ⟨u1, u2, u3, u4, u5, u6, u7, u8⟩ := rtx_uni hr hr'
        subst u3 u4 u5 u6 u7 u8
        obtain ⟨y1, y2, y3, y4, y5, y6, y7, y8, y9, y10, y11, y12⟩ := ctx_wf w1
        have hz60 : x_z x1' ≤ 60 := by
          have := y2.2.2.2.2.1
          omega
        have htm2 : tm' = x_z x1' := hr'.2.2.2.2.2.1
        have hrt : r_tm Q = tm' := by
          unfold r_tm
          rw [htm]
          exact nI_clamp (by omega)
        have hG : RG Q := RG_of hq hrt hk w1 hr'
        obtain ⟨t1, t2⟩ := ctx_tp w1
        have ecs : dcs dl = (40 :: b' :: C) ++ 61 :: C2' := w1.1
        have hlen2 : (dcs dl).length = C.length + C2'.length + 3 := by
          rw [ecs, List.length_append, List.length_cons, List.length_cons, List.length_cons]
          omega
        have hpC : p = C.length + 2 := by omega
        have htok1 : g.2 4 1 = nI (o_tk b') := by
          rw [ecs] at hA
          exact hA.2.1
        obtain ⟨g2, q1, q2, q3, q4, q5, q6, q7, q8, q9, q10, q11, q12, q13⟩ := store_ok (F := F) (tk := fun _ => 0) hF hn (show p + 1 ≤ (dcs dl).length by omega) (by omega) w1.2.1 g5 z3 htok1
        have hmc : r_mc Q = b' := by
          show x_sg (r_x Q) 1 = b'
          rw [← (y12 1 (by omega)).1]
          exact y7
        have hAt0 : At (g.2 4) 0 ((40 :: b' :: C).map o_tk) := by
          rw [ecs, List.map_append, List.append_assoc] at hA
          exact At_l hA
        have hAt1 : At (g.2 4) (p + 1) (C2'.map o_tk ++ [0]) := by
          have := map_at (A := (40 :: b' :: C) ++ [61]) (B := C2') hA (by rw [ecs, List.append_assoc]; rfl)
          rw [List.length_append, List.length_cons, List.length_cons] at this
          rw [hpC]
          exact this
        have hRS : RS g2 rt2 (n + 1) := by
          refine ⟨q2, by omega, fun j hj => ?_⟩
          by_cases hjn : j = n
          · subst hjn
            rw [h2]
            refine ⟨hG, ?_, ?_, ?_, ?_, ?_, ?_, fun c hc => ?_⟩
            · rw [q5]
              show nI (b' - 97) = nI (r_mc Q - 97)
              rw [hmc]
            · rw [t1]
              refine At_getD _ _ (fun i hi => ?_)
              rw [List.length_map, List.length_cons, List.length_cons] at hi
              rw [q6 i (by omega)]
              have := At_get _ 0 i hAt0 (by rw [List.length_map, List.length_cons, List.length_cons]; exact hi)
              rw [Nat.zero_add] at this
              exact this
            · rw [t1, List.length_map, List.length_cons, List.length_cons]
              omega
            · rw [hrt, t2, List.length_map, q7]
              congr 1
              omega
            · rw [hrt, t2]
              refine At_app ?_ ⟨?_, trivial⟩
              · refine At_getD _ _ (fun i hi => ?_)
                rw [List.length_map] at hi
                rw [q8 i (by omega)]
                have := At_get _ (p + 1) i (At_l hAt1) (by rw [List.length_map]; exact hi)
                exact this
              · rw [List.length_map]
                have : (dcs dl).length - p - 1 = C2'.length := by omega
                rw [this] at q9
                exact q9
            · rw [hrt, t2, List.length_map]
              omega
            · rw [q10, q11, show r_kf Q = kg from u2]
              exact hbits c hc
          · rw [h3 j hjn]
            have hjn2 : j < n := by omega
            obtain ⟨hGj, hHj⟩ := hR.2.2 j hjn2
            refine ⟨hGj, ?_⟩
            obtain ⟨a1, a2, a3, a4, a5, a6, a7⟩ := hHj
            obtain ⟨m1, m2, m3, m4⟩ := q12 j hjn2
            have rr : ∀ k, 6 ≤ k → k ≤ 12 → g.2 k = gs.2 k := fun k z1 z2 => rc.2 k (Or.inl ⟨z1, z2⟩)
            refine ⟨?_, ?_, a3, ?_, ?_, a6, fun c hc => ?_⟩
            · rw [m1, rr 6 (by decide) (by decide)]; exact a1
            · exact At_cg a2 (fun i z1 z2 => by rw [(q13 i (by omega)).1, rr 8 (by decide) (by decide)])
            · rw [m2, rr 9 (by decide) (by decide)]; exact a4
            · refine At_cg a5 (fun i z1 z2 => ?_)
              rw [List.length_append] at z2
              have z2 : i < 64 * j + ((tpT (r_x (rt j)) (r_tm (rt j))).length + 1) := z2
              rw [(q13 i (by omega)).2, rr 10 (by decide) (by decide)]
            · rw [m3, m4, rr 11 (by decide) (by decide), rr 12 (by decide) (by decide)]; exact a7 c hc
        refine ⟨g2, ?_, ?_, DR_0 (by rw [q3 1 (by decide)]; exact z1), hRS, ?_, ?_, ?_⟩
        · rw [e]
          refine rc_eqF (b := 12) g5 rfl (by omega) ?_
          rw [q1]
          have hb9 := w1.2.1
          refine rc_bd (cnt_ok (c := b' - 97) hF hRS (by omega)) ?_
          rw [hmc, show b' - 97 + 97 = b' by omega]
        · rw [q3 0 (by decide)]; exact z0
        · rw [q3 37 (by decide)]; exact rc.1 37 (Or.inr (Or.inl rfl))
        · rw [q3 38 (by decide)]; exact rc.1 38 (Or.inr (Or.inr rfl))
        · rw [q4 39 (Or.inr (by decide))]; exact rc.2 39 (Or.inr rfl)
      · exact absurd q (by decide)
