/-! The reference's rule. -/
/-- the rules and what the last expansion left stay -/
def rcg (gs g2 : OS) : Prop := (∀ k, k = 5 ∨ k = 37 ∨ k = 38 → g2.1 k = gs.1 k) ∧ ∀ k, (6 ≤ k ∧ k ≤ 12) ∨ k = 39 → g2.2 k = gs.2 k
theorem rcg.tr {a b c : OS} (h : rcg a b) (h2 : rcg b c) : rcg a c := ⟨fun k q => (h2.1 k q).trans (h.1 k q), fun k q => (h2.2 k q).trans (h.2 k q)⟩
theorem rcg.i {a b : OS} {k : Nat} {v : Int32} (h : rcg a b) (hk : k < 5 ∨ (5 < k ∧ k < 37)) : rcg a (sI b k v) := ⟨fun j q => (sI_n (by omega)).trans (h.1 j q), h.2⟩
theorem rcg.u {a b : OS} (h : rcg a b) : uf a b := ⟨h.1 5 (Or.inl rfl), fun k p q => h.2 k (Or.inl ⟨p, q⟩)⟩
theorem rtx_uni {cs : List Nat} {x : TSt} {kf : Nat → Nat} {x2 : TSt} {kg : Nat → Nat} {tm b : Nat} {R : List Nat} {xx : TSt} {C2 : List Nat} {x1 : TSt} {x2' : TSt} {kg' : Nat → Nat} {tm' b' : Nat} {R' : List Nat} {xx' : TSt} {C2' : List Nat} {x1' : TSt} (h : rtx cs x kf x2 kg tm b R xx C2 x1) (h' : rtx cs x kf x2' kg' tm' b' R' xx' C2' x1') : x2' = x2 ∧ kg' = kg ∧ tm' = tm ∧ b' = b ∧ R' = R ∧ xx' = xx ∧ C2' = C2 ∧ x1' = x1 := by
  obtain ⟨h1, h2, h3, h4, h5, h6, h7, h8⟩ := h
  obtain ⟨k1, k2, k3, k4, k5, k6, k7, k8⟩ := h'
  have e1 : b' = b ∧ R' = R := by
    rw [h1] at k1
    have k1 := (List.cons.inj k1).2
    exact ⟨(List.cons.inj k1).1.symm, (List.cons.inj k1).2.symm⟩
  obtain ⟨rfl, rfl⟩ := e1
  rw [h3] at k3
  have e3 := Option.some.inj k3
  subst e3
  rw [h4] at k4
  have e4 := Option.some.inj k4
  have e5 : C2' = C2 := ((List.cons.inj (congrArg Prod.fst e4)).2).symm
  have e6 : x1' = x1 := (congrArg Prod.snd e4).symm
  subst e5
  subst e6
  rw [h5] at k5
  have e7 := Option.some.inj k5
  subst e7
  subst h6
  subst k6
  rw [h7] at k7
  exact ⟨(Option.some.inj k7).symm, rfl, rfl, rfl, rfl, rfl, rfl, rfl⟩
theorem rule_run {F n : Nat} {gs : OS} {dl : List Nat} {x : TSt} {kf : Nat → Nat} (hF : 5000 ≤ F) (hD : DR gs dl) (hn5 : gs.1 5 = nI n) :
    (∃ g, rf_rule F gs = some (0, sI g 0 1) ∧ g.1 1 = 0 ∧ rcg gs g ∧ ∀ x2 kg tm b R xx C2 x1, ¬ rtx (dcs dl) x kf x2 kg tm b R xx C2 x1) ∨
    ∃ g x2 kg tm b R xx C2 x1 p, rtx (dcs dl) x kf x2 kg tm b R xx C2 x1 ∧ rf_rule F gs = ci ((g.1 5 : Int32) = 12) (some (0, sI g 0 2)) (rf_rule_75 F g (nI p)) ∧ p + 1 + C2.length = (dcs dl).length ∧ g.1 0 = nI 0 ∧ g.1 1 = 0 ∧ rcg gs g ∧ g.1 3 = nI (dcs dl).length ∧ At (g.2 4) 0 ((dcs dl).map o_tk ++ [0]) ∧ ∀ c, c < 26 → bt1 (g.1 18) c = nI (if kg c = 1 then 1 else 0) ∧ bt1 (g.1 19) c = nI (if kg c = 2 then 1 else 0) := by
  have hlen := dcs_len dl
  have h60 := hD.2.1
  have hD0 : DR (sI gs 0 0) dl := ⟨(sI_n (by decide)).trans hD.1, hD.2.1, hD.2.2.1, hD.2.2.2⟩
  obtain ⟨g1, v, e1, v2, v1, d1, z1, z3, hA⟩ := take_ok hD0
  have e1 := e1 F hF
  have hcs : ∀ c, c ∈ dcs dl → c < 65536 := fun c hc => by
    have := hD.2.2.2 c (dcs_mem hc).1
    omega
  have rc1 : rcg gs g1 := ⟨fun k q => (d1.1 k (by omega) (by omega)).trans (sI_n (by omega)), fun k q => d1.2 k (by omega)⟩
  have z0 : g1.1 0 = nI 0 := (d1.1 0 (by decide) (by decide)).trans (sI_e _ _ _)
  have bad : ∀ g, rf_rule_38 F g = some (0, sI g 0 1) := fun g => rfl
  have badm : ∀ g, rf_rule_22 F g (-1) = some (0, sI g 0 1) := fun g => by
    rw [rf_rule_22]
    exact rc_pT (by decide) (bad g)
  by_cases hv : v = 1
  · -- all signs are tokens
    have ev : ∀ {C : RO}, bd (rf_patternEnd F g1) (fun r56 gs57 => rf_rule_22 F gs57 r56) = C → rf_rule F gs = C := fun {C} k => by
      rw [rf_rule]
      refine rc_bd e1 ?_
      rw [hv]
      exact rc_eqF (a := 1) (b := 0) rfl rfl (by decide) k
    generalize hcsd : dcs dl = cs at *
    generalize hN : cs.length = N at *
    have htok : ∀ i, i ≤ N → g1.2 4 i = nI ((cs.map o_tk ++ [0]).getD i 0) := fun i hi => by
      have := At_get _ 0 i hA (by rw [List.length_append, List.length_map, hN]; exact Nat.lt_succ_of_le hi)
      rw [Nat.zero_add] at this
      exact this
    have happ : ∀ i, (cs.map o_tk ++ [0]).getD i 0 = (cs.map o_tk).getD i 0 := fun i => by
      rw [List.getD_eq_getElem?_getD, List.getD_eq_getElem?_getD]
      by_cases hi : i < (cs.map o_tk).length
      · rw [List.getElem?_append_left hi]
      · rw [List.getElem?_append_right (by omega), List.getElem?_eq_none (l := cs.map o_tk) (by omega)]
        cases i - (cs.map o_tk).length with
        | zero => rfl
        | succ k => rfl
    have htb : ∀ i, (cs.map o_tk ++ [0]).getD i 0 < 126 := fun i => by
      rw [happ, List.getD_eq_getElem?_getD]
      by_cases hi : i < (cs.map o_tk).length
      · rw [List.getElem?_eq_getElem hi]
        have hm := List.getElem_mem hi
        obtain ⟨c, hc, hq⟩ := List.mem_map.mp hm
        show (cs.map o_tk)[i] < 126
        rw [← hq]
        exact o_tk_lt (hcs c hc)
      · rw [List.getElem?_eq_none (by omega)]
        decide
    have hT : TL (fun i => (cs.map o_tk ++ [0]).getD i 0) 0 cs := TL_mk cs 0 (fun i _ => by rw [Nat.zero_add]; exact happ i)
    obtain ⟨hp1, hp2⟩ := pend_ok (x := x) hF (show N ≤ 60 by omega) hN htb hT hcs htok z3
    by_cases hw : ∃ b R xx w, cs = 40 :: b :: R ∧ c_nm b ∧ pat2 b x = some xx ∧ pg R xx = some w
    · obtain ⟨b, R, xx, ⟨rest, x1⟩, w1, w2, w3, w4⟩ := hw
      obtain ⟨g2, pn, ep, pc, hPS, hdp⟩ := hp1 b R xx rest x1 w1 w2 w3 w4
      obtain ⟨A, hAR⟩ := pg_suf R xx (rest, x1) w4
      have hAR : R = A ++ rest := hAR
      have hNA : N = A.length + rest.length + 2 := by
        rw [← hN, w1, List.length_cons, List.length_cons, hAR, List.length_append]
      have hpA : N - rest.length = A.length + 2 := by omega
      rw [hpA] at ep hPS
      have hT2 : TL (fun i => (cs.map o_tk ++ [0]).getD i 0) (A.length + 2) rest := by
        have := TL_drop (40 :: b :: A) rest 0 (by
          have hq : (40 :: b :: A) ++ rest = cs := by rw [w1, hAR]; rfl
          rw [hq]
          exact hT)
        rw [Nat.zero_add] at this
        exact this
      generalize hg3 : sI g2 18 (g2.1 18 &&& (g2.1 19 ^^^ (-1))) = g3 at ep
      have t4 : g3.2 4 = g1.2 4 := by rw [← hg3]; exact pc.2 4 (by decide) (by decide)
      have rc3 : rcg gs g3 := by
        rw [← hg3]
        refine rcg.i (rc1.tr ⟨fun k q => pc.1 k (by omega) (by omega) (by omega) (by omega) (by omega), fun k q => pc.2 k (by omega) (by omega)⟩) (by decide)
      have y1 : g3.1 1 = 0 := by
        rw [← hg3, sI_n (by decide), pc.1 1 (by decide) (by decide) (by decide) (by decide) (by decide)]
        exact z1
      have y0 : g3.1 0 = nI 0 := by
        rw [← hg3, sI_n (by decide), pc.1 0 (by decide) (by decide) (by decide) (by decide) (by decide)]
        exact z0
      have y3 : g3.1 3 = nI N := by
        rw [← hg3, sI_n (by decide), pc.1 3 (by decide) (by decide) (by decide) (by decide) (by decide)]
        exact z3
      have hlp : ∀ {C : RO}, rf_rule_22 F g3 (nI (A.length + 2)) = C → rf_rule F gs = C := fun {C} k => ev (rc_bd ep k)
      have htp : g3.2 4 (A.length + 2) = nI ((cs.map o_tk ++ [0]).getD (A.length + 2) 0) := by
        rw [t4]
        exact htok _ (by omega)
      by_cases h61 : ∃ C2, rest = 61 :: C2
      · obtain ⟨C2, rfl⟩ := h61
        rw [List.length_cons] at hNA
        have htp8 : (cs.map o_tk ++ [0]).getD (A.length + 2) 0 = 8 := hT2.1
        obtain ⟨C, e1', e2', e3', e4', e5', e6', e7'⟩ := pg_back R xx w4 (fun i j q1 q2 q3 => by have := (pat2_ad w2 w3).1; omega) (by have := (pat2_ad w2 w3).1; omega)
        obtain ⟨hL, hPN, hSB, hBd, hB2, hLi, h2z, _, _, _, _, _⟩ := hPS
        have hwf := t_bd_wf hBd hdp
        obtain ⟨kg, hkg⟩ := (fv_dsn (kf := kf) hwf hB2 h2z).mpr e5'
        have hbits := k_bits hwf hB2 h2z hkg hSB
        have hzp : x_z x1 ≤ A.length + 2 := by
          have := (PN_z hPN (by omega)).1
          omega
        have h19 : g3.1 19 = g2.1 19 := by rw [← hg3]; exact sI_n (by decide)
        have h18 : g3.1 18 = (g2.1 18 &&& (g2.1 19 ^^^ (-1))) := by rw [← hg3]; exact sI_e _ _ _
        obtain ⟨g4, v', et, hv2, tc, hv1⟩ := tend_ok (F := F) (N := N) (s0 := x_z x1) (p0 := A.length + 2 + 1) (tk := fun i => (cs.map o_tk ++ [0]).getD i 0) (kg := kg) (gs := g3) (R := C2) (x := x1) hF (by omega) hwf hLi.1 rfl (by omega) (by omega) htb hT2.2 (fun c hc => hcs c (by rw [w1, hAR]; exact List.mem_cons_of_mem _ (List.mem_cons_of_mem _ (List.mem_append_right _ (List.mem_cons_of_mem _ hc))))) (fun i hi => by rw [t4]; exact htok i hi) y3 (fun c hc => by rw [h19]; exact (hbits c hc).1)
        have rc4 : rcg gs g4 := rc3.tr ⟨fun k q => tc.1 k (by omega) (by omega) (by omega), fun k q => tc.2 k (by omega) (by omega) (by omega)⟩
        have go : ∀ {C : RO}, (ci ((nI v' : Int32) = 0) (bd (rf_fail F g4 1) (fun r45 gs46 => (some (r45, gs46)))) (ci (((g4.1 5) : Int32) = 12) (bd (rf_fail F g4 2) (fun r40 gs41 => (some (r40, gs41)))) (rf_rule_75 F g4 (nI (A.length + 2))))) = C → rf_rule F gs = C := fun {C} k => hlp (by
          rw [rf_rule_22]
          refine rc_ltF (b := 0) rfl rfl (Nat.zero_le _) ?_
          refine rc_in rfl (by omega) ?_
          rw [nI_clamp (by omega)]
          refine rc_eqE (b := 8) htp rfl htp8 ?_
          rw [nI_1]
          exact rc_bd et k)
        by_cases hv' : v' = 1
        · obtain ⟨x2, q1, q2⟩ := hv1.mp hv'
          right
          refine ⟨g4, x2, kg, x_z x1, b, R, xx, C2, x1, A.length + 2, ⟨w1, w2, w3, w4, hkg, rfl, q1, q2⟩, ?_, by omega, ?_, ?_, rc4, ?_, ?_, fun c hc => ?_⟩
          · refine go ?_
            rw [hv']
            exact rc_eqF (a := 1) (b := 0) rfl rfl (by decide) rfl
          · rw [tc.1 0 (by decide) (by decide) (by decide)]; exact y0
          · rw [tc.1 1 (by decide) (by decide) (by decide)]; exact y1
          · rw [tc.1 3 (by decide) (by decide) (by decide)]; exact y3
          · rw [tc.2 4 (by decide) (by decide) (by decide), t4]; exact hA
          · rw [tc.1 18 (by decide) (by decide) (by decide), tc.1 19 (by decide) (by decide) (by decide), h18, h19]
            exact (hbits c hc).2
        · left
          refine ⟨g4, ?_, ?_, rc4, fun x2 kg' tm b' R' xx' C2' x1' hr => hv' (hv1.mpr ?_)⟩
          · exact go (rc_eqE (a := v') (b := 0) rfl rfl (by omega) rfl)
          · rw [tc.1 1 (by decide) (by decide) (by decide)]; exact y1
          · obtain ⟨k1, k2, k3, k4, k5, k6, k7, k8⟩ := hr
            rw [w1] at k1
            have eb : b = b' := (List.cons.inj (List.cons.inj k1).2).1
            have eR : R = R' := (List.cons.inj (List.cons.inj k1).2).2
            subst eb
            subst eR
            rw [w3] at k3
            cases k3
            rw [w4] at k4
            cases k4
            rw [hkg] at k5
            cases k5
            subst k6
            exact ⟨x2, k7, k8⟩
      · left
        refine ⟨g3, hlp ?_, y1, rc3, fun x2 kg' tm b' R' xx' C2' x1' hr => h61 ?_⟩
        · rw [rf_rule_22]
          refine rc_ltF (b := 0) rfl rfl (Nat.zero_le _) ?_
          refine rc_in rfl (by omega) ?_
          rw [nI_clamp (by omega)]
          refine rc_eqF (b := 8) htp rfl ?_ (bad g3) (by have := htb (A.length + 2); omega) (by decide)
          intro q
          cases rest with
          | nil =>
            have : (cs.map o_tk ++ [0]).getD (A.length + 2) 0 = 0 := hT2
            omega
          | cons c C2 =>
            have : (cs.map o_tk ++ [0]).getD (A.length + 2) 0 = o_tk c := hT2.1
            rw [this] at q
            exact h61 ⟨C2, by rw [otk_8.mp q]⟩
        · obtain ⟨k1, k2, k3, k4, _⟩ := hr
          rw [w1] at k1
          have eb : b = b' := (List.cons.inj (List.cons.inj k1).2).1
          have eR : R = R' := (List.cons.inj (List.cons.inj k1).2).2
          subst eb
          subst eR
          rw [w3] at k3
          cases k3
          rw [w4] at k4
          cases k4
          exact ⟨C2', rfl⟩
    · left
      obtain ⟨g2, ep, pc⟩ := hp2 (fun b R xx w q => hw ⟨b, R, xx, w, q⟩)
      refine ⟨g2, ev (rc_bd ep (badm g2)), ?_, rc1.tr ⟨fun k q => pc.1 k (by omega) (by omega) (by omega) (by omega) (by omega), fun k q => pc.2 k (by omega) (by omega)⟩, fun x2 kg tm b R xx C2 x1 hr => hw ⟨b, R, xx, _, hr.1, hr.2.1, hr.2.2.1, hr.2.2.2.1⟩⟩
      rw [pc.1 1 (by decide) (by decide) (by decide) (by decide) (by decide)]
      exact z1
  · left
    refine ⟨g1, ?_, z1, rc1, fun x2 kg tm b R xx C2 x1 hr => hv (v1.mpr ?_)⟩
    · rw [rf_rule]
      refine rc_bd e1 ?_
      exact rc_eqE (a := v) (b := 0) rfl rfl (by omega) (badm g1)
    · obtain ⟨C, hc, _⟩ := rtx_iff.mp ⟨R, hr⟩
      exact ctx_all hc
