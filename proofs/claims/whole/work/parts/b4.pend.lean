/-! A pattern's text to its end. -/
/-- the tokens of signs, and none behind them -/
def TL (tk : Nat → Nat) : Nat → List Nat → Prop
  | p, [] => tk p = 0
  | p, c :: R => tk p = o_tk c ∧ TL tk (p + 1) R
theorem otk_2 {c : Nat} : o_tk c = 2 ↔ c = 41 := by
  constructor
  · intro h
    rcases otk_cls c with ⟨_, h2⟩ | ⟨h2, _⟩ | ⟨_, h2⟩ | ⟨_, _, _, _, h2⟩
    · omega
    · exact h2
    · unfold lft at h2; omega
    · exact absurd h h2
  · intro h
    rw [h]; decide
theorem otk_8 {c : Nat} : o_tk c = 8 ↔ c = 61 := by
  constructor
  · intro h
    unfold o_tk at h
    by_cases h1 : c_nm c
    · rw [if_pos h1] at h; omega
    · rw [if_neg h1] at h
      by_cases h2 : c_nu c
      · rw [if_pos h2] at h; omega
      · rw [if_neg h2] at h
        by_cases h3 : c = 40
        · rw [if_pos h3] at h; cases h
        · rw [if_neg h3] at h
          by_cases h4 : c = 41
          · rw [if_pos h4] at h; cases h
          · rw [if_neg h4] at h
            by_cases h5 : c = 61
            · exact h5
            · rw [if_neg h5] at h
              by_cases h6 : c = 73
              · rw [if_pos h6] at h; cases h
              · rw [if_neg h6] at h
                by_cases h7 : c = 76
                · rw [if_pos h7] at h; cases h
                · rw [if_neg h7] at h
                  by_cases h8 : c = 81
                  · rw [if_pos h8] at h; cases h
                  · rw [if_neg h8] at h
                    by_cases h9 : c = 95
                    · rw [if_pos h9] at h; cases h
                    · rw [if_neg h9] at h
                      by_cases h10 : c = 126
                      · rw [if_pos h10] at h; cases h
                      · rw [if_neg h10] at h; cases h
  · intro h
    rw [h]; decide
theorem TL_nx {tk : Nat → Nat} {p : Nat} {R : List Nat} (h : TL tk p R) : tk p = 2 ↔ R.head? = some 41 := by
  cases R with
  | nil =>
    have h : tk p = 0 := h
    constructor
    · intro q; omega
    · intro q; cases q
  | cons c R =>
    rw [h.1, otk_2]
    exact ⟨fun q => by rw [q]; rfl, fun q => Option.some.inj q⟩
/-- a pattern's signs one after the other, until its list is closed -/
noncomputable def pg : List Nat → TSt → Option (List Nat × TSt)
  | [], x => if x_dp x = 0 then some ([], x) else none
  | c :: R, x => if x_dp x = 0 then some (c :: R, x) else @ite _ (pcond c R x) (Classical.propDecidable _) (match t_take 60 0 8 1 c x with
    | none => none
    | some y => pg R y) none
theorem pg_len : ∀ (R : List Nat) (x : TSt) (w : List Nat × TSt), pg R x = some w → w.1.length ≤ R.length
  | [], x, w, h => by
    unfold pg at h
    split at h
    · cases h; exact Nat.le_refl _
    · cases h
  | c :: R, x, w, h => by
    unfold pg at h
    by_cases h0 : x_dp x = 0
    · rw [if_pos h0] at h
      cases h
      exact Nat.le_refl _
    · rw [if_neg h0] at h
      by_cases hp : pcond c R x
      · rw [if_pos hp] at h
        cases ht : t_take 60 0 8 1 c x with
        | none => rw [ht] at h; cases h
        | some y =>
          rw [ht] at h
          have := pg_len R y w h
          rw [List.length_cons]
          omega
      · rw [if_neg hp] at h
        cases h
theorem pat_lp {F N : Nat} {tk : Nat → Nat} (hF : 5000 ≤ F) (hN : N ≤ 60) (htb : ∀ i, tk i < 126) : ∀ (R : List Nat) (x : TSt) (p d : Nat) (gs : OS) (pn : Nat → Nat), PS gs tk N x pn p → p + R.length = N → TL tk p R → (∀ c, c ∈ R → c < 65536) → R.length + 1 < d →
    (∀ rest x1, pg R x = some (rest, x1) → ∃ g2 pn', rf_patternEnd_54 F d gs (nI p) = some (nI (N - rest.length), sI g2 18 (g2.1 18 &&& (g2.1 19 ^^^ (-1)))) ∧ pcg gs g2 ∧ PS g2 tk N x1 pn' (N - rest.length) ∧ x_dp x1 = 0) ∧ (pg R x = none → ∃ g2, rf_patternEnd_54 F d gs (nI p) = some (-1, g2) ∧ pcg gs g2)
  | [], x, p, d, gs, pn, hS, hp, hT, _, hd => by
    obtain ⟨d, rfl⟩ : ∃ e, d = e + 1 := ⟨d - 1, by omega⟩
    have hp : p + 0 = N := hp
    have h13 := hS.1.1
    have h8 := hS.1.2.1
    have h3 := hS.2.2.2.2.2.2.2.2.1
    by_cases h0 : x_dp x = 0
    · refine ⟨fun rest x1 h => ?_, fun h => by rw [pg, if_pos h0] at h; cases h⟩
      rw [pg, if_pos h0] at h
      cases h
      refine ⟨gs, pn, ?_, pcg.rf, by show PS gs tk N x pn (N - 0); rw [show N - 0 = p by omega]; exact hS, h0⟩
      rw [rf_patternEnd_54]
      refine rc_leT (b := 0) h13 rfl (by omega) ?_
      show some (nI p, _) = some (nI (N - 0), _)
      rw [show N - 0 = p by omega]
    · refine ⟨fun rest x1 h => (by rw [pg, if_neg h0] at h; cases h), fun _ => ⟨gs, ?_, pcg.rf⟩⟩
      rw [rf_patternEnd_54]
      refine rc_leF (b := 0) h13 rfl (by omega) ?_
      exact rc_leT h3 rfl (by omega) rfl
  | c :: R, x, p, d, gs, pn, hS, hp, hT, hcs, hd => by
    rw [List.length_cons] at hp hd
    obtain ⟨d, rfl⟩ : ∃ e, d = e + 1 := ⟨d - 1, by omega⟩
    have h13 := hS.1.1
    have h8 := hS.1.2.1
    have h3 := hS.2.2.2.2.2.2.2.2.1
    by_cases h0 : x_dp x = 0
    · refine ⟨fun rest x1 h => ?_, fun h => by rw [pg, if_pos h0] at h; cases h⟩
      rw [pg, if_pos h0] at h
      cases h
      have e : N - (c :: R).length = p := by rw [List.length_cons]; omega
      refine ⟨gs, pn, ?_, pcg.rf, by rw [e]; exact hS, h0⟩
      rw [rf_patternEnd_54, e]
      exact rc_leT (b := 0) h13 rfl (by omega) rfl
    · have htok := pat_tok (F := F) (c := c) (R := R) hF hS (by omega) (by omega) hN hT.1 (TL_nx hT.2) (hcs c List.mem_cons_self) htb
      have hd0 : ∀ {C : RO}, _ = C → rf_patternEnd_54 F (d + 1) gs (nI p) = C := fun {C} k => by
        rw [rf_patternEnd_54]
        refine rc_leF (b := 0) h13 rfl (by omega) ?_
        exact rc_leF h3 rfl (by omega) k
      by_cases hgood : pcond c R x ∧ ∃ y, t_take 60 0 8 1 c x = some y
      · obtain ⟨hpc, y, hy⟩ := hgood
        obtain ⟨g1, pn1, e1, hc1, hS1⟩ := htok.1 y hpc hy
        have epg : pg (c :: R) x = pg R y := by rw [pg, if_neg h0, if_pos hpc, hy]
        obtain ⟨ih1, ih2⟩ := pat_lp hF hN htb R y (p + 1) d g1 pn1 hS1 (by omega) hT.2 (fun c h => hcs c (List.mem_cons_of_mem _ h)) (by omega)
        have step : ∀ {C : RO}, rf_patternEnd_54 F d g1 (nI (p + 1)) = C → rf_patternEnd_54 F (d + 1) gs (nI p) = C := fun {C} k => hd0 (by
          refine rc_bd e1 ?_
          refine rc_eqF (a := 1) (b := 0) rfl rfl (by decide) ?_
          rw [nI_1]
          exact k)
        rw [epg]
        refine ⟨fun rest x1 h => ?_, fun h => ?_⟩
        · obtain ⟨g2, pn2, e2, hc2, hS2, h02⟩ := ih1 rest x1 h
          exact ⟨g2, pn2, step e2, hc1.tr hc2, hS2, h02⟩
        · obtain ⟨g2, e2, hc2⟩ := ih2 h
          exact ⟨g2, step e2, hc1.tr hc2⟩
      · obtain ⟨g1, e1, hc1⟩ := htok.2 hgood
        have epg : pg (c :: R) x = none := by
          rw [pg, if_neg h0]
          by_cases hpc : pcond c R x
          · rw [if_pos hpc]
            cases ht : t_take 60 0 8 1 c x with
            | none => rfl
            | some y => exact absurd ⟨hpc, y, ht⟩ hgood
          · rw [if_neg hpc]
        rw [epg]
        refine ⟨fun rest x1 h => (by cases h), fun _ => ⟨g1, hd0 ?_, hc1⟩⟩
        refine rc_bd e1 ?_
        exact rc_eqE (a := 0) (b := 0) rfl rfl rfl rfl
/-- the row behind a pattern's first two signs -/
noncomputable def pat2 (b : Nat) (x : TSt) : Option TSt := (t_add 60 0 8 40 0 (t_beg (t_clr x))).bind (t_add 60 0 8 b 0)
theorem pat2_some {b : Nat} {x : TSt} (hb : c_nm b) : ∃ w x2, t_add 60 0 8 40 0 (t_beg (t_clr x)) = some w ∧ t_add 60 0 8 b 0 w = some x2 ∧ x_z w = 1 ∧ x_dp w = 1 ∧ x_z x2 = 2 ∧ x_dp x2 = 1 ∧ x_sg x2 0 = 40 ∧ x_sg x2 1 = b ∧ x_rp x2 0 = 0 ∧ x_rp x2 1 = 0 ∧ x_op x2 0 = 0 := by
  have h1 : t_can 60 40 (x_z (t_beg (t_clr x))) 0 (x_dp (t_beg (t_clr x))) 8 := ⟨fun q => absurd q.2 (Nat.lt_irrefl _), fun q => absurd q.2 (show ¬ 8 ≤ 0 by decide), (show 0 - 0 < 60 by decide), (show 0 < 60 by decide)⟩
  obtain ⟨w, hw⟩ : ∃ w, t_add 60 0 8 40 0 (t_beg (t_clr x)) = some w := ⟨_, by unfold t_add; rw [if_pos h1]⟩
  have hw' : x_z w = 1 ∧ x_dp w = 1 ∧ x_sg w 0 = 40 ∧ x_rp w 0 = 0 ∧ x_op w 0 = 0 := by
    unfold t_add at hw
    rw [if_pos h1] at hw
    cases hw
    refine ⟨rfl, rfl, ?_, ?_, ?_⟩
    · show va_up (x_sg x) 0 40 0 = 40
      exact va_up_self _ _ _
    · show va_up (x_rp x) 0 0 0 = 0
      exact va_up_self _ _ _
    · show va_up (x_op x) 0 0 0 = 0
      exact va_up_self _ _ _
  have h2 : t_can 60 b (x_z w) 0 (x_dp w) 8 := by
    rw [hw'.1, hw'.2.1]
    exact ⟨fun q => absurd q.1 (by decide), fun q => absurd q.2 (by decide), by decide, by decide⟩
  obtain ⟨x2, hx2⟩ : ∃ x2, t_add 60 0 8 b 0 w = some x2 := ⟨_, by unfold t_add; rw [if_pos h2]⟩
  refine ⟨w, x2, hw, hx2, hw'.1, hw'.2.1, ?_⟩
  unfold t_add at hx2
  rw [if_pos h2] at hx2
  cases hx2
  have hz := hw'.1
  refine ⟨by show x_z w + 1 = 2; omega, ?_, ?_, ?_, ?_, ?_, ?_⟩
  · show (if b = 40 then x_dp w + 1 else x_dp w) = 1
    rw [if_neg (by omega)]
    exact hw'.2.1
  · show va_up (x_sg w) (x_z w) b 0 = 40
    rw [va_up_ne _ _ (by omega)]
    exact hw'.2.2.1
  · show va_up (x_sg w) (x_z w) b 1 = b
    rw [hz, va_up_self]
  · show va_up (x_rp w) (x_z w) 0 0 = 0
    rw [va_up_ne _ _ (by omega)]
    exact hw'.2.2.2.1
  · show va_up (x_rp w) (x_z w) 0 1 = 0
    rw [hz, va_up_self]
  · show (if b = 40 then va_up (x_op w) (x_dp w) (x_z w) else x_op w) 0 = 0
    rw [if_neg (by omega)]
    exact hw'.2.2.2.2
/-- patternEnd -/
theorem pend_ok {F N : Nat} {tk : Nat → Nat} {gs : OS} {cs : List Nat} {x : TSt} (hF : 5000 ≤ F) (hN : N ≤ 60) (hl : cs.length = N) (htb : ∀ i, tk i < 126) (hT : TL tk 0 cs) (hcs : ∀ c, c ∈ cs → c < 65536) (htok : ∀ i, i ≤ N → gs.2 4 i = nI (tk i)) (h3 : gs.1 3 = nI N) :
    (∀ b R x2 rest x1, cs = 40 :: b :: R → c_nm b → pat2 b x = some x2 → pg R x2 = some (rest, x1) → ∃ g2 pn', rf_patternEnd F gs = some (nI (N - rest.length), sI g2 18 (g2.1 18 &&& (g2.1 19 ^^^ (-1)))) ∧ pcg gs g2 ∧ PS g2 tk N x1 pn' (N - rest.length) ∧ x_dp x1 = 0) ∧
    ((∀ b R x2 w, ¬ (cs = 40 :: b :: R ∧ c_nm b ∧ pat2 b x = some x2 ∧ pg R x2 = some w)) → ∃ g2, rf_patternEnd F gs = some (-1, g2) ∧ pcg gs g2) := by
  have g0c : pcg gs (sI (sI (sI (sI (sI gs 18 0) 19 0) 13 0) 16 (-1)) 17 0) := ⟨fun k q1 q2 q3 q4 q5 => by rw [sI_n q3, sI_n q2, sI_n q1, sI_n q5, sI_n q4], fun _ _ _ => rfl⟩
  have e0 : rf_beginLists F (sI (sI gs 18 0) 19 0) = some (0, sI (sI (sI (sI (sI gs 18 0) 19 0) 13 0) 16 (-1)) 17 0) := rfl
  generalize hg0 : sI (sI (sI (sI (sI gs 18 0) 19 0) 13 0) 16 (-1)) 17 0 = g0 at g0c e0
  have k3 : g0.1 3 = nI N := (g0c.1 3 (by decide) (by decide) (by decide) (by decide) (by decide)).trans h3
  have ktok : ∀ i, i ≤ N → g0.2 4 i = nI (tk i) := fun i hi => by rw [g0c.2 4 (by decide) (by decide)]; exact htok i hi
  by_cases hsh : ∃ b R, cs = 40 :: b :: R ∧ c_nm b
  · obtain ⟨b, R, ecs, hb⟩ := hsh
    obtain ⟨w, x2, hw, hx2, wz, wd, z2, d2, s0, s1, r0, r1, o0⟩ := pat2_some (x := x) hb
    have ep2 : pat2 b x = some x2 := by
      unfold pat2
      rw [hw]
      exact hx2
    rw [ecs] at hT hl hcs
    rw [List.length_cons, List.length_cons] at hl
    have t0 : tk 0 = 1 := hT.1
    have t1 : tk 1 = o_tk b := hT.2.1
    have hob := otk_nm hb
    -- the first list
    have hL0 : lsr g0 (t_beg (t_clr x)) (fun _ => 0) False := by
      rw [← hg0]
      refine ⟨?_, Nat.zero_le _, fun j hj => absurd hj (Nat.not_lt_zero _), Or.inl ⟨?_, Or.inr (fun l hl => by cases hl)⟩⟩
      · rw [sI_n (by decide), sI_n (by decide), sI_e]; rfl
      · rw [sI_n (by decide), sI_e]
    have hB0 : t_bd 0 (t_beg (t_clr x)) := t_bd_beg (x := t_beg (t_clr x)) (t_wf6_beg (t_wf6_clr x)) rfl
    have hB20 : t_b2 0 (t_beg (t_clr x)) := t_b2_beg (x := t_clr x)
    have hli0 : t_li (t_beg (t_clr x)) := ⟨fun i hi => absurd hi (Nat.not_lt_zero _), fun j hj => absurd hj (Nat.not_lt_zero _)⟩
    obtain ⟨g1, e1, hlc, hL1⟩ := (ls_open (F := F) (cap := 60) (k := 0) (p := 0) hL0 hB0 (by decide)).2 w hw
    have hB1 := (t_bd_add hB0 hw).1
    have hty1 : t_take 60 0 8 1 40 (t_beg (t_clr x)) = some w := by rw [t_take_ad (by decide) (by decide) (Or.inl rfl)]; exact hw
    have hty2 : t_take 60 0 8 1 b w = some x2 := by rw [t_take_ad (by omega) (by omega) (Or.inr (Or.inl hb))]; exact hx2
    have hB21 := t_b2_take hB0 hB20 hty1
    have hli1 := t_li_take hB0 hli0 hty1
    have hL2 := ls_leaf (p := 1) hL1 hB1 (by omega) hx2
    have hg1c : pcg gs g1 := g0c.tr hlc.p
    have g18 : g1.1 18 = 0 := by
      rw [hlc.1 18 (by decide) (by decide) (by decide), ← hg0]
      rw [sI_n (by decide), sI_n (by decide), sI_n (by decide), sI_n (by decide), sI_e]
    have g19 : g1.1 19 = 0 := by
      rw [hlc.1 19 (by decide) (by decide) (by decide), ← hg0]
      rw [sI_n (by decide), sI_n (by decide), sI_n (by decide), sI_e]
    have g16 : g1.1 16 = -1 := by
      rcases hL1.2.2.2 with ⟨h, _⟩ | ⟨l, hla, _⟩
      · exact h
      · exfalso
        unfold t_add at hw
        split at hw
        · cases hw
          cases hla
        · cases hw
    have hPS : PS g1 tk N x2 (va_up (va_up (fun _ => 0) (x_z (t_beg (t_clr x))) 0) (x_z w) 1) 2 := by
      obtain ⟨q1, q2, q3, q4⟩ := hL2
      refine ⟨⟨(show (sI (sI g1 16 (nI 1)) 17 0).1 13 = g1.1 13 by rw [sI_n (by decide), sI_n (by decide)]).symm.trans q1, q2, q3, Or.inl ⟨g16, Or.inl z2⟩⟩, ?_, ?_, (t_bd_add hB1 hx2).1, t_b2_take hB1 hB21 hty2, t_li_take hB1 hli1 hty2, by omega, fun i hi => ?_, ?_, fun _ _ => g16, by rw [s1]; exact hb, s0⟩
      · refine ⟨fun i p1 p2 => ?_, fun i j p1 p2 p3 => ?_, fun t p1 p2 p3 => ?_⟩
        · rcases (show i = 0 ∨ i = 1 by omega) with rfl | rfl
          · rw [va_up_ne _ _ (by omega), show x_z (t_beg (t_clr x)) = 0 from rfl, va_up_self, s0]
            exact ⟨Nat.le_refl _, by decide, by rw [t0]; decide⟩
          · rw [wz, va_up_self, s1]
            exact ⟨Nat.zero_le _, by decide, t1⟩
        · have hi : i = 0 := by omega
          have hj : j = 1 := by omega
          rw [hi, hj, va_up_ne _ _ (by omega), show x_z (t_beg (t_clr x)) = 0 from rfl, va_up_self, wz, va_up_self]
          decide
        · rcases (show t = 0 ∨ t = 1 by omega) with rfl | rfl
          · rw [t0] at p3; omega
          · exact ⟨1, Nat.zero_le _, by omega, by rw [wz, va_up_self]⟩
      · intro c hc
        rw [g18, g19, bt_0 (by omega)]
        refine ⟨⟨fun q => absurd q (by decide), fun ⟨i, q1, q2, _⟩ => ?_⟩, ⟨fun q => absurd q (by decide), fun ⟨i, q1, q2, _⟩ => ?_⟩⟩
        · omega
        · omega
      · rw [hlc.2 4 (by decide) (by decide)]
        exact ktok i hi
      · exact (hlc.1 3 (by decide) (by decide) (by decide)).trans k3
    have hlp := pat_lp hF hN htb R x2 2 F g1 _ hPS (by omega) hT.2.2 (fun c h => hcs c (List.mem_cons_of_mem _ (List.mem_cons_of_mem _ h))) (by omega)
    have hd0 : ∀ {C : RO}, rf_patternEnd_54 F F g1 2 = C → rf_patternEnd F gs = C := fun {C} k => by
      rw [rf_patternEnd]
      refine rc_bd e0 ?_
      refine rc_ltF (b := 2) k3 rfl (by omega) ?_
      refine rc_in (a := 0) rfl (by decide) ?_
      refine rc_eqE (a := 1) (b := 1) (by rw [show ((0 : Int32).toNatClampNeg) = 0 by decide, ktok 0 (by omega), t0]) rfl rfl ?_
      refine rc_in (a := 1) rfl (by decide) ?_
      refine rc_bd (isName_y (t := o_tk b) (by rw [show ((1 : Int32).toNatClampNeg) = 1 by decide, ktok 1 (by omega), t1]) (by omega)) ?_
      refine rc_eqF (a := 1) (b := 0) rfl rfl (by decide) ?_
      exact rc_bd e1 k
    refine ⟨fun b' R' x2' rest x1 ecs' hb' hx2' hpg => ?_, fun hno => ?_⟩
    · have hbb : b' = b ∧ R' = R := by
        rw [ecs] at ecs'
        cases ecs'
        exact ⟨rfl, rfl⟩
      obtain ⟨rfl, rfl⟩ := hbb
      rw [ep2] at hx2'
      cases hx2'
      obtain ⟨g2, pn', e2, hc2, hS2, h0⟩ := hlp.1 rest x1 hpg
      exact ⟨g2, pn', hd0 e2, hg1c.tr hc2, hS2, h0⟩
    · have hnone : pg R x2 = none := by
        cases h : pg R x2 with
        | none => rfl
        | some w' => exact absurd ⟨ecs, hb, ep2, h⟩ (hno b R x2 w')
      obtain ⟨g2, e2, hc2⟩ := hlp.2 hnone
      exact ⟨g2, hd0 e2, hg1c.tr hc2⟩
  · refine ⟨fun b R x2 rest x1 ecs hb _ _ => absurd ⟨b, R, ecs, hb⟩ hsh, fun _ => ⟨g0, ?_, g0c⟩⟩
    rw [rf_patternEnd]
    refine rc_bd e0 ?_
    by_cases hN2 : N < 2
    · exact rc_ltT (b := 2) k3 rfl hN2 rfl
    · refine rc_ltF (b := 2) k3 rfl (by omega) ?_
      refine rc_in (a := 0) rfl (by decide) ?_
      cases cs with
      | nil => rw [List.length_nil] at hl; omega
      | cons a cs =>
        cases cs with
        | nil => rw [List.length_cons, List.length_nil] at hl; omega
        | cons b R =>
          have t0 : tk 0 = o_tk a := hT.1
          have t1 : tk 1 = o_tk b := hT.2.1
          have hb0 := htb 0
          have hb1 := htb 1
          have a0 : g0.2 4 (0 : Int32).toNatClampNeg = nI (o_tk a) := by rw [show ((0 : Int32).toNatClampNeg) = 0 by decide, ktok 0 (by omega), t0]
          have a1 : g0.2 4 (1 : Int32).toNatClampNeg = nI (o_tk b) := by rw [show ((1 : Int32).toNatClampNeg) = 1 by decide, ktok 1 (by omega), t1]
          by_cases ha : o_tk a = 1
          · have ha40 : a = 40 := by
              rcases otk_cls a with ⟨h, _⟩ | ⟨_, h2⟩ | ⟨_, h2⟩ | ⟨_, _, _, h2, _⟩
              · exact h
              · omega
              · unfold lft at h2; omega
              · exact absurd ha h2
            refine rc_eqE (b := 1) a0 rfl ha ?_
            refine rc_in (a := 1) rfl (by decide) ?_
            have hnb : o_tk b < 100 := by
              apply Classical.byContradiction
              intro hq
              have hnm : c_nm b := by
                apply Classical.byContradiction
                intro hq2
                rcases otk_cls b with ⟨h, h2⟩ | ⟨h, h2⟩ | ⟨h, h2⟩ | ⟨_, _, h2, _, _⟩
                · omega
                · omega
                · rcases h with h | h | h
                  · exact hq2 h
                  · have : o_tk b = b - 38 := by unfold o_tk; rw [if_neg hq2, if_pos h]
                    omega
                  · have : o_tk b ≤ 5 := by rcases h with rfl | rfl | rfl <;> decide
                    omega
                · exact h2 (Or.inl (by omega))
              exact hsh ⟨b, R, by rw [ha40], hnm⟩
            refine rc_bd (isName_n a1 hnb) ?_
            exact rc_eqE (a := 0) (b := 0) rfl rfl rfl rfl
          · rw [t0] at hb0
            exact rc_eqF (b := 1) a0 rfl ha rfl
