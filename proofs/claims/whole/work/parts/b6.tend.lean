/-! A template's text to its end. -/
theorem take_z {cap s0 dm kd c : Nat} {x y : TSt} (ht : t_take cap s0 dm kd c x = some y) : x_z y ≤ x_z x + 1 := by
  unfold t_take at ht
  split at ht
  · unfold t_close at ht
    split at ht
    · cases ht
    · cases ht; exact Nat.le_succ _
  · split at ht
    · split at ht
      · cases ht
      · unfold t_rep at ht
        split at ht
        · cases ht
        · split at ht
          · cases ht
          · split at ht
            · cases ht; exact Nat.le_succ _
            · cases ht
    · split at ht
      · have := (t_add_z ht).2.1
        omega
      · cases ht
noncomputable def tg (kg : Nat → Nat) (s0 : Nat) : List Nat → TSt → Option TSt
  | [], _ => none
  | c :: R, x => @ite _ (tcond kg c x) (Classical.propDecidable _) (match t_take 60 s0 8 2 c x with
    | none => none
    | some y => if x_dp y = 0 then (if R = [] then some y else none) else tg kg s0 R y) none
theorem tem_lp {F N s0 p0 : Nat} {tk kg : Nat → Nat} (hF : 5000 ≤ F) (hN : N ≤ 60) (htb : ∀ i, tk i < 126) : ∀ (R : List Nat) (x : TSt) (p d : Nat) (gs : OS) (pn : Nat → Nat), TS gs tk N kg x pn s0 p0 p → (1 ≤ x_dp x ∨ (x_dp x = 0 ∧ x_z x = s0 ∧ x_la x = none)) → p + R.length = N → p0 ≤ p → x_z x + R.length ≤ 60 → TL tk p R → (∀ c, c ∈ R → c < 65536) → R.length + 1 < d →
    (∀ y, tg kg s0 R x = some y → ∃ g2 pn', rf_isTemplate_29 F d gs (nI p0) (nI p) 1 = rf_isTemplate_86 F F g2 1 (nI p0) ∧ tcg gs g2 ∧ TS g2 tk N kg y pn' s0 p0 N ∧ x_dp y = 0) ∧ (tg kg s0 R x = none → ∃ g2, rf_isTemplate_29 F d gs (nI p0) (nI p) 1 = some (0, g2) ∧ tcg gs g2)
  | [], x, p, d, gs, pn, hS, h1, hp, hpp, hz, hT, _, hd => by
    obtain ⟨d, rfl⟩ : ∃ e, d = e + 1 := ⟨d - 1, by omega⟩
    have hp : p + 0 = N := hp
    have h3 := hS.2.2.2.2.2.2.2.2
    refine ⟨fun y h => (by cases h), fun _ => ⟨gs, ?_, tcg.rf⟩⟩
    rw [rf_isTemplate_29]
    refine rc_eqF (a := 1) (b := 0) rfl rfl (by decide) ?_
    exact rc_leT h3 rfl (by omega) rfl
  | c :: R, x, p, d, gs, pn, hS, h1, hp, hpp, hz, hT, hcs, hd => by
    rw [List.length_cons] at hp hd hz
    obtain ⟨d, rfl⟩ : ∃ e, d = e + 1 := ⟨d - 1, by omega⟩
    have h3 := hS.2.2.2.2.2.2.2.2
    have htok := tem_tok (F := F) (c := c) hF hS h1 (by omega) hpp hN (by omega) hT.1 (hcs c List.mem_cons_self) htb
    have hd0 : ∀ {C : RO}, _ = C → rf_isTemplate_29 F (d + 1) gs (nI p0) (nI p) 1 = C := fun {C} k => by
      rw [rf_isTemplate_29]
      refine rc_eqF (a := 1) (b := 0) rfl rfl (by decide) ?_
      exact rc_leF h3 rfl (by omega) k
    by_cases hgood : tcond kg c x ∧ ∃ y, t_take 60 s0 8 2 c x = some y
    · obtain ⟨hpc, y, hy⟩ := hgood
      obtain ⟨g1, pn1, e1, hc1, hS1⟩ := htok.1 y hpc hy
      have hyz : x_z y ≤ x_z x + 1 := take_z hy
      have h13 := hS1.1.1
      have h8 := hS1.1.2.1
      have step : ∀ {C : RO}, (ci ((g1.1 13 : Int32) ≤ 0) (rf_isTemplate_29 F d g1 (nI p0) (nI (p + 1)) 0) (rf_isTemplate_29 F d g1 (nI p0) (nI (p + 1)) 1)) = C → rf_isTemplate_29 F (d + 1) gs (nI p0) (nI p) 1 = C := fun {C} k => hd0 (by
        refine rc_bd e1 ?_
        refine rc_eqF (a := 1) (b := 0) rfl rfl (by decide) ?_
        rw [nI_1]
        exact k)
      by_cases hy0 : x_dp y = 0
      · have epg : tg kg s0 (c :: R) x = if R = [] then some y else none := by rw [tg, if_pos hpc, hy]; exact if_pos hy0
        obtain ⟨d', rfl⟩ : ∃ e, d = e + 1 := ⟨d - 1, by omega⟩
        rw [epg]
        have h3' := hS1.2.2.2.2.2.2.2.2
        by_cases hR : R = []
        · rw [if_pos hR]
          refine ⟨fun y' h => ?_, fun h => by cases h⟩
          cases h
          rw [hR] at hp
          have hpN : p + 1 = N := hp
          refine ⟨g1, pn1, step ?_, hc1, (by have h9 := hS1; rw [hpN] at h9; exact h9), hy0⟩
          refine rc_leT (b := 0) h13 rfl (by omega) ?_
          rw [rf_isTemplate_29]
          refine rc_eqE (a := 0) (b := 0) rfl rfl rfl ?_
          exact rc_eqE rfl h3' hpN rfl
        · rw [if_neg hR]
          refine ⟨fun y' h => (by cases h), fun _ => ⟨g1, step ?_, hc1⟩⟩
          have hRl : 0 < R.length := List.length_pos_iff.mpr hR
          refine rc_leT (b := 0) h13 rfl (by omega) ?_
          rw [rf_isTemplate_29]
          refine rc_eqE (a := 0) (b := 0) rfl rfl rfl ?_
          exact rc_eqF rfl h3' (by omega) rfl
      · have epg : tg kg s0 (c :: R) x = tg kg s0 R y := by rw [tg, if_pos hpc, hy]; exact if_neg hy0
        obtain ⟨ih1, ih2⟩ := tem_lp hF hN htb R y (p + 1) d g1 pn1 hS1 (Or.inl (by omega)) (by omega) (by omega) (by omega) hT.2 (fun c h => hcs c (List.mem_cons_of_mem _ h)) (by omega)
        have step2 : ∀ {C : RO}, rf_isTemplate_29 F d g1 (nI p0) (nI (p + 1)) 1 = C → rf_isTemplate_29 F (d + 1) gs (nI p0) (nI p) 1 = C := fun {C} k => step (rc_leF (b := 0) h13 rfl (by omega) k)
        rw [epg]
        refine ⟨fun y' h => ?_, fun h => ?_⟩
        · obtain ⟨g2, pn2, e2, hc2, hS2⟩ := ih1 y' h
          exact ⟨g2, pn2, step2 e2, hc1.tr hc2, hS2⟩
        · obtain ⟨g2, e2, hc2⟩ := ih2 h
          exact ⟨g2, step2 e2, hc1.tr hc2⟩
    · obtain ⟨g1, e1, hc1⟩ := htok.2 hgood
      have epg : tg kg s0 (c :: R) x = none := by
        rw [tg]
        by_cases hpc : tcond kg c x
        · rw [if_pos hpc]
          cases ht : t_take 60 s0 8 2 c x with
          | none => rfl
          | some y => exact absurd ⟨hpc, y, ht⟩ hgood
        · rw [if_neg hpc]
      rw [epg]
      refine ⟨fun y h => (by cases h), fun _ => ⟨g1, hd0 ?_, hc1⟩⟩
      refine rc_bd e1 ?_
      exact rc_eqE (a := 0) (b := 0) rfl rfl rfl rfl
/-- whether each MANY is repeated -/
theorem fin_lp {F N p0 : Nat} {tk kg : Nat → Nat} {gs : OS} (hN : N ≤ 60) (h3 : gs.1 3 = nI N) (htok : ∀ i, i ≤ N → gs.2 4 i = nI (tk i)) (htb : ∀ i, tk i < 126) (hb : ∀ c, c < 26 → (bt1 (gs.1 19) c = 1 ↔ kg c = 2)) (hcv : ∀ t, t ≤ 60 → gs.2 20 t = nI 0 ∨ gs.2 20 t = nI 1) : ∀ (n k d g : Nat), k + n = N → g < 2 → n < d → ∃ v, rf_isTemplate_86 F d gs (nI g) (nI k) = some (nI v, gs) ∧ v < 2 ∧ (v = 1 ↔ g = 1 ∧ ∀ t, k ≤ t → t < N → gs.2 20 t = nI 1 ∨ tk t < 100 ∨ ¬ kg (tk t - 100) = 2)
  | 0, k, d, g, hk, hg, hd => by
    obtain ⟨d, rfl⟩ : ∃ e, d = e + 1 := ⟨d - 1, by omega⟩
    refine ⟨g, ?_, hg, ⟨fun q => ⟨q, fun t q1 q2 => by omega⟩, fun q => q.1⟩⟩
    rw [rf_isTemplate_86]
    refine rc_leT h3 rfl (by omega) ?_
    refine rc_ib ?_ rfl
    rcases (show g = 0 ∨ g = 1 by omega) with rfl | rfl
    · exact Or.inl rfl
    · exact Or.inr rfl
  | n + 1, k, d, g, hk, hg, hd => by
    obtain ⟨d, rfl⟩ : ∃ e, d = e + 1 := ⟨d - 1, by omega⟩
    have hat : gs.2 4 (nI k).toNatClampNeg = nI (tk k) := cl_at (htok k (by omega))
    have ht1 := htb k
    have go : ∀ g', g' < 2 → (g' = 1 ↔ g = 1 ∧ (gs.2 20 k = nI 1 ∨ tk k < 100 ∨ ¬ kg (tk k - 100) = 2)) → (∀ {C : RO}, rf_isTemplate_86 F d gs (nI g') (nI (k + 1)) = C → rf_isTemplate_86 F (d + 1) gs (nI g) (nI k) = C) → ∃ v, rf_isTemplate_86 F (d + 1) gs (nI g) (nI k) = some (nI v, gs) ∧ v < 2 ∧ (v = 1 ↔ g = 1 ∧ ∀ t, k ≤ t → t < N → gs.2 20 t = nI 1 ∨ tk t < 100 ∨ ¬ kg (tk t - 100) = 2) := by
      intro g' hg' hi hc
      obtain ⟨v, e, v2, v3⟩ := fin_lp (F := F) (p0 := p0) hN h3 htok htb hb hcv n (k + 1) d g' (by omega) hg' (by omega)
      refine ⟨v, hc e, v2, ?_⟩
      rw [v3, hi]
      constructor
      · rintro ⟨⟨q1, q2⟩, q3⟩
        refine ⟨q1, fun t z1 z2 => ?_⟩
        by_cases htk : t = k
        · rw [htk]; exact q2
        · exact q3 t (by omega) z2
      · rintro ⟨q1, q2⟩
        exact ⟨⟨q1, q2 k (Nat.le_refl _) (by omega)⟩, fun t z1 z2 => q2 t (by omega) z2⟩
    have hd0 : ∀ {C : RO}, _ = C → rf_isTemplate_86 F (d + 1) gs (nI g) (nI k) = C := fun {C} q => by
      rw [rf_isTemplate_86]
      exact rc_leF h3 rfl (by omega) q
    by_cases hg0 : g = 0
    · refine go 0 (by decide) ⟨fun q => (by cases q), fun q => by omega⟩ (fun {C} e => hd0 ?_)
      refine rc_eqE (b := 0) rfl rfl hg0 ?_
      rw [rf_isTemplate_147, rf_isTemplate_148, nI_1]
      exact e
    · have hd1 : ∀ {C : RO}, _ = C → rf_isTemplate_86 F (d + 1) gs (nI g) (nI k) = C := fun {C} q => hd0 (rc_eqF (b := 0) rfl rfl hg0 (rc_in rfl (by omega) q))
      rcases hcv k (by omega) with hc0 | hc1
      · have hcat : gs.2 20 (nI k).toNatClampNeg = nI 0 := cl_at hc0
        have hne : ¬ gs.2 20 k = nI 1 := fun q => by
          rw [hc0] at q
          exact absurd (nI01 (by decide) (by decide) q) (by decide)
        have hd2 : ∀ {C : RO}, _ = C → rf_isTemplate_86 F (d + 1) gs (nI g) (nI k) = C := fun {C} q => hd1 (rc_eqE (b := 0) hcat rfl rfl (rc_in rfl (by omega) q))
        by_cases hn : 100 ≤ tk k
        · have hlo := letter_ok (F := F) (gs := gs) hat hn
          have hmod : (tk k - 100) % 32 = tk k - 100 := by omega
          rw [hmod] at hlo
          have hbt := hb (tk k - 100) (by omega)
          have hd3 : ∀ {C : RO}, _ = C → rf_isTemplate_86 F (d + 1) gs (nI g) (nI k) = C := fun {C} q => hd2 (by
            refine rc_bd (isName_y hat hn) ?_
            refine rc_eqF (a := 1) (b := 0) rfl rfl (by decide) ?_
            refine rc_in rfl (by omega) ?_
            exact rc_bd hlo q)
          by_cases hk2 : kg (tk k - 100) = 2
          · refine go 0 (by decide) ⟨fun q => (by cases q), fun q => ?_⟩ (fun {C} e => hd3 ?_)
            · rcases q.2 with q | q | q
              · exact absurd q hne
              · omega
              · exact absurd hk2 q
            · refine rc_pF (fun q => ?_) ?_
              · have : bt1 (gs.1 19) (tk k - 100) = 0 := q
                rw [hbt.mpr hk2] at this
                exact absurd this (by decide)
              · rw [rf_isTemplate_147, rf_isTemplate_148, nI_1]
                exact e
          · refine go 1 (by decide) ⟨fun _ => ⟨by omega, Or.inr (Or.inr hk2)⟩, fun _ => rfl⟩ (fun {C} e => hd3 ?_)
            refine rc_pT ?_ ?_
            · rcases bt_01 (v := gs.1 19) (c := tk k - 100) (by omega) with h | h
              · exact h
              · exact absurd (hbt.mp h) hk2
            · rw [rf_isTemplate_143, rf_isTemplate_148, nI_1]
              exact e
        · refine go 1 (by decide) ⟨fun _ => ⟨by omega, Or.inr (Or.inl (by omega))⟩, fun _ => rfl⟩ (fun {C} e => hd2 ?_)
          refine rc_bd (isName_n hat (by omega)) ?_
          refine rc_eqE (a := 0) (b := 0) rfl rfl rfl ?_
          rw [rf_isTemplate_143, rf_isTemplate_148, nI_1]
          exact e
      · have hcat : gs.2 20 (nI k).toNatClampNeg = nI 1 := cl_at hc1
        refine go 1 (by decide) ⟨fun _ => ⟨by omega, Or.inl hc1⟩, fun _ => rfl⟩ (fun {C} e => hd1 ?_)
        refine rc_eqF (b := 0) hcat rfl (by decide) ?_
        rw [rf_isTemplate_143, rf_isTemplate_148, nI_1]
        exact e
/-- no token is marked -/
theorem zero_lp {F : Nat} {x1 : Int32} : ∀ (n k d : Nat) (gs : OS), k + n = 61 → (∀ t, t < k → gs.2 20 t = nI 0) → n < d → ∃ g2, rf_isTemplate_6 F d gs x1 (nI k) = rf_isTemplate_29 F F g2 x1 x1 1 ∧ g2.1 = gs.1 ∧ (∀ j, j ≠ 20 → g2.2 j = gs.2 j) ∧ ∀ t, t ≤ 60 → g2.2 20 t = nI 0
  | 0, k, d, gs, hk, hz, hd => by
    obtain ⟨d, rfl⟩ : ∃ e, d = e + 1 := ⟨d - 1, by omega⟩
    refine ⟨gs, ?_, rfl, fun _ _ => rfl, fun t ht => hz t (by omega)⟩
    rw [rf_isTemplate_6]
    exact rc_ltT (a := 60) rfl rfl (by omega) rfl
  | n + 1, k, d, gs, hk, hz, hd => by
    obtain ⟨d, rfl⟩ : ∃ e, d = e + 1 := ⟨d - 1, by omega⟩
    have e9 : (sA gs 20 (upd (gs.2 20) k (nI 0))).2 20 = upd (gs.2 20) k (nI 0) := sA_e _ _ _
    obtain ⟨g2, e, r1, r2, r3⟩ := zero_lp (F := F) (x1 := x1) n (k + 1) d (sA gs 20 (upd (gs.2 20) k (nI 0))) (by omega) (fun t ht => by
      rw [e9]
      by_cases hq : t = k
      · rw [hq, upd_e]
      · rw [upd_n hq]; exact hz t (by omega)) (by omega)
    refine ⟨g2, ?_, r1, fun j hj => (r2 j hj).trans (sA_n hj), r3⟩
    rw [rf_isTemplate_6]
    refine rc_ltF (a := 60) rfl rfl (by omega) ?_
    refine rc_in rfl (by omega) ?_
    rw [nI_clamp (by omega), nI_1]
    exact e
/-- isTemplate -/
theorem tend_ok {F N s0 p0 : Nat} {tk kg : Nat → Nat} {gs : OS} {R : List Nat} {x : TSt} (hF : 5000 ≤ F) (hN : N ≤ 60) (hx : t_wf6 x) (hlf : t_lf x) (hs0 : x_z x = s0) (hp : p0 + R.length = N) (hz : s0 + R.length ≤ 60) (htb : ∀ i, tk i < 126) (hT : TL tk p0 R) (hcs : ∀ c, c ∈ R → c < 65536) (htok : ∀ i, i ≤ N → gs.2 4 i = nI (tk i)) (h3 : gs.1 3 = nI N) (hb : ∀ c, c < 26 → (bt1 (gs.1 19) c = 1 ↔ kg c = 2)) :
    ∃ g2 v, rf_isTemplate F gs (nI p0) = some (nI v, g2) ∧ v < 2 ∧ tcg gs g2 ∧ (v = 1 ↔ ∃ y, tg kg s0 R (t_beg x) = some y ∧ ∀ i, s0 ≤ i → i < x_z y → k_many kg (x_sg y i) → inT y s0 i) := by
  have e0 : rf_beginLists F gs = some (0, sI (sI (sI gs 13 0) 16 (-1)) 17 0) := rfl
  obtain ⟨g1, e1, r1, r2, r3⟩ := zero_lp (F := F) (x1 := nI p0) 61 0 F (sI (sI (sI gs 13 0) 16 (-1)) 17 0) (by omega) (fun t ht => by omega) (by omega)
  have hc1 : tcg gs g1 := ⟨fun k q1 q2 q3 => by rw [r1, sI_n q3, sI_n q2, sI_n q1], fun k q1 q2 q3 => r2 k q3⟩
  have hS : TS g1 tk N kg (t_beg x) (fun _ => 0) s0 p0 p0 := by
    refine ⟨⟨?_, Nat.zero_le _, fun j hj => absurd hj (Nat.not_lt_zero _), Or.inl ⟨?_, Or.inr (fun l hl => by cases hl)⟩⟩, ⟨fun i q1 q2 => ?_, fun i j q1 q2 q3 => ?_, fun t q1 q2 => by omega⟩, fun c hc => ?_, ⟨fun t ht => Or.inl (r3 t ht), fun t _ ht => r3 t ht, fun i q1 q2 => ?_⟩, ?_, ?_, ⟨hlf, fun j hj => absurd hj (Nat.not_lt_zero _)⟩, fun i hi => ?_, ?_⟩
    · rw [r1, sI_n (by decide), sI_n (by decide), sI_e]; rfl
    · rw [r1, sI_n (by decide), sI_e]
    · have q2 : i < x_z x := q2
      omega
    · have q3 : j < x_z x := q3
      omega
    · rw [r1, sI_n (by decide), sI_n (by decide), sI_n (by decide)]
      exact hb c hc
    · have q2 : i < x_z x := q2
      omega
    · rw [← hs0]
      exact t_bd_beg (x := t_beg x) (t_wf6_beg hx) rfl
    · rw [← hs0]
      exact t_b2_beg
    · rw [r2 4 (by decide)]
      exact htok i hi
    · rw [r1, sI_n (by decide), sI_n (by decide), sI_n (by decide)]
      exact h3
  have hlp := tem_lp hF hN htb R (t_beg x) p0 F g1 (fun _ => 0) hS (Or.inr ⟨rfl, hs0, rfl⟩) hp (Nat.le_refl _) (by show x_z x + _ ≤ 60; omega) hT hcs (by omega)
  have hd0 : ∀ {C : RO}, rf_isTemplate_29 F F g1 (nI p0) (nI p0) 1 = C → rf_isTemplate F gs (nI p0) = C := fun {C} k => by
    rw [rf_isTemplate]
    refine rc_bd e0 ?_
    exact Eq.trans e1 k
  cases ht : tg kg s0 R (t_beg x) with
  | none =>
    obtain ⟨g2, e2, hc2⟩ := hlp.2 ht
    exact ⟨g2, 0, hd0 e2, by decide, hc1.tr hc2, ⟨fun q => (by cases q), fun ⟨y, q, _⟩ => (by cases q)⟩⟩
  | some y =>
    obtain ⟨g2, pn, e2, hc2, hS2, hy0⟩ := hlp.1 y ht
    obtain ⟨hL, hP, hSB, hC, hB, hB2, hli, htok2, h32⟩ := hS2
    obtain ⟨v, ev, v2, v3⟩ := fin_lp (F := F) (p0 := p0) (tk := tk) (kg := kg) (gs := g2) hN h32 htok2 htb hSB hC.1 (N - p0) p0 F 1 (by omega) (by decide) (by omega)
    refine ⟨g2, v, hd0 (e2.trans ev), v2, hc1.tr hc2, ?_⟩
    rw [v3]
    constructor
    · rintro ⟨_, q⟩
      refine ⟨y, rfl, fun i q1 q2 q3 => ?_⟩
      have hpi := hP.1 i q1 q2
      have h10 := otk_nm q3.1
      rcases q (pn i) hpi.1 hpi.2.1 with h | h | h
      · exact (hC.2.2 i q1 q2).mp h
      · omega
      · exfalso
        apply h
        rw [← q3.2]
        congr 1
        omega
    · rintro ⟨y', ey, q⟩
      cases ey
      refine ⟨rfl, fun t q1 q2 => ?_⟩
      by_cases h100 : tk t < 100
      · exact Or.inr (Or.inl h100)
      · obtain ⟨i, s1, s2, s3⟩ := hP.2.2 t q1 q2 (by omega)
        by_cases hk2 : kg (tk t - 100) = 2
        · left
          have h9 := (hP.1 i s1 s2).2.2
          rw [s3] at h9
          have hnm : c_nm (x_sg y i) := by
            apply Classical.byContradiction
            intro hq
            rcases otk_cls (x_sg y i) with ⟨_, z⟩ | ⟨_, z⟩ | ⟨z, _⟩ | ⟨_, _, z, _, _⟩
            · omega
            · omega
            · rcases z with z | z | z
              · exact hq z
              · have : o_tk (x_sg y i) = x_sg y i - 38 := by unfold o_tk; rw [if_neg hq, if_pos z]
                omega
              · have : o_tk (x_sg y i) ≤ 5 := by rcases z with z | z | z <;> rw [z] <;> decide
                omega
            · exact z (Or.inl (by omega))
          have h10 := otk_nm hnm
          have := q i s1 s2 ⟨hnm, by rw [← hk2]; congr 1; omega⟩
          rw [← s3]
          exact (hC.2.2 i s1 s2).mpr this
        · exact Or.inr (Or.inr hk2)
