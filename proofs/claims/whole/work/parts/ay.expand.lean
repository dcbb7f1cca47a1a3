/-! The reference's expand. -/
/-- what the rules are kept in stays -/
def uf (gs g2 : OS) : Prop := g2.1 5 = gs.1 5 ∧ ∀ k, 6 ≤ k → k ≤ 12 → g2.2 k = gs.2 k
theorem RS_uf {gs g2 : OS} {rt : Nat → RSt} {n : Nat} (h : RS gs rt n) (hf : uf gs g2) : RS g2 rt n := by
  refine ⟨hf.1.trans h.1, h.2.1, fun j hj => ⟨(h.2.2 j hj).1, ?_⟩⟩
  have := (h.2.2 j hj).2
  unfold RH at this ⊢
  rw [hf.2 6 (by decide) (by decide), hf.2 8 (by decide) (by decide), hf.2 9 (by decide) (by decide), hf.2 10 (by decide) (by decide), hf.2 11 (by decide) (by decide), hf.2 12 (by decide) (by decide)]
  exact this
theorem uf.tr {a b c : OS} (h : uf a b) (h2 : uf b c) : uf a c := ⟨h2.1.trans h.1, fun k p q => (h2.2 k p q).trans (h.2 k p q)⟩
theorem fr.uf {a b : OS} (h : fr a b) : uf a b := ⟨h.1 5 (by decide), fun k p q => h.2 k (by omega)⟩
theorem dc.uf {a b : OS} (h : dc a b) : uf a b := ⟨h.1 5 (by decide) (by decide), fun k p q => h.2 k (by omega)⟩
theorem uf.i {a b : OS} {k : Nat} {v : Int32} (h : uf a b) (hk : k ≠ 5) : uf a (sI b k v) := ⟨(sI_n (Ne.symm hk)).trans h.1, h.2⟩
theorem uf.a {a b : OS} {k : Nat} {v : Nat → Int32} (h : uf a b) (hk : k < 6 ∨ 12 < k) : uf a (sA b k v) := ⟨h.1, fun j p q => (sA_n (by omega)).trans (h.2 j p q)⟩
theorem uf.rf {a : OS} : uf a a := ⟨rfl, fun _ _ _ => rfl⟩
/-- an empty draft -/
theorem DR_0 {gs : OS} (h : gs.1 1 = 0) : DR gs [] := ⟨h, Nat.zero_le _, trivial, fun c hc => by cases hc⟩
/-- the tokens are laid into the row, and expanded -/
theorem cp_lp {N : Nat} (hN : N ≤ 60) : ∀ (R P : List Nat) (k : Nat) (gs : OS), gs.1 3 = nI N → At (gs.2 4) k R → At (gs.2 22) 0 P → P.length = k → k + R.length = N → ∃ g2, g2.1 = gs.1 ∧ (∀ j, j ≠ 22 → g2.2 j = gs.2 j) ∧ At (g2.2 22) 0 (P ++ R) ∧ ∀ F d x1, R.length < d → rf_expand_44 F d gs x1 (nI k) = bd (rf_expandAll F (sI (sI (sI (sI (sI (sI (sI g2 21 (g2.1 3)) 32 0) 34 0) 36 0) 37 0) 38 0) 40 0) x1) (fun r2 gs3 => (ci (((gs3.1 40) : Int32) = 0) (some ((gs3.1 38), gs3)) (bd (rf_fail F (sI gs3 38 0) (gs3.1 40)) (fun r8 gs9 => (some (r8, gs9))))))
  | [], P, k, gs, h3, _, hP, hk, hl => by
    have hl : k + 0 = N := hl
    refine ⟨gs, rfl, fun _ _ => rfl, by rw [List.append_nil]; exact hP, ?_⟩
    intro F d x1 hd
    obtain ⟨d, rfl⟩ : ∃ e, d = e + 1 := ⟨d - 1, by have : 0 < d := hd; omega⟩
    rw [rf_expand_44]
    exact rc_leT h3 rfl (by omega) rfl
  | h :: R, P, k, gs, h3, hR, hP, hk, hl => by
    rw [List.length_cons] at hl
    have hat : gs.2 4 (nI k).toNatClampNeg = nI h := cl_at hR.1
    have e9 : (sA gs 22 (upd (gs.2 22) k (nI h))).2 22 = upd (gs.2 22) k (nI h) := sA_e _ _ _
    obtain ⟨g2, c1, c2, a2, e2⟩ := cp_lp hN R (P ++ [h]) (k + 1) (sA gs 22 (upd (gs.2 22) k (nI h))) h3 (by rw [sA_n (by decide)]; exact hR.2) (by rw [e9]; exact At_snoc hP (by omega)) (by rw [List.length_append, hk]; rfl) (by omega)
    refine ⟨g2, c1, fun j hj => (c2 j hj).trans (sA_n hj), ?_, ?_⟩
    · rw [show P ++ h :: R = P ++ [h] ++ R by simp]
      exact a2
    · intro F d x1 hd
      rw [List.length_cons] at hd
      obtain ⟨d, rfl⟩ : ∃ e, d = e + 1 := ⟨d - 1, by omega⟩
      rw [rf_expand_44]
      refine rc_leF h3 rfl (by omega) ?_
      refine rc_in rfl (by omega) ?_
      refine rc_in rfl (by omega) ?_
      rw [hat, nI_clamp (by omega), nI_1]
      exact e2 F d x1 (by omega)
/-- expand, and an expansion by rows -/
theorem expand_ok {cap n dn : Nat} {rt : Nat → RSt} {gs : OS} {dl : List Nat} {sgn : Nat → Nat} {y : TSt} {mk : Nat → Int32} {k : Int32} (hD : DR gs dl) (hds : Ds sgn dn (dcs dl)) (hR : RS gs rt n) (hcap : 780 ≤ cap) (hrt : ∀ j, j < n → t_raw 60 (r_x (rt j))) (hy : t_raw cap y) (hsgn : ∀ i, sgn i < 65536) (hsm : t_sm (2 ^ 31) y) :
    ∃ F, (t_res cap 0 sgn dn 0 dn (t_clr y) = none ∨ k < 0 ∨ 12 < k → ∃ g2, rf_expand F gs k = some (0, g2) ∧ g2.1 0 = nI 1 ∧ DR g2 [] ∧ uf gs g2 ∧ g2.1 37 = gs.1 37 ∧ g2.1 38 = gs.1 38 ∧ g2.2 39 = gs.2 39) ∧
      ∀ y1, t_res cap 0 sgn dn 0 dn (t_clr y) = some y1 → ¬ k < 0 → ¬ 12 < k →
        (∀ e, e_ex cap rt n k.toNatClampNeg 12 0 [] (y1, 0, mk, 0) = .error e → ∃ g2, rf_expand F gs k = some (0, g2) ∧ g2.1 0 = nI (xc e.1) ∧ DR g2 [] ∧ uf gs g2 ∧ g2.1 37 = nI e.2 ∧ e.2 ≤ 12 ∧ g2.1 38 = nI 0) ∧
        (∀ p, e_ex cap rt n k.toNatClampNeg 12 0 [] (y1, 0, mk, 0) = .ok p → ∃ g2, rf_expand F gs k = some (nI p.2.2.2, g2) ∧ g2.1 0 = nI 0 ∧ DR g2 [] ∧ uf gs g2 ∧ g2.1 37 = nI p.2.1 ∧ p.2.1 ≤ 12 ∧ g2.1 38 = nI p.2.2.2 ∧ p.2.2.2 ≤ 150 ∧ ∀ i, i < p.2.2.2 → g2.2 39 i = p.2.2.1 i) := by
  have hlen := dcs_len dl
  have h60 := hD.2.1
  obtain ⟨hpl1, hpl2⟩ := plain_ok (cap := cap) (y := y) (by omega) hds (by omega)
  have hD0 : DR (sI gs 0 0) dl := ⟨(sI_n (by decide)).trans hD.1, hD.2.1, hD.2.2.1, hD.2.2.2⟩
  -- as far as the term's end
  have start : ∃ g1 v, (∀ F, 5000 ≤ F → rf_takeDraft F (sI gs 0 0) = some (nI v, g1)) ∧ v < 2 ∧ (v = 1 ↔ ∀ c, c ∈ dcs dl → ¬ o_tk c = 0) ∧ dc (sI gs 0 0) g1 ∧ g1.1 1 = 0 ∧ g1.1 3 = nI (dcs dl).length ∧ At (g1.2 4) 0 ((dcs dl).map o_tk ++ [0]) ∧ ∃ u, (∀ F, 5000 ≤ F → rf_termEnd F g1 0 = some (u, g1)) ∧ (u = nI (dcs dl).length ↔ te ((dcs dl).map o_tk) 0 = some []) := by
    obtain ⟨g1, v, e, r1, r2, r3, r4, r5, r6⟩ := take_ok hD0
    have hlt : ∀ t, t ∈ (dcs dl).map o_tk → t < 126 := fun t ht => by
      obtain ⟨c, hc, rfl⟩ := List.mem_map.mp ht
      have := hD.2.2.2 c (dcs_mem hc).1
      exact o_tk_lt (by omega)
    have hte : ∀ F, 5000 ≤ F → ∃ u, rf_termEnd F g1 0 = some (u, g1) ∧ (∀ R', te ((dcs dl).map o_tk) 0 = some R' → u = nI ((dcs dl).length - R'.length) ∧ R'.length < ((dcs dl).map o_tk).length) ∧ (te ((dcs dl).map o_tk) 0 = none → u = -1) := by
      intro F hF
      obtain ⟨u, eu, u1, u2⟩ := te_lp (F := F) (gs := g1) r5 (by omega) ((dcs dl).map o_tk) 0 0 F (At_l r6) hlt (by rw [List.length_map]; omega) (by decide) (Or.inl rfl) (by rw [List.length_map]; omega)
      exact ⟨u, by rw [rf_termEnd]; exact eu, u1, u2⟩
    obtain ⟨u, eu, u1, u2⟩ := hte 5000 (Nat.le_refl _)
    have eu2 : ∀ F, 5000 ≤ F → rf_termEnd F g1 0 = some (u, g1) := by
      intro F hF
      obtain ⟨u', e', v1, v2⟩ := hte F hF
      rw [e']
      cases ht : te ((dcs dl).map o_tk) 0 with
      | none => rw [u2 ht, v2 ht]
      | some R' => rw [(u1 R' ht).1, (v1 R' ht).1]
    refine ⟨g1, v, e, r1, r2, r3, r4, r5, r6, u, eu2, ?_⟩
    constructor
    · intro hu
      cases ht : te ((dcs dl).map o_tk) 0 with
      | none =>
        have := u2 ht
        rw [this] at hu
        exfalso
        have hp := nI_pos (n := (dcs dl).length) (by omega)
        rw [← hu] at hp
        exact absurd (by decide) hp
      | some R' =>
        obtain ⟨w1, w2⟩ := u1 R' ht
        rw [w1] at hu
        rw [List.length_map] at w2
        have := nI_inj (by omega) (by omega) hu
        have : R' = [] := List.eq_nil_of_length_eq_zero (by omega)
        rw [this]
    · intro ht
      have := (u1 [] ht).1
      rw [this]
      rfl
  -- refused
  have bad : ∀ F g, rf_expand_36 F g = some (0, sI g 0 1) := fun F g => rfl
  by_cases hgood : (∃ y1, t_res cap 0 sgn dn 0 dn (t_clr y) = some y1) ∧ ¬ k < 0 ∧ ¬ 12 < k
  · obtain ⟨⟨y1, hy1⟩, hk0, hk12⟩ := hgood
    obtain ⟨fu, hfu, rfl⟩ := k_fuel hk0 hk12
    obtain ⟨q1, q2, q3, q4, q5⟩ := hpl2 y1 hy1
    have hte := hpl1.mp ⟨y1, hy1⟩
    have hw1 := t_res_wf (t_wf6_clr y) hy1
    have hl1 := t_res_lf (t_wf6_clr y) (fun i hi => absurd hi (Nat.not_lt_zero _)) hy1
    have hsm1 := t_res_sm (K := 2 ^ 31) (by decide) (show t_sm (2 ^ 31) (t_clr y) from hsm) hy1
    have hraw1 : t_raw cap y1 := by
      have hinv : t_inv cap (x_z (t_clr y)) 8 (t_beg (t_clr y)) := t_beg_inv ⟨hy.1, Nat.zero_le _, hy.2.2.1, hy.2.2.2⟩
      unfold t_res at hy1
      split at hy1
      · cases hy1
      · rename_i w hw
        split at hy1
        · cases hy1
          have := (t_rds_inv hsgn _ _ _ _ hinv hw).1
          exact ⟨this.1, this.2.1, this.2.2.2.2.2.2.2.1, this.2.2.2.2.2.2.2.2⟩
        · cases hy1
    have hxi : x_inv cap (y1, 0, mk, 0) := ⟨hraw1, hw1.1, hl1, hsm1, Nat.zero_le _, Nat.zero_le _⟩
    have hoq : t_oq (y1, 0, mk, 0) := ⟨q4, q3, fun i hi => by show x_st y1 i ≤ 0; rw [q5 i hi]; exact Nat.le_refl _⟩
    -- the state that is expanded, for any fuel
    have hgo : ∃ g0, uf gs g0 ∧ g0.1 0 = nI 0 ∧ g0.1 1 = 0 ∧ OY g0 fu (tkT y1 0) [] [] mk 0 0 ∧ ∀ F, 5000 ≤ F → rf_expand F gs (nI fu) = bd (rf_expandAll F g0 (nI fu)) (fun r2 gs3 => (ci (((gs3.1 40) : Int32) = 0) (some ((gs3.1 38), gs3)) (bd (rf_fail F (sI gs3 38 0) (gs3.1 40)) (fun r8 gs9 => (some (r8, gs9)))))) := by
      obtain ⟨g1, v, e, r1, r2, r3, r4, r5, r6, u, eu, hu⟩ := start
      have hv : v = 1 := r2.mpr (fun c hc h0 => by
        have hall : ∀ (L R' : List Nat) (l : Nat), te L l = some R' → ∀ t, t ∈ L → t ∈ R' ∨ ¬ t = 0 := by
          intro L
          induction L with
          | nil => intro R' l h; cases h
          | cons t L ih =>
            intro R' l h t' ht'
            unfold te at h
            by_cases h1 : t = 1
            · rw [if_pos h1] at h
              split at h
              · cases h
              · rcases List.mem_cons.mp ht' with rfl | ht'
                · exact Or.inr (by omega)
                · exact ih R' _ h t' ht'
            · rw [if_neg h1] at h
              by_cases h2 : t = 2
              · rw [if_pos h2] at h
                split at h
                · cases h
                · split at h
                  · cases h
                    rcases List.mem_cons.mp ht' with rfl | ht'
                    · exact Or.inr (by omega)
                    · exact Or.inl ht'
                  · rcases List.mem_cons.mp ht' with rfl | ht'
                    · exact Or.inr (by omega)
                    · exact ih R' _ h t' ht'
              · rw [if_neg h2] at h
                by_cases h3 : lft t
                · rw [if_pos h3] at h
                  have h30 : ¬ t = 0 := by unfold lft at h3; omega
                  split at h
                  · cases h
                    rcases List.mem_cons.mp ht' with rfl | ht'
                    · exact Or.inr h30
                    · exact Or.inl ht'
                  · rcases List.mem_cons.mp ht' with rfl | ht'
                    · exact Or.inr h30
                    · exact ih R' _ h t' ht'
                · rw [if_neg h3] at h
                  cases h
        rcases hall _ _ _ hte (o_tk c) (List.mem_map.mpr ⟨c, hc, rfl⟩) with h | h
        · cases h
        · exact h h0)
      obtain ⟨g2, c1, c2, a2, e2⟩ := cp_lp (N := (dcs dl).length) (by omega) ((dcs dl).map o_tk) [] 0 g1 r5 (At_l r6) trivial rfl (by rw [List.length_map]; omega)
      have hu1 : uf gs g2 := ((uf.rf.i (by decide)).tr r3.uf).tr ⟨by rw [c1], fun k _ _ => c2 k (by omega)⟩
      refine ⟨sI (sI (sI (sI (sI (sI (sI g2 21 (g2.1 3)) 32 0) 34 0) 36 0) 37 0) 38 0) 40 0, ?_, ?_, ?_, ?_, ?_⟩
      · exact ((((((hu1.i (by decide)).i (by decide)).i (by decide)).i (by decide)).i (by decide)).i (by decide)).i (by decide)
      · rw [sI_n (by decide), sI_n (by decide), sI_n (by decide), sI_n (by decide), sI_n (by decide), sI_n (by decide), sI_n (by decide), c1, r3.1 0 (by decide) (by decide), sI_e]
        rfl
      · rw [sI_n (by decide), sI_n (by decide), sI_n (by decide), sI_n (by decide), sI_n (by decide), sI_n (by decide), sI_n (by decide), c1, r4]
      · have hl2 : (tkT y1 0).length = (dcs dl).length := by rw [q1, List.length_map]
        have htm := tkT_tmm hw1.1 q4 q2
        refine ⟨0, ?_, ?_, by omega, ?_, ?_, tmm_lvl htm 0, ?_, Nat.zero_le _, trivial, fun b hb => (by cases hb), ?_, rfl, trivial, fun t ht => (by cases ht), ⟨?_, Nat.zero_le _, ?_, Or.inl rfl, fun i hi => absurd hi (Nat.not_lt_zero _)⟩, ?_, Nat.zero_le _, hfu⟩
        · rw [sI_n (by decide), sI_n (by decide), sI_n (by decide), sI_e]
          rfl
        · rw [sI_n (by decide), sI_n (by decide), sI_n (by decide), sI_n (by decide), sI_n (by decide), sI_n (by decide), sI_e, c1, r5, hl2, Nat.zero_add]
        · show At (g2.2 22) 0 _
          rw [q1]
          exact a2
        · exact tkT_sml hw1.1.1 q4 (K := 0) (fun i hi => by rw [q5 i hi]; exact Nat.le_refl _) (by decide) q2
        · rw [sI_n (by decide), sI_n (by decide), sI_n (by decide), sI_n (by decide), sI_n (by decide), sI_e]
          rfl
        · rw [sI_n (by decide), sI_n (by decide), sI_n (by decide), sI_n (by decide), sI_e]
          rfl
        · rw [sI_n (by decide), sI_e]
          rfl
        · rw [sI_e]
          rfl
        · rw [sI_n (by decide), sI_n (by decide), sI_e]
          rfl
      · intro F hF
        rw [rf_expand]
        refine rc_bd (e F hF) ?_
        refine rc_eqF (a := 1) (b := 0) (by rw [hv]) rfl (by decide) ?_
        refine rc_bd (eu F hF) ?_
        refine rc_pT (by rw [r5]; exact hu.mpr hte) ?_
        refine rc_pF hk0 ?_
        refine rc_pT (Int32.not_lt.mp hk12) ?_
        exact e2 F F (nI fu) (by rw [List.length_map]; omega)
    obtain ⟨g0, hu0, h00, h01, hO0, hall⟩ := hgo
    obtain ⟨F, hF, hrun1, hrun2⟩ := exp_run (RS_uf hR hu0) hcap hrt hfu hxi hoq q2 hO0
    refine ⟨F, fun h => ?_, fun y2 hy2 _ _ => ?_⟩
    · rcases h with h | h | h
      · rw [hy1] at h; cases h
      · exact absurd h hk0
      · exact absurd h hk12
    · rw [hy1] at hy2
      cases hy2
      rw [nI_clamp (by omega)]
      refine ⟨fun e he => ?_, fun p hp => ?_⟩
      · obtain ⟨g2, e2, hf2, h40, h37, h12⟩ := hrun1 e he
        have hxc : xc e.1 = 2 ∨ xc e.1 = 3 := by
          unfold xc
          split
          · exact Or.inl rfl
          · exact Or.inr rfl
        refine ⟨sI (sI g2 38 0) 0 (g2.1 40), ?_, ?_, ?_, ?_, ?_, h12, ?_⟩
        · rw [hall F hF]
          refine rc_bd e2 ?_
          refine rc_eqF (b := 0) h40 rfl (by omega) ?_
          rfl
        · rw [sI_e, h40]
        · exact DR_0 ((sI_n (by decide)).trans ((sI_n (by decide)).trans ((hf2.1 1 (by decide)).trans h01)))
        · exact ((hu0.tr hf2.uf).i (by decide)).i (by decide)
        · exact (sI_n (by decide)).trans ((sI_n (by decide)).trans h37)
        · exact (sI_n (by decide)).trans (sI_e _ _ _)
      · obtain ⟨g2, e2, hf2, hO2⟩ := hrun2 p hp
        obtain ⟨pos, h36, h21, hle, hat, hs, hl, h32, h12, hbk, hb2, h34, hbc, hnm, hsn, hmk, h37, hmd, hf12⟩ := hO2
        refine ⟨g2, ?_, (hf2.1 0 (by decide)).trans h00, DR_0 ((hf2.1 1 (by decide)).trans h01), hu0.tr hf2.uf, h37, by omega, hmk.1, hmk.2.1, hmk.2.2.2.2⟩
        rw [hall F hF]
        refine rc_bd e2 ?_
        refine rc_eqE (b := 0) hmk.2.2.1 rfl rfl ?_
        show some (g2.1 38, g2) = _
        rw [hmk.1]
  · obtain ⟨g1, v, e, r1, r2, r3, r4, r5, r6, u, eu, hu⟩ := start
    refine ⟨5000, fun _ => ⟨sI g1 0 1, ?_, sI_e _ _ _, DR_0 ((sI_n (by decide)).trans r4), (((uf.rf.i (by decide)).tr r3.uf).i (by decide)), ?_, ?_, ?_⟩, fun y1 h1 h2 h3 => absurd ⟨⟨y1, h1⟩, h2, h3⟩ hgood⟩
    · rw [rf_expand]
      refine rc_bd (e 5000 (Nat.le_refl _)) ?_
      rcases (show v = 0 ∨ v = 1 by omega) with hv | hv
      · exact rc_eqE (b := 0) (by rw [hv]) rfl rfl (bad _ _)
      · refine rc_eqF (a := 1) (b := 0) (by rw [hv]) rfl (by decide) ?_
        refine rc_bd (eu 5000 (Nat.le_refl _)) ?_
        by_cases hue : u = g1.1 3
        · refine rc_pT hue ?_
          rw [r5] at hue
          have hy1 := hpl1.mpr (hu.mp hue)
          by_cases hk0 : k < 0
          · exact rc_pT hk0 (bad _ _)
          · refine rc_pF hk0 ?_
            by_cases hk12 : k ≤ 12
            · exact absurd ⟨hy1, hk0, Int32.not_lt.mpr hk12⟩ hgood
            · exact rc_pF hk12 (bad _ _)
        · exact rc_pF hue (bad _ _)
    · exact (sI_n (by decide)).trans ((r3.1 37 (by decide) (by decide)).trans (sI_n (by decide)))
    · exact (sI_n (by decide)).trans ((r3.1 38 (by decide) (by decide)).trans (sI_n (by decide)))
    · exact r3.2 39 (by decide)
