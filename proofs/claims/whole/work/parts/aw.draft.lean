/-! The draft, and a plain term's text. -/
/-- what was typed, blanks left out -/
def dcs (dl : List Nat) : List Nat := dl.filter (fun c => decide (¬ c = 32))
theorem dcs_b {c : Nat} {dl : List Nat} (h : c = 32) : dcs (c :: dl) = dcs dl := by
  unfold dcs
  rw [List.filter_cons_of_neg (by simp [h])]
theorem dcs_s {c : Nat} {dl : List Nat} (h : ¬ c = 32) : dcs (c :: dl) = c :: dcs dl := by
  unfold dcs
  rw [List.filter_cons_of_pos (by simp [h])]
theorem dcs_len : ∀ dl : List Nat, (dcs dl).length ≤ dl.length
  | [] => Nat.le_refl _
  | c :: dl => by
    have := dcs_len dl
    by_cases h : c = 32
    · rw [dcs_b h, List.length_cons]; omega
    · rw [dcs_s h, List.length_cons, List.length_cons]; omega
theorem dcs_mem {dl : List Nat} {c : Nat} (h : c ∈ dcs dl) : c ∈ dl ∧ ¬ c = 32 := by
  unfold dcs at h
  have := List.mem_filter.mp h
  exact ⟨this.1, by simpa using this.2⟩
/-- the reference's draft -/
def DR (gs : OS) (dl : List Nat) : Prop := gs.1 1 = nI dl.length ∧ dl.length ≤ 60 ∧ At (gs.2 2) 0 dl ∧ ∀ c, c ∈ dl → 32 ≤ c ∧ c ≤ 126
theorem token_ok {F : Nat} {gs : OS} {x : Int32} {c : Nat} (hx : x = nI c) (hc : c < 65536) : rf_tokenOf F gs x = some (nI (o_tk c), gs) := by
  subst hx
  have h40 : ¬ c_nm c → ¬ c_nu c → rf_tokenOf_40 F gs (nI c) = some (nI (o_tk c), gs) := by
    intro n1 n2
    rw [rf_tokenOf_40]
    unfold o_tk
    rw [if_neg n1, if_neg n2]
    by_cases s1 : c = 40
    · rw [if_pos s1]; exact rc_eqE (b := 40) rfl rfl s1 rfl
    · rw [if_neg s1]
      refine rc_eqF (b := 40) rfl rfl s1 ?_
      by_cases s2 : c = 41
      · rw [if_pos s2]; exact rc_eqE (b := 41) rfl rfl s2 rfl
      · rw [if_neg s2]
        refine rc_eqF (b := 41) rfl rfl s2 ?_
        by_cases s3 : c = 61
        · rw [if_pos s3]; exact rc_eqE (b := 61) rfl rfl s3 rfl
        · rw [if_neg s3]
          refine rc_eqF (b := 61) rfl rfl s3 ?_
          by_cases s4 : c = 73
          · rw [if_pos s4]; exact rc_eqE (b := 73) rfl rfl s4 rfl
          · rw [if_neg s4]
            refine rc_eqF (b := 73) rfl rfl s4 ?_
            by_cases s5 : c = 76
            · rw [if_pos s5]; exact rc_eqE (b := 76) rfl rfl s5 rfl
            · rw [if_neg s5]
              refine rc_eqF (b := 76) rfl rfl s5 ?_
              by_cases s6 : c = 81
              · rw [if_pos s6]; exact rc_eqE (b := 81) rfl rfl s6 rfl
              · rw [if_neg s6]
                refine rc_eqF (b := 81) rfl rfl s6 ?_
                by_cases s7 : c = 95
                · rw [if_pos s7]; exact rc_eqE (b := 95) rfl rfl s7 rfl
                · rw [if_neg s7]
                  refine rc_eqF (b := 95) rfl rfl s7 ?_
                  by_cases s8 : c = 126
                  · rw [if_pos s8]; exact rc_eqE (b := 126) rfl rfl s8 rfl
                  · rw [if_neg s8]
                    exact rc_eqF (b := 126) rfl rfl s8 rfl
  have h20 : ¬ c_nm c → rf_tokenOf_20 F gs (nI c) = some (nI (o_tk c), gs) := by
    intro n1
    rw [rf_tokenOf_20]
    by_cases s1 : c < 48
    · exact rc_ltT (b := 48) rfl rfl s1 (h40 n1 (by omega))
    · refine rc_ltF (b := 48) rfl rfl (by omega) ?_
      by_cases s2 : 57 < c
      · exact rc_ltT (a := 57) rfl rfl s2 (h40 n1 (by omega))
      · refine rc_ltF (a := 57) rfl rfl (by omega) ?_
        have e : o_tk c = c - 38 := by unfold o_tk; rw [if_neg n1, if_pos ⟨by omega, by omega⟩]
        have e2 : (10 : Int32) + nI c - 48 = nI (c - 38) := by
          show nI 10 + nI c - nI 48 = _
          rw [nI_add, nsub (by omega)]
          congr 1
          omega
        rw [e, e2]
  rw [rf_tokenOf]
  by_cases s1 : c < 97
  · exact rc_ltT (b := 97) rfl rfl s1 (h20 (by omega))
  · refine rc_ltF (b := 97) rfl rfl (by omega) ?_
    by_cases s2 : 122 < c
    · exact rc_ltT (a := 122) rfl rfl s2 (h20 (by omega))
    · refine rc_ltF (a := 122) rfl rfl (by omega) ?_
      have e : o_tk c = c + 3 := by unfold o_tk; rw [if_pos ⟨by omega, by omega⟩]
      have e2 : (100 : Int32) + nI c - 97 = nI (c + 3) := by
        show nI 100 + nI c - nI 97 = _
        rw [nI_add, nsub (by omega)]
        congr 1
        omega
      rw [e, e2]
/-- what reading a draft changes -/
def dc (gs g2 : OS) : Prop := (∀ k, k ≠ 1 → k ≠ 3 → g2.1 k = gs.1 k) ∧ ∀ k, k ≠ 4 → g2.2 k = gs.2 k
theorem take_lp : ∀ (D P : List Nat) (k gd : Nat) (gs : OS) (N : Nat), At (gs.2 2) k D → (∀ c, c ∈ D → 32 ≤ c ∧ c ≤ 126) → gs.1 1 = nI N → k + D.length = N → N ≤ 60 → gs.1 3 = nI P.length → P.length ≤ k → At (gs.2 4) 0 P → gd < 2 → ∃ g2 v, (∀ F d, D.length < d → rf_takeDraft_9 F d gs (nI gd) (nI k) = some (nI v, g2)) ∧ v < 2 ∧ (v = 1 ↔ gd = 1 ∧ ∀ c, c ∈ dcs D → ¬ o_tk c = 0) ∧ (∀ k, k ≠ 1 → k ≠ 3 → g2.1 k = gs.1 k) ∧ (∀ k, k ≠ 4 → g2.2 k = gs.2 k) ∧ g2.1 1 = 0 ∧ g2.1 3 = nI (P.length + (dcs D).length) ∧ At (g2.2 4) 0 (P ++ ((dcs D).map o_tk ++ [0]))
  | [], P, k, gd, gs, N, _, _, h1, hk, hN, h3, hP, ha, hgd => by
    have hk : k + 0 = N := hk
    refine ⟨sA (sI gs 1 0) 4 (upd (gs.2 4) (gs.1 3).toNatClampNeg 0), gd, ?_, hgd, ⟨fun h => ⟨h, fun c hc => (by cases hc)⟩, fun h => h.1⟩, fun j q1 q2 => sI_n q1, fun j q1 => sA_n q1, (show (sI gs 1 0).1 1 = _ from sI_e _ _ _), (show (sI gs 1 0).1 3 = _ from (sI_n (by decide)).trans h3), ?_⟩
    · intro F d hd
      obtain ⟨d, rfl⟩ : ∃ e, d = e + 1 := ⟨d - 1, by have : 0 < d := hd; omega⟩
      rw [rf_takeDraft_9]
      refine rc_leT h1 rfl (by omega) ?_
      refine rc_in h3 (by omega) ?_
      refine rc_ib ?_ rfl
      rcases (show gd = 0 ∨ gd = 1 by omega) with rfl | rfl
      · exact Or.inl rfl
      · exact Or.inr rfl
    · rw [sA_e, h3, nI_clamp (by omega)]
      exact At_snoc (h := 0) ha (by omega)
  | c :: D, P, k, gd, gs, N, hD, hcs, h1, hk, hN, h3, hP, ha, hgd => by
    rw [List.length_cons] at hk
    have hc := hcs c List.mem_cons_self
    have hcs2 : ∀ c, c ∈ D → 32 ≤ c ∧ c ≤ 126 := fun c h => hcs c (List.mem_cons_of_mem _ h)
    have hat : gs.2 2 (nI k).toNatClampNeg = nI c := cl_at hD.1
    by_cases h32 : c = 32
    · obtain ⟨g2, v, e, r1, r2, r3, r4, r5, r6, r7⟩ := take_lp D P (k + 1) gd gs N hD.2 hcs2 h1 (by omega) hN h3 (by omega) ha hgd
      rw [dcs_b h32]
      refine ⟨g2, v, ?_, r1, r2, r3, r4, r5, r6, r7⟩
      intro F d hd
      rw [List.length_cons] at hd
      obtain ⟨d, rfl⟩ : ∃ e, d = e + 1 := ⟨d - 1, by omega⟩
      rw [rf_takeDraft_9]
      refine rc_leF h1 rfl (by omega) ?_
      refine rc_in rfl (by omega) ?_
      refine rc_eqE (b := 32) hat rfl h32 ?_
      rw [rf_takeDraft_75, nI_1]
      exact e F d (by omega)
    · have htk := o_tk_lt (c := c) (by omega)
      have e9 : (sA (sI gs 3 (gs.1 3 + 1)) 4 (upd (gs.2 4) (gs.1 3).toNatClampNeg (nI (o_tk c)))).2 4 = upd (gs.2 4) P.length (nI (o_tk c)) := by
        rw [sA_e, h3, nI_clamp (by omega)]
      obtain ⟨gd2, hgd2, hgv⟩ : ∃ gd2, gd2 < 2 ∧ (gd2 = 1 ↔ gd = 1 ∧ ¬ o_tk c = 0) := by
        by_cases h : gd = 1 ∧ ¬ o_tk c = 0
        · exact ⟨1, by decide, fun _ => h, fun _ => rfl⟩
        · exact ⟨0, by decide, fun q => (by cases q), fun q => absurd q h⟩
      obtain ⟨g2, v, e, r1, r2, r3, r4, r5, r6, r7⟩ := take_lp D (P ++ [o_tk c]) (k + 1) gd2 (sA (sI gs 3 (gs.1 3 + 1)) 4 (upd (gs.2 4) (gs.1 3).toNatClampNeg (nI (o_tk c)))) N (by rw [sA_n (by decide)]; exact hD.2) hcs2 ((show (sI gs 3 (gs.1 3 + 1)).1 1 = _ from sI_n (by decide)).trans h1) (by omega) hN (by
        rw [List.length_append]
        exact (show (sI gs 3 (gs.1 3 + 1)).1 3 = _ from (sI_e _ _ _).trans (nI_p1 h3))) (by rw [List.length_append]; show P.length + 1 ≤ k + 1; omega) (by rw [e9]; exact At_snoc ha (by omega)) hgd2
      rw [dcs_s h32]
      refine ⟨g2, v, ?_, r1, ?_, fun j q1 q2 => (r3 j q1 q2).trans (sI_n q2), fun j q1 => (r4 j q1).trans (sA_n q1), r5, ?_, ?_⟩
      · intro F d hd
        rw [List.length_cons] at hd
        obtain ⟨d, rfl⟩ : ∃ e, d = e + 1 := ⟨d - 1, by omega⟩
        rw [rf_takeDraft_9]
        refine rc_leF h1 rfl (by omega) ?_
        refine rc_in rfl (by omega) ?_
        refine rc_eqF (b := 32) hat rfl h32 ?_
        refine rc_in rfl (by omega) ?_
        refine rc_bd (token_ok hat (by omega)) ?_
        have h54 : ∀ y0, y0 = nI gd2 → rf_takeDraft_54 F (rf_takeDraft_9 F d) gs (nI k) (nI (o_tk c)) y0 = some (nI v, g2) := by
          intro y0 hy
          rw [hy, rf_takeDraft_54]
          refine rc_in h3 (by omega) ?_
          rw [rf_takeDraft_75, nI_1]
          exact e F d (by omega)
        by_cases hg0 : gd = 0
        · refine rc_eqE (b := 0) rfl rfl hg0 ?_
          rw [rf_takeDraft_53]
          exact h54 0 (by
            have : gd2 = 0 := by
              have : ¬ gd2 = 1 := fun q => by have := (hgv.mp q).1; omega
              omega
            rw [this]; rfl)
        · refine rc_eqF (b := 0) rfl rfl hg0 ?_
          by_cases ht0 : o_tk c = 0
          · refine rc_eqE (b := 0) rfl rfl ht0 ?_
            rw [rf_takeDraft_53]
            exact h54 0 (by
              have : gd2 = 0 := by
                have : ¬ gd2 = 1 := fun q => (hgv.mp q).2 ht0
                omega
              rw [this]; rfl)
          · refine rc_eqF (b := 0) rfl rfl ht0 ?_
            exact h54 1 (by
              have : gd2 = 1 := hgv.mpr ⟨by omega, ht0⟩
              rw [this]; rfl)
      · rw [r2, hgv]
        constructor
        · rintro ⟨⟨a, b⟩, c'⟩
          refine ⟨a, fun z hz => ?_⟩
          rcases List.mem_cons.mp hz with rfl | hz
          · exact b
          · exact c' z hz
        · rintro ⟨a, b⟩
          exact ⟨⟨a, b c List.mem_cons_self⟩, fun z hz => b z (List.mem_cons_of_mem _ hz)⟩
      · rw [r6, List.length_append, List.length_singleton, List.length_cons]
        congr 1
        omega
      · rw [List.map_cons, show P ++ (o_tk c :: (dcs D).map o_tk ++ [0]) = P ++ [o_tk c] ++ ((dcs D).map o_tk ++ [0]) by simp]
        exact r7
theorem take_ok {gs : OS} {dl : List Nat} (h : DR gs dl) : ∃ g2 v, (∀ F, 5000 ≤ F → rf_takeDraft F gs = some (nI v, g2)) ∧ v < 2 ∧ (v = 1 ↔ ∀ c, c ∈ dcs dl → ¬ o_tk c = 0) ∧ dc gs g2 ∧ g2.1 1 = 0 ∧ g2.1 3 = nI (dcs dl).length ∧ At (g2.2 4) 0 ((dcs dl).map o_tk ++ [0]) := by
  obtain ⟨a, b, c, d⟩ := h
  obtain ⟨g2, v, e, r1, r2, r3, r4, r5, r6, r7⟩ := take_lp dl [] 0 1 (sI gs 3 0) dl.length c d ((sI_n (by decide)).trans a) (by omega) b (sI_e _ _ _) (Nat.le_refl _) trivial (by decide)
  refine ⟨g2, v, ?_, r1, by rw [r2]; exact ⟨fun h => h.2, fun h => ⟨rfl, h⟩⟩, ⟨fun k q1 q2 => (r3 k q1 q2).trans (sI_n q2), r4⟩, r5, ?_, r7⟩
  · intro F hF
    rw [rf_takeDraft]
    exact e F F (by omega)
  · rw [r6]
    show nI (0 + _) = _
    rw [Nat.zero_add]
/-- a leaf's token -/
def lft (t : Nat) : Prop := 100 ≤ t ∨ (3 ≤ t ∧ t ≤ 5) ∨ (10 ≤ t ∧ t < 100)
/-- what is left behind the first term, l lists being begun -/
noncomputable def te : List Nat → Nat → Option (List Nat)
  | [], _ => none
  | t :: r, l => if t = 1 then (if 8 ≤ l then none else te r (l + 1)) else if t = 2 then (if l = 0 then none else if l = 1 then some r else te r (l - 1)) else @ite _ (lft t) (Classical.propDecidable _) (if l = 0 then some r else te r l) none
/-- the reference's termEnd -/
theorem te_lp {F N : Nat} {gs : OS} (h3 : gs.1 3 = nI N) (hN : N ≤ 60) : ∀ (R : List Nat) (p l d : Nat), At (gs.2 4) p R → (∀ t, t ∈ R → t < 126) → p + R.length = N → l ≤ 8 → (l = 0 ∨ 1 ≤ l) → R.length + 1 < d → ∃ v, rf_termEnd_7 F d gs (nI p) (nI l) 1 = some (v, gs) ∧ (∀ R', te R l = some R' → v = nI (N - R'.length) ∧ R'.length < R.length) ∧ (te R l = none → v = -1)
  | [], p, l, d, _, _, hp, hl, _, hd => by
    obtain ⟨d, rfl⟩ : ∃ e, d = e + 1 := ⟨d - 1, by omega⟩
    have hp : p + 0 = N := hp
    refine ⟨-1, ?_, fun R' h => (by cases h), fun _ => rfl⟩
    rw [rf_termEnd_7]
    refine rc_eqF (a := 1) (b := 0) rfl rfl (by decide) ?_
    refine rc_leT h3 rfl (by omega) ?_
    rw [rf_termEnd_30]
    refine rc_eqF (a := 0) (b := 1) rfl rfl (by decide) ?_
    refine rc_eqF (a := 0) (b := 2) rfl rfl (by decide) ?_
    refine rc_bd (isName_n (t := 0) rfl (by decide)) ?_
    refine rc_eqE (a := 0) (b := 0) rfl rfl rfl ?_
    refine rc_bd (isKey_n (t := 0) rfl (by decide)) ?_
    refine rc_eqE (a := 0) (b := 0) rfl rfl rfl ?_
    refine rc_bd (isNum_n (t := 0) rfl (by decide)) ?_
    exact rc_eqE (a := 0) (b := 0) rfl rfl rfl rfl
  | t :: R, p, l, d, ha, ht, hp, hl, hl2, hd => by
    rw [List.length_cons] at hp hd
    obtain ⟨d, rfl⟩ : ∃ e, d = e + 1 := ⟨d - 1, by omega⟩
    have ht1 := ht t List.mem_cons_self
    have ht2 : ∀ t', t' ∈ R → t' < 126 := fun t h => ht t (List.mem_cons_of_mem _ h)
    have hat : gs.2 4 (nI p).toNatClampNeg = nI t := cl_at ha.1
    have hd0 : ∀ {C : RO}, rf_termEnd_30 F (rf_termEnd_7 F d) gs (nI p) (nI l) (nI t) = C → rf_termEnd_7 F (d + 1) gs (nI p) (nI l) 1 = C := fun {C} k => by
      rw [rf_termEnd_7]
      refine rc_eqF (a := 1) (b := 0) rfl rfl (by decide) ?_
      refine rc_leF h3 rfl (by omega) ?_
      refine rc_in rfl (by omega) ?_
      rw [hat]
      exact k
    -- going on, and the end
    have on : ∀ l', 1 ≤ l' → l' ≤ 8 → rf_termEnd_82 F (rf_termEnd_7 F d) gs (nI p) (nI l') = rf_termEnd_7 F d gs (nI (p + 1)) (nI l') 1 := by
      intro l' q1 q2
      rw [rf_termEnd_82]
      refine rc_ltF (b := 0) rfl rfl (Nat.zero_le _) ?_
      refine rc_leT (b := 8) rfl rfl q2 ?_
      refine rc_leF (b := 0) rfl rfl (by omega) ?_
      rw [rf_termEnd_106, nI_1]
    have fin : rf_termEnd_82 F (rf_termEnd_7 F d) gs (nI p) (nI 0) = some (nI (p + 1), gs) := by
      obtain ⟨d', rfl⟩ : ∃ e, d = e + 1 := ⟨d - 1, by omega⟩
      rw [rf_termEnd_82]
      refine rc_ltF (a := 0) (b := 0) rfl rfl (Nat.zero_le _) ?_
      refine rc_leT (a := 0) (b := 8) rfl rfl (by decide) ?_
      refine rc_leT (a := 0) (b := 0) rfl rfl (Nat.le_refl _) ?_
      rw [rf_termEnd_106, nI_1, rf_termEnd_7]
      exact rc_eqE (a := 0) (b := 0) rfl rfl rfl rfl
    have hrec : ∀ l', l' ≤ 8 → 1 ≤ l' → (∀ R', te (t :: R) l = some R' ↔ te R l' = some R') → rf_termEnd_30 F (rf_termEnd_7 F d) gs (nI p) (nI l) (nI t) = rf_termEnd_7 F d gs (nI (p + 1)) (nI l') 1 → ∃ v, rf_termEnd_7 F (d + 1) gs (nI p) (nI l) 1 = some (v, gs) ∧ (∀ R', te (t :: R) l = some R' → v = nI (N - R'.length) ∧ R'.length < R.length + 1) ∧ (te (t :: R) l = none → v = -1) := by
      intro l' q1 q2 q3 q4
      obtain ⟨v, e, r1, r2⟩ := te_lp (F := F) h3 hN R (p + 1) l' d ha.2 ht2 (by omega) q1 (Or.inr q2) (by omega)
      refine ⟨v, hd0 (q4.trans e), fun R' h => ?_, fun h => r2 ?_⟩
      · have := r1 R' ((q3 R').mp h)
        exact ⟨this.1, by omega⟩
      · cases hh : te R l' with
        | none => rfl
        | some R' => rw [(q3 R').mpr hh] at h; cases h
    rw [List.length_cons]
    by_cases h1 : t = 1
    · have e30 : rf_termEnd_30 F (rf_termEnd_7 F d) gs (nI p) (nI l) (nI t) = rf_termEnd_82 F (rf_termEnd_7 F d) gs (nI p) (nI (l + 1)) := by
        rw [rf_termEnd_30]
        refine rc_eqE (b := 1) rfl rfl h1 ?_
        rw [nI_1]
      by_cases h8 : 8 ≤ l
      · have e0 : te (t :: R) l = none := by rw [te, if_pos h1, if_pos h8]
        refine ⟨-1, hd0 (e30.trans ?_), fun R' h => (by rw [e0] at h; cases h), fun _ => rfl⟩
        rw [rf_termEnd_82]
        refine rc_ltF (b := 0) rfl rfl (Nat.zero_le _) ?_
        exact rc_leF (b := 8) rfl rfl (by omega) rfl
      · exact hrec (l + 1) (by omega) (by omega) (fun R' => by rw [te, if_pos h1, if_neg h8]) (e30.trans (on (l + 1) (by omega) (by omega)))
    · by_cases h2 : t = 2
      · by_cases h0 : l = 0
        · have e0 : te (t :: R) l = none := by rw [te, if_neg h1, if_pos h2, if_pos h0]
          refine ⟨-1, hd0 ?_, fun R' h => (by rw [e0] at h; cases h), fun _ => rfl⟩
          rw [rf_termEnd_30]
          refine rc_eqF (b := 1) rfl rfl h1 ?_
          refine rc_eqE (b := 2) rfl rfl h2 ?_
          rw [h0, rf_termEnd_82]
          exact rc_pT (by decide) rfl
        · obtain ⟨l0, rfl⟩ : ∃ l0, l = l0 + 1 := ⟨l - 1, by omega⟩
          have e30 : rf_termEnd_30 F (rf_termEnd_7 F d) gs (nI p) (nI (l0 + 1)) (nI t) = rf_termEnd_82 F (rf_termEnd_7 F d) gs (nI p) (nI l0) := by
            rw [rf_termEnd_30]
            refine rc_eqF (b := 1) rfl rfl h1 ?_
            refine rc_eqE (b := 2) rfl rfl h2 ?_
            rw [nI_q1 rfl]
          by_cases h9 : l0 = 0
          · subst h9
            have e0 : te (t :: R) (0 + 1) = some R := by rw [te, if_neg h1, if_pos h2, if_neg (by decide), if_pos rfl]
            refine ⟨nI (p + 1), hd0 (e30.trans fin), fun R' h => ?_, fun h => by rw [e0] at h; cases h⟩
            rw [e0] at h
            cases h
            exact ⟨by congr 1; omega, by omega⟩
          · exact hrec l0 (by omega) (by omega) (fun R' => by rw [te, if_neg h1, if_pos h2, if_neg (by omega), if_neg (by omega), Nat.add_sub_cancel]) (e30.trans (on l0 (by omega) (by omega)))
      · have e30 : lft t → rf_termEnd_30 F (rf_termEnd_7 F d) gs (nI p) (nI l) (nI t) = rf_termEnd_82 F (rf_termEnd_7 F d) gs (nI p) (nI l) := by
          intro hlf
          rw [rf_termEnd_30]
          refine rc_eqF (b := 1) rfl rfl h1 ?_
          refine rc_eqF (b := 2) rfl rfl h2 ?_
          by_cases k1 : 100 ≤ t
          · refine rc_bd (isName_y rfl k1) ?_
            exact rc_eqF (a := 1) (b := 0) rfl rfl (by decide) rfl
          · refine rc_bd (isName_n rfl (by omega)) ?_
            refine rc_eqE (a := 0) (b := 0) rfl rfl rfl ?_
            by_cases k2 : 3 ≤ t ∧ t ≤ 5
            · refine rc_bd (isKey_y rfl k2) ?_
              exact rc_eqF (a := 1) (b := 0) rfl rfl (by decide) rfl
            · refine rc_bd (isKey_n rfl k2) ?_
              refine rc_eqE (a := 0) (b := 0) rfl rfl rfl ?_
              refine rc_bd (isNum_y rfl (by
                rcases hlf with h | h | h
                · exact absurd h k1
                · exact absurd h k2
                · exact h)) ?_
              exact rc_eqF (a := 1) (b := 0) rfl rfl (by decide) rfl
        by_cases hlf : lft t
        · by_cases h0 : l = 0
          · subst h0
            have e0 : te (t :: R) 0 = some R := by rw [te, if_neg h1, if_neg h2, if_pos hlf, if_pos rfl]
            refine ⟨nI (p + 1), hd0 ((e30 hlf).trans fin), fun R' h => ?_, fun h => by rw [e0] at h; cases h⟩
            rw [e0] at h
            cases h
            exact ⟨by congr 1; omega, by omega⟩
          · exact hrec l hl (by omega) (fun R' => by rw [te, if_neg h1, if_neg h2, if_pos hlf, if_neg h0]) ((e30 hlf).trans (on l (by omega) hl))
        · have e0 : te (t :: R) l = none := by rw [te, if_neg h1, if_neg h2, if_neg hlf]
          refine ⟨-1, hd0 ?_, fun R' h => (by rw [e0] at h; cases h), fun _ => rfl⟩
          have k1 : ¬ 100 ≤ t := fun q => hlf (Or.inl q)
          have k2 : ¬ (3 ≤ t ∧ t ≤ 5) := fun q => hlf (Or.inr (Or.inl q))
          have k3 : ¬ (10 ≤ t ∧ t < 100) := fun q => hlf (Or.inr (Or.inr q))
          rw [rf_termEnd_30]
          refine rc_eqF (b := 1) rfl rfl h1 ?_
          refine rc_eqF (b := 2) rfl rfl h2 ?_
          refine rc_bd (isName_n rfl (by omega)) ?_
          refine rc_eqE (a := 0) (b := 0) rfl rfl rfl ?_
          refine rc_bd (isKey_n rfl k2) ?_
          refine rc_eqE (a := 0) (b := 0) rfl rfl rfl ?_
          refine rc_bd (isNum_n rfl k3) ?_
          exact rc_eqE (a := 0) (b := 0) rfl rfl rfl rfl
