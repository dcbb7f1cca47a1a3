/-! A template's text. -/
def inT (x : TSt) (s0 i : Nat) : Prop := ∃ a, s0 ≤ a ∧ a ≤ i ∧ i < a + x_sp x a ∧ ¬ x_rp x a = 0
/-- what reading a template changes -/
def tcg (gs g2 : OS) : Prop := (∀ k, k ≠ 13 → k ≠ 16 → k ≠ 17 → g2.1 k = gs.1 k) ∧ ∀ k, k ≠ 14 → k ≠ 15 → k ≠ 20 → g2.2 k = gs.2 k
theorem tcg.rf {gs : OS} : tcg gs gs := ⟨fun _ _ _ _ => rfl, fun _ _ _ _ => rfl⟩
theorem tcg.tr {a b c : OS} (h : tcg a b) (h2 : tcg b c) : tcg a c := ⟨fun k p q r => (h2.1 k p q r).trans (h.1 k p q r), fun k p q r => (h2.2 k p q r).trans (h.2 k p q r)⟩
theorem lc.t {a b : OS} (h : lc a b) : tcg a b := ⟨h.1, fun k p q _ => h.2 k p q⟩
/-- the nodes that are repeated are marked -/
def CV (gs : OS) (x : TSt) (pn : Nat → Nat) (s0 p : Nat) : Prop := (∀ t, t ≤ 60 → gs.2 20 t = nI 0 ∨ gs.2 20 t = nI 1) ∧ (∀ t, p ≤ t → t ≤ 60 → gs.2 20 t = nI 0) ∧ ∀ i, s0 ≤ i → i < x_z x → (gs.2 20 (pn i) = nI 1 ↔ inT x s0 i)
/-- the state while a template is read -/
def TS (gs : OS) (tk : Nat → Nat) (N : Nat) (kg : Nat → Nat) (x : TSt) (pn : Nat → Nat) (s0 p0 p : Nat) : Prop :=
  lsr gs x pn False ∧ PN tk s0 p0 x pn p ∧ (∀ c, c < 26 → (bt1 (gs.1 19) c = 1 ↔ kg c = 2)) ∧ CV gs x pn s0 p ∧ t_bd s0 x ∧ t_b2 s0 x ∧ t_li x ∧ (∀ i, i ≤ N → gs.2 4 i = nI (tk i)) ∧ gs.1 3 = nI N
theorem lsr_c2 {gs g2 : OS} {x : TSt} {pn : Nat → Nat} {fs : Prop} (h : lsr gs x pn fs) (h13 : g2.1 13 = gs.1 13) (h16 : g2.1 16 = gs.1 16) (h17 : g2.1 17 = gs.1 17) (h14 : g2.2 14 = gs.2 14) (h15 : g2.2 15 = gs.2 15) : lsr g2 x pn fs := by
  unfold lsr at h ⊢
  rw [h13, h16, h17, h14, h15]
  exact h
def tcond (kg : Nat → Nat) (c : Nat) (x : TSt) : Prop := c = 126 → ∀ l, x_la x = some l → ∃ i, l ≤ i ∧ i < x_z x ∧ k_many kg (x_sg x i)
theorem nI01 {a b : Nat} (ha : a < 2) (hb : b < 2) (h : nI a = nI b) : a = b := nI_inj (by omega) (by omega) h
/-- hasMany -/
theorem hm_lp {F : Nat} {p : Nat} {kg : Nat → Nat} {gs : OS} (hp : p ≤ 60) (hb : ∀ c, c < 26 → (bt1 (gs.1 19) c = 1 ↔ kg c = 2)) : ∀ (T : List Nat) (k d h : Nat), At (gs.2 4) k T → (∀ t, t ∈ T → t < 126) → k + T.length = p → h < 2 → T.length < d → ∃ v, rf_hasMany_5 F d gs (nI p) (nI h) (nI k) = some (nI v, gs) ∧ v < 2 ∧ (v = 1 ↔ h = 1 ∨ ∃ t, t ∈ T ∧ 100 ≤ t ∧ kg (t - 100) = 2)
  | [], k, d, h, _, _, hl, hh, hd => by
    obtain ⟨d, rfl⟩ : ∃ e, d = e + 1 := ⟨d - 1, by have : 0 < d := hd; omega⟩
    have hl : k + 0 = p := hl
    refine ⟨h, ?_, hh, ⟨fun q => Or.inl q, fun q => q.resolve_right (fun ⟨t, q1, _⟩ => by cases q1)⟩⟩
    rw [rf_hasMany_5]
    refine rc_leT rfl rfl (by omega) ?_
    refine rc_ib ?_ rfl
    rcases (show h = 0 ∨ h = 1 by omega) with rfl | rfl
    · exact Or.inl rfl
    · exact Or.inr rfl
  | t :: T, k, d, h, ha, ht, hl, hh, hd => by
    rw [List.length_cons] at hl hd
    obtain ⟨d, rfl⟩ : ∃ e, d = e + 1 := ⟨d - 1, by omega⟩
    have ht1 := ht t List.mem_cons_self
    have ht2 : ∀ t', t' ∈ T → t' < 126 := fun t h => ht t (List.mem_cons_of_mem _ h)
    have hat : gs.2 4 (nI k).toNatClampNeg = nI t := cl_at ha.1
    have go : ∀ h', h' < 2 → (h' = 1 ↔ h = 1 ∨ (100 ≤ t ∧ kg (t - 100) = 2)) → (∀ {C : RO}, rf_hasMany_5 F d gs (nI p) (nI h') (nI (k + 1)) = C → rf_hasMany_5 F (d + 1) gs (nI p) (nI h) (nI k) = C) → ∃ v, rf_hasMany_5 F (d + 1) gs (nI p) (nI h) (nI k) = some (nI v, gs) ∧ v < 2 ∧ (v = 1 ↔ h = 1 ∨ ∃ t', t' ∈ t :: T ∧ 100 ≤ t' ∧ kg (t' - 100) = 2) := by
      intro h' hh' hi hc
      obtain ⟨v, e, v2, v3⟩ := hm_lp (F := F) hp hb T (k + 1) d h' ha.2 ht2 (by omega) hh' (by omega)
      refine ⟨v, hc e, v2, ?_⟩
      rw [v3, hi]
      constructor
      · rintro ((q | q) | ⟨t', q1, q2, q3⟩)
        · exact Or.inl q
        · exact Or.inr ⟨t, List.mem_cons_self, q.1, q.2⟩
        · exact Or.inr ⟨t', List.mem_cons_of_mem _ q1, q2, q3⟩
      · rintro (q | ⟨t', q1, q2, q3⟩)
        · exact Or.inl (Or.inl q)
        · rcases List.mem_cons.mp q1 with rfl | q1
          · exact Or.inl (Or.inr ⟨q2, q3⟩)
          · exact Or.inr ⟨t', q1, q2, q3⟩
    by_cases h1 : h = 1
    · refine go 1 (by decide) ⟨fun _ => Or.inl h1, fun _ => rfl⟩ (fun {C} e => ?_)
      rw [rf_hasMany_5]
      refine rc_leF rfl rfl (by omega) ?_
      refine rc_eqF (b := 0) rfl rfl (by omega) ?_
      rw [rf_hasMany_49, rf_hasMany_54, nI_1]
      exact e
    · have h0 : h = 0 := by omega
      by_cases hn : 100 ≤ t
      · have hlo := letter_ok (F := F) (gs := gs) hat hn
        have hmod : (t - 100) % 32 = t - 100 := by omega
        rw [hmod] at hlo
        have hbt := hb (t - 100) (by omega)
        by_cases hk : kg (t - 100) = 2
        · refine go 1 (by decide) ⟨fun _ => Or.inr ⟨hn, hk⟩, fun _ => rfl⟩ (fun {C} e => ?_)
          rw [rf_hasMany_5]
          refine rc_leF rfl rfl (by omega) ?_
          refine rc_eqE (b := 0) rfl rfl h0 ?_
          refine rc_in rfl (by omega) ?_
          refine rc_bd (isName_y hat hn) ?_
          refine rc_eqF (a := 1) (b := 0) rfl rfl (by decide) ?_
          refine rc_in rfl (by omega) ?_
          refine rc_bd hlo ?_
          refine rc_pT (hbt.mpr hk) ?_
          rw [rf_hasMany_49, rf_hasMany_54, nI_1]
          exact e
        · refine go 0 (by decide) ⟨fun q => (by cases q), fun q => ?_⟩ (fun {C} e => ?_)
          · rcases q with q | q
            · exact absurd q h1
            · exact absurd q.2 hk
          · rw [rf_hasMany_5]
            refine rc_leF rfl rfl (by omega) ?_
            refine rc_eqE (b := 0) rfl rfl h0 ?_
            refine rc_in rfl (by omega) ?_
            refine rc_bd (isName_y hat hn) ?_
            refine rc_eqF (a := 1) (b := 0) rfl rfl (by decide) ?_
            refine rc_in rfl (by omega) ?_
            refine rc_bd hlo ?_
            refine rc_pF (fun q => hk (hbt.mp q)) ?_
            rw [rf_hasMany_53, rf_hasMany_54, nI_1]
            exact e
      · refine go 0 (by decide) ⟨fun q => (by cases q), fun q => ?_⟩ (fun {C} e => ?_)
        · rcases q with q | q
          · exact absurd q h1
          · exact absurd q.1 hn
        · rw [rf_hasMany_5]
          refine rc_leF rfl rfl (by omega) ?_
          refine rc_eqE (b := 0) rfl rfl h0 ?_
          refine rc_in rfl (by omega) ?_
          refine rc_bd (isName_n hat (by omega)) ?_
          refine rc_eqE (a := 0) (b := 0) rfl rfl rfl ?_
          rw [rf_hasMany_53, rf_hasMany_54, nI_1]
          exact e
/-- the tokens of a repeated item are marked -/
theorem cv_lp {F p : Nat} (hp : p ≤ 60) : ∀ (n k d : Nat) (gs : OS), k + n = p → n < d → ∃ g2, rf_templateToken_77 F d gs (nI p) (nI k) = some (1, sI g2 16 (-1)) ∧ g2.1 = gs.1 ∧ (∀ j, j ≠ 20 → g2.2 j = gs.2 j) ∧ (∀ t, k ≤ t → t < p → g2.2 20 t = nI 1) ∧ ∀ t, (t < k ∨ p ≤ t) → g2.2 20 t = gs.2 20 t
  | 0, k, d, gs, hk, hd => by
    obtain ⟨d, rfl⟩ : ∃ e, d = e + 1 := ⟨d - 1, by omega⟩
    refine ⟨gs, ?_, rfl, fun _ _ => rfl, fun t q1 q2 => by omega, fun _ _ => rfl⟩
    rw [rf_templateToken_77]
    exact rc_leT rfl rfl (by omega) rfl
  | n + 1, k, d, gs, hk, hd => by
    obtain ⟨d, rfl⟩ : ∃ e, d = e + 1 := ⟨d - 1, by omega⟩
    have e9 : (sA gs 20 (upd (gs.2 20) k (nI 1))).2 20 = upd (gs.2 20) k (nI 1) := sA_e _ _ _
    obtain ⟨g2, e, r1, r2, r3, r4⟩ := cv_lp (F := F) hp n (k + 1) d (sA gs 20 (upd (gs.2 20) k (nI 1))) (by omega) (by omega)
    refine ⟨g2, ?_, r1, fun j hj => (r2 j hj).trans (sA_n hj), fun t q1 q2 => ?_, fun t q => ?_⟩
    · rw [rf_templateToken_77]
      refine rc_leF rfl rfl (by omega) ?_
      refine rc_in rfl (by omega) ?_
      rw [nI_clamp (by omega), nI_1]
      exact e
    · by_cases htk : t = k
      · rw [r4 t (by omega), e9, htk, upd_e]
      · exact r3 t (by omega) q2
    · rw [r4 t (by omega), e9, upd_n (by omega)]
theorem CV_add {gs g2 : OS} {cap c k s0 p : Nat} {x y : TSt} {tk : Nat → Nat} {p0 : Nat} {pn : Nat → Nat} (h : CV gs x pn s0 p) (hP : PN tk s0 p0 x pn p) (hB : t_bd s0 x) (hB2 : t_b2 s0 x) (hp : p < 60) (hg : g2.2 20 = gs.2 20) (hy : t_add cap s0 8 c k x = some y) : CV g2 y (va_up pn (x_z x) p) s0 (p + 1) := by
  obtain ⟨a1, a2, a3⟩ := h
  obtain ⟨b1, b2, _⟩ := t_add_z hy
  have b3 : x_sp y = va_up (x_sp x) (x_z x) 1 ∧ x_rp y = va_up (x_rp x) (x_z x) 0 := by
    unfold t_add at hy
    split at hy
    · cases hy; exact ⟨rfl, rfl⟩
    · cases hy
  unfold CV
  rw [hg]
  have hin : ∀ i, i < x_z x → (inT y s0 i ↔ inT x s0 i) := fun i hi => by
    constructor
    · rintro ⟨a, z1, z2, z3, z4⟩
      rw [b3.1, va_up_ne _ _ (by omega)] at z3
      rw [b3.2, va_up_ne _ _ (by omega)] at z4
      exact ⟨a, z1, z2, z3, z4⟩
    · rintro ⟨a, z1, z2, z3, z4⟩
      exact ⟨a, z1, z2, by rw [b3.1, va_up_ne _ _ (by omega)]; exact z3, by rw [b3.2, va_up_ne _ _ (by omega)]; exact z4⟩
  refine ⟨a1, fun t q1 q2 => a2 t (by omega) q2, fun i q1 q2 => ?_⟩
  rw [b2] at q2
  by_cases hi : i = x_z x
  · subst hi
    rw [va_up_self, a2 p (Nat.le_refl _) (by omega)]
    refine ⟨fun q => absurd (nI01 (by decide) (by decide) q) (by decide), ?_⟩
    rintro ⟨a, z1, z2, z3, z4⟩
    exfalso
    rw [b3.2] at z4
    have haz : a ≠ x_z x := fun q => z4 (by rw [q, va_up_self])
    rw [va_up_ne _ _ haz] at z4
    rw [b3.1, va_up_ne _ _ haz] at z3
    have := (hB.1 a (by omega) (hB2.1 a z1 (by omega) z4).1).2.2.1
    omega
  · rw [va_up_ne _ _ hi, a3 i q1 (by omega), hin i (by omega)]
theorem tem_tok {F N p c s0 p0 : Nat} {x : TSt} {pn kg : Nat → Nat} {gs : OS} {tk : Nat → Nat} (hF : 5000 ≤ F) (hS : TS gs tk N kg x pn s0 p0 p) (h1 : 1 ≤ x_dp x ∨ (x_dp x = 0 ∧ x_z x = s0 ∧ x_la x = none)) (hp : p < N) (hpp : p0 ≤ p) (hN : N ≤ 60) (hsz : x_z x + (N - p) ≤ 60) (htk : tk p = o_tk c) (hcb : c < 65536) (htb : ∀ i, tk i < 126) :
    (∀ y, tcond kg c x → t_take 60 s0 8 2 c x = some y → ∃ g2 pn', rf_templateToken F gs (nI p) = some (1, g2) ∧ tcg gs g2 ∧ TS g2 tk N kg y pn' s0 p0 (p + 1)) ∧ (¬ (tcond kg c x ∧ ∃ y, t_take 60 s0 8 2 c x = some y) → ∃ g2, rf_templateToken F gs (nI p) = some (0, g2) ∧ tcg gs g2) := by
  obtain ⟨hL, hP, hSB, hC, hB, hB2, hli, htok, h3⟩ := hS
  have h13 := hL.1
  have h8 := hL.2.1
  have hs0 := hB.2.2.2.1
  have hat : gs.2 4 (nI p).toNatClampNeg = nI (o_tk c) := cl_at (by rw [htok p (by omega), htk])
  have hotb : o_tk c < 126 := by rw [← htk]; exact htb p
  have hd0 : ∀ {C : RO}, _ = C → rf_templateToken F gs (nI p) = C := fun {C} k => by
    rw [rf_templateToken]
    exact rc_in rfl (by omega) k
  have hnw : ¬ (x_dp x = 0 ∧ s0 < x_z x) := by rintro ⟨q1, q2⟩; rcases h1 with h | h <;> omega
  have hadd : ¬ c = 40 → ∃ y, t_add 60 s0 8 c 0 x = some y := fun h => ⟨_, by unfold t_add; rw [if_pos ⟨hnw, fun q => h q.1, by omega, by omega⟩]⟩
  by_cases c40 : c = 40
  · -- (
    have ht1 : o_tk c = 1 := by rw [c40]; decide
    have hpc : tcond kg c x := fun q => by omega
    have et : t_take 60 s0 8 2 c x = t_add 60 s0 8 c 0 x := t_take_ad (by omega) (by omega) (Or.inl c40)
    obtain ⟨o1, o2⟩ := ls_open (F := F) (cap := 60) (k := 0) (p := p) hL hB (by omega)
    refine ⟨fun y _ hy => ?_, fun h => ?_⟩
    · rw [et] at hy
      have hy' := hy
      rw [c40] at hy'
      obtain ⟨g2, e, hlc, hL2⟩ := o2 y hy'
      obtain ⟨a1, a2, _⟩ := t_add_z hy
      have hty : t_take 60 s0 8 2 c x = some y := by rw [et]; exact hy
      refine ⟨g2, va_up pn (x_z x) p, hd0 ?_, hlc.t, hL2, PN_add hP hpp a2 (fun i hi => by rw [a1, va_up_ne _ _ (by omega)]) (by rw [htk, a1, va_up_self]) hs0, ?_, CV_add hC hP hB hB2 (by omega) (hlc.2 20 (by decide) (by decide)) hy, t_bd_take hB hty, t_b2_take hB hB2 hty, t_li_take hB hli hty, fun i hi => ?_, ?_⟩
      · refine rc_eqE (b := 1) hat rfl ht1 ?_
        refine rc_bd e ?_
        exact rc_ib (Or.inr rfl) rfl
      · rw [hlc.1 19 (by decide) (by decide) (by decide)]
        exact hSB
      · rw [hlc.2 4 (by decide) (by decide)]
        exact htok i hi
      · exact (hlc.1 3 (by decide) (by decide) (by decide)).trans h3
    · have hd8 : 8 ≤ x_dp x := by
        apply Classical.byContradiction
        intro q
        refine h ⟨hpc, ?_⟩
        rw [et]
        exact ⟨_, by unfold t_add; rw [if_pos ⟨hnw, fun q2 => q q2.2, by omega, by omega⟩]⟩
      obtain ⟨g2, e, hlc⟩ := o1 hd8
      refine ⟨g2, hd0 ?_, hlc.t⟩
      refine rc_eqE (b := 1) hat rfl ht1 ?_
      refine rc_bd e ?_
      exact rc_ib (Or.inl rfl) rfl
  · by_cases c41 : c = 41
    · have ht2 : o_tk c = 2 := by rw [c41]; decide
      have hpc : tcond kg c x := fun q => by omega
      have et : t_take 60 s0 8 2 c x = t_close x := by unfold t_take; rw [if_pos c41]
      by_cases hz0 : x_dp x = 0
      · have en : t_close x = none := by unfold t_close; rw [if_pos hz0]
        refine ⟨fun y _ hy => (by rw [et, en] at hy; cases hy), fun _ => ⟨gs, hd0 ?_, tcg.rf⟩⟩
        refine rc_eqF (b := 1) hat rfl (by omega) ?_
        refine rc_eqE (b := 2) hat rfl ht2 ?_
        exact rc_eqE (b := 0) h13 rfl hz0 rfl
      · obtain ⟨y0, hy0⟩ : ∃ y, t_close x = some y := ⟨_, by unfold t_close; rw [if_neg hz0]⟩
        obtain ⟨g2, e, hlc, hL2⟩ := ls_close (F := F) hL hB hB2 hz0 hy0
        have hty : t_take 60 s0 8 2 c x = some y0 := by rw [et]; exact hy0
        have hop := hB.2.1 (x_dp x - 1) (by omega)
        have hy' : y0 = (x_sg x, x_st x, va_up (x_sp x) (x_op x (x_dp x - 1)) (x_z x - x_op x (x_dp x - 1)), x_it x, x_rp x, x_op x, x_z x, x_dp x - 1, some (x_op x (x_dp x - 1))) := by
          unfold t_close at hy0
          rw [if_neg hz0] at hy0
          exact (Option.some.inj hy0).symm
        refine ⟨fun y _ hy => ?_, fun h => absurd ⟨hpc, y0, hty⟩ h⟩
        rw [hty] at hy
        cases hy
        refine ⟨g2, pn, hd0 ?_, hlc.t, hL2, PN_on hP (by rw [hy']) (by rw [hy']) (by rw [htk, ht2]; decide), ?_, ?_, t_bd_take hB hty, t_b2_take hB hB2 hty, t_li_take hB hli hty, fun i hi => ?_, ?_⟩
        · refine rc_eqF (b := 1) hat rfl (by omega) ?_
          refine rc_eqE (b := 2) hat rfl ht2 ?_
          refine rc_eqF (b := 0) h13 rfl hz0 ?_
          exact rc_bd e rfl
        · rw [hlc.1 19 (by decide) (by decide) (by decide)]
          exact hSB
        · obtain ⟨v1, v2, v3⟩ := hC
          unfold CV
          rw [hlc.2 20 (by decide) (by decide)]
          refine ⟨v1, fun t q1 q2 => v2 t (by omega) q2, fun i q1 q2 => ?_⟩
          have q2 : i < x_z x := by rw [hy'] at q2; exact q2
          rw [v3 i q1 q2]
          have hne : ∀ a, a < x_z x → s0 ≤ a → ¬ x_rp x a = 0 → a ≠ x_op x (x_dp x - 1) := fun a z1 z2 z3 q => (hB2.1 a z2 z1 z3).1 (x_dp x - 1) (by omega) q.symm
          unfold inT
          rw [hy']
          constructor
          · rintro ⟨a, z1, z2, z3, z4⟩
            refine ⟨a, z1, z2, ?_, z4⟩
            show i < a + va_up (x_sp x) _ _ a
            rw [va_up_ne _ _ (hne a (by omega) z1 z4)]
            exact z3
          · rintro ⟨a, z1, z2, z3, z4⟩
            have z4 : ¬ x_rp x a = 0 := z4
            have z3 : i < a + va_up (x_sp x) (x_op x (x_dp x - 1)) (x_z x - x_op x (x_dp x - 1)) a := z3
            rw [va_up_ne _ _ (hne a (by omega) z1 z4)] at z3
            exact ⟨a, z1, z2, z3, z4⟩
        · rw [hlc.2 4 (by decide) (by decide)]
          exact htok i hi
        · exact (hlc.1 3 (by decide) (by decide) (by decide)).trans h3
    · by_cases c126 : c = 126
      · -- ~
        have ht7 : o_tk c = 7 := by rw [c126]; decide
        have et : t_take 60 s0 8 2 c x = t_rep x := by
          unfold t_take
          rw [if_neg c41, if_pos c126, if_neg (by decide)]
        have hd1 : ∀ {C : RO}, _ = C → rf_templateToken F gs (nI p) = C := fun {C} k => hd0 (by
          refine rc_eqF (b := 1) hat rfl (by omega) ?_
          refine rc_eqF (b := 2) hat rfl (by omega) ?_
          exact rc_eqE (b := 7) hat rfl ht7 k)
        by_cases hz0 : x_dp x = 0
        · have en : t_rep x = none := by
            unfold t_rep
            split
            · rfl
            · rw [if_pos hz0]
          refine ⟨fun y _ hy => (by rw [et, en] at hy; cases hy), fun _ => ⟨gs, hd1 ?_, tcg.rf⟩⟩
          exact rc_eqE (b := 0) h13 rfl hz0 rfl
        · obtain ⟨t1, t2⟩ := ls_tilde (F := F) hL hB hB2 hz0 (fun l hl => by
            obtain ⟨m, _, hch, hlz, _⟩ := hB2.2.2 (by omega) l hl
            have hlo := t_ch_ge _ _ _ hch
            have hop := (hB.2.1 (x_dp x - 1) (by omega)).1
            have := (hP.1 l (by omega) hlz).2.1
            omega)
          have hd2 : ∀ {C : RO}, _ = C → rf_templateToken F gs (nI p) = C := fun {C} k => hd1 (rc_eqF (b := 0) h13 rfl hz0 k)
          cases hrep : t_rep x with
          | none =>
            refine ⟨fun y _ hy => (by rw [et, hrep] at hy; cases hy), fun _ => ⟨gs, hd2 ?_, tcg.rf⟩⟩
            exact rc_bd (t1 hrep) (rc_eqE (a := 0) (b := 0) rfl rfl rfl rfl)
          | some y0 =>
            obtain ⟨g2, l, hla, e, hlc, h16, hL2, hg1⟩ := t2 y0 hrep
            have hty : t_take 60 s0 8 2 c x = some y0 := by rw [et]; exact hrep
            have hg4 : g2.2 4 = gs.2 4 := hlc.2 4 (by decide) (by decide)
            obtain ⟨m, em, hch, hlz, hlend, hcd⟩ := hB2.2.2 (by omega) l hla
            have hlo := t_ch_ge _ _ _ hch
            have hop := (hB.2.1 (x_dp x - 1) (by omega)).1
            have hls : s0 ≤ l := by omega
            have hpl := hP.1 l hls hlz
            have hy' : y0 = (x_sg x, x_st x, x_sp x, x_it x, va_up (x_rp x) l 1, x_op x, x_z x, x_dp x, some l) := by
              unfold t_rep at hrep
              rw [hla] at hrep
              have hrep : (if x_dp x = 0 then none else if (List.range (x_z x)).all (fun i => decide (i < l) || decide (x_rp x i = 0)) = true then some (x_sg x, x_st x, x_sp x, x_it x, va_up (x_rp x) l 1, x_op x, x_z x, x_dp x, some l) else none) = some y0 := hrep
              rw [if_neg hz0] at hrep
              split at hrep
              · exact (Option.some.inj hrep).symm
              · cases hrep
            have hb2 : ∀ c, c < 26 → (bt1 (g2.1 19) c = 1 ↔ kg c = 2) := fun c hc => by rw [hg1]; exact hSB c hc
            obtain ⟨v, ev, v2, v3⟩ := hm_lp (F := F) (p := p) (kg := kg) (gs := g2) (by omega) hb2 ((List.range' (pn l) (p - pn l)).map tk) (pn l) F 0 (At_seg _ _ (fun i q1 q2 => by rw [hg4]; exact htok i (by omega))) (fun t ht => by
              obtain ⟨i, _, _, rfl⟩ := seg_mem.mp ht
              exact htb i) (by rw [List.length_map, List.length_range']; omega) (by decide) (by rw [List.length_map, List.length_range']; omega)
            have hmany : v = 1 ↔ ∃ i, l ≤ i ∧ i < x_z x ∧ k_many kg (x_sg x i) := by
              rw [v3]
              constructor
              · rintro (q | ⟨t, q1, q2, q3⟩)
                · cases q
                · obtain ⟨t', r1, r2, r3⟩ := seg_mem.mp q1
                  obtain ⟨i, s1, s2, s3⟩ := hP.2.2 t' (by omega) (by omega) (by omega)
                  have hil : l ≤ i := by
                    apply Classical.byContradiction
                    intro hq
                    have := hP.2.1 i l s1 (by omega) hlz
                    omega
                  have h9 := (hP.1 i s1 s2).2.2
                  rw [s3, r3] at h9
                  have hnm : c_nm (x_sg x i) := by
                    apply Classical.byContradiction
                    intro hq
                    rcases otk_cls (x_sg x i) with ⟨_, z⟩ | ⟨_, z⟩ | ⟨z, _⟩ | ⟨_, _, z, _, _⟩
                    · omega
                    · omega
                    · rcases z with z | z | z
                      · exact hq z
                      · have : o_tk (x_sg x i) = x_sg x i - 38 := by unfold o_tk; rw [if_neg hq, if_pos z]
                        omega
                      · have : o_tk (x_sg x i) ≤ 5 := by rcases z with z | z | z <;> rw [z] <;> decide
                        omega
                    · exact z (Or.inl (by omega))
                  have h10 := otk_nm hnm
                  refine ⟨i, hil, s2, hnm, ?_⟩
                  rw [← q3]
                  congr 1
                  omega
              · rintro ⟨i, q1, q2, q3, q4⟩
                right
                have hpi := hP.1 i (by omega) q2
                have h10 := otk_nm q3
                refine ⟨tk (pn i), seg_mem.mpr ⟨pn i, ?_, by omega, rfl⟩, by omega, ?_⟩
                · by_cases hil : i = l
                  · rw [hil]; exact Nat.le_refl _
                  · exact Nat.le_of_lt (hP.2.1 l i hls (by omega) q2)
                · rw [← q4]
                  congr 1
                  omega
            have hd3 : ∀ {C : RO}, _ = C → rf_templateToken F gs (nI p) = C := fun {C} k => hd2 (by
              refine rc_bd e ?_
              refine rc_eqF (a := 1) (b := 0) rfl rfl (by decide) ?_
              rw [h16]
              exact rc_bd (by rw [rf_hasMany]; exact ev) k)
            by_cases hv : v = 1
            · have hpc : tcond kg c x := fun _ l' hl' => by
                rw [hla] at hl'
                cases hl'
                exact hmany.mp hv
              refine ⟨fun y _ hy => ?_, fun h => absurd ⟨hpc, y0, hty⟩ h⟩
              rw [hty] at hy
              cases hy
              obtain ⟨g3, e3, m1, m2, m3, m4⟩ := cv_lp (F := F) (p := p) (by omega) (p - pn l) (pn l) F g2 (by omega) (by omega)
              refine ⟨sI g3 16 (-1), pn, hd3 ?_, ?_, ?_, PN_on hP (by rw [hy']) (by rw [hy']) (by rw [htk, ht7]; decide), ?_, ?_, t_bd_take hB hty, t_b2_take hB hB2 hty, t_li_take hB hli hty, fun i hi => ?_, ?_⟩
              · refine rc_eqF (a := 1) (b := 0) (by rw [hv]) rfl (by decide) ?_
                rw [h16]
                exact e3
              · refine hlc.t.tr ⟨fun k q1 q2 q3 => ?_, fun k q1 q2 q3 => m2 k q3⟩
                rw [sI_n q2, m1]
              · refine lsr_c2 (gs := sI g2 16 (-1)) (g2 := sI g3 16 (-1)) hL2 ?_ ?_ ?_ ?_ ?_
                · rw [sI_n (by decide), sI_n (by decide), m1]
                · rw [sI_e, sI_e]
                · rw [sI_n (by decide), sI_n (by decide), m1]
                · exact m2 14 (by decide)
                · exact m2 15 (by decide)
              · rw [sI_n (by decide), m1, hg1]
                exact hSB
              · obtain ⟨w1, w2, w3⟩ := hC
                have h20 : g2.2 20 = gs.2 20 := hlc.2 20 (by decide) (by decide)
                unfold CV
                show (∀ t, t ≤ 60 → g3.2 20 t = nI 0 ∨ g3.2 20 t = nI 1) ∧ (∀ t, p + 1 ≤ t → t ≤ 60 → g3.2 20 t = nI 0) ∧ ∀ i, s0 ≤ i → i < x_z y0 → (g3.2 20 (pn i) = nI 1 ↔ inT y0 s0 i)
                refine ⟨fun t q => ?_, fun t q1 q2 => ?_, fun i q1 q2 => ?_⟩
                · by_cases hq : pn l ≤ t ∧ t < p
                  · exact Or.inr (m3 t hq.1 hq.2)
                  · rw [m4 t (by omega), h20]
                    exact w1 t q
                · rw [m4 t (by omega), h20]
                  exact w2 t (by omega) q2
                · have q2 : i < x_z x := by rw [hy'] at q2; exact q2
                  have hpi := hP.1 i q1 q2
                  by_cases hil : l ≤ i
                  · have : pn l ≤ pn i := by
                      by_cases hq : i = l
                      · rw [hq]; exact Nat.le_refl _
                      · exact Nat.le_of_lt (hP.2.1 l i hls (by omega) q2)
                    rw [m3 (pn i) this hpi.2.1]
                    refine ⟨fun _ => ?_, fun _ => rfl⟩
                    unfold inT
                    rw [hy']
                    exact ⟨l, hls, hil, by show i < l + x_sp x l; omega, by show ¬ va_up (x_rp x) l 1 l = 0; rw [va_up_self]; decide⟩
                  · have hlt := hP.2.1 i l q1 (by omega) hlz
                    rw [m4 (pn i) (by omega), h20, w3 i q1 q2]
                    unfold inT
                    rw [hy']
                    constructor
                    · rintro ⟨a, z1, z2, z3, z4⟩
                      refine ⟨a, z1, z2, z3, ?_⟩
                      show ¬ va_up (x_rp x) l 1 a = 0
                      rw [va_up_ne _ _ (by omega)]
                      exact z4
                    · rintro ⟨a, z1, z2, z3, z4⟩
                      have z4 : ¬ va_up (x_rp x) l 1 a = 0 := z4
                      rw [va_up_ne _ _ (by omega)] at z4
                      exact ⟨a, z1, z2, z3, z4⟩
              · show g3.2 4 i = _
                rw [m2 4 (by decide), hg4]
                exact htok i hi
              · rw [sI_n (by decide), m1, hg1]
                exact h3
            · have hv0 : v = 0 := by omega
              refine ⟨fun y hpc _ => absurd (hmany.mpr (hpc c126 l hla)) hv, fun _ => ⟨g2, hd3 ?_, hlc.t⟩⟩
              exact rc_eqE (b := 0) (by rw [hv0]) rfl rfl rfl
      · -- another sign
        have hset : ∀ y, c_ok 2 c → t_take 60 s0 8 2 c x = some y → rf_templateToken F gs (nI p) = some (1, sI (sI gs 16 (nI p)) 17 0) → ∃ g2 pn', rf_templateToken F gs (nI p) = some (1, g2) ∧ tcg gs g2 ∧ TS g2 tk N kg y pn' s0 p0 (p + 1) := by
          intro y hok hy e
          have hy2 : t_add 60 s0 8 c 0 x = some y := by rw [t_take_ad c41 c126 hok] at hy; exact hy
          obtain ⟨a1, a2, _⟩ := t_add_z hy2
          refine ⟨_, va_up pn (x_z x) p, e, ⟨fun k q1 q2 q3 => by rw [sI_n q3, sI_n q2], fun _ _ _ _ => rfl⟩, ls_leaf hL hB c40 hy2, PN_add hP hpp a2 (fun i hi => by rw [a1, va_up_ne _ _ (by omega)]) (by rw [htk, a1, va_up_self]) hs0, ?_, CV_add hC hP hB hB2 (by omega) rfl hy2, t_bd_take hB hy, t_b2_take hB hB2 hy, t_li_take hB hli hy, htok, ?_⟩
          · rw [sI_n (by decide), sI_n (by decide)]
            exact hSB
          · rw [sI_n (by decide), sI_n (by decide)]
            exact h3
        have hd1 : ∀ {C : RO}, ¬ o_tk c = 1 → ¬ o_tk c = 2 → ¬ o_tk c = 7 → _ = C → rf_templateToken F gs (nI p) = C := fun {C} q1 q2 q3 k => hd0 (by
          refine rc_eqF (b := 1) hat rfl q1 ?_
          refine rc_eqF (b := 2) hat rfl q2 ?_
          exact rc_eqF (b := 7) hat rfl q3 k)
        have hfin : c_ok 2 c → rf_templateToken F gs (nI p) = some (1, sI (sI gs 16 (nI p)) 17 0) → (∀ y, tcond kg c x → t_take 60 s0 8 2 c x = some y → ∃ g2 pn', rf_templateToken F gs (nI p) = some (1, g2) ∧ tcg gs g2 ∧ TS g2 tk N kg y pn' s0 p0 (p + 1)) ∧ (¬ (tcond kg c x ∧ ∃ y, t_take 60 s0 8 2 c x = some y) → ∃ g2, rf_templateToken F gs (nI p) = some (0, g2) ∧ tcg gs g2) := by
          intro hok e
          obtain ⟨y0, hy0⟩ := hadd c40
          exact ⟨fun y _ hy => hset y hok hy e, fun h => absurd ⟨fun q => absurd q c126, y0, by rw [t_take_ad c41 c126 hok]; exact hy0⟩ h⟩
        by_cases cnm : c_nm c
        · have ht := otk_nm cnm
          refine hfin (Or.inr (Or.inl cnm)) (hd1 (by omega) (by omega) (by omega) ?_)
          refine rc_bd (isName_y hat (by omega)) ?_
          exact rc_eqF (a := 1) (b := 0) rfl rfl (by decide) rfl
        · by_cases cnu : c_nu c
          · have ht : o_tk c = c - 38 := by unfold o_tk; rw [if_neg cnm, if_pos cnu]
            refine hfin (Or.inr (Or.inr (Or.inl cnu))) (hd1 (by omega) (by omega) (by omega) ?_)
            refine rc_bd (isName_n hat (by omega)) ?_
            refine rc_eqE (a := 0) (b := 0) rfl rfl rfl ?_
            refine rc_bd (isNum_y hat (by omega)) ?_
            exact rc_eqF (a := 1) (b := 0) rfl rfl (by decide) rfl
          · by_cases ckw : c_kw c
            · have ht : 3 ≤ o_tk c ∧ o_tk c ≤ 5 := by rcases ckw with rfl | rfl | rfl <;> decide
              refine hfin (Or.inr (Or.inr (Or.inr (Or.inl ckw)))) (hd1 (by omega) (by omega) (by omega) ?_)
              refine rc_bd (isName_n hat (by omega)) ?_
              refine rc_eqE (a := 0) (b := 0) rfl rfl rfl ?_
              refine rc_bd (isNum_n hat (by omega)) ?_
              refine rc_eqE (a := 0) (b := 0) rfl rfl rfl ?_
              refine rc_bd (isKey_y hat ht) ?_
              exact rc_eqF (a := 1) (b := 0) rfl rfl (by decide) rfl
            · have hv : o_tk c = 8 ∨ o_tk c = 6 ∨ o_tk c = 0 := by
                unfold o_tk
                rw [if_neg cnm, if_neg cnu, if_neg c40, if_neg c41]
                by_cases g1 : c = 61
                · rw [if_pos g1]; exact Or.inl rfl
                · rw [if_neg g1, if_neg (fun q => ckw (Or.inr (Or.inl q))), if_neg (fun q => ckw (Or.inl q)), if_neg (fun q => ckw (Or.inr (Or.inr q)))]
                  by_cases g5 : c = 95
                  · rw [if_pos g5]; exact Or.inr (Or.inl rfl)
                  · rw [if_neg g5, if_neg c126]; exact Or.inr (Or.inr rfl)
              have et : t_take 60 s0 8 2 c x = none := by
                unfold t_take
                rw [if_neg c41, if_neg c126, if_neg]
                rintro (h | h | h | h | h)
                · exact c40 h
                · exact cnm h
                · exact cnu h
                · exact ckw h
                · exact absurd h.2 (by decide)
              refine ⟨fun y _ hy => (by rw [et] at hy; cases hy), fun _ => ⟨gs, hd1 (by omega) (by omega) (by omega) ?_, tcg.rf⟩⟩
              refine rc_bd (isName_n hat (by omega)) ?_
              refine rc_eqE (a := 0) (b := 0) rfl rfl rfl ?_
              refine rc_bd (isNum_n hat (by omega)) ?_
              refine rc_eqE (a := 0) (b := 0) rfl rfl rfl ?_
              refine rc_bd (isKey_n hat (by omega)) ?_
              exact rc_eqE (a := 0) (b := 0) rfl rfl rfl rfl
