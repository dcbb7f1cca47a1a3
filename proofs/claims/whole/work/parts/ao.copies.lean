/-! A template's tokens, put; how often an item is. -/
/-- what was matched, as it is used by a template -/
def GM (gs : OS) (y : TSt) (kf : Nat → Nat) (q : MSt) (md r : Nat) : Prop := MR gs y kf q ∧ (∀ c, c < 26 → kf c = 2 → gs.2 30 c = nI (q.1 c)) ∧ (∀ c, q.1 c ≤ 60) ∧ (∀ c, c < 26 → ((gs.2 11 r) >>> (nI c &&& 31)) &&& 1 = nI (if kf c = 1 then 1 else 0) ∧ ((gs.2 12 r) >>> (nI c &&& 31)) &&& 1 = nI (if kf c = 2 then 1 else 0)) ∧ gs.1 37 = nI md ∧ ∀ c, c < 26 → kf c = 1 → 0 < q.1 c
theorem GM_ec {gs g2 : OS} {y : TSt} {kf : Nat → Nat} {q : MSt} {md r : Nat} (h : GM gs y kf q md r) (he : ec gs g2) : GM g2 y kf q md r := by
  obtain ⟨a, b, c, d, e, f⟩ := h
  refine ⟨MR_cg a (he.2 29 (by decide)) (he.2 31 (by decide)) (he.2 22 (by decide)), fun k p1 p2 => by rw [he.2 30 (by decide)]; exact b k p1 p2, c, fun k p1 => by rw [he.2 11 (by decide), he.2 12 (by decide)]; exact d k p1, (he.1 37 (by decide) (by decide) (by decide) (by decide) (by decide)).trans e, f⟩
/-- what a token of a template is put as, in the n-th copy -/
def etk (y : TSt) (kf : Nat → Nat) (q : MSt) (md n t : Nat) : List Nat := if t < 100 then [t] else if kf (t - 100) = 1 then tkT y (q.2 (t - 100) 0) else if kf (t - 100) = 2 then tkT y (q.2 (t - 100) n) else [t + 32 * (md + 1)]
theorem nI_mul {a b : Nat} : nI a * nI b = nI (a * b) := (Int32.ofNat_mul a b).symm
section EP
variable {F r n md : Nat} {y : TSt} {kf : Nat → Nat} {q : MSt}
/-- one token of a template -/
theorem emitP_1 (hF : 5000 ≤ F) (hr : r < 12) (hn : n < 64) (hmd : md ≤ 12) (hwy : t_wf6 y) (hoy : t_ok y) {gs : OS} {s : ES} {i to t d : Nat} (hto : to ≤ 768) (hi : i < to) (hat : gs.2 10 i = nI t) (ht : t < 126) (hG : GM gs y kf q md r) (hc : 100 ≤ t → kf (t - 100) = 2 → n < q.1 (t - 100)) (hE : EM gs s) (h0 : s.2.2.2.2 = 0) (hl : t = 2 → 1 ≤ s.2.2.1) : ∃ g2, rf_emitPlain_3 F (d + 1) gs (nI r) (nI to) (nI n) (nI i) = rf_emitPlain_3 F d g2 (nI r) (nI to) (nI n) (nI (i + 1)) ∧ ec gs g2 ∧ EM g2 (em (etk y kf q md n t) s) := by
  have hat : gs.2 10 (nI i).toNatClampNeg = nI t := cl_at hat
  obtain ⟨m1, m2, m3, m4, m5, m6⟩ := hG
  have hd : ∀ {C : RO}, _ = C → rf_emitPlain_3 F (d + 1) gs (nI r) (nI to) (nI n) (nI i) = C := fun {C} k => by
    rw [rf_emitPlain_3]
    refine rc_leF rfl rfl hi ?_
    refine rc_eqE (b := 0) hE.2.2.2.2.2.1 rfl h0 ?_
    refine rc_in rfl (by omega) ?_
    exact k
  by_cases h1 : t < 100
  · obtain ⟨g2, e2, hc2, hE2⟩ := emit_ok (F := F) hat (by omega) hE h0 hl
    have e : em (etk y kf q md n t) s = em1 t s := by
      unfold etk
      rw [if_pos h1]
      exact if_pos h0
    refine ⟨g2, hd ?_, hc2, by rw [e]; exact hE2⟩
    refine rc_bd rfl ?_
    refine rc_bd (isName_n hat h1) ?_
    refine rc_eqE (a := 0) (b := 0) rfl rfl rfl ?_
    refine rc_bd e2 ?_
    rw [rf_emitPlain_129, nI_1]
  · have hlo := letter_ok (F := F) (gs := gs) hat (by omega)
    have hmod : (t - 100) % 32 = t - 100 := by omega
    rw [hmod] at hlo
    have h26 : t - 100 < 26 := by omega
    obtain ⟨b1, b2⟩ := m4 (t - 100) h26
    have b1' : gs.2 11 (nI r).toNatClampNeg >>> (nI (t - 100) &&& 31) &&& 1 = nI (if kf (t - 100) = 1 then 1 else 0) := by
      rw [nI_clamp (by omega)]
      exact b1
    have b2' : gs.2 12 (nI r).toNatClampNeg >>> (nI (t - 100) &&& 31) &&& 1 = nI (if kf (t - 100) = 2 then 1 else 0) := by
      rw [nI_clamp (by omega)]
      exact b2
    have hd2 : ∀ {C : RO}, _ = C → rf_emitPlain_3 F (d + 1) gs (nI r) (nI to) (nI n) (nI i) = C := fun {C} k => hd (by
      refine rc_bd hlo ?_
      refine rc_bd (isName_y hat (by omega)) ?_
      refine rc_eqF (a := 1) (b := 0) rfl rfl (by decide) ?_
      refine rc_in rfl hr ?_
      exact k)
    by_cases k1 : kf (t - 100) = 1
    · rw [if_pos k1] at b1'
      obtain ⟨p, ep, ta1, ta2, ta3, ta4⟩ := (m1 (t - 100) h26).1 k1 (m6 _ h26 k1)
      obtain ⟨g2, e2, hc2, hE2⟩ := emitT_ok (F := F) (x := gs.2 29 (nI (t - 100)).toNatClampNeg) hF (cl_at ep) (tkT_tmm hwy hoy ta1) ta3 ta4 ta2 hE
      have e : em (etk y kf q md n t) s = em (tkT y (q.2 (t - 100) 0)) s := by
        unfold etk
        rw [if_neg h1, if_pos k1]
      refine ⟨g2, hd2 ?_, hc2, by rw [e]; exact hE2⟩
      refine rc_eqE (a := 1) (b := 1) b1' rfl rfl ?_
      refine rc_in rfl h26 ?_
      refine rc_bd e2 ?_
      rw [rf_emitPlain_129, nI_1]
    · rw [if_neg k1] at b1'
      by_cases k2 : kf (t - 100) = 2
      · rw [if_pos k2] at b2'
        have hnq := hc (by omega) k2
        obtain ⟨p, ep, ta1, ta2, ta3, ta4⟩ := (m1 (t - 100) h26).2 k2 n hnq
        have e64 : (64 : Int32) * nI (t - 100) + nI n = nI (64 * (t - 100) + n) := by rw [mul64]; exact nI_add _ _
        obtain ⟨g2, e2, hc2, hE2⟩ := emitT_ok (F := F) (x := gs.2 31 ((64 : Int32) * nI (t - 100) + nI n).toNatClampNeg) hF (by rw [e64]; exact cl_at ep) (tkT_tmm hwy hoy ta1) ta3 ta4 ta2 hE
        have e : em (etk y kf q md n t) s = em (tkT y (q.2 (t - 100) n)) s := by
          unfold etk
          rw [if_neg h1, if_neg k1, if_pos k2]
        refine ⟨g2, hd2 ?_, hc2, by rw [e]; exact hE2⟩
        refine rc_eqF (a := 0) (b := 1) b1' rfl (by decide) ?_
        refine rc_in rfl hr ?_
        refine rc_eqE (a := 1) (b := 1) b2' rfl rfl ?_
        refine rc_in e64 (by omega) ?_
        refine rc_bd e2 ?_
        rw [rf_emitPlain_129, nI_1]
      · rw [if_neg k2] at b2'
        have e32 : gs.2 10 (nI i).toNatClampNeg + (32 : Int32) * (gs.1 37 + 1) = nI (t + 32 * (md + 1)) := by
          rw [hat, nI_p1 m5]
          have : (32 : Int32) * nI (md + 1) = nI (32 * (md + 1)) := nI_mul (a := 32)
          rw [this]
          exact nI_add _ _
        obtain ⟨g2, e2, hc2, hE2⟩ := emit_ok (F := F) e32 (by omega) hE h0 (fun q => by omega)
        have e : em (etk y kf q md n t) s = em1 (t + 32 * (md + 1)) s := by
          unfold etk
          rw [if_neg h1, if_neg k1, if_neg k2]
          exact if_pos h0
        refine ⟨g2, hd2 ?_, hc2, by rw [e]; exact hE2⟩
        refine rc_eqF (a := 0) (b := 1) b1' rfl (by decide) ?_
        refine rc_in rfl hr ?_
        refine rc_eqF (a := 0) (b := 1) b2' rfl (by decide) ?_
        refine rc_bd e2 ?_
        rw [rf_emitPlain_129, nI_1]
/-- the level behind what a token is put as -/
theorem etk_lvl (hwy : t_wf6 y) (hoy : t_ok y) {t : Nat} (ht : t < 126) (hG1 : 100 ≤ t → kf (t - 100) = 1 → q.2 (t - 100) 0 < x_z y) (hG2 : 100 ≤ t → kf (t - 100) = 2 → q.2 (t - 100) n < x_z y) (E : List Nat) (l : Nat) : lvl (etk y kf q md n t ++ E) l = lvl (t :: E) l := by
  unfold etk
  by_cases h1 : t < 100
  · rw [if_pos h1]
    rfl
  · rw [if_neg h1]
    have e0 : lvl (t :: E) l = lvl E l := by
      show (if t = 1 then _ else if t = 2 then _ else lvl E l) = _
      rw [if_neg (by omega), if_neg (by omega)]
    rw [e0]
    by_cases k1 : kf (t - 100) = 1
    · rw [if_pos k1, lvl_app, tmm_lvl (tkT_tmm hwy hoy (hG1 (by omega) k1))]
      rfl
    · rw [if_neg k1]
      by_cases k2 : kf (t - 100) = 2
      · rw [if_pos k2, lvl_app, tmm_lvl (tkT_tmm hwy hoy (hG2 (by omega) k2))]
        rfl
      · rw [if_neg k2]
        show (if t + 32 * (md + 1) = 1 then _ else if t + 32 * (md + 1) = 2 then _ else lvl E l) = _
        rw [if_neg (by omega), if_neg (by omega)]
theorem GM_1 {gs : OS} (hG : GM gs y kf q md r) {t : Nat} (ht : t < 126) (h : 100 ≤ t) (k1 : kf (t - 100) = 1) : q.2 (t - 100) 0 < x_z y := by
  obtain ⟨m1, m2, m3, m4, m5, m6⟩ := hG
  obtain ⟨p, ep, ta⟩ := (m1 (t - 100) (by omega)).1 k1 (m6 _ (by omega) k1)
  exact ta.1
theorem GM_2 {gs : OS} (hG : GM gs y kf q md r) {t : Nat} (ht : t < 126) (h : 100 ≤ t) (k2 : kf (t - 100) = 2) (hn : n < q.1 (t - 100)) : q.2 (t - 100) n < x_z y := by
  obtain ⟨p, ep, ta⟩ := (hG.1 (t - 100) (by omega)).2 k2 n hn
  exact ta.1
/-- tokens of a template, side by side -/
theorem emitP_lp (hF : 5000 ≤ F) (hr : r < 12) (hn : n < 64) (hmd : md ≤ 12) (hwy : t_wf6 y) (hoy : t_ok y) : ∀ (P : List Nat) (i d : Nat) (gs : OS) (s : ES), At (gs.2 10) i P → (∀ t, t ∈ P → t < 126) → i + P.length ≤ 768 → GM gs y kf q md r → (∀ t, t ∈ P → 100 ≤ t → kf (t - 100) = 2 → n < q.1 (t - 100)) → EM gs s → (s.2.2.2.2 = 0 → ¬ lvl P s.2.2.1 = none) → P.length < d → ∃ g2, rf_emitPlain_3 F d gs (nI r) (nI (i + P.length)) (nI n) (nI i) = some (0, g2) ∧ ec gs g2 ∧ EM g2 (em (P.flatMap (etk y kf q md n)) s)
  | [], i, d, gs, s, _, _, hi, _, _, hE, _, hd => by
    obtain ⟨d, rfl⟩ : ∃ e, d = e + 1 := ⟨d - 1, by have : 0 < d := hd; omega⟩
    have hi : i + 0 ≤ 768 := hi
    refine ⟨gs, ?_, ec.rf, hE⟩
    rw [rf_emitPlain_3]
    exact rc_leT rfl rfl (Nat.le_refl _) rfl (by omega)
  | t :: P, i, d, gs, s, ha, ht, hi, hG, hc, hE, hl, hd => by
    rw [List.length_cons] at hi hd
    obtain ⟨d, rfl⟩ : ∃ e, d = e + 1 := ⟨d - 1, by omega⟩
    have e0 : i + (t :: P).length = i + 1 + P.length := by rw [List.length_cons]; omega
    rw [e0]
    by_cases h0 : s.2.2.2.2 = 0
    · have hl := hl h0
      obtain ⟨m, hm⟩ : ∃ m, lvl (t :: P) s.2.2.1 = some m := by
        cases h : lvl (t :: P) s.2.2.1 with
        | none => exact absurd h hl
        | some m => exact ⟨m, rfl⟩
      have ht1 := ht t List.mem_cons_self
      obtain ⟨g1, e1, hc1, hE1⟩ := emitP_1 (F := F) (d := d) hF hr hn hmd hwy hoy (to := i + 1 + P.length) (by omega) (by omega) ha.1 ht1 hG (fun q => hc t List.mem_cons_self q) hE h0 (em1_lvl hm).1
      have hG1 := GM_ec hG hc1
      have hl2 : (em (etk y kf q md n t) s).2.2.2.2 = 0 → ¬ lvl P (em (etk y kf q md n t) s).2.2.1 = none := by
        intro hz
        have hlv := etk_lvl (n := n) (md := md) (kf := kf) (q := q) hwy hoy ht1 (fun q => GM_1 hG ht1 q) (fun q k => GM_2 hG ht1 q k (hc t List.mem_cons_self q k)) P s.2.2.1
        rw [hm] at hlv
        rw [lvl_app] at hlv
        obtain ⟨m2, hm2, hm3⟩ := Option.bind_eq_some_iff.mp hlv
        rw [em_lvl _ s m2 hm2 hz, hm3]
        intro q; cases q
      obtain ⟨g2, e2, hc2, hE2⟩ := emitP_lp hF hr hn hmd hwy hoy P (i + 1) d g1 _ (by rw [hc1.2 10 (by decide)]; exact ha.2) (fun t h => ht t (List.mem_cons_of_mem _ h)) (by omega) hG1 (fun t h => hc t (List.mem_cons_of_mem _ h)) hE1 hl2 (by omega)
      refine ⟨g2, ?_, hc1.tr hc2, ?_⟩
      · rw [e1]
        exact e2
      · rw [List.flatMap_cons, em_app]
        exact hE2
    · refine ⟨gs, ?_, ec.rf, by rw [em_1 h0]; exact hE⟩
      rw [rf_emitPlain_3]
      refine rc_leF rfl rfl (by omega) ?_
      have h1 := hE.2.2.2.2.2.2.1
      exact rc_eqF (b := 0) hE.2.2.2.2.2.1 rfl h0 rfl
end EP
