/-- the names among an item's tokens -/
theorem tpS_mem {x : TSt} (hw : t_wf6 x) (hl : t_lf x) (ho : x_oks x) : ∀ (k n a b : Nat), x_z x - a ≤ k → t_ch x n a b → b ≤ x_z x → ∀ c, c + 100 ∈ tpS x n a ↔ ∃ j, a ≤ j ∧ j < b ∧ c_nm (x_sg x j) ∧ x_sg x j = c + 97
  | k, 0, a, b, hk, hc, hb, c => by
    have hc : a = b := hc
    exact ⟨fun q => (by cases q), fun ⟨j, h1, h2, _⟩ => (by omega)⟩
  | 0, n + 1, a, b, hk, hc, hb, c => by
    have : a < b := hc.1
    omega
  | k + 1, n + 1, a, b, hk, hc, hb, c => by
    have h1 : a < b := hc.1
    have h2 := t_ch_ge n _ b hc.2
    have hwa := hw.1 a (by omega)
    have hT : c + 100 ∈ tpT x a ↔ ∃ j, a ≤ j ∧ j < a + x_sp x a ∧ c_nm (x_sg x j) ∧ x_sg x j = c + 97 := by
      by_cases h : x_sg x a = 40
      · have ih := tpS_mem hw hl ho k (x_it x a) (a + 1) (a + x_sp x a) (by omega) hwa.2.2 hwa.2.1 c
        rw [tpT_list hw (by omega) h]
        constructor
        · intro q
          rcases List.mem_cons.mp q with q | q
          · omega
          · rcases List.mem_append.mp q with q | q
            · obtain ⟨j, p1, p2, p3, p4⟩ := ih.mp q
              exact ⟨j, by omega, p2, p3, p4⟩
            · rcases List.mem_singleton.mp q
        · rintro ⟨j, p1, p2, p3, p4⟩
          have : j ≠ a := fun q => by rw [q, h] at p3; omega
          exact List.mem_cons_of_mem _ (List.mem_append_left _ (ih.mpr ⟨j, by omega, p2, p3, p4⟩))
      · have hlf := hl a (by omega) h
        rw [tpT_leaf h, hlf.1]
        constructor
        · intro q
          have q := List.mem_singleton.mp q
          have hok := ho a (by omega)
          by_cases hn : c_nm (x_sg x a)
          · rw [otk_nm hn] at q
            exact ⟨a, by omega, by omega, hn, by omega⟩
          · exfalso
            by_cases h95 : x_sg x a = 95
            · rw [otk_95 h95] at q
              omega
            · have := otk_pl hok hn h95
              omega
        · rintro ⟨j, p1, p2, p3, p4⟩
          have : j = a := by omega
          rw [this] at p3 p4
          rw [otk_nm p3]
          exact List.mem_singleton.mpr (by omega)
    have ih2 := tpS_mem hw hl ho k n (a + x_sp x a) b (by omega) hc.2 hb c
    have hr : ¬ c + 100 ∈ tp_r x a := by
      unfold tp_r
      split
      · intro q; cases q
      · intro q
        have := List.mem_singleton.mp q
        omega
    rw [tpS_s, List.mem_append, List.mem_append, hT, ih2]
    constructor
    · rintro (⟨j, p1, p2, p3, p4⟩ | q | ⟨j, p1, p2, p3, p4⟩)
      · exact ⟨j, p1, by omega, p3, p4⟩
      · exact absurd q hr
      · exact ⟨j, by omega, p2, p3, p4⟩
    · rintro ⟨j, p1, p2, p3, p4⟩
      by_cases hj : j < a + x_sp x a
      · exact Or.inl ⟨j, p1, hj, p3, p4⟩
      · exact Or.inr (Or.inr ⟨j, by omega, p2, p3, p4⟩)
theorem tpT_mem {x : TSt} (hw : t_wf6 x) (hl : t_lf x) (ho : x_oks x) {a : Nat} (ha : a < x_z x) (c : Nat) : c + 100 ∈ tpT x a ↔ ∃ j, a ≤ j ∧ j < a + x_sp x a ∧ c_nm (x_sg x j) ∧ x_sg x j = c + 97 := by
  have hwa := hw.1 a ha
  have e : tpS x 1 a = tpT x a ++ (tp_r x a ++ []) := rfl
  have h := tpS_mem hw hl ho (x_z x) 1 a (a + x_sp x a) (by omega) ⟨by omega, rfl⟩ hwa.2.1 c
  have hr : ¬ c + 100 ∈ tp_r x a := by
    unfold tp_r
    split
    · intro q; cases q
    · intro q
      have := List.mem_singleton.mp q
      omega
  rw [← h, e, List.mem_append, List.append_nil]
  exact ⟨fun q => Or.inl q, fun q => q.resolve_right hr⟩
/-- how often a repeated item's names matched -/
theorem times_lp {F : Nat} {x4 : Int32} {n e : Nat} (he : e ≤ 768) : ∀ (T : List Nat) (i d : Nat) (gs : OS), At (gs.2 8) i T → i + T.length = e → (∀ t, t ∈ T → t < 126) → T.length < d → ∃ g2, rf_matchMany_51 F d gs (nI e) x4 (nI n) (nI i) = some (x4, g2) ∧ g2.1 = gs.1 ∧ (∀ k, k ≠ 30 → g2.2 k = gs.2 k) ∧ (∀ c, c + 100 ∈ T → g2.2 30 c = nI n) ∧ ∀ c, ¬ c + 100 ∈ T → g2.2 30 c = gs.2 30 c
  | [], i, d, gs, _, hl, _, hd => by
    obtain ⟨d, rfl⟩ : ∃ e, d = e + 1 := ⟨d - 1, by have : 0 < d := hd; omega⟩
    have hl : i + 0 = e := hl
    refine ⟨gs, ?_, rfl, fun _ _ => rfl, fun c hc => (by cases hc), fun _ _ => rfl⟩
    rw [rf_matchMany_51]
    exact rc_leT rfl rfl (by omega) rfl
  | t :: T, i, d, gs, ha, hl, hs, hd => by
    rw [List.length_cons] at hl hd
    obtain ⟨d, rfl⟩ : ∃ e, d = e + 1 := ⟨d - 1, by omega⟩
    have ht := hs t List.mem_cons_self
    have hat : gs.2 8 (nI i).toNatClampNeg = nI t := cl_at ha.1
    have hs2 : ∀ t', t' ∈ T → t' < 126 := fun t' h => hs t' (List.mem_cons_of_mem _ h)
    by_cases hn : 100 ≤ t
    · have hmod : (t - 100) % 32 = t - 100 := by omega
      have hlo := letter_ok (F := F) (gs := gs) hat hn
      rw [hmod] at hlo
      obtain ⟨g2, e2, hi2, ha2, hin, hout⟩ := times_lp (F := F) (x4 := x4) (n := n) he T (i + 1) d (sA gs 30 (upd (gs.2 30) (t - 100) (nI n))) (by rw [sA_n (by decide)]; exact ha.2) (by omega) hs2 (by omega)
      refine ⟨g2, ?_, by rw [hi2]; rfl, fun k hk => (ha2 k hk).trans (sA_n hk), fun c hc => ?_, fun c hc => ?_⟩
      · rw [rf_matchMany_51]
        refine rc_leF rfl rfl (by omega) ?_
        refine rc_in rfl (by omega) ?_
        refine rc_bd (isName_y hat hn) ?_
        refine rc_eqF (a := 1) (b := 0) rfl rfl (by decide) ?_
        refine rc_in rfl (by omega) ?_
        refine rc_bd hlo ?_
        refine rc_in rfl (by omega) ?_
        rw [rf_matchMany_87, nI_1, nI_clamp (by omega)]
        exact e2
      · by_cases hcT : c + 100 ∈ T
        · exact hin c hcT
        · rw [hout c hcT, sA_e]
          rcases List.mem_cons.mp hc with h | h
          · rw [show t - 100 = c by omega]
            exact upd_e _ _ _
          · exact absurd h hcT
      · rw [hout c (fun q => hc (List.mem_cons_of_mem _ q)), sA_e]
        refine upd_n (fun q => hc ?_)
        rw [q]
        rw [show t - 100 + 100 = t by omega]
        exact List.mem_cons_self
    · obtain ⟨g2, e2, hi2, ha2, hin, hout⟩ := times_lp (F := F) (x4 := x4) (n := n) he T (i + 1) d gs ha.2 (by omega) hs2 (by omega)
      refine ⟨g2, ?_, hi2, ha2, fun c hc => ?_, fun c hc => hout c (fun q => hc (List.mem_cons_of_mem _ q))⟩
      · rw [rf_matchMany_51]
        refine rc_leF rfl rfl (by omega) ?_
        refine rc_in rfl (by omega) ?_
        refine rc_bd (isName_n hat (by omega)) ?_
        refine rc_eqE (a := 0) (b := 0) rfl rfl rfl ?_
        rw [rf_matchMany_87, nI_1]
        exact e2
      · rcases List.mem_cons.mp hc with h | h
        · omega
        · exact hin c h
section MANY2
variable {x y : TSt} {kf : Nat → Nat} {F a0 e : Nat} {q0 : MSt}
/-- a repeated item, matched with what is left of the list -/
theorem mm_lp (hF : 5000 ≤ F) (hwx : t_wf6 x) (hlx : t_lf x) (hox : x_oks x) (hwy : t_wf6 y) (hly : t_lf y) (hoy : t_ok y) (ha0 : a0 < x_z x) (he : e ≤ 768) (hds : ∀ i j, a0 ≤ i → i < a0 + x_sp x a0 → a0 ≤ j → j < a0 + x_sp x a0 → c_nm (x_sg x i) → x_sg x i = x_sg x j → i = j) (hrp : ¬ x_rp x a0 = 0) (hnr : ∀ a, a0 < a → a < a0 + x_sp x a0 → x_rp x a = 0) {D : Nat} (hD : x_sp x a0 ≤ D) {i : Nat} (hie : i + (tpT x a0).length = e) :
    ∀ (n k it b : Nat) (q : MSt) (gs : OS) (t cnt d : Nat), t_ch y n it b → b ≤ x_z y → cnt + n ≤ 60 → At (gs.2 8) i (tpT x a0) → At (gs.2 22) t (tkS y n it ++ [2]) → t + (tkS y n it).length + 1 ≤ 2400 → sml (tkS y n it) → IM x y kf a0 (a0 + x_sp x a0) cnt q0 gs q a0 → n < d →
      (∀ q', m_lp x y (m_ft x y D) 0 n k a0 1 it q = some q' → ∃ g2, rf_matchMany_6 F d gs (nI i) (nI e) (nI t) (nI cnt) = rf_matchMany_51 F F g2 (nI e) (nI (t + (tkS y n it).length)) (nI (cnt + n)) (nI i) ∧ mch gs g2 ∧ IM x y kf a0 (a0 + x_sp x a0) (cnt + n) q0 g2 q' a0) ∧
      (m_lp x y (m_ft x y D) 0 n k a0 1 it q = none → ∃ g2, rf_matchMany_6 F d gs (nI i) (nI e) (nI t) (nI cnt) = some (-1, g2) ∧ mch gs g2)
  | 0, k, it, b, q, gs, t, cnt, d, hc, hb, hcn, hpt, hrow, hrl, hsm, hI, hd => by
    obtain ⟨d, rfl⟩ : ∃ e, d = e + 1 := ⟨d - 1, by omega⟩
    have hrl : t + 0 + 1 ≤ 2400 := hrl
    have hr2 : gs.2 22 (nI t).toNatClampNeg = nI 2 := cl_at hrow.1
    unfold m_lp
    rw [if_pos (Or.inr ⟨rfl, hrp⟩)]
    refine ⟨fun q' q9 => ?_, fun q9 => by cases q9⟩
    cases q9
    refine ⟨gs, ?_, mch.rf, hI⟩
    rw [rf_matchMany_6]
    refine rc_in rfl (by omega) ?_
    exact rc_eqE (b := 2) hr2 rfl rfl rfl
  | n + 1, k, it, b, q, gs, t, cnt, d, hc, hb, hcn, hpt, hrow, hrl, hsm, hI, hd => by
    obtain ⟨d, rfl⟩ : ∃ e, d = e + 1 := ⟨d - 1, by omega⟩
    have h1 : it < b := hc.1
    have h2 := t_ch_ge n _ b hc.2
    rw [tkS_s] at hrow hrl hsm ⊢
    rw [List.length_append] at hrl ⊢
    rw [List.append_assoc] at hrow
    have hT := tkT_tmm hwy hoy (a := it) (by omega)
    obtain ⟨t0, r0, e0, hne2⟩ := tmm_hd hT
    have hr0 : gs.2 22 (nI t).toNatClampNeg = nI t0 := by
      rw [e0] at hrow
      exact cl_at hrow.1
    have ht0 : t0 < 2 ^ 30 := hsm t0 (by rw [e0]; exact List.mem_cons_self)
    have hlen : 1 ≤ (tkT y it).length := by rw [e0, List.length_cons]; omega
    have hwa := hwx.1 a0 ha0
    have hpl : (tpT x a0).length ≤ 768 := by omega
    have hmp := mp_ft (F := F) (to := e) (n0 := cnt) (q0 := q0) (kf := kf) (ae := a0 + x_sp x a0) hF hwx hlx hox hwy hly hoy hwa.2.1 he (by omega) hds D a0 it q gs i t (F - (tpT x a0).length) (Nat.le_refl _) (by omega) (Nat.le_refl _) (by omega) hD hnr hpt (by omega) ⟨by omega, by omega, At_l hrow, sml_l hsm⟩ (sml_l hsm) hI
    have eF : F - (tpT x a0).length + (tpT x a0).length = F := by omega
    unfold MPc at hmp
    rw [eF] at hmp
    unfold m_lp
    rw [if_neg (by decide), if_pos (Nat.zero_le _)]
    have step : ∀ {C : RO} {g2 : OS}, rf_matchPlain_6 F F gs (nI e) (nI cnt) (nI t) (nI i) = some (0, g2) → (ci ((0 : Int32) ≤ g2.1 41) (rf_matchMany_6 F d g2 (nI i) (nI e) (g2.1 41) (nI cnt + 1)) (some ((-1), g2))) = C → rf_matchMany_6 F (d + 1) gs (nI i) (nI e) (nI t) (nI cnt) = C := fun {C g2} h1 h2 => by
      rw [rf_matchMany_6]
      refine rc_in rfl (by omega) ?_
      refine rc_eqF (b := 2) hr0 rfl hne2 ?_
      refine rc_bd (by rw [rf_matchPlain]; exact h1) h2
    cases hgq : m_ft x y D a0 it q with
    | none =>
      obtain ⟨g2, e2, hm2, h41⟩ := hmp.2 hgq
      refine ⟨fun q' q9 => (by cases q9), fun _ => ⟨g2, step e2 ?_, hm2⟩⟩
      exact rc_pF (by rw [h41]; decide) rfl
    | some q1 =>
      obtain ⟨g2, e2, hm2, hI2⟩ := hmp.1 q1 hgq
      obtain ⟨dd, hdd⟩ : ∃ dd, F - (tpT x a0).length = dd + 1 := ⟨F - (tpT x a0).length - 1, by omega⟩
      rw [hdd, hie, mp_end (Nat.le_refl _) he] at e2
      have h41 : (sI g2 41 (nI (t + (tkT y it).length))).1 41 = nI (t + (tkT y it).length) := sI_e _ _ _
      have hI3 : IM x y kf a0 (a0 + x_sp x a0) (cnt + 1) q0 (sI g2 41 (nI (t + (tkT y it).length))) q1 a0 := by
        obtain ⟨z1, z2, z3, z4, z5⟩ := hI2
        obtain ⟨y1, y2, y3, y4, y5⟩ := hI
        exact ⟨MR_cg z1 rfl rfl rfl, fun j p1 p2 p3 => ⟨(y2 j p1 p2 p3).1, z3 j p1 p2 p3⟩, fun j p1 p2 p3 => by omega, z4, z5⟩
      have hm3 : mch gs (sI g2 41 (nI (t + (tkT y it).length))) := hm2.i
      have ih := mm_lp hF hwx hlx hox hwy hly hoy ha0 he hds hrp hnr hD hie n (k + 1) (it + x_sp y it) b q1 (sI g2 41 (nI (t + (tkT y it).length))) (t + (tkT y it).length) (cnt + 1) d hc.2 hb (by omega) (by rw [hm3.2 8 (by decide) (by decide)]; exact hpt) (by rw [hm3.2 22 (by decide) (by decide)]; exact At_r hrow) (by omega) (sml_r hsm) hI3 (by omega)
      show (∀ q', (if x_rp x a0 = 0 then _ else m_lp x y (m_ft x y D) 0 n (k + 1) a0 1 (it + x_sp y it) q1) = some q' → _) ∧ ((if x_rp x a0 = 0 then _ else m_lp x y (m_ft x y D) 0 n (k + 1) a0 1 (it + x_sp y it) q1) = none → _)
      rw [if_neg hrp]
      have back : ∀ {C : RO}, rf_matchMany_6 F d (sI g2 41 (nI (t + (tkT y it).length))) (nI i) (nI e) (nI (t + (tkT y it).length)) (nI (cnt + 1)) = C → rf_matchMany_6 F (d + 1) gs (nI i) (nI e) (nI t) (nI cnt) = C := fun {C} h => by
        refine step e2 ?_
        refine rc_leT (a := 0) rfl h41 (Nat.zero_le _) ?_
        rw [h41, nI_1]
        exact h
      refine ⟨fun q' q9 => ?_, fun q9 => ?_⟩
      · obtain ⟨g3, e3, hm4, hI4⟩ := ih.1 q' q9
        refine ⟨g3, back ?_, hm3.tr hm4, ?_⟩
        · rw [e3]
          congr 2 <;> omega
        · rw [show cnt + (n + 1) = cnt + 1 + n by omega]
          exact hI4
      · obtain ⟨g3, e3, hm4⟩ := ih.2 q9
        exact ⟨g3, back e3, hm3.tr hm4⟩
end MANY2
