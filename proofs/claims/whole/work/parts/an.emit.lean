/-! Emission: tokens put one after the other. -/
/-- tokens, nodes, begun lists, the deepest, whether it grew too great -/
abbrev ES : Type := List Nat × Nat × Nat × Nat × Nat
def em_ls (t ls : Nat) : Nat := if t = 1 then ls + 1 else if t = 2 then ls - 1 else ls
def em_dp (t ls dp : Nat) : Nat := if t = 1 then (if dp < ls + 1 then ls + 1 else dp) else dp
def em_nd (t nd : Nat) : Nat := if t = 2 then nd else nd + 1
def em1 (t : Nat) (s : ES) : ES := if 60 < em_nd t s.2.1 ∨ 12 < em_dp t s.2.2.1 s.2.2.2.1 then (s.1, em_nd t s.2.1, em_ls t s.2.2.1, em_dp t s.2.2.1 s.2.2.2.1, 1) else (s.1 ++ [t], em_nd t s.2.1, em_ls t s.2.2.1, em_dp t s.2.2.1 s.2.2.2.1, 0)
def em : List Nat → ES → ES
  | [], s => s
  | t :: E, s => if s.2.2.2.2 = 0 then em E (em1 t s) else s
theorem em_1 {E : List Nat} {s : ES} (h : ¬ s.2.2.2.2 = 0) : em E s = s := by
  cases E with
  | nil => rfl
  | cons t E => exact if_neg h
theorem em_app : ∀ (A B : List Nat) (s : ES), em (A ++ B) s = em B (em A s)
  | [], _, _ => rfl
  | t :: A, B, s => by
    by_cases h : s.2.2.2.2 = 0
    · show (if s.2.2.2.2 = 0 then em (A ++ B) (em1 t s) else s) = em B (if s.2.2.2.2 = 0 then em A (em1 t s) else s)
      rw [if_pos h, if_pos h]
      exact em_app A B _
    · rw [em_1 h, em_1 h, em_1 h]
/-- what emission changes -/
def ec (gs g2 : OS) : Prop := (∀ k, k ≠ 23 → k ≠ 25 → k ≠ 26 → k ≠ 27 → k ≠ 28 → g2.1 k = gs.1 k) ∧ ∀ k, k ≠ 24 → g2.2 k = gs.2 k
theorem ec.rf {gs : OS} : ec gs gs := ⟨fun _ _ _ _ _ _ => rfl, fun _ _ => rfl⟩
theorem ec.tr {a b c : OS} (h : ec a b) (h2 : ec b c) : ec a c := ⟨fun k p1 p2 p3 p4 p5 => (h2.1 k p1 p2 p3 p4 p5).trans (h.1 k p1 p2 p3 p4 p5), fun k hk => (h2.2 k hk).trans (h.2 k hk)⟩
theorem ec.fr {a b : OS} (h : ec a b) : fr a b := ⟨fun k hk => h.1 k (by omega) (by omega) (by omega) (by omega) (by omega), fun k hk => h.2 k (by omega)⟩
/-- the state's share in it -/
def EM (gs : OS) (s : ES) : Prop := gs.1 23 = nI s.1.length ∧ At (gs.2 24) 0 s.1 ∧ gs.1 25 = nI s.2.1 ∧ gs.1 26 = nI s.2.2.1 ∧ gs.1 27 = nI s.2.2.2.1 ∧ gs.1 28 = nI s.2.2.2.2 ∧ s.2.2.2.2 < 2 ∧ (s.2.2.2.2 = 0 → s.2.1 ≤ 60 ∧ s.2.2.2.1 ≤ 12 ∧ s.1.length + s.2.2.1 ≤ 2 * s.2.1 ∧ s.2.2.1 ≤ s.2.2.2.1)
theorem emit_ok {F : Nat} {gs : OS} {s : ES} {t : Nat} {x : Int32} (hx : x = nI t) (ht : t < 2 ^ 30) (h : EM gs s) (h0 : s.2.2.2.2 = 0) (hl : t = 2 → 1 ≤ s.2.2.1) : ∃ g2, rf_emit F gs x = some (0, g2) ∧ ec gs g2 ∧ EM g2 (em1 t s) := by
  obtain ⟨l, nd, ls, dp, gr⟩ := s
  obtain ⟨a1, a2, a3, a4, a5, a6, a7, a8⟩ := h
  have h0 : gr = 0 := h0
  subst h0
  obtain ⟨b1, b2, b3, b4⟩ := a8 rfl
  have a1 : gs.1 23 = nI l.length := a1
  have a2 : At (gs.2 24) 0 l := a2
  have a3 : gs.1 25 = nI nd := a3
  have a4 : gs.1 26 = nI ls := a4
  have a5 : gs.1 27 = nI dp := a5
  have a6 : gs.1 28 = nI 0 := a6
  have b1 : nd ≤ 60 := b1
  have b2 : dp ≤ 12 := b2
  have b3 : l.length + ls ≤ 2 * nd := b3
  have b4 : ls ≤ dp := b4
  have hl : t = 2 → 1 ≤ ls := hl
  -- the last part
  have fin : ∀ (g : OS) (nd2 ls2 dp2 : Nat), ec gs g → g.1 23 = gs.1 23 → g.1 28 = gs.1 28 → g.2 24 = gs.2 24 → g.1 25 = nI nd2 → g.1 26 = nI ls2 → g.1 27 = nI dp2 → nd2 ≤ 61 → dp2 ≤ 13 → (nd2 ≤ 60 → dp2 ≤ 12 → l.length + 1 + ls2 ≤ 2 * nd2 ∧ ls2 ≤ dp2) → ∃ g2, rf_emit_69 F g x = some (0, g2) ∧ ec gs g2 ∧ EM g2 (if 60 < nd2 ∨ 12 < dp2 then (l, nd2, ls2, dp2, 1) else (l ++ [t], nd2, ls2, dp2, 0)) := by
    intro g nd2 ls2 dp2 he h23 h28 h24 h25 h26 h27 hn hd hb
    have great : 60 < nd2 ∨ 12 < dp2 → rf_emit_87 F g x = some (0, sI g 28 1) := by
      intro _
      rw [rf_emit_87, rf_emit_92]
      refine rc_eqF (a := 1) (b := 0) (sI_e _ _ _) rfl (by decide) rfl
    by_cases hg : 60 < nd2 ∨ 12 < dp2
    · rw [if_pos hg]
      refine ⟨sI g 28 1, ?_, he.tr ⟨fun k _ _ _ _ h5 => sI_n h5, fun _ _ => rfl⟩, (sI_n (by decide)).trans (h23.trans a1), ?_, (sI_n (by decide)).trans h25, (sI_n (by decide)).trans h26, (sI_n (by decide)).trans h27, sI_e _ _ _, (show 1 < 2 by decide), fun q => by cases q⟩
      · rw [rf_emit_69]
        by_cases hq : 60 < nd2
        · exact rc_ltT (a := 60) rfl h25 hq (great hg)
        · refine rc_ltF (a := 60) rfl h25 (by omega) ?_
          exact rc_leF (b := 12) h27 rfl (by omega) (great hg)
      · show At (g.2 24) 0 l
        rw [h24]
        exact a2
    · rw [if_neg hg]
      obtain ⟨c1, c2⟩ := hb (by omega) (by omega)
      have hml : g.1 23 = nI l.length := h23.trans a1
      refine ⟨sA (sI g 23 (g.1 23 + 1)) 24 (upd (g.2 24) (g.1 23).toNatClampNeg x), ?_, he.tr ⟨fun k h1 _ _ _ _ => sI_n h1, fun k hk => sA_n hk⟩, ?_, ?_, ?_, ?_, ?_, ?_, (show 0 < 2 by decide), fun _ => ?_⟩
      · rw [rf_emit_69]
        refine rc_ltF (a := 60) rfl h25 (by omega) ?_
        refine rc_leT (b := 12) h27 rfl (by omega) ?_
        rw [rf_emit_92]
        refine rc_eqE (b := 0) (h28.trans a6) rfl rfl ?_
        exact rc_in hml (by omega) rfl
      · show (sI g 23 (g.1 23 + 1)).1 23 = nI (l ++ [t]).length
        rw [sI_e, List.length_append]
        exact nI_p1 hml
      · show At ((sA (sI g 23 (g.1 23 + 1)) 24 (upd (g.2 24) (g.1 23).toNatClampNeg x)).2 24) 0 (l ++ [t])
        rw [sA_e, hml, nI_clamp (by omega), h24, hx]
        refine At_app (At_upd a2 (by omega)) ⟨?_, trivial⟩
        rw [Nat.zero_add]
        exact upd_e _ _ _
      · exact (show (sI g 23 (g.1 23 + 1)).1 25 = _ from sI_n (by decide)).trans h25
      · exact (show (sI g 23 (g.1 23 + 1)).1 26 = _ from sI_n (by decide)).trans h26
      · exact (show (sI g 23 (g.1 23 + 1)).1 27 = _ from sI_n (by decide)).trans h27
      · exact (show (sI g 23 (g.1 23 + 1)).1 28 = _ from sI_n (by decide)).trans (h28.trans a6)
      · refine ⟨by show nd2 ≤ 60; omega, by show dp2 ≤ 12; omega, ?_, c2⟩
        show (l ++ [t]).length + ls2 ≤ 2 * nd2
        rw [List.length_append]
        exact c1
  show ∃ g2, rf_emit F gs x = some (0, g2) ∧ ec gs g2 ∧ EM g2 (if 60 < em_nd t nd ∨ 12 < em_dp t ls dp then (l, em_nd t nd, em_ls t ls, em_dp t ls dp, 1) else (l ++ [t], em_nd t nd, em_ls t ls, em_dp t ls dp, 0))
  by_cases h1 : t = 1
  · have e1 : em_nd t nd = nd + 1 := if_neg (by omega)
    have e2 : em_ls t ls = ls + 1 := if_pos h1
    have e3 : em_dp t ls dp = if dp < ls + 1 then ls + 1 else dp := if_pos h1
    have hdp : (if dp < ls + 1 then ls + 1 else dp) ≤ 13 ∧ ls + 1 ≤ (if dp < ls + 1 then ls + 1 else dp) := by split <;> omega
    rw [e1, e2, e3]
    generalize hdd : (if dp < ls + 1 then ls + 1 else dp) = dp2 at hdp ⊢
    have h26 : gs.1 26 + 1 = nI (ls + 1) := nI_p1 a4
    have h38 : ∀ v, v = nI dp2 → ∃ g2, rf_emit_38 F (sI gs 26 (gs.1 26 + 1)) x v = some (0, g2) ∧ ec gs g2 ∧ EM g2 (if 60 < nd + 1 ∨ 12 < dp2 then (l, nd + 1, ls + 1, dp2, 1) else (l ++ [t], nd + 1, ls + 1, dp2, 0)) := by
      intro v hv
      obtain ⟨g2, e, hec, hE⟩ := fin (sI (sI (sI gs 26 (gs.1 26 + 1)) 27 v) 25 ((sI (sI gs 26 (gs.1 26 + 1)) 27 v).1 25 + 1)) (nd + 1) (ls + 1) dp2 ⟨fun k _ p2 p3 p4 _ => (sI_n p2).trans ((sI_n p4).trans (sI_n p3)), fun _ _ => rfl⟩ ((sI_n (by decide)).trans ((sI_n (by decide)).trans (sI_n (by decide)))) ((sI_n (by decide)).trans ((sI_n (by decide)).trans (sI_n (by decide)))) rfl ((sI_e _ _ _).trans (nI_p1 (((sI_n (by decide)).trans (sI_n (by decide))).trans a3))) ((sI_n (by decide)).trans ((sI_n (by decide)).trans ((sI_e _ _ _).trans h26))) ((sI_n (by decide)).trans ((sI_e _ _ _).trans hv)) (by omega) hdp.1 (fun _ _ => ⟨by omega, hdp.2⟩)
      refine ⟨g2, ?_, hec, hE⟩
      rw [rf_emit_38, rf_emit_41]
      exact rc_eqF (b := 2) hx rfl (by omega) e
    rw [rf_emit]
    by_cases hc : ls + 1 ≤ dp
    · rw [if_neg (by omega)] at hdd
      obtain ⟨g2, e, hec, hE⟩ := h38 (gs.1 27) (by rw [a5, hdd])
      exact ⟨g2, rc_eqE (b := 1) hx rfl h1 (rc_leT h26 a5 hc e), hec, hE⟩
    · rw [if_pos (by omega)] at hdd
      obtain ⟨g2, e, hec, hE⟩ := h38 (gs.1 26 + 1) (by rw [h26, hdd])
      exact ⟨g2, rc_eqE (b := 1) hx rfl h1 (rc_leF h26 a5 (by omega) e), hec, hE⟩
  · have e3 : em_dp t ls dp = dp := if_neg h1
    by_cases h2 : t = 2
    · have e1 : em_nd t nd = nd := if_pos h2
      have e2 : em_ls t ls = ls - 1 := by unfold em_ls; rw [if_neg h1, if_pos h2]
      have hl1 := hl h2
      rw [e1, e2, e3]
      obtain ⟨g2, e, hec, hE⟩ := fin (sI gs 26 (gs.1 26 - 1)) nd (ls - 1) dp ⟨fun k _ _ p3 _ _ => sI_n p3, fun _ _ => rfl⟩ (sI_n (by decide)) (sI_n (by decide)) rfl ((sI_n (by decide)).trans a3) ((sI_e _ _ _).trans (nI_s1 (a := ls - 1) (by rw [a4]; congr 1; omega))) ((sI_n (by decide)).trans a5) (by omega) (by omega) (fun _ _ => ⟨by omega, by omega⟩)
      refine ⟨g2, ?_, hec, hE⟩
      rw [rf_emit]
      refine rc_eqF (b := 1) hx rfl h1 ?_
      rw [rf_emit_41]
      exact rc_eqE (b := 2) hx rfl h2 e
    · have e1 : em_nd t nd = nd + 1 := if_neg h2
      have e2 : em_ls t ls = ls := by unfold em_ls; rw [if_neg h1, if_neg h2]
      rw [e1, e2, e3]
      obtain ⟨g2, e, hec, hE⟩ := fin (sI gs 25 (gs.1 25 + 1)) (nd + 1) ls dp ⟨fun k _ p2 _ _ _ => sI_n p2, fun _ _ => rfl⟩ (sI_n (by decide)) (sI_n (by decide)) rfl ((sI_e _ _ _).trans (nI_p1 a3)) ((sI_n (by decide)).trans a4) ((sI_n (by decide)).trans a5) (by omega) (by omega) (fun _ _ => ⟨by omega, by omega⟩)
      refine ⟨g2, ?_, hec, hE⟩
      rw [rf_emit]
      refine rc_eqF (b := 1) hx rfl h1 ?_
      rw [rf_emit_41]
      exact rc_eqF (b := 2) hx rfl h2 e
/-- the level goes along -/
theorem em1_lvl {t : Nat} {E : List Nat} {s : ES} {m : Nat} (h : lvl (t :: E) s.2.2.1 = some m) : (t = 2 → 1 ≤ s.2.2.1) ∧ lvl E (em1 t s).2.2.1 = some m := by
  have e : (em1 t s).2.2.1 = em_ls t s.2.2.1 := by unfold em1; split <;> rfl
  rw [e]
  unfold lvl at h
  unfold em_ls
  by_cases h1 : t = 1
  · rw [if_pos h1] at h
    rw [if_pos h1]
    exact ⟨fun q => by omega, h⟩
  · rw [if_neg h1] at h
    rw [if_neg h1]
    by_cases h2 : t = 2
    · rw [if_pos h2] at h
      rw [if_pos h2]
      by_cases h3 : s.2.2.1 = 0
      · rw [if_pos h3] at h; cases h
      · rw [if_neg h3] at h
        exact ⟨fun _ => by omega, h⟩
    · rw [if_neg h2] at h
      rw [if_neg h2]
      exact ⟨fun q => absurd q h2, h⟩
theorem em_lvl : ∀ (E : List Nat) (s : ES) (m : Nat), lvl E s.2.2.1 = some m → (em E s).2.2.2.2 = 0 → (em E s).2.2.1 = m
  | [], s, m, h, _ => by cases h; rfl
  | t :: E, s, m, h, h0 => by
    by_cases hs : s.2.2.2.2 = 0
    · have e : em (t :: E) s = em E (em1 t s) := if_pos hs
      rw [e] at h0 ⊢
      exact em_lvl E _ m (em1_lvl h).2 h0
    · rw [em_1 hs] at h0
      exact absurd h0 hs
/-- a term of the row is put -/
theorem emitT_lp {F : Nat} : ∀ (T : List Nat) (k d : Nat) (gs : OS) (s : ES) (m : Nat), At (gs.2 22) k T → sml T → k + T.length ≤ 2400 → EM gs s → lvl T s.2.2.1 = some m → T.length < d → ∃ g2, rf_emitTerm_8 F d gs (nI (k + T.length)) (nI k) = some (0, g2) ∧ ec gs g2 ∧ EM g2 (em T s)
  | [], k, d, gs, s, m, _, _, hk, hE, _, hd => by
    obtain ⟨d, rfl⟩ : ∃ e, d = e + 1 := ⟨d - 1, by have : 0 < d := hd; omega⟩
    have hk : k + 0 ≤ 2400 := hk
    refine ⟨gs, ?_, ec.rf, hE⟩
    rw [rf_emitTerm_8]
    exact rc_leT rfl rfl (Nat.le_refl _) rfl (by omega)
  | t :: T, k, d, gs, s, m, ha, hs, hk, hE, hl, hd => by
    rw [List.length_cons] at hk hd
    obtain ⟨d, rfl⟩ : ∃ e, d = e + 1 := ⟨d - 1, by omega⟩
    have e0 : k + (t :: T).length = k + 1 + T.length := by rw [List.length_cons]; omega
    rw [e0]
    by_cases h0 : s.2.2.2.2 = 0
    · obtain ⟨h2, hl2⟩ := em1_lvl hl
      have hat : gs.2 22 (nI k).toNatClampNeg = nI t := cl_at ha.1
      obtain ⟨g1, e1, hc1, hE1⟩ := emit_ok (F := F) hat (sml_h hs) hE h0 h2
      obtain ⟨g2, e2, hc2, hE2⟩ := emitT_lp (F := F) T (k + 1) d g1 _ m (by rw [hc1.2 22 (by decide)]; exact ha.2) (sml_t hs) (by omega) hE1 hl2 (by omega)
      refine ⟨g2, ?_, hc1.tr hc2, ?_⟩
      · rw [rf_emitTerm_8]
        refine rc_leF rfl rfl (by omega) ?_
        refine rc_eqE (b := 0) hE.2.2.2.2.2.1 rfl h0 ?_
        refine rc_in rfl (by omega) ?_
        refine rc_bd e1 ?_
        rw [nI_1]
        exact e2
      · have e : em (t :: T) s = em T (em1 t s) := if_pos h0
        rw [e]
        exact hE2
    · refine ⟨gs, ?_, ec.rf, by rw [em_1 h0]; exact hE⟩
      rw [rf_emitTerm_8]
      refine rc_leF rfl rfl (by omega) ?_
      have h1 := hE.2.2.2.2.2.2.1
      exact rc_eqF (b := 0) hE.2.2.2.2.2.1 rfl h0 rfl
theorem emitT_ok {F : Nat} {gs : OS} {s : ES} {T : List Nat} {p : Nat} {x : Int32} (hF : 5000 ≤ F) (hx : x = nI p) (hT : tmm T) (ha : At (gs.2 22) p T) (hs : sml T) (hp : p + T.length ≤ 2400) (hE : EM gs s) : ∃ g2, rf_emitTerm F gs x = some (0, g2) ∧ ec gs g2 ∧ EM g2 (em T s) := by
  obtain ⟨g2, e2, hc2, hE2⟩ := emitT_lp (F := F) T p F gs s _ ha hs hp hE (tmm_lvl hT _) (by omega)
  refine ⟨g2, ?_, hc2, hE2⟩
  rw [rf_emitTerm]
  refine rc_bd (skip_ok hF hx hT ha hs hp) ?_
  rw [hx]
  exact e2
