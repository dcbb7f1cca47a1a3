/-! The row behind a replacement. -/
/-- what the moves change: the row -/
def rc (gs g2 : OS) : Prop := g2.1 = gs.1 ∧ ∀ k, k ≠ 22 → g2.2 k = gs.2 k
theorem rc.rf {gs : OS} : rc gs gs := ⟨rfl, fun _ _ => rfl⟩
theorem rc.tr {a b c : OS} (h : rc a b) (h2 : rc b c) : rc a c := ⟨h2.1.trans h.1, fun k hk => (h2.2 k hk).trans (h.2 k hk)⟩
theorem rc.a {gs : OS} {f : Nat → Int32} : rc gs (sA gs 22 f) := ⟨rfl, fun k hk => sA_n hk⟩
theorem At_snoc {f : Nat → Int32} {p h : Nat} {a : List Nat} {i : Nat} (ha : At f p a) (hi : i = p + a.length) : At (upd f i (nI h)) p (a ++ [h]) := At_app (At_upd ha (by omega)) ⟨by rw [← hi]; exact upd_e _ _ _, trivial⟩
/-- the fresh tokens -/
theorem fr_lp {F m len : Nat} (hm : m ≤ 260) {r : List Nat} : ∀ (R P : List Nat) (k d : Nat) (gs : OS), gs.1 23 = nI m → At (gs.2 24) k R → At (gs.2 22) 0 P → P.length = k → k + R.length = m → At (gs.2 22) m r → R.length < d → ∃ g2, rc gs g2 ∧ rf_replace_252 F d gs (nI len) (nI k) = some (0, sI (sI g2 21 (g2.1 23 + nI len)) 36 0) ∧ At (g2.2 22) 0 (P ++ (R ++ r))
  | [], P, k, d, gs, h23, _, hP, hk, hl, hr, hd => by
    obtain ⟨d, rfl⟩ : ∃ e, d = e + 1 := ⟨d - 1, by have : 0 < d := hd; omega⟩
    have hl : k + 0 = m := hl
    refine ⟨gs, rc.rf, ?_, At_app hP (by rw [Nat.zero_add, hk, show k = m by omega]; exact hr)⟩
    rw [rf_replace_252]
    exact rc_leT h23 rfl (by omega) rfl
  | h :: R, P, k, d, gs, h23, hR, hP, hk, hl, hr, hd => by
    rw [List.length_cons] at hl hd
    obtain ⟨d, rfl⟩ : ∃ e, d = e + 1 := ⟨d - 1, by omega⟩
    have hat : gs.2 24 (nI k).toNatClampNeg = nI h := cl_at hR.1
    have e9 : (sA gs 22 (upd (gs.2 22) k (nI h))).2 22 = upd (gs.2 22) k (nI h) := sA_e _ _ _
    obtain ⟨g2, c2, e2, a2⟩ := fr_lp (F := F) (len := len) hm (r := r) R (P ++ [h]) (k + 1) d (sA gs 22 (upd (gs.2 22) k (nI h))) h23 (by rw [sA_n (by decide)]; exact hR.2) (by rw [e9]; exact At_snoc hP (by omega)) (by rw [List.length_append, hk]; rfl) (by omega) (by rw [e9]; exact At_upd hr (by omega)) (by omega)
    refine ⟨g2, rc.a.tr c2, ?_, ?_⟩
    · rw [rf_replace_252]
      refine rc_leF h23 rfl (by omega) ?_
      refine rc_in rfl (by omega) ?_
      refine rc_in rfl (by omega) ?_
      rw [hat, nI_clamp (by omega), nI_1]
      exact e2
    · rw [show P ++ (h :: R ++ r) = P ++ [h] ++ (R ++ r) by simp]
      exact a2
/-- the rest moves ahead -/
theorem mv_f {F m e0 len : Nat} (hme : m ≤ e0) (hel : e0 + len ≤ 2400) : ∀ (R P : List Nat) (k d : Nat) (gs : OS), gs.1 23 = nI m → At (gs.2 22) (e0 + k) R → At (gs.2 22) m P → P.length = k → k + R.length = len → R.length < d → ∃ g2, rc gs g2 ∧ rf_replace_172 F d gs (nI e0) (nI len) (nI k) = rf_replace_249 F g2 (nI len) ∧ At (g2.2 22) m (P ++ R)
  | [], P, k, d, gs, h23, _, hP, hk, hl, hd => by
    obtain ⟨d, rfl⟩ : ∃ e, d = e + 1 := ⟨d - 1, by have : 0 < d := hd; omega⟩
    have hl : k + 0 = len := hl
    refine ⟨gs, rc.rf, ?_, by rw [List.append_nil]; exact hP⟩
    rw [rf_replace_172]
    exact rc_leT rfl rfl (by omega) rfl
  | h :: R, P, k, d, gs, h23, hR, hP, hk, hl, hd => by
    rw [List.length_cons] at hl hd
    obtain ⟨d, rfl⟩ : ∃ e, d = e + 1 := ⟨d - 1, by omega⟩
    have s1 : nI e0 + nI k = nI (e0 + k) := nI_add _ _
    have s2 : gs.1 23 + nI k = nI (m + k) := by rw [h23]; exact nI_add _ _
    have hat : gs.2 22 (nI (e0 + k)).toNatClampNeg = nI h := cl_at hR.1
    have e9 : (sA gs 22 (upd (gs.2 22) (m + k) (nI h))).2 22 = upd (gs.2 22) (m + k) (nI h) := sA_e _ _ _
    obtain ⟨g2, c2, e2, a2⟩ := mv_f (F := F) hme hel R (P ++ [h]) (k + 1) d (sA gs 22 (upd (gs.2 22) (m + k) (nI h))) h23 (by rw [e9]; exact At_upd hR.2 (by omega)) (by rw [e9]; exact At_snoc hP (by omega)) (by rw [List.length_append, hk]; rfl) (by omega) (by omega)
    refine ⟨g2, rc.a.tr c2, ?_, ?_⟩
    · rw [rf_replace_172]
      refine rc_leF rfl rfl (by omega) ?_
      refine rc_in s1 (by omega) ?_
      refine rc_in s2 (by omega) ?_
      rw [s1, s2, hat, nI_clamp (by omega), nI_1]
      exact e2
    · rw [show P ++ h :: R = P ++ [h] ++ R by simp]
      exact a2
/-- the rest moves back, its end first -/
theorem mv_b {F m e0 len : Nat} (hme : e0 < m) (hml : m + len ≤ 2400) : ∀ (k : Nat) (P S : List Nat) (d : Nat) (gs : OS), P.length = k → gs.1 23 = nI m → At (gs.2 22) e0 P → At (gs.2 22) (m + k) S → k + S.length = len → k < d → ∃ g2, rc gs g2 ∧ rf_replace_216 F d gs (nI e0) (nI len) (nI k - 1) = rf_replace_249 F g2 (nI len) ∧ At (g2.2 22) m (P ++ S)
  | 0, P, S, d, gs, hk, h23, hP, hS, hl, hd => by
    obtain ⟨d, rfl⟩ : ∃ e, d = e + 1 := ⟨d - 1, by omega⟩
    have hP0 : P = [] := List.eq_nil_of_length_eq_zero hk
    refine ⟨gs, rc.rf, ?_, by rw [hP0]; exact hS⟩
    rw [rf_replace_216]
    exact rc_pT (by decide) rfl
  | k + 1, P, S, d, gs, hk, h23, hP, hS, hl, hd => by
    obtain ⟨d, rfl⟩ : ∃ e, d = e + 1 := ⟨d - 1, by omega⟩
    obtain ⟨P', h, eP⟩ : ∃ P' h, P = P' ++ [h] := by
      rcases List.eq_nil_or_concat P with e | ⟨P', h, e⟩
      · rw [e] at hk; cases hk
      · exact ⟨P', h, by rw [e, List.concat_eq_append]⟩
    rw [eP] at hk hP
    rw [List.length_append] at hk
    have hk : P'.length + 1 = k + 1 := hk
    have s0 : nI (k + 1) - 1 = nI k := nI_pred k
    have s1 : nI e0 + nI k = nI (e0 + k) := nI_add _ _
    have s2 : gs.1 23 + nI k = nI (m + k) := by rw [h23]; exact nI_add _ _
    have hhat := (At_r hP).1
    rw [show e0 + P'.length = e0 + k by omega] at hhat
    have hat : gs.2 22 (nI (e0 + k)).toNatClampNeg = nI h := cl_at hhat
    have e9 : (sA gs 22 (upd (gs.2 22) (m + k) (nI h))).2 22 = upd (gs.2 22) (m + k) (nI h) := sA_e _ _ _
    obtain ⟨g2, c2, e2, a2⟩ := mv_b (F := F) hme hml k P' (h :: S) d (sA gs 22 (upd (gs.2 22) (m + k) (nI h))) (by omega) h23 (by rw [e9]; exact At_upd (At_l hP) (by omega)) (by rw [e9]; exact ⟨upd_e _ _ _, At_upd hS (by omega)⟩) (by rw [List.length_cons]; omega) (by omega)
    refine ⟨g2, rc.a.tr c2, ?_, ?_⟩
    · rw [s0, rf_replace_216]
      refine rc_ltF (b := 0) rfl rfl (Nat.zero_le _) ?_
      refine rc_in s1 (by omega) ?_
      refine rc_in s2 (by omega) ?_
      rw [s1, s2, hat, nI_clamp (by omega), nI_dec]
      exact e2
    · rw [eP, show P' ++ [h] ++ S = P' ++ h :: S by simp]
      exact a2
/-- both -/
theorem mv_ok {F m e0 : Nat} {l r : List Nat} {gs : OS} (hF : 5000 ≤ F) (hm : m ≤ 260) (hl : l.length = m) (h23 : gs.1 23 = nI m) (h24 : At (gs.2 24) 0 l) (hr : At (gs.2 22) e0 r) (he : e0 + r.length ≤ 1600) {x4 x5 : Int32} (hx4 : x4 = nI e0) (hx5 : x5 = nI r.length) : ∃ g2, rc gs g2 ∧ (ci (x4 < gs.1 23) (rf_replace_216 F F gs x4 x5 (x5 - 1)) (rf_replace_172 F F gs x4 x5 0)) = some (0, sI (sI g2 21 (g2.1 23 + nI r.length)) 36 0) ∧ At (g2.2 22) 0 (l ++ r) := by
  rw [hx4, hx5]
  have fin : ∀ g1, rc gs g1 → At (g1.2 22) m r → ∃ g2, rc gs g2 ∧ rf_replace_249 F g1 (nI r.length) = some (0, sI (sI g2 21 (g2.1 23 + nI r.length)) 36 0) ∧ At (g2.2 22) 0 (l ++ r) := by
    intro g1 c1 a1
    obtain ⟨g2, c2, e2, a2⟩ := fr_lp (F := F) (len := r.length) hm (r := r) l [] 0 F g1 (by rw [c1.1]; exact h23) (by rw [c1.2 24 (by decide)]; exact h24) trivial rfl (by omega) a1 (by omega)
    refine ⟨g2, c1.tr c2, ?_, a2⟩
    rw [rf_replace_249]
    exact e2
  by_cases h : e0 < m
  · obtain ⟨g1, c1, e1, a1⟩ := mv_b (F := F) (len := r.length) h (by omega) r.length r [] F gs rfl h23 hr trivial rfl (by omega)
    rw [List.append_nil] at a1
    obtain ⟨g2, c2, e2, a2⟩ := fin g1 c1 a1
    refine ⟨g2, c2, ?_, a2⟩
    refine rc_ltT rfl h23 h ?_
    rw [e1]
    exact e2
  · obtain ⟨g1, c1, e1, a1⟩ := mv_f (F := F) (m := m) (len := r.length) (by omega) (by omega) r [] 0 F gs h23 hr trivial rfl (by omega) (by omega)
    obtain ⟨g2, c2, e2, a2⟩ := fin g1 c1 a1
    refine ⟨g2, c2, ?_, a2⟩
    refine rc_ltF rfl h23 (by omega) ?_
    exact e1.trans e2
