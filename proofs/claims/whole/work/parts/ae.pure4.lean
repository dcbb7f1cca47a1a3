/-- a state but for its marks -/
def OZ (gs : OS) (fu : Nat) (r op nm : List Nat) (md : Nat) : Prop := ∃ pos, gs.1 36 = nI pos ∧ gs.1 21 = nI (pos + r.length) ∧ pos + r.length ≤ 120 + 120 * md ∧ At (gs.2 22) pos r ∧ sml r ∧ lvl r op.length = some 0 ∧
  gs.1 32 = nI op.length ∧ op.length ≤ 12 ∧ Bk (gs.2 33) op ∧ (∀ b, b ∈ op → b < 2) ∧
  gs.1 34 = nI nm.length ∧ nm.length = bcn op ∧ Bk (gs.2 35) nm ∧ sml nm ∧ gs.1 37 = nI md ∧ md ≤ fu ∧ fu ≤ 12
theorem OY_of {gs : OS} {fu : Nat} {r op nm : List Nat} {mk : Nat → Int32} {fd md : Nat} (h : OZ gs fu r op nm md) (hm : MK gs (fd, mk, 0)) : OY gs fu r op nm mk fd md := by
  obtain ⟨pos, h36, h21, hle, hat, hs, hl, h32, h12, hbk, hb2, h34, hbc, hnm, hsn, h37, hmd, hf12⟩ := h
  exact ⟨pos, h36, h21, hle, hat, hs, hl, h32, h12, hbk, hb2, h34, hbc, hnm, hsn, hm, h37, hmd, hf12⟩
theorem OZ_of {gs : OS} {fu : Nat} {r op nm : List Nat} {mk : Nat → Int32} {fd md : Nat} (h : OY gs fu r op nm mk fd md) : OZ gs fu r op nm md := by
  obtain ⟨pos, h36, h21, hle, hat, hs, hl, h32, h12, hbk, hb2, h34, hbc, hnm, hsn, hm, h37, hmd, hf12⟩ := h
  exact ⟨pos, h36, h21, hle, hat, hs, hl, h32, h12, hbk, hb2, h34, hbc, hnm, hsn, h37, hmd, hf12⟩
theorem OF_of {gs : OS} {fu : Nat} {r op nm : List Nat} {md : Nat} {s : MS} (h : OZ gs fu r op nm md) (hm : MK gs s) : OF gs fu (if s.2.2 = 0 then .ok (r, op, nm, s.2.1, s.1, md) else .error (3, md)) := by
  by_cases h0 : s.2.2 = 0
  · rw [if_pos h0]
    exact OY_of h (MK_0 hm h0)
  · rw [if_neg h0]
    obtain ⟨pos, h36, h21, hle, hat, hs, hl, h32, h12, hbk, hb2, h34, hbc, hnm, hsn, h37, hmd, hf12⟩ := h
    exact ⟨MK_3 hm h0, Or.inr rfl, h37, by show md ≤ 12; omega⟩
/-- the quoted tokens -/
theorem quote_lp {F : Nat} : ∀ (B : List Nat) (k d : Nat) (gs : OS) (s : MS), B.length < d → At (gs.2 22) k B → sml B → k + B.length < 2400 → MK gs s → ∃ g2, rf_expandForm_142 F d gs (nI (k + B.length)) (nI k) = some (0, g2) ∧ MK g2 (pm (B.map o_qm ++ [2]) s) ∧ (∀ j, j ≠ 38 → j ≠ 40 → j ≠ 36 → g2.1 j = gs.1 j) ∧ (∀ j, j ≠ 39 → g2.2 j = gs.2 j) ∧ g2.1 36 = nI (k + B.length + 1)
  | [], k, d, gs, s, hd, _, _, hk, hm => by
    obtain ⟨d, rfl⟩ : ∃ e, d = e + 1 := ⟨d - 1, by have : 0 < d := hd; omega⟩
    obtain ⟨g1, e1, hsm, hm1⟩ := put_ok (F := F) (m := 2) hm
    have hk : k < 2400 := hk
    have e0 : k + ([] : List Nat).length = k := rfl
    rw [e0]
    refine ⟨sI g1 36 (nI k + 1), ?_, ?_, ?_, ?_, ?_⟩
    · rw [rf_expandForm_142]
      refine rc_leT rfl rfl (Nat.le_refl _) ?_ (by omega)
      exact rc_bd e1 rfl
    · exact MK_cg hm1 rfl rfl rfl
    · exact fun j h1 h2 h3 => (sI_n h3).trans (hsm.1 j h1 h2)
    · exact fun j h1 => hsm.2 j h1
    · exact (sI_e _ _ _).trans (nI_1 _)
  | t :: B, k, d, gs, s, hd, ha, hs, hk, hm => by
    rw [List.length_cons] at hd hk
    obtain ⟨d, rfl⟩ : ∃ e, d = e + 1 := ⟨d - 1, by omega⟩
    obtain ⟨g1, e1, hsm, hm1⟩ := put_ok (F := F) (m := o_qm t) hm
    have ht := sml_h hs
    have hat : gs.2 22 (nI k).toNatClampNeg = nI t := cl_at ha.1
    have e0 : k + (t :: B).length = k + 1 + B.length := by rw [List.length_cons]; omega
    obtain ⟨g2, e2, hm2, hi2, ha2, hp2⟩ := quote_lp (F := F) B (k + 1) d g1 _ (by omega) (by rw [hsm.2 22 (by decide)]; exact ha.2) (sml_t hs) (by omega) hm1
    have hput : ∀ v, v = o_qm t → rf_expandForm_194 F (rf_expandForm_142 F d) gs (nI (k + 1 + B.length)) (nI k) v = some (0, g2) := by
      intro v hv
      rw [hv, rf_expandForm_194]
      refine rc_bd e1 ?_
      rw [nI_1]
      exact e2
    refine ⟨g2, ?_, hm2, fun j h1 h2 h3 => (hi2 j h1 h2 h3).trans (hsm.1 j h1 h2), fun j h1 => (ha2 j h1).trans (hsm.2 j h1), by rw [e0]; exact hp2⟩
    rw [e0, rf_expandForm_142]
    refine rc_leF rfl rfl (by omega) ?_
    refine rc_in rfl (by omega) ?_
    by_cases h1 : 100 ≤ t
    · refine rc_bd (isName_y hat h1) ?_
      refine rc_eqF (a := 1) (b := 0) rfl rfl (by decide) ?_
      refine rc_bd (letter_ok hat h1) ?_
      refine hput _ ?_
      unfold o_qm
      rw [if_pos h1]
      exact nI_add 100 _
    · refine rc_bd (isName_n hat (by omega)) ?_
      refine rc_eqE (a := 0) (b := 0) rfl rfl rfl ?_
      by_cases h2 : 3 ≤ t ∧ t ≤ 5
      · refine rc_bd (isKey_y hat h2) ?_
        refine rc_eqF (a := 1) (b := 0) rfl rfl (by decide) ?_
        refine hput _ ?_
        unfold o_qm
        rw [if_neg h1, if_pos h2, hat]
      · refine rc_bd (isKey_n hat h2) ?_
        refine rc_eqE (a := 0) (b := 0) rfl rfl rfl ?_
        refine hput _ ?_
        unfold o_qm
        rw [if_neg h1, if_neg h2, hat]
/-- a form's terms are counted -/
theorem form_lp {F : Nat} {gs : OS} {x1 : Int32} {l : Nat} (hF : 5000 ≤ F) : ∀ (k : Nat) (R : List Nat) (n p d f : Nat), R.length ≤ k → R.length ≤ f → R.length < d → lvl R (l + 1) = some 0 → At (gs.2 22) p R → sml R → p + R.length ≤ 2400 → n + R.length ≤ 9999 → ∃ B R' d', R = B ++ 2 :: R' ∧ lvl B 0 = some 0 ∧ lvl R' l = some 0 ∧ rf_expandForm_21 F d gs x1 (nI n) (nI p) = rf_expandForm_21 F (d' + 1) gs x1 (nI (n + o_ct f R)) (nI (p + B.length)) ∧ (o_ct f R = 0 → B = []) ∧ (o_ct f R = 1 → tmm B)
  | _, [], _, _, _, _, _, _, _, h, _, _, _, _ => absurd (Option.some.inj h) (by omega)
  | 0, _ :: _, _, _, _, _, hk, _, _, _, _, _, _, _ => absurd hk (by rw [List.length_cons]; omega)
  | k + 1, t :: R, n, p, d, f, hk, hf, hd, hl, ha, hs, hp, hn => by
    rw [List.length_cons] at hk hf hd hp hn
    obtain ⟨d, rfl⟩ : ∃ e, d = e + 1 := ⟨d - 1, by omega⟩
    obtain ⟨f, rfl⟩ : ∃ e, f = e + 1 := ⟨f - 1, by omega⟩
    have ht := sml_h hs
    by_cases h2 : t = 2
    · have ec : o_ct (f + 1) (t :: R) = 0 := by rw [o_ct, if_pos h2]
      refine ⟨[], R, d, by rw [h2]; rfl, rfl, ?_, by rw [ec]; rfl, fun _ => rfl, fun q => by rw [ec] at q; cases q⟩
      unfold lvl at hl
      rw [if_neg (by omega), if_pos h2, if_neg (by omega)] at hl
      exact hl
    · obtain ⟨T, R1, e, hT, hsk, hl1, hhd⟩ := fst_tm hl h2
      have ec : o_ct (f + 1) (t :: R) = o_ct f R1 + 1 := by rw [o_ct, if_neg h2, hsk]
      have elen : R.length + 1 = T.length + R1.length := by
        have := congrArg List.length e
        rw [List.length_cons, List.length_append] at this
        exact this
      have hT1 : 1 ≤ T.length := by
        cases T with
        | nil => cases hhd
        | cons => rw [List.length_cons]; omega
      rw [e] at ha hs
      obtain ⟨B, R', d', e2, hB, hR', hrf, h0, h1⟩ := form_lp (F := F) (gs := gs) (x1 := x1) (l := l) hF k R1 (n + 1) (p + T.length) d f (by omega) (by omega) (by omega) hl1 (At_r ha) (sml_r hs) (by omega) (by omega)
      have hsk2 := skip_ok (F := F) hF (rfl : nI p = nI p) hT (At_l ha) (sml_l hs) (by omega)
      refine ⟨T ++ B, R', d', by rw [e, e2, List.append_assoc], ?_, hR', ?_, (fun q => by rw [ec] at q; cases q), fun q => ?_⟩
      · rw [lvl_app, tmm_lvl hT]
        exact hB
      · rw [ec, rf_expandForm_21]
        refine rc_in rfl (by omega) ?_
        have hat : gs.2 22 (nI p).toNatClampNeg = nI t := by
          have : At (gs.2 22) p (t :: R) := by rw [e]; exact ha
          exact cl_at this.1
        refine rc_eqF (b := 2) hat rfl h2 ?_
        refine rc_bd hsk2 ?_
        rw [nI_1, hrf, List.length_append]
        congr 2 <;> omega
      · rw [ec] at q
        have := h0 (by omega)
        rw [this, List.append_nil]
        exact hT
theorem ob2 {a b : Int32} {q : OQ} : ob (o_put a q) (o_put b) = o_puts [a, b] q := by
  show _ = ob (o_put a q) (fun q => ob (o_put b q) (fun q => .ok q))
  congr 1
  funext q
  cases o_put b q <;> rfl
theorem ob_puts {ms : List Int32} {q : OQ} {f : OQ → OR OQ} : ob (o_puts ms q) f = if (pm ms (q.2.2.2.2.1, q.2.2.2.1, 0)).2.2 = 0 then f (q.1, q.2.1, q.2.2.1, (pm ms (q.2.2.2.2.1, q.2.2.2.1, 0)).2.1, (pm ms (q.2.2.2.2.1, q.2.2.2.1, 0)).1, q.2.2.2.2.2) else .error (3, q.2.2.2.2.2) := by
  rw [o_puts_pm]
  by_cases h : (pm ms (q.2.2.2.2.1, q.2.2.2.1, 0)).2.2 = 0
  · rw [if_pos h, if_pos h]
    rfl
  · rw [if_neg h, if_neg h]
    rfl
theorem openRow_ok {F : Nat} {gs : OS} {op : List Nat} {b : Nat} {x : Int32} (hx : x = nI b) (hb : b < 2) (h32 : gs.1 32 = nI op.length) (h12 : op.length < 12) (hbk : Bk (gs.2 33) op) : ∃ g2, rf_openRow F gs x = some (0, g2) ∧ g2.1 32 = nI (op.length + 1) ∧ Bk (g2.2 33) (b :: op) ∧ (∀ k, k ≠ 32 → g2.1 k = gs.1 k) ∧ ∀ k, k ≠ 33 → g2.2 k = gs.2 k := by
  refine ⟨_, by rw [rf_openRow]; exact rc_in h32 (by omega) rfl, ?_, ?_, ?_, ?_⟩
  · show (sI gs 32 (gs.1 32 + 1)).1 32 = _
    exact (sI_e _ _ _).trans (nI_p1 h32)
  · have e : (sA (sI gs 32 (gs.1 32 + 1)) 33 (upd (gs.2 33) (gs.1 32).toNatClampNeg (vp_nar .boolean x))).2 33 = upd (gs.2 33) op.length (nI b) := by
      rw [sA_e, h32, nI_clamp (by omega), hx, nar_b hb]
    rw [e]
    exact Bk_push hbk
  · exact fun k hk => sI_n hk
  · exact fun k hk => sA_n hk
