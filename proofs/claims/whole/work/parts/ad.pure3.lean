/-- two puts alike -/
theorem ob_pm {m : Int32} {q : OQ} {f : OQ → OR OQ} : ob (o_put m q) f = if (pm1 m (q.2.2.2.2.1, q.2.2.2.1, 0)).2.2 = 0 then f (q.1, q.2.1, q.2.2.1, (pm1 m (q.2.2.2.2.1, q.2.2.2.1, 0)).2.1, (pm1 m (q.2.2.2.2.1, q.2.2.2.1, 0)).1, q.2.2.2.2.2) else .error (3, q.2.2.2.2.2) := by
  rw [o_put_pm]
  by_cases h : (pm1 m (q.2.2.2.2.1, q.2.2.2.1, 0)).2.2 = 0
  · rw [if_pos h, if_pos h]
    rfl
  · rw [if_neg h, if_neg h]
    rfl
theorem MK_0 {gs : OS} {s : MS} (h : MK gs s) (h0 : s.2.2 = 0) : MK gs (s.1, s.2.1, 0) := by
  obtain ⟨a, b, c⟩ := s
  cases h0
  exact h
theorem MK_3 {gs : OS} {s : MS} (h : MK gs s) (h0 : ¬ s.2.2 = 0) : gs.1 40 = nI 3 := by
  have := h.2.2.2.1.resolve_left h0
  rw [← this]
  exact h.2.2.1
/-- a list's end -/
theorem st_close {F fu : Nat} {gs : OS} {r op nm : List Nat} {mk : Nat → Int32} {fd md : Nat} (h : OX gs fu (2 :: r, op, nm, mk, fd, md)) : ∃ g2, rf_closeRow F gs = some (0, g2) ∧ fr gs g2 ∧ OF g2 fu (ob (o_put 2 (2 :: r, op, nm, mk, fd, md)) (fun q => .ok (r, q.2.1.tail, (if q.2.1.headD 0 = 1 then q.2.2.1.tail else q.2.2.1), q.2.2.2))) := by
  have h : OY gs fu (2 :: r) op nm mk fd md := h
  obtain ⟨pos, h36, h21, hle, hat, hs, hl, h32, h12, hbk, hb2, h34, hbc, hnm, hsn, hmk, h37, hmd, hf12⟩ := h
  rw [List.length_cons] at h21 hle
  obtain ⟨g1, e1, hsm, hm1⟩ := put_ok (F := F) (m := 2) hmk
  -- a list is begun
  cases op with
  | nil => exact absurd hl (by unfold lvl; simp)
  | cons b op =>
    have hl : lvl r op.length = some 0 := by
      unfold lvl at hl
      rw [if_neg (by decide), if_pos rfl, if_neg (by rw [List.length_cons]; omega)] at hl
      exact hl
    have h32 : gs.1 32 = nI (op.length + 1) := h32
    have h12 : op.length + 1 ≤ 12 := h12
    have b32 : g1.1 32 - 1 = nI op.length := by rw [hsm.1 32 (by decide) (by decide)]; exact nI_s1 h32
    have hbb := hb2 b List.mem_cons_self
    have hbat : g1.2 33 (g1.1 32 - 1).toNatClampNeg = nI b := cl_ax b32 (by rw [hsm.2 33 (by decide)]; exact hbk.1)
    have p36 : g1.1 36 = nI pos := (hsm.1 36 (by decide) (by decide)).trans h36
    by_cases hb1 : b = 1
    · -- it binds
      obtain ⟨x, nm', rfl⟩ : ∃ x nm', nm = x :: nm' := by
        cases nm with
        | nil => exact absurd hbc (by show ¬ 0 = (if b = 1 then 1 else 0) + bcn op; rw [if_pos hb1]; omega)
        | cons x nm' => exact ⟨x, nm', rfl⟩
      have h34' : g1.1 34 - 1 = nI nm'.length := by rw [hsm.1 34 (by decide) (by decide)]; exact nI_s1 h34
      refine ⟨sI (sI (sI g1 32 (g1.1 32 - 1)) 34 (g1.1 34 - 1)) 36 (g1.1 36 + 1), ?_, ((hsm.fr.i (by decide)).i (by decide)).i (by decide), ?_⟩
      · rw [rf_closeRow]
        refine rc_bd e1 ?_
        refine rc_in b32 (by omega) ?_
        refine rc_eqF (b := 0) hbat rfl (by omega) ?_
        rfl
      · rw [ob_pm]
        by_cases h0 : (pm1 2 (fd, mk, 0)).2.2 = 0
        · show OF _ fu (if (pm1 2 (fd, mk, 0)).2.2 = 0 then _ else _)
          rw [if_pos h0]
          show OY _ fu r op _ (pm1 2 (fd, mk, 0)).2.1 (pm1 2 (fd, mk, 0)).1 md
          refine ⟨pos + 1, (sI_e _ _ _).trans (nI_p1 p36), ?_, ?_, ?_, sml_t hs, hl, ?_, ?_, ?_, fun c hc => hb2 c (List.mem_cons_of_mem _ hc), ?_, ?_, ?_, ?_, ?_, ?_, hmd, hf12⟩
          · show g1.1 21 = nI (pos + 1 + r.length)
            rw [hsm.1 21 (by decide) (by decide), h21]
            congr 1
            omega
          · show pos + 1 + r.length ≤ _
            omega
          · show At (g1.2 22) _ _
            rw [hsm.2 22 (by decide)]
            exact hat.2
          · exact b32
          · show op.length ≤ 12
            omega
          · show Bk (g1.2 33) op
            rw [hsm.2 33 (by decide)]
            exact hbk.2
          · show g1.1 34 - 1 = nI (if b = 1 then nm' else x :: nm').length
            rw [if_pos hb1]
            exact h34'
          · show (if b = 1 then nm' else x :: nm').length = bcn op
            rw [if_pos hb1]
            have : nm'.length + 1 = (if b = 1 then 1 else 0) + bcn op := hbc
            rw [if_pos hb1] at this
            omega
          · show Bk (g1.2 35) (if b = 1 then nm' else x :: nm')
            rw [if_pos hb1, hsm.2 35 (by decide)]
            exact hnm.2
          · show sml (if b = 1 then nm' else x :: nm')
            rw [if_pos hb1]
            exact sml_t hsn
          · exact MK_cg (MK_0 hm1 h0) rfl rfl rfl
          · exact (hsm.1 37 (by decide) (by decide)).trans h37
        · show OF _ fu (if (pm1 2 (fd, mk, 0)).2.2 = 0 then _ else _)
          rw [if_neg h0]
          exact ⟨MK_3 hm1 h0, Or.inr rfl, (hsm.1 37 (by decide) (by decide)).trans h37, by show md ≤ 12; omega⟩
    · have hb0 : b = 0 := by omega
      refine ⟨sI (sI g1 32 (g1.1 32 - 1)) 36 (g1.1 36 + 1), ?_, (hsm.fr.i (by decide)).i (by decide), ?_⟩
      · rw [rf_closeRow]
        refine rc_bd e1 ?_
        refine rc_in b32 (by omega) ?_
        refine rc_eqE (b := 0) hbat rfl hb0 ?_
        rfl
      · rw [ob_pm]
        by_cases h0 : (pm1 2 (fd, mk, 0)).2.2 = 0
        · show OF _ fu (if (pm1 2 (fd, mk, 0)).2.2 = 0 then _ else _)
          rw [if_pos h0]
          show OY _ fu r op _ (pm1 2 (fd, mk, 0)).2.1 (pm1 2 (fd, mk, 0)).1 md
          refine ⟨pos + 1, (sI_e _ _ _).trans (nI_p1 p36), ?_, ?_, ?_, sml_t hs, hl, ?_, ?_, ?_, fun c hc => hb2 c (List.mem_cons_of_mem _ hc), ?_, ?_, ?_, ?_, ?_, ?_, hmd, hf12⟩
          · show g1.1 21 = nI (pos + 1 + r.length)
            rw [hsm.1 21 (by decide) (by decide), h21]
            congr 1
            omega
          · show pos + 1 + r.length ≤ _
            omega
          · show At (g1.2 22) _ _
            rw [hsm.2 22 (by decide)]
            exact hat.2
          · exact b32
          · show op.length ≤ 12
            omega
          · show Bk (g1.2 33) op
            rw [hsm.2 33 (by decide)]
            exact hbk.2
          · show g1.1 34 = nI (if b = 1 then nm.tail else nm).length
            rw [if_neg hb1]
            exact (hsm.1 34 (by decide) (by decide)).trans h34
          · show (if b = 1 then nm.tail else nm).length = bcn op
            rw [if_neg hb1]
            have : nm.length = (if b = 1 then 1 else 0) + bcn op := hbc
            rw [if_neg hb1] at this
            omega
          · show Bk (g1.2 35) (if b = 1 then nm.tail else nm)
            rw [if_neg hb1, hsm.2 35 (by decide)]
            exact hnm
          · show sml (if b = 1 then nm.tail else nm)
            rw [if_neg hb1]
            exact hsn
          · exact MK_cg (MK_0 hm1 h0) rfl rfl rfl
          · exact (hsm.1 37 (by decide) (by decide)).trans h37
        · show OF _ fu (if (pm1 2 (fd, mk, 0)).2.2 = 0 then _ else _)
          rw [if_neg h0]
          exact ⟨MK_3 hm1 h0, Or.inr rfl, (hsm.1 37 (by decide) (by decide)).trans h37, by show md ≤ 12; omega⟩
/-- one mark, one token further -/
theorem st_mark {fu : Nat} {gs g1 : OS} {t : Nat} {r op nm : List Nat} {mk : Nat → Int32} {fd md : Nat} {m : Int32} (h : OX gs fu (t :: r, op, nm, mk, fd, md)) (ht : ¬ t = 1 ∧ ¬ t = 2) (hsm : sm gs g1) (hm1 : MK g1 (pm1 m (fd, mk, 0))) : OF (sI g1 36 (g1.1 36 + 1)) fu (ob (o_put m (t :: r, op, nm, mk, fd, md)) (fun q => .ok (r, q.2))) := by
  have h : OY gs fu (t :: r) op nm mk fd md := h
  obtain ⟨pos, h36, h21, hle, hat, hs, hl, h32, h12, hbk, hb2, h34, hbc, hnm, hsn, hmk, h37, hmd, hf12⟩ := h
  rw [List.length_cons] at h21 hle
  have p36 : g1.1 36 = nI pos := (hsm.1 36 (by decide) (by decide)).trans h36
  rw [ob_pm]
  by_cases h0 : (pm1 m (fd, mk, 0)).2.2 = 0
  · show OF _ fu (if (pm1 m (fd, mk, 0)).2.2 = 0 then _ else _)
    rw [if_pos h0]
    show OY _ fu r op nm (pm1 m (fd, mk, 0)).2.1 (pm1 m (fd, mk, 0)).1 md
    refine ⟨pos + 1, (sI_e _ _ _).trans (nI_p1 p36), ?_, ?_, ?_, sml_t hs, ?_, ?_, h12, ?_, hb2, ?_, hbc, ?_, hsn, ?_, ?_, hmd, hf12⟩
    · show g1.1 21 = nI (pos + 1 + r.length)
      rw [hsm.1 21 (by decide) (by decide), h21]
      congr 1
      omega
    · show pos + 1 + r.length ≤ _
      omega
    · show At (g1.2 22) _ _
      rw [hsm.2 22 (by decide)]
      exact hat.2
    · unfold lvl at hl
      rw [if_neg ht.1, if_neg ht.2] at hl
      exact hl
    · exact (hsm.1 32 (by decide) (by decide)).trans h32
    · show Bk (g1.2 33) op
      rw [hsm.2 33 (by decide)]
      exact hbk
    · exact (hsm.1 34 (by decide) (by decide)).trans h34
    · show Bk (g1.2 35) nm
      rw [hsm.2 35 (by decide)]
      exact hnm
    · exact MK_cg (MK_0 hm1 h0) rfl rfl rfl
    · exact (hsm.1 37 (by decide) (by decide)).trans h37
  · show OF _ fu (if (pm1 m (fd, mk, 0)).2.2 = 0 then _ else _)
    rw [if_neg h0]
    exact ⟨MK_3 hm1 h0, Or.inr rfl, (hsm.1 37 (by decide) (by decide)).trans h37, by show md ≤ 12; omega⟩
theorem st_name {F fu : Nat} {gs : OS} {t : Nat} {r op nm : List Nat} {mk : Nat → Int32} {fd md : Nat} (hF : 5000 ≤ F) (h : OX gs fu (t :: r, op, nm, mk, fd, md)) (ht : 100 ≤ t) : ∃ g2, rf_expandName F gs (nI t) = some (0, g2) ∧ fr gs g2 ∧ OF g2 fu (ob (o_put (o_nmk t nm) (t :: r, op, nm, mk, fd, md)) (fun q => .ok (r, q.2))) := by
  have h' := h
  have h : OY gs fu (t :: r) op nm mk fd md := h
  obtain ⟨pos, h36, h21, hle, hat, hs, hl, h32, h12, hbk, hb2, h34, hbc, hnm, hsn, hmk, h37, hmd, hf12⟩ := h
  have ht2 := sml_h hs
  have hn12 : nm.length ≤ 12 := by
    have h1 : nm.length = bcn op := hbc
    have h2 := bcn_le op
    have h3 : op.length ≤ 12 := h12
    omega
  have hlv := lv_ok (F := F) hF (rfl : nI t = nI t) ht2 hn12 h34 hnm hsn
  obtain ⟨g1, e1, hsm, hm1⟩ := put_ok (F := F) (m := o_nmk t nm) hmk
  refine ⟨sI g1 36 (g1.1 36 + 1), ?_, hsm.fr.i (by decide), st_mark h' (by omega) hsm hm1⟩
  rw [rf_expandName]
  refine rc_bd hlv ?_
  cases ho : o_lv t nm with
  | none =>
    refine rc_pT (by decide) ?_
    refine rc_bd (letter_ok rfl ht) ?_
    have e2 : (100 : Int32) + nI ((t - 100) % 32) = o_nmk t nm := by
      unfold o_nmk
      rw [ho]
      exact nI_add 100 _
    rw [rf_expandName_26, e2]
    exact rc_bd e1 rfl
  | some l =>
    have hl2 := o_lv_lt t nm l ho
    refine rc_ltF (a := l) (b := 0) rfl rfl (Nat.zero_le _) ?_
    have e2 : (200 : Int32) + lI (some l) = o_nmk t nm := by
      unfold o_nmk
      rw [ho]
      exact nI_add 200 _
    rw [rf_expandName_26, e2]
    exact rc_bd e1 rfl
