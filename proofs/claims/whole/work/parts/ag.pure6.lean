/-- a list that is no form and no use -/
theorem st_plain {F fu : Nat} {gs : OS} {t1 : Nat} {r1 op nm : List Nat} {mk : Nat → Int32} {fd md : Nat} (h : OX gs fu (1 :: t1 :: r1, op, nm, mk, fd, md)) (hop : ¬ op.length = 12) : ∃ g2, rf_expandList_73 F gs = some (0, g2) ∧ fr gs g2 ∧ OF g2 fu (ob (o_put 1 (1 :: t1 :: r1, op, nm, mk, fd, md)) (fun q => .ok (t1 :: r1, 0 :: q.2.1, q.2.2))) := by
  have h : OY gs fu (1 :: t1 :: r1) op nm mk fd md := h
  obtain ⟨pos, h36, h21, hle, hat, hs, hl, h32, h12, hbk, hb2, h34, hbc, hnm, hsn, hmk, h37, hmd, hf12⟩ := h
  rw [List.length_cons] at h21 hle
  have hl1 : lvl (t1 :: r1) (op.length + 1) = some 0 := by
    unfold lvl at hl
    rw [if_pos rfl] at hl
    exact hl
  obtain ⟨g1, e1, hsm, hm1⟩ := put_ok (F := F) (m := 1) hmk
  obtain ⟨g4, e4, o32, obk, oi, oa⟩ := openRow_ok (F := F) (gs := g1) (op := op) (b := 0) (x := 0) rfl (by decide) ((hsm.1 32 (by decide) (by decide)).trans h32) (by omega) (by rw [hsm.2 33 (by decide)]; exact hbk)
  have w36 : g4.1 36 = nI pos := ((oi 36 (by decide)).trans (hsm.1 36 (by decide) (by decide))).trans h36
  have w34 : g4.1 34 = nI nm.length := ((oi 34 (by decide)).trans (hsm.1 34 (by decide) (by decide))).trans h34
  have w22 : g4.2 22 = gs.2 22 := (oa 22 (by decide)).trans (hsm.2 22 (by decide))
  refine ⟨sI g4 36 (g4.1 36 + 1), ?_, ?_, ?_⟩
  · rw [rf_expandList_73]
    refine rc_bd e1 ?_
    refine rc_bd e4 ?_
    rfl
  · exact (hsm.fr.tr ⟨fun k hk => oi k (by omega), fun k hk => oa k (by omega)⟩).i (by decide)
  · rw [ob_pm]
    refine OF_of (s := pm1 1 (fd, mk, 0)) ?_ ?_
    · refine ⟨pos + 1, (sI_e _ _ _).trans (nI_p1 w36), ?_, ?_, ?_, sml_t hs, hl1, o32, ?_, obk, ?_, w34, ?_, ?_, hsn, ?_, hmd, hf12⟩
      · show g4.1 21 = nI (pos + 1 + (t1 :: r1).length)
        rw [oi 21 (by decide), hsm.1 21 (by decide) (by decide), h21]
        congr 1
        omega
      · show pos + 1 + (t1 :: r1).length ≤ 120 + 120 * md
        omega
      · show At (g4.2 22) _ _
        rw [w22]
        exact hat.2
      · show op.length + 1 ≤ 12
        omega
      · intro b hb
        rcases List.mem_cons.mp hb with rfl | hb
        · decide
        · exact hb2 b hb
      · show nm.length = 0 + bcn op
        omega
      · show Bk (g4.2 35) nm
        rw [oa 35 (by decide), hsm.2 35 (by decide)]
        exact hnm
      · exact ((oi 37 (by decide)).trans (hsm.1 37 (by decide) (by decide))).trans h37
    · exact MK_cg (MK_cg hm1 (oi 38 (by decide)) (oi 40 (by decide)) (oa 39 (by decide))) rfl rfl rfl
section STEP
variable {F fu : Nat} {cn : Nat → Bool} {rp : Nat → List Nat → Except Nat (List Nat)} {HR : OS → Prop}
/-- what is asked of the rules -/
def rp_ok (F fu : Nat) (HR : OS → Prop) (cn : Nat → Bool) (rp : Nat → List Nat → Except Nat (List Nat)) : Prop :=
  (∀ gs g2, HR gs → fr gs g2 → HR g2) ∧
  (∀ gs c, HR gs → c < 32 → ∃ k, k ≤ 12 ∧ rf_countOf F gs (nI c) = some (nI k, gs) ∧ (0 < k ↔ cn c = true)) ∧
  (∀ gs t1 r1 op nm mk fd md, HR gs → OX gs fu (1 :: t1 :: r1, op, nm, mk, fd, md) → 100 ≤ t1 → ¬ rp md (1 :: t1 :: r1) = .error 7 → ∃ g2, rf_replace F gs (nI fu) = some (0, g2) ∧ fr gs g2 ∧ OF g2 fu (match rp md (1 :: t1 :: r1) with
    | .error e => .error (e, md)
    | .ok r2 => .ok (r2, op, nm, mk, fd, md + 1)))
/-- one step on the state, one on the lists -/
theorem st_step (hF : 5000 ≤ F) (hrp : rp_ok F fu HR cn rp) {gs : OS} (hR : HR gs) {t : Nat} {r op nm : List Nat} {mk : Nat → Int32} {fd md : Nat} (h : OX gs fu (t :: r, op, nm, mk, fd, md)) (h7 : ∀ m, ¬ o_st cn rp (t :: r, op, nm, mk, fd, md) = .error (7, m)) (d : Nat) : ∃ g2, rf_expandAll_0 F (d + 1) gs (nI fu) = rf_expandAll_0 F d g2 (nI fu) ∧ HR g2 ∧ fr gs g2 ∧ OF g2 fu (o_st cn rp (t :: r, op, nm, mk, fd, md)) := by
  have h' := h
  have h : OY gs fu (t :: r) op nm mk fd md := h
  obtain ⟨pos, h36, h21, hle, hat, hs, hl, h32, h12, hbk, hb2, h34, hbc, hnm, hsn, hmk, h37, hmd, hf12⟩ := h
  rw [List.length_cons] at h21 hle
  have ht := sml_h hs
  have hat0 : gs.2 22 (gs.1 36).toNatClampNeg = nI t := cl_ax h36 hat.1
  have hn12 : nm.length ≤ 12 := by
    have h2 := bcn_le op
    omega
  -- the head of the loop
  have hd : ∀ {C : RO}, _ = C → rf_expandAll_0 F (d + 1) gs (nI fu) = C := fun {C} k => by
    rw [rf_expandAll_0]
    refine rc_leF h21 h36 (by omega) ?_
    refine rc_eqE (b := 0) hmk.2.2.1 rfl rfl ?_
    exact rc_in h36 (by omega) k
  unfold o_st at h7 ⊢
  dsimp only at h7 ⊢
  by_cases h2 : t = 2
  · subst h2
    rw [if_pos rfl]
    obtain ⟨g2, e2, hf, ho⟩ := st_close (F := F) h'
    refine ⟨g2, hd ?_, hrp.1 _ _ hR hf, hf, ho⟩
    refine rc_eqE (b := 2) hat0 rfl rfl ?_
    refine rc_bd e2 ?_
    rfl
  · rw [if_neg h2] at h7 ⊢
    by_cases hop : op.length = 12
    · rw [if_pos hop]
      refine ⟨sI gs 40 3, hd ?_, hrp.1 _ _ hR (fr.rf.i (by decide)), fr.rf.i (by decide), ?_⟩
      · refine rc_eqF (b := 2) hat0 rfl h2 ?_
        refine rc_eqE (b := 12) h32 rfl hop ?_
        rfl
      · exact ⟨sI_e _ _ _, Or.inr rfl, (sI_n (by decide)).trans h37, by show md ≤ 12; omega⟩
    · rw [if_neg hop] at h7 ⊢
      by_cases h1 : t = 1
      · subst h1
        rw [if_pos rfl] at h7 ⊢
        have hlist : ∀ {g2 : OS}, rf_expandList F gs (nI fu) = some (0, g2) → rf_expandAll_0 F (d + 1) gs (nI fu) = rf_expandAll_0 F d g2 (nI fu) := fun {g2} e2 => hd (by
          refine rc_eqF (b := 2) hat0 rfl h2 ?_
          refine rc_eqF (b := 12) h32 rfl hop ?_
          refine rc_eqE (b := 1) hat0 rfl rfl ?_
          refine rc_bd e2 ?_
          rfl)
        cases r with
        | nil =>
          exfalso
          unfold lvl at hl
          rw [if_pos rfl] at hl
          exact absurd (Option.some.inj hl) (by omega)
        | cons t1 r1 =>
          dsimp only at h7 ⊢
          have p1 : gs.1 36 + 1 = nI (pos + 1) := nI_p1 h36
          rw [List.length_cons] at h21 hle
          have at1 : gs.2 22 (gs.1 36 + 1).toNatClampNeg = nI t1 := cl_ax p1 hat.2.1
          have ht1 := sml_h (sml_t hs)
          have hli : ∀ {C : RO}, _ = C → rf_expandList F gs (nI fu) = C := fun {C} k => by
            rw [rf_expandList]
            exact rc_in p1 (by omega) k
          by_cases h3 : t1 = 2
          · rw [if_pos h3]
            refine ⟨sI gs 40 2, hlist (hli ?_), hrp.1 _ _ hR (fr.rf.i (by decide)), fr.rf.i (by decide), ?_⟩
            · refine rc_eqE (b := 2) at1 rfl h3 ?_
              rfl
            · exact ⟨sI_e _ _ _, Or.inl rfl, (sI_n (by decide)).trans h37, by show md ≤ 12; omega⟩
          · rw [if_neg h3] at h7 ⊢
            by_cases h4 : 3 ≤ t1 ∧ t1 ≤ 5
            · rw [if_pos h4]
              obtain ⟨g2, e2, hf, ho⟩ := st_form hF h' h4 hop
              refine ⟨g2, hlist (hli ?_), hrp.1 _ _ hR hf, hf, ho⟩
              refine rc_eqF (b := 2) at1 rfl h3 ?_
              refine rc_bd (isKey_y at1 h4) ?_
              refine rc_eqF (a := 1) (b := 0) rfl rfl (by decide) ?_
              refine rc_bd e2 ?_
              rfl
            · rw [if_neg h4] at h7 ⊢
              obtain ⟨gp, ep, hfp, hop2⟩ := st_plain (F := F) h' hop
              by_cases h5 : 100 ≤ t1
              · have hlv := lv_ok (F := F) hF at1 ht1 hn12 h34 hnm hsn
                by_cases h6 : o_lv t1 nm = none
                · obtain ⟨k, hk12, hk, hkc⟩ := hrp.2.1 gs ((t1 - 100) % 32) hR (Nat.mod_lt _ (by decide))
                  by_cases h8 : cn ((t1 - 100) % 32) = true
                  · rw [if_pos ⟨h5, h6, h8⟩] at h7 ⊢
                    have h9 : ¬ rp md (1 :: t1 :: r1) = .error 7 := fun q => h7 md (by rw [q])
                    obtain ⟨g2, e2, hf, ho⟩ := hrp.2.2 gs t1 r1 op nm mk fd md hR h' h5 h9
                    refine ⟨g2, hlist (hli ?_), hrp.1 _ _ hR hf, hf, ?_⟩
                    · refine rc_eqF (b := 2) at1 rfl h3 ?_
                      refine rc_bd (isKey_n at1 h4) ?_
                      refine rc_eqE (a := 0) (b := 0) rfl rfl rfl ?_
                      refine rc_bd (isName_y at1 h5) ?_
                      refine rc_eqF (a := 1) (b := 0) rfl rfl (by decide) ?_
                      refine rc_bd hlv ?_
                      refine rc_pF (by rw [h6]; decide) ?_
                      refine rc_bd (letter_ok at1 h5) ?_
                      refine rc_bd hk ?_
                      refine rc_leF (b := 0) rfl rfl (hkc.mpr h8) ?_
                      refine rc_bd e2 ?_
                      rfl
                    · cases hr : rp md (1 :: t1 :: r1) with
                      | error e => rw [hr] at ho; exact ho
                      | ok r2 => rw [hr] at ho; exact ho
                  · rw [if_neg (fun q => h8 q.2.2)]
                    refine ⟨gp, hlist (hli ?_), hrp.1 _ _ hR hfp, hfp, hop2⟩
                    refine rc_eqF (b := 2) at1 rfl h3 ?_
                    refine rc_bd (isKey_n at1 h4) ?_
                    refine rc_eqE (a := 0) (b := 0) rfl rfl rfl ?_
                    refine rc_bd (isName_y at1 h5) ?_
                    refine rc_eqF (a := 1) (b := 0) rfl rfl (by decide) ?_
                    refine rc_bd hlv ?_
                    refine rc_pF (by rw [h6]; decide) ?_
                    refine rc_bd (letter_ok at1 h5) ?_
                    refine rc_bd hk ?_
                    refine rc_leT (b := 0) rfl rfl (Nat.le_of_not_lt (fun q => h8 (hkc.mp q))) ?_
                    exact ep
                · rw [if_neg (fun q => h6 q.2.1)]
                  obtain ⟨l, hl9⟩ : ∃ l, o_lv t1 nm = some l := by
                    cases ho : o_lv t1 nm with
                    | none => exact absurd ho h6
                    | some l => exact ⟨l, rfl⟩
                  have hlt := o_lv_lt t1 nm l hl9
                  rw [hl9] at hlv
                  refine ⟨gp, hlist (hli ?_), hrp.1 _ _ hR hfp, hfp, hop2⟩
                  refine rc_eqF (b := 2) at1 rfl h3 ?_
                  refine rc_bd (isKey_n at1 h4) ?_
                  refine rc_eqE (a := 0) (b := 0) rfl rfl rfl ?_
                  refine rc_bd (isName_y at1 h5) ?_
                  refine rc_eqF (a := 1) (b := 0) rfl rfl (by decide) ?_
                  refine rc_bd hlv ?_
                  refine rc_leT (a := 0) (b := l) rfl rfl (Nat.zero_le _) ?_
                  exact ep
              · rw [if_neg (fun q => h5 q.1)]
                refine ⟨gp, hlist (hli ?_), hrp.1 _ _ hR hfp, hfp, hop2⟩
                refine rc_eqF (b := 2) at1 rfl h3 ?_
                refine rc_bd (isKey_n at1 h4) ?_
                refine rc_eqE (a := 0) (b := 0) rfl rfl rfl ?_
                refine rc_bd (isName_n at1 (by omega)) ?_
                refine rc_eqE (a := 0) (b := 0) rfl rfl rfl ?_
                exact ep
      · rw [if_neg h1] at h7 ⊢
        by_cases h5 : 100 ≤ t
        · rw [if_pos h5]
          obtain ⟨g2, e2, hf, ho⟩ := st_name hF h' h5
          refine ⟨g2, hd ?_, hrp.1 _ _ hR hf, hf, ho⟩
          refine rc_eqF (b := 2) hat0 rfl h2 ?_
          refine rc_eqF (b := 12) h32 rfl hop ?_
          refine rc_eqF (b := 1) hat0 rfl h1 ?_
          refine rc_bd (isName_y hat0 h5) ?_
          refine rc_eqF (a := 1) (b := 0) rfl rfl (by decide) ?_
          rw [hat0]
          refine rc_bd e2 ?_
          rfl
        · rw [if_neg h5] at h7 ⊢
          by_cases h6 : 3 ≤ t ∧ t ≤ 5
          · rw [if_pos h6]
            refine ⟨sI gs 40 2, hd ?_, hrp.1 _ _ hR (fr.rf.i (by decide)), fr.rf.i (by decide), ?_⟩
            · refine rc_eqF (b := 2) hat0 rfl h2 ?_
              refine rc_eqF (b := 12) h32 rfl hop ?_
              refine rc_eqF (b := 1) hat0 rfl h1 ?_
              refine rc_bd (isName_n hat0 (by omega)) ?_
              refine rc_eqE (a := 0) (b := 0) rfl rfl rfl ?_
              refine rc_bd (isKey_y hat0 h6) ?_
              refine rc_eqF (a := 1) (b := 0) rfl rfl (by decide) ?_
              rfl
            · exact ⟨sI_e _ _ _, Or.inl rfl, (sI_n (by decide)).trans h37, by show md ≤ 12; omega⟩
          · rw [if_neg h6] at h7 ⊢
            obtain ⟨g1, e1, hsm, hm1⟩ := put_ok (F := F) (m := nI t) hmk
            refine ⟨sI g1 36 (g1.1 36 + 1), hd ?_, hrp.1 _ _ hR (hsm.fr.i (by decide)), hsm.fr.i (by decide), st_mark h' ⟨h1, h2⟩ hsm hm1⟩
            refine rc_eqF (b := 2) hat0 rfl h2 ?_
            refine rc_eqF (b := 12) h32 rfl hop ?_
            refine rc_eqF (b := 1) hat0 rfl h1 ?_
            refine rc_bd (isName_n hat0 (by omega)) ?_
            refine rc_eqE (a := 0) (b := 0) rfl rfl rfl ?_
            refine rc_bd (isKey_n hat0 h6) ?_
            refine rc_eqE (a := 0) (b := 0) rfl rfl rfl ?_
            rw [hat0]
            refine rc_bd e1 ?_
            rfl
/-- the loop: from a state to the end of the lists' steps -/
theorem st_run (hF : 5000 ≤ F) (hrp : rp_ok F fu HR cn rp) : ∀ (n d : Nat) (gs : OS) (q : OQ) (w : OR OQ), HR gs → OX gs fu q → o_go cn rp n q = w → (∀ m, ¬ w = .error (7, m)) → (∀ p, w = .ok p → p.1 = []) → ∃ g2, rf_expandAll_0 F (n + d + 1) gs (nI fu) = some (0, g2) ∧ HR g2 ∧ fr gs g2 ∧ OF g2 fu w
  | n, d, gs, ([], op, nm, mq, fd, md), w, hR, h, hgo, h7, hend => by
    have e : ∀ n, o_go cn rp n ([], op, nm, mq, fd, md) = .ok ([], op, nm, mq, fd, md) := by
      intro n
      induction n with
      | zero => rfl
      | succ n ih => exact ih
    rw [e] at hgo
    have h' := h
    have h : OY gs fu [] op nm mq fd md := h
    obtain ⟨pos, h36, h21, hle, hat, hs, hl, h32, h12, hbk, hb2, h34, hbc, hnm, hsn, hmk, h37, hmd, hf12⟩ := h
    refine ⟨gs, ?_, hR, fr.rf, by rw [← hgo]; exact h'⟩
    rw [rf_expandAll_0]
    have hle : pos + 0 ≤ 120 + 120 * md := hle
    exact rc_leT h21 h36 (Nat.le_refl _) rfl (by omega)
  | 0, d, gs, (t :: r, op, nm, mq, fd, md), w, hR, h, hgo, h7, hend => by
    have := hend (t :: r, op, nm, mq, fd, md) hgo.symm
    cases this
  | n + 1, d, gs, (t :: r, op, nm, mq, fd, md), w, hR, h, hgo, h7, hend => by
    have hgo : ob (o_st cn rp (t :: r, op, nm, mq, fd, md)) (o_go cn rp n) = w := hgo
    obtain ⟨g2, e2, hR2, hf2, ho2⟩ := st_step hF hrp hR h (fun m q => h7 m (by rw [← hgo, q]; rfl)) (n + d + 1)
    cases hst : o_st cn rp (t :: r, op, nm, mq, fd, md) with
    | error e =>
      rw [hst] at hgo ho2
      have hgo : .error e = w := hgo
      refine ⟨g2, ?_, hR2, hf2, by rw [← hgo]; exact ho2⟩
      rw [show n + 1 + d + 1 = (n + d + 1) + 1 by omega, e2, rf_expandAll_0]
      obtain ⟨a, b, c⟩ := ho2
      have key : rf_expandAll_118 F g2 = some (0, g2) := rfl
      by_cases hq : g2.1 21 ≤ g2.1 36
      · exact rc_pT hq key
      · refine rc_pF hq ?_
        exact rc_eqF (b := 0) a rfl (by omega) key
    | ok p =>
      rw [hst] at hgo ho2
      obtain ⟨g3, e3, hR3, hf3, ho3⟩ := st_run hF hrp n d g2 p w hR2 ho2 hgo h7 hend
      refine ⟨g3, ?_, hR3, hf2.tr hf3, ho3⟩
      rw [show n + 1 + d + 1 = (n + d + 1) + 1 by omega, e2]
      exact e3
end STEP
