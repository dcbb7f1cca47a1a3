/-! The reference's rules as a function of a use's tokens. -/
section RPC
variable (cap : Nat) (rt : Nat → RSt) (n fu : Nat)
/-- a state of an expansion by rows and a use in it that has these tokens -/
def rp_g (md : Nat) (T : List Nat) (w : XSt × Nat) : Prop := x_inv cap w.1 ∧ t_oq w.1 ∧ w.1.2.1 = md ∧ w.2 < x_z w.1.1 ∧ ¬ x_it w.1.1 w.2 = 0 ∧ c_nm (x_sg w.1.1 (w.2 + 1)) ∧ tkT w.1.1 w.2 = T
noncomputable def rp_r (w : XSt × Nat) : Except Nat (List Nat) := match e_rp cap rt n fu w.2 w.1 with
  | .error e => .error (xc e.1)
  | .ok p => .ok (tkT p.2.1 p.1)
noncomputable def rp_T (md : Nat) (T : List Nat) : Except Nat (List Nat) := @dite _ (∃ w, rp_g cap md T w) (Classical.propDecidable _) (fun h => rp_r cap rt n fu (Classical.choose h)) (fun _ => .error 7)
noncomputable def rp_f (md : Nat) (L : List Nat) : Except Nat (List Nat) := match rp_T cap rt n fu md (o_1st L) with
  | .error e => .error e
  | .ok T => .ok (T ++ sk L 0)
noncomputable def rp_c : Nat → Bool := fun c => @decide (∃ j, j < n ∧ r_mc (rt j) = c + 97) (Classical.propDecidable _)
end RPC
theorem rp_c_iff {rt : Nat → RSt} {n c : Nat} : rp_c rt n c = true ↔ ∃ j, j < n ∧ r_mc (rt j) = c + 97 := by
  unfold rp_c
  exact @decide_eq_true_iff _ (Classical.propDecidable _)
theorem At_getD {f : Nat → Int32} : ∀ (T : List Nat) (p : Nat), (∀ i, i < T.length → f (p + i) = nI (T.getD i 0)) → At f p T
  | [], _, _ => trivial
  | t :: T, p, h => ⟨h 0 (by rw [List.length_cons]; omega), At_getD T (p + 1) (fun i hi => by
      have := h (i + 1) (by rw [List.length_cons]; omega)
      rw [show p + 1 + i = p + (i + 1) by omega, this]
      rfl)⟩
theorem At_inj {f : Nat → Int32} : ∀ (a b : List Nat) (p : Nat), At f p a → At f p b → sml a → sml b → a.length = b.length → a = b
  | [], [], _, _, _, _, _, _ => rfl
  | [], _ :: _, _, _, _, _, _, h => by cases h
  | _ :: _, [], _, _, _, _, _, h => by cases h
  | s :: a, t :: b, p, ha, hb, hs, ht, hl => by
    have e : nI s = nI t := ha.1.symm.trans hb.1
    have h1 := sml_h hs
    have h2 := sml_h ht
    rw [nI_inj (by omega) (by omega) e, At_inj a b (p + 1) ha.2 hb.2 (sml_t hs) (sml_t ht) (by rw [List.length_cons, List.length_cons] at hl; omega)]
/-- a state that holds one use -/
theorem OY_mk {gs : OS} {T : List Nat} {md fu : Nat} (hT : tmm T) (hs : sml T) (hl : T.length ≤ 120) (hm : md ≤ fu) (hf : fu ≤ 12) : ∃ g, fr gs g ∧ OY g fu (T ++ []) [] [] (fun _ => 0) 0 md := by
  refine ⟨sA (sI (sI (sI (sI (sI (sI (sI gs 36 0) 21 (nI T.length)) 32 0) 34 0) 38 0) 37 (nI md)) 40 0) 22 (fun i => nI (T.getD i 0)), ?_, 0, ?_, ?_, ?_, ?_, ?_, ?_, ?_, ?_, trivial, fun b hb => (by cases hb), ?_, rfl, trivial, fun t ht => (by cases ht), ⟨?_, Nat.zero_le _, ?_, Or.inl rfl, fun i hi => absurd hi (Nat.not_lt_zero _)⟩, ?_, hm, hf⟩
  · exact (((((((fr.rf.i (by decide)).i (by decide)).i (by decide)).i (by decide)).i (by decide)).i (by decide)).i (by decide)).a (by decide)
  · rw [sA_1, sI_n (by decide), sI_n (by decide), sI_n (by decide), sI_n (by decide), sI_n (by decide), sI_n (by decide), sI_e]
    rfl
  · rw [sA_1, sI_n (by decide), sI_n (by decide), sI_n (by decide), sI_n (by decide), sI_n (by decide), sI_e, List.append_nil, Nat.zero_add]
  · rw [List.append_nil]
    omega
  · rw [sA_e, List.append_nil]
    exact At_getD T 0 (fun i _ => by rw [Nat.zero_add])
  · rw [List.append_nil]
    exact hs
  · rw [List.append_nil]
    exact tmm_lvl hT 0
  · rw [sA_1, sI_n (by decide), sI_n (by decide), sI_n (by decide), sI_n (by decide), sI_e]
    rfl
  · exact Nat.zero_le _
  · rw [sA_1, sI_n (by decide), sI_n (by decide), sI_n (by decide), sI_e]
    rfl
  · rw [sA_1, sI_n (by decide), sI_n (by decide), sI_e]
    rfl
  · rw [sA_1, sI_e]
    rfl
  · rw [sA_1, sI_n (by decide), sI_e]
/-- uses alike are replaced alike -/
theorem rp_uni {cap n fu : Nat} {rt : Nat → RSt} {gs : OS} {md : Nat} {T : List Nat} (hR : RS gs rt n) (hcap : 780 ≤ cap) (hrt : ∀ j, j < n → t_raw 60 (r_x (rt j))) (hf : fu ≤ 12) {w v : XSt × Nat} (hw : rp_g cap md T w) (hv : rp_g cap md T v) : rp_r cap rt n fu w = rp_r cap rt n fu v ∧ ((∃ e, rp_r cap rt n fu w = .error e ∧ (e = 2 ∨ e = 3)) ∨ ∃ T', rp_r cap rt n fu w = .ok T') := by
  obtain ⟨w1, w2, w3, w4, w5, w6, w7⟩ := hw
  obtain ⟨v1, v2, v3, v4, v5, v6, v7⟩ := hv
  have h23 : ∀ e : String × Nat, xc e.1 = 2 ∨ xc e.1 = 3 := fun e => by
    unfold xc
    split
    · exact Or.inl rfl
    · exact Or.inr rfl
  have hres : (∃ e, rp_r cap rt n fu w = .error e ∧ (e = 2 ∨ e = 3)) ∨ ∃ T', rp_r cap rt n fu w = .ok T' := by
    unfold rp_r
    cases e_rp cap rt n fu w.2 w.1 with
    | error e => exact Or.inl ⟨_, rfl, h23 e⟩
    | ok p => exact Or.inr ⟨_, rfl⟩
  refine ⟨?_, hres⟩
  by_cases hmd : fu ≤ md
  · have e1 : ∀ u : XSt × Nat, u.1.2.1 = md → e_rp cap rt n fu u.2 u.1 = .error (uoN, md) := by
      intro u hu
      unfold e_rp
      rw [if_pos (by rw [hu]; exact hmd), hu]
    unfold rp_r
    rw [e1 w w3, e1 v v3]
  · have hT : tmm T := by rw [← w7]; exact tkT_tmm w1.2.1 w2.1 w4
    have hsm : sml T := by
      rw [← w7]
      exact tkT_sml w1.2.1.1 w2.1 w2.2.2 (by rw [w3]; omega) w4
    have hlen : T.length ≤ 120 := by rw [← w7]; exact tkT_le w1.2.1 w1.2.2.1 w4
    obtain ⟨g, hfr, hO⟩ := OY_mk (gs := gs) (md := md) hT hsm hlen (by omega) hf
    have hRg := RS_fr hR hfr
    obtain ⟨ga, ea, _, fa1, fa2⟩ := rep_ok (F := 5000) (Nat.le_refl _) hRg hcap hrt w1 w2 w4 w5 w6 (by rw [w7, w3]; exact hO)
    obtain ⟨gb, eb, _, fb1, fb2⟩ := rep_ok (F := 5000) (Nat.le_refl _) hRg hcap hrt v1 v2 v4 v5 v6 (by rw [v7, v3]; exact hO)
    rw [ea] at eb
    have hg : ga = gb := (Prod.mk.inj (Option.some.inj eb)).2
    subst hg
    unfold rp_r
    cases hew : e_rp cap rt n fu w.2 w.1 with
    | error e =>
      cases hev : e_rp cap rt n fu v.2 v.1 with
      | error e' =>
        have q1 := (fa1 e hew).1
        have q2 := (fb1 e' hev).1
        rw [q1] at q2
        have z1 := h23 e
        have z2 := h23 e'
        show Except.error (xc e.1) = Except.error (xc e'.1)
        rw [nI_inj (by omega) (by omega) q2]
      | ok p =>
        exfalso
        have q1 := (fa1 e hew).1
        obtain ⟨q2, _⟩ := fb2 p.1 p.2 hev
        obtain ⟨pos, h36, h21, hle, hat, hs, hl, h32, h12, hbk, hb2, h34, hbc, hnm, hsn, hmk, h37, hmd2, hf12⟩ := q2
        have q3 := hmk.2.2.1
        rw [q1] at q3
        have z1 := h23 e
        have := nI_inj (b := 0) (by omega) (by decide) q3
        omega
    | ok p =>
      obtain ⟨q2, _⟩ := fa2 p.1 p.2 hew
      obtain ⟨pos, h36, h21, hle, hat, hs, hl, h32, h12, hbk, hb2, h34, hbc, hnm, hsn, hmk, h37, hmd2, hf12⟩ := q2
      cases hev : e_rp cap rt n fu v.2 v.1 with
      | error e' =>
        exfalso
        have q1 := (fb1 e' hev).1
        have q3 := hmk.2.2.1
        rw [q1] at q3
        have z1 := h23 e'
        have := nI_inj (b := 0) (by omega) (by decide) q3
        omega
      | ok p' =>
        obtain ⟨q2', _⟩ := fb2 p'.1 p'.2 hev
        obtain ⟨pos', k36, k21, kle, kat, ks, kl, k32, k12, kbk, kb2, k34, kbc, knm, ksn, kmk, k37, kmd2, kf12⟩ := q2'
        have hm12 : w.1.2.1 + 1 ≤ 12 := by omega
        have hm12' : v.1.2.1 + 1 ≤ 12 := by omega
        have epos : pos = pos' := nI_inj (by omega) (by omega) (h36.symm.trans k36)
        subst epos
        have elen := nI_inj (by omega) (by omega) (h21.symm.trans k21)
        rw [List.append_nil] at hat hs elen
        rw [List.append_nil] at kat ks elen
        show Except.ok (tkT p.2.1 p.1) = Except.ok (tkT p'.2.1 p'.1)
        rw [At_inj _ _ pos hat kat hs ks (by omega)]
theorem rp_T_of {cap n fu : Nat} {rt : Nat → RSt} {gs : OS} {md : Nat} {T : List Nat} (hR : RS gs rt n) (hcap : 780 ≤ cap) (hrt : ∀ j, j < n → t_raw 60 (r_x (rt j))) (hf : fu ≤ 12) {w : XSt × Nat} (hw : rp_g cap md T w) : rp_T cap rt n fu md T = rp_r cap rt n fu w := by
  have hex : ∃ w, rp_g cap md T w := ⟨w, hw⟩
  have e : rp_T cap rt n fu md T = rp_r cap rt n fu (Classical.choose hex) := by
    unfold rp_T
    exact dif_pos hex
  rw [e]
  exact (rp_uni hR hcap hrt hf (Classical.choose_spec hex) hw).1
/-- the rules by rows and by tokens -/
theorem o_ru_ok {cap n fu : Nat} {rt : Nat → RSt} {gs : OS} (hR : RS gs rt n) (hcap : 780 ≤ cap) (hrt : ∀ j, j < n → t_raw 60 (r_x (rt j))) (hf : fu ≤ 12) : o_ru cap rt n fu (rp_c rt n) (rp_f cap rt n fu) := by
  refine ⟨fun c hc => ?_, fun q nd r hq ho hnd hit hh => ?_⟩
  · rw [rp_c_iff]
    rw [show c - 97 + 97 = c by omega]
  · have hg : rp_g cap q.2.1 (tkT q.1 nd) (q, nd) := ⟨hq, ho, rfl, hnd, hit, hh, rfl⟩
    have e1 : rp_f cap rt n fu q.2.1 (tkT q.1 nd ++ r) = match rp_r cap rt n fu (q, nd) with
        | .error e => .error e
        | .ok T => .ok (T ++ r) := by
      unfold rp_f
      rw [o_1st_T hq.2.1.1 ho.1 hnd, sk_T hq.2.1.1 ho.1 hnd, rp_T_of hR hcap hrt hf hg]
    by_cases hmd : fu ≤ q.2.1
    · have e2 : e_rp cap rt n fu nd q = .error (uoN, q.2.1) := by
        unfold e_rp
        rw [if_pos hmd]
      refine ⟨fun e h => ?_, fun t p h => by rw [e2] at h; cases h⟩
      rw [e1]
      have e3 : rp_r cap rt n fu (q, nd) = .error (xc uoN) := by
        unfold rp_r
        rw [e2]
      rw [e2] at h
      cases h
      rw [e3]
      exact ⟨rfl, rfl⟩
    · have hT : tmm (tkT q.1 nd) := tkT_tmm hq.2.1 ho.1 hnd
      have hsm : sml (tkT q.1 nd) := tkT_sml hq.2.1.1 ho.1 ho.2.2 (by have := hq.2.2.2.2.1; omega) hnd
      obtain ⟨g, hfr, hO⟩ := OY_mk (gs := gs) (md := q.2.1) hT hsm (tkT_le hq.2.1 hq.2.2.1 hnd) (by omega) hf
      obtain ⟨ga, ea, _, fa1, fa2⟩ := rep_ok (F := 5000) (Nat.le_refl _) (RS_fr hR hfr) hcap hrt hq ho hnd hit hh hO
      refine ⟨fun e h => ?_, fun t p h => ?_⟩
      · have e3 : rp_r cap rt n fu (q, nd) = .error (xc e.1) := by
          unfold rp_r
          rw [h]
        rw [e1, e3]
        exact ⟨rfl, (fa1 e h).2.2⟩
      · have e3 : rp_r cap rt n fu (q, nd) = .ok (tkT p.1 t) := by
          unfold rp_r
          rw [h]
        rw [e1, e3]
        exact ⟨rfl, (fa2 t p h).2⟩
/-- how many rules a macro has -/
theorem cnt_lp {F n c : Nat} {rt : Nat → RSt} {gs : OS} (hR : RS gs rt n) (hc : c < 32) : ∀ (k i d : Nat), i + k = n → k < d → rf_countOf_4 F d gs (nI c) (nI (r_ct rt (c + 97) i)) (nI i) = some (nI (r_ct rt (c + 97) n), gs)
  | 0, i, d, hik, hd => by
    obtain ⟨d, rfl⟩ : ∃ e, d = e + 1 := ⟨d - 1, by omega⟩
    have hn := hR.2.1
    rw [rf_countOf_4]
    refine rc_leT hR.1 rfl (by omega) ?_
    rw [show i = n by omega]
  | k + 1, i, d, hik, hd => by
    obtain ⟨d, rfl⟩ : ∃ e, d = e + 1 := ⟨d - 1, by omega⟩
    have hn := hR.2.1
    obtain ⟨hG, hH⟩ := hR.2.2 i (by omega)
    have hmac : gs.2 6 (nI i).toNatClampNeg = nI (x_sg (r_x (rt i)) 1 - 97) := cl_at hH.1
    have hnm := hG.2.2.2.2.1
    have ih := cnt_lp (F := F) hR hc k (i + 1) d (by omega) (by omega)
    have hmc : r_mc (rt i) = x_sg (r_x (rt i)) 1 := rfl
    rw [rf_countOf_4]
    refine rc_leF hR.1 rfl (by omega) ?_
    refine rc_in rfl (by omega) ?_
    have e : r_ct rt (c + 97) (i + 1) = if r_mc (rt i) = c + 97 then r_ct rt (c + 97) i + 1 else r_ct rt (c + 97) i := rfl
    rw [e] at ih
    by_cases h : x_sg (r_x (rt i)) 1 - 97 = c
    · rw [if_pos (by rw [hmc]; omega)] at ih
      refine rc_eqE hmac rfl h ?_
      rw [rf_countOf_25, nI_1, nI_1]
      exact ih
    · rw [if_neg (by rw [hmc]; omega)] at ih
      refine rc_eqF hmac rfl h ?_
      rw [rf_countOf_25, nI_1]
      exact ih
theorem cnt_ok {F n c : Nat} {rt : Nat → RSt} {gs : OS} (hF : 5000 ≤ F) (hR : RS gs rt n) (hc : c < 32) : rf_countOf F gs (nI c) = some (nI (r_ct rt (c + 97) n), gs) := by
  have hn := hR.2.1
  rw [rf_countOf]
  exact cnt_lp hR hc n 0 F (by omega) (by omega)
theorem r_ct_pos {rt : Nat → RSt} {c : Nat} : ∀ n, (0 < r_ct rt c n ↔ ∃ j, j < n ∧ r_mc (rt j) = c) ∧ r_ct rt c n ≤ n
  | 0 => ⟨⟨fun h => absurd h (Nat.lt_irrefl _), fun ⟨j, h, _⟩ => absurd h (Nat.not_lt_zero _)⟩, Nat.le_refl _⟩
  | n + 1 => by
    have ih := r_ct_pos (rt := rt) (c := c) n
    unfold r_ct
    by_cases h : r_mc (rt n) = c
    · rw [if_pos h]
      exact ⟨⟨fun _ => ⟨n, by omega, h⟩, fun _ => by omega⟩, by omega⟩
    · rw [if_neg h]
      refine ⟨⟨fun q => ?_, fun ⟨j, h1, h2⟩ => ?_⟩, by omega⟩
      · obtain ⟨j, h1, h2⟩ := ih.1.mp q
        exact ⟨j, by omega, h2⟩
      · refine ih.1.mpr ⟨j, ?_, h2⟩
        have : j ≠ n := fun q => h (by rw [← q]; exact h2)
        omega
theorem rp_ok_ok {F cap n fu : Nat} {rt : Nat → RSt} (hF : 5000 ≤ F) (hcap : 780 ≤ cap) (hrt : ∀ j, j < n → t_raw 60 (r_x (rt j))) (hf : fu ≤ 12) : rp_ok F fu (fun gs => RS gs rt n) (rp_c rt n) (rp_f cap rt n fu) := by
  refine ⟨fun gs g2 h hfr => RS_fr h hfr, fun gs c h hc => ?_, fun gs t1 r1 op nm mk fd md hR hO ht1 h7 => ?_⟩
  · have hp := r_ct_pos (rt := rt) (c := c + 97) n
    exact ⟨_, Nat.le_trans hp.2 h.2.1, cnt_ok hF h hc, by rw [hp.1, rp_c_iff]⟩
  · have hO : OY gs fu (1 :: t1 :: r1) op nm mk fd md := hO
    have hl : lvl (1 :: t1 :: r1) op.length = some 0 := by
      obtain ⟨pos, h36, h21, hle, hat, hs, hl, _⟩ := hO
      exact hl
    obtain ⟨T, R, eT, hT, hsk, hl2, hhd⟩ := fst_tm hl (by decide)
    have h1st : o_1st (1 :: t1 :: r1) = T := by
      unfold o_1st
      rw [hsk, eT, List.length_append, Nat.add_sub_cancel, List.take_left']
      rfl
    have erp : rp_f cap rt n fu md (1 :: t1 :: r1) = match rp_T cap rt n fu md T with
        | .error e => .error e
        | .ok T' => .ok (T' ++ R) := by
      unfold rp_f
      rw [h1st, hsk]
    have hex : ∃ w, rp_g cap md T w := by
      apply Classical.byContradiction
      intro hno
      apply h7
      have : rp_T cap rt n fu md T = .error 7 := by
        unfold rp_T
        exact dif_neg hno
      rw [erp, this]
    obtain ⟨w, hw⟩ := hex
    have eT2 := rp_T_of hR hcap hrt hf hw
    obtain ⟨w1, w2, w3, w4, w5, w6, w7⟩ := hw
    obtain ⟨g2, e2, hfr, f1, f2⟩ := rep_ok hF hR hcap hrt w1 w2 w4 w5 w6 (by rw [w7, w3, ← eT]; exact hO)
    refine ⟨g2, e2, hfr, ?_⟩
    rw [erp, eT2]
    have hmd : md ≤ 12 := by
      have := w1.2.2.2.2.1
      omega
    unfold rp_r
    cases he : e_rp cap rt n fu w.2 w.1 with
    | error e =>
      obtain ⟨q1, q2, q3⟩ := f1 e he
      refine ⟨q1, ?_, by rw [q2, w3], hmd⟩
      show xc e.1 = 2 ∨ xc e.1 = 3
      unfold xc
      split
      · exact Or.inl rfl
      · exact Or.inr rfl
    | ok p =>
      have q1 := (f2 p.1 p.2 he).1
      rw [w3] at q1
      exact q1
/-- an expansion by rows, and the reference's -/
theorem exp_run {cap n fu : Nat} {rt : Nat → RSt} {gs : OS} {y1 : TSt} {mk : Nat → Int32} (hR : RS gs rt n) (hcap : 780 ≤ cap) (hrt : ∀ j, j < n → t_raw 60 (r_x (rt j))) (hf : fu ≤ 12) (hq : x_inv cap (y1, 0, mk, 0)) (ho : t_oq (y1, 0, mk, 0)) (hz : 0 < x_z y1) (hO : OY gs fu (tkT y1 0) [] [] mk 0 0) :
    ∃ F, 5000 ≤ F ∧ (∀ e, e_ex cap rt n fu 12 0 [] (y1, 0, mk, 0) = .error e → ∃ g2, rf_expandAll F gs (nI fu) = some (0, g2) ∧ fr gs g2 ∧ g2.1 40 = nI (xc e.1) ∧ g2.1 37 = nI e.2 ∧ e.2 ≤ 12) ∧ (∀ p, e_ex cap rt n fu 12 0 [] (y1, 0, mk, 0) = .ok p → ∃ g2, rf_expandAll F gs (nI fu) = some (0, g2) ∧ fr gs g2 ∧ OY g2 fu [] [] [] p.2.2.1 p.2.2.2 p.2.1) := by
  have hsim := sim_ex (cap := cap) (n := n) (fu := fu) (rt := rt) (o_ru_ok hR hcap hrt hf) hf hrt 12 [] [] rfl (fun q h => by cases h) 0 (y1, 0, mk, 0) [] hz hq ho
  have hst : OX gs fu (oS (tkT y1 0 ++ []) [] [] (y1, 0, mk, 0)) := by
    rw [List.append_nil]
    exact hO
  cases he : e_ex cap rt n fu 12 0 [] (y1, 0, mk, 0) with
  | error e =>
    obtain ⟨k, hk⟩ := hsim.1 e he
    refine ⟨k + 5000 + 1, by omega, fun e' h => ?_, fun p h => by cases h⟩
    cases h
    obtain ⟨g2, e2, _, hfr, hof⟩ := st_run (F := k + 5000 + 1) (fu := fu) (HR := fun gs => RS gs rt n) (by omega) (rp_ok_ok (by omega) hcap hrt hf) k 5000 gs _ _ hR hst hk (fun m q => by
      have : xc e.1 = 7 := (Prod.mk.inj (Except.error.inj q)).1
      unfold xc at this
      split at this <;> omega) (fun p q => by cases q)
    exact ⟨g2, by rw [rf_expandAll]; exact e2, hfr, hof.1, hof.2.2.1, hof.2.2.2⟩
  | ok p =>
    obtain ⟨⟨k, hk⟩, _⟩ := hsim.2 p he
    refine ⟨k + 5000 + 1, by omega, fun e h => (by cases h), fun p' h => ?_⟩
    cases h
    obtain ⟨g2, e2, _, hfr, hof⟩ := st_run (F := k + 5000 + 1) (fu := fu) (HR := fun gs => RS gs rt n) (by omega) (rp_ok_ok (by omega) hcap hrt hf) k 5000 gs _ _ hR hst hk (fun m q => by cases q) (fun p' q => by cases q; rfl)
    exact ⟨g2, by rw [rf_expandAll]; exact e2, hfr, hof⟩
