set_option maxHeartbeats 4000000 in
set_option maxRecDepth 100000 in
/-- the law: rule(x, out) of a fresh one: 1 -/
theorem x_L_rule0 (l : Launch) (htr : l.stackTraces = false) (D : va_G) (sz : Nat) (h : Nat) (dd : Nat) (bb : Nat) (ee : Nat) (da : Nat) (dy : Int32) (ba : Nat) (cb : ClassId) (bf : Nat → Option Nat) (r0 : Nat) (tt : Nat) (kn : Nat) (as_ : Nat) (at_ : Nat) (ap_ : Nat) (ai_ : Nat) (ar_ : Nat) (ao_ : Nat) (oo : Nat) (hf : bf 0 = some r0) : ex_Met l y_L_rule (Cond.codeWith y_L_rule b_L_rule 3 (some .int) [(0, 8, 11, 13), (0, 8, 14, 15)] :: wal) ({ frames := 16, cells := 1, slots := 6, locals := 480 }) (va_Pc [.ref h, .ref oo] (pr D sz [(h, .inr (7, [.ref dd, .ref bb, .ref ee])), (dd, .inr (0, [.ref da, .int 0, .int dy])), (bb, .inr (5, [.ref ba, .int 0])), (ba, .inl (cb, 13, .inr (.inr (.inr (.inr bf))))), (r0, .inr (4, [.ref tt, .ref kn, .int 0])), (tt, .inr (6, [.ref as_, .ref at_, .ref ap_, .ref ai_, .ref ar_, .ref ao_, .int 0, .int 0, .int 0, .int 0, .int 0]))] [(cb, .object rc_R)] (fun U => cx (va_A ([(h, .inr (7, [.ref dd, .ref bb, .ref ee])), (dd, .inr (0, [.ref da, .int 0, .int dy])), (bb, .inr (5, [.ref ba, .int 0])), (ba, .inl (cb, 13, .inr (.inr (.inr (.inr bf))))), (r0, .inr (4, [.ref tt, .ref kn, .int 0])), (tt, .inr (6, [.ref as_, .ref at_, .ref ap_, .ref ai_, .ref ar_, .ref ao_, .int 0, .int 0, .int 0, .int 0, .int 0]))]) sz) U U.heap))) (va_Qi (S := Unit) (fun r u => r = 1) (fun u t9 => po D (va_A ([(h, .inr (7, [.ref dd, .ref bb, .ref ee])), (dd, .inr (0, [.ref da, .int 0, .int dy])), (bb, .inr (5, [.ref ba, .int 0])), (ba, .inl (cb, 13, .inr (.inr (.inr (.inr bf))))), (r0, .inr (4, [.ref tt, .ref kn, .int 0])), (tt, .inr (6, [.ref as_, .ref at_, .ref ap_, .ref ai_, .ref ar_, .ref ao_, .int 0, .int 0, .int 0, .int 0, .int 0]))]) sz) ((fun _ => []) u) ((fun _ => []) u) t9) (va_A ([(h, .inr (7, [.ref dd, .ref bb, .ref ee])), (dd, .inr (0, [.ref da, .int 0, .int dy])), (bb, .inr (5, [.ref ba, .int 0])), (ba, .inl (cb, 13, .inr (.inr (.inr (.inr bf))))), (r0, .inr (4, [.ref tt, .ref kn, .int 0])), (tt, .inr (6, [.ref as_, .ref at_, .ref ap_, .ref ai_, .ref ar_, .ref ao_, .int 0, .int 0, .int 0, .int 0, .int 0]))]) sz)) 1 6 (va_A ([(h, .inr (7, [.ref dd, .ref bb, .ref ee])), (dd, .inr (0, [.ref da, .int 0, .int dy])), (bb, .inr (5, [.ref ba, .int 0])), (ba, .inl (cb, 13, .inr (.inr (.inr (.inr bf))))), (r0, .inr (4, [.ref tt, .ref kn, .int 0])), (tt, .inr (6, [.ref as_, .ref at_, .ref ap_, .ref ai_, .ref ar_, .ref ao_, .int 0, .int 0, .int 0, .int 0, .int 0]))]) sz) := by
  refine ex_ofW (cc := b_L_rule) (maxL := 3) (ret := (some .int)) (by decide) rfl ?_
  intro p e s m args below meth c s₁ B hml htab hv
  obtain ⟨rfl, hsz, hP, hK, hD0, hE⟩ := hv
  have hx := B.exec
  have hb := B.bytes
  have hr := B.returns
  have hts0 := atoms_spec (ws := Cond.codeWith y_L_rule b_L_rule 3 (some .int) [(0, 8, 11, 13), (0, 8, 14, 15)] :: wal) B.pre
  have hts : ∀ w ∈ wal, w.before _ s = true := fun w h => hts0 w (List.mem_cons_of_mem _ h)
  have hown : s.vm.findClass rc_L = some m.cls := findClass_of_methodNamed B.named
  have hlocks := B.notSynchronized
  subst hsz
  have hD := hD0.self (sz := s.heap.size)
  generalize hAe : va_A ([(h, .inr (7, [.ref dd, .ref bb, .ref ee])), (dd, .inr (0, [.ref da, .int 0, .int dy])), (bb, .inr (5, [.ref ba, .int 0])), (ba, .inl (cb, 13, .inr (.inr (.inr (.inr bf))))), (r0, .inr (4, [.ref tt, .ref kn, .int 0])), (tt, .inr (6, [.ref as_, .ref at_, .ref ap_, .ref ai_, .ref ar_, .ref ao_, .int 0, .int 0, .int 0, .int 0, .int 0]))]) s.heap.size = A at hD hE ⊢
  have hA : ∀ q : Nat, s.heap.size ≤ q → A q := fun q h => by rw [← hAe]; exact Or.inr h
  have hS : va_S A s.heap s.heap [] := va_S.rf
  have hl := lv_entry ([.ref h, .ref oo]) (n := 3) (Nat.le_of_ble_eq_true rfl)
  rw [lg_entry_eq]
  generalize (lg_sl ([.ref h, .ref oo]) ++ List.replicate (3 - (lg_sl ([.ref h, .ref oo])).length) Slot.unset).toArray = ls at hl ⊢
  have hl : lv_has ls 3 [(0, .ref h), (1, .ref oo)] := hl
  refine lv_aload_n hx hb d_L_rule_0 rfl (lv_at hl 1 rfl) ?_
  refine lv_iconst (v := 0) hx hb d_L_rule_1 (by decide) ?_
  refine lv_aload_n hx hb d_L_rule_2 rfl (lv_at hl 0 rfl) ?_
  have hFc : ∀ q, va_A ([(h, .inr (7, [.ref dd, .ref bb, .ref ee])), (dd, .inr (0, [.ref da, .int 0, .int dy])), (bb, .inr (5, [.ref ba, .int 0])), (ba, .inl (cb, 13, .inr (.inr (.inr (.inr bf))))), (r0, .inr (4, [.ref tt, .ref kn, .int 0])), (tt, .inr (6, [.ref as_, .ref at_, .ref ap_, .ref ai_, .ref ar_, .ref ao_, .int 0, .int 0, .int 0, .int 0, .int 0]))]) s.heap.size q → A q := fun q h => by rw [← hAe]; exact h
  refine ex_call (ex_runV (As := []) (rest := [.int 0, .ref oo]) ⟨hx, hb, hml, hown, hts⟩ (x_F_rule0 l htr D s.heap.size h dd bb ee da dy ba cb bf r0 tt kn as_ at_ ap_ ai_ ar_ ao_ hf) (cw_V hts 0 k_263 k_1 k_260 k_261 k_262 (by decide +kernel) ⟨Nat.le_of_ble_eq_true rfl, Nat.le_of_ble_eq_true rfl⟩) (pr_V hP hD hK [0, 1, 2, 3, 4, 5] [0] (by decide) rfl rfl (fun U hU hW => by rw [hAe]; exact hE.go hS hU hW) (fun U g mk a h => h.blind g mk a) (q0 := 0) (ci := 7) rfl rfl) rfl rfl hl.1 rfl (lv_room (Nat.le_of_ble_eq_true rfl)) d_L_rule_3 ⟨by decide, by decide⟩) hS hFc (fun st o t h => by rw [← hAe]; exact h.2) (fun v st t H1 locs1 h0 ht hal hq hS1 => ?_) (fun x st t H1 locs1 h0 ht hal hq hS1 => ?_)
  · obtain ⟨⟨x, ce, h9, -⟩, -⟩ := hq
    cases h9
  · obtain ⟨⟨x2, ce, hx2, e1, n1, a1, v1, -⟩, hF⟩ := hq
    cases hx2
    rw [hal.findClass] at n1
    rw [hal.assignable] at a1
    rw [ht] at e1
    refine ex_caught (xN := iaN) (cell := ce) hx rfl htab ⟨Nat.le_of_ble_eq_true rfl, Nat.le_of_ble_eq_true rfl⟩ (by decide) hown (hts _ k_258) e1 (by rw [v1]; rfl) n1 a1 ?_
    refine W.eq (g2 := F0 m 11 ls [.ref x]) rfl ?_
    refine lv_astore_n hx hb d_L_rule_11 rfl hl (by decide) rfl (fun ls hl => ?_)
    have hl : lv_has ls 3 [(2, .ref x), (0, .ref h), (1, .ref oo)] := hl
    refine lv_iconst (v := 1) hx hb d_L_rule_12 (by decide) ?_
    exact ex_mono (fun t9 h9 => ex_of_MQ h9) (W.iret (v := 1) hx hb hr (fun t9 ht9 hW => ⟨⟨1, (), rfl, rfl, po_nil hK hW⟩, hS1.F ht9⟩) hS1.2.2 d_L_rule_13)

set_option maxHeartbeats 4000000 in
set_option maxRecDepth 100000 in
/-- the law: expand(x, k, out) of a fresh one: 1 -/
theorem x_L_expand0 (l : Launch) (htr : l.stackTraces = false) (D : va_G) (sz : Nat) (h : Nat) (dd : Nat) (bb : Nat) (ee : Nat) (da : Nat) (dy : Int32) (et : Nat) (em : Nat) (er : Nat) (el : Nat) (es : Nat) (as_2 : Nat) (at_2 : Nat) (ap_2 : Nat) (ai_2 : Nat) (ar_2 : Nat) (ao_2 : Nat) (k : Int32) (oo : Nat) : ex_Met l y_L_expand (Cond.codeWith y_L_expand b_L_expand 4 (some .int) [(0, 9, 12, 13), (0, 9, 15, 21), (0, 9, 18, 15)] :: wal) ({ frames := 16, cells := 1, slots := 6, locals := 480 }) (va_Pc [.ref h, .int k, .ref oo] (pr D sz [(h, .inr (7, [.ref dd, .ref bb, .ref ee])), (dd, .inr (0, [.ref da, .int 0, .int dy])), (ee, .inr (1, [.ref et, .ref em, .ref er, .ref el, .ref es, .null, .int 0, .int 0, .int 0])), (et, .inr (6, [.ref as_2, .ref at_2, .ref ap_2, .ref ai_2, .ref ar_2, .ref ao_2, .int 0, .int 0, .int 0, .int 0, .int 0]))] [] (fun U => cx (va_A ([(h, .inr (7, [.ref dd, .ref bb, .ref ee])), (dd, .inr (0, [.ref da, .int 0, .int dy])), (ee, .inr (1, [.ref et, .ref em, .ref er, .ref el, .ref es, .null, .int 0, .int 0, .int 0])), (et, .inr (6, [.ref as_2, .ref at_2, .ref ap_2, .ref ai_2, .ref ar_2, .ref ao_2, .int 0, .int 0, .int 0, .int 0, .int 0]))]) sz) U U.heap))) (va_Qi (S := Unit) (fun r u => r = 1) (fun u t9 => po D (va_A ([(h, .inr (7, [.ref dd, .ref bb, .ref ee])), (dd, .inr (0, [.ref da, .int 0, .int dy])), (ee, .inr (1, [.ref et, .ref em, .ref er, .ref el, .ref es, .null, .int 0, .int 0, .int 0])), (et, .inr (6, [.ref as_2, .ref at_2, .ref ap_2, .ref ai_2, .ref ar_2, .ref ao_2, .int 0, .int 0, .int 0, .int 0, .int 0]))]) sz) ((fun _ => []) u) ((fun _ => []) u) t9) (va_A ([(h, .inr (7, [.ref dd, .ref bb, .ref ee])), (dd, .inr (0, [.ref da, .int 0, .int dy])), (ee, .inr (1, [.ref et, .ref em, .ref er, .ref el, .ref es, .null, .int 0, .int 0, .int 0])), (et, .inr (6, [.ref as_2, .ref at_2, .ref ap_2, .ref ai_2, .ref ar_2, .ref ao_2, .int 0, .int 0, .int 0, .int 0, .int 0]))]) sz)) 1 6 (va_A ([(h, .inr (7, [.ref dd, .ref bb, .ref ee])), (dd, .inr (0, [.ref da, .int 0, .int dy])), (ee, .inr (1, [.ref et, .ref em, .ref er, .ref el, .ref es, .null, .int 0, .int 0, .int 0])), (et, .inr (6, [.ref as_2, .ref at_2, .ref ap_2, .ref ai_2, .ref ar_2, .ref ao_2, .int 0, .int 0, .int 0, .int 0, .int 0]))]) sz) := by
  refine ex_ofW (cc := b_L_expand) (maxL := 4) (ret := (some .int)) (by decide) rfl ?_
  intro p e s m args below meth c s₁ B hml htab hv
  obtain ⟨rfl, hsz, hP, hK, hD0, hE⟩ := hv
  have hx := B.exec
  have hb := B.bytes
  have hr := B.returns
  have hts0 := atoms_spec (ws := Cond.codeWith y_L_expand b_L_expand 4 (some .int) [(0, 9, 12, 13), (0, 9, 15, 21), (0, 9, 18, 15)] :: wal) B.pre
  have hts : ∀ w ∈ wal, w.before _ s = true := fun w h => hts0 w (List.mem_cons_of_mem _ h)
  have hown : s.vm.findClass rc_L = some m.cls := findClass_of_methodNamed B.named
  have hlocks := B.notSynchronized
  subst hsz
  have hD := hD0.self (sz := s.heap.size)
  generalize hAe : va_A ([(h, .inr (7, [.ref dd, .ref bb, .ref ee])), (dd, .inr (0, [.ref da, .int 0, .int dy])), (ee, .inr (1, [.ref et, .ref em, .ref er, .ref el, .ref es, .null, .int 0, .int 0, .int 0])), (et, .inr (6, [.ref as_2, .ref at_2, .ref ap_2, .ref ai_2, .ref ar_2, .ref ao_2, .int 0, .int 0, .int 0, .int 0, .int 0]))]) s.heap.size = A at hD hE ⊢
  have hA : ∀ q : Nat, s.heap.size ≤ q → A q := fun q h => by rw [← hAe]; exact Or.inr h
  have hS : va_S A s.heap s.heap [] := va_S.rf
  have hl := lv_entry ([.ref h, .int k, .ref oo]) (n := 4) (Nat.le_of_ble_eq_true rfl)
  rw [lg_entry_eq]
  generalize (lg_sl ([.ref h, .int k, .ref oo]) ++ List.replicate (4 - (lg_sl ([.ref h, .int k, .ref oo])).length) Slot.unset).toArray = ls at hl ⊢
  have hl : lv_has ls 4 [(0, .ref h), (1, .int k), (2, .ref oo)] := hl
  refine lv_aload_n hx hb d_L_expand_0 rfl (lv_at hl 2 rfl) ?_
  refine lv_iconst (v := 0) hx hb d_L_expand_1 (by decide) ?_
  refine lv_aload_n hx hb d_L_expand_2 rfl (lv_at hl 0 rfl) ?_
  refine lv_iload_n hx hb d_L_expand_3 rfl (lv_at hl 1 rfl) ?_
  have hFc : ∀ q, va_A ([(h, .inr (7, [.ref dd, .ref bb, .ref ee])), (dd, .inr (0, [.ref da, .int 0, .int dy])), (ee, .inr (1, [.ref et, .ref em, .ref er, .ref el, .ref es, .null, .int 0, .int 0, .int 0])), (et, .inr (6, [.ref as_2, .ref at_2, .ref ap_2, .ref ai_2, .ref ar_2, .ref ao_2, .int 0, .int 0, .int 0, .int 0, .int 0]))]) s.heap.size q → A q := fun q h => by rw [← hAe]; exact h
  refine ex_call (ex_runV (As := [.int k]) (rest := [.int 0, .ref oo]) ⟨hx, hb, hml, hown, hts⟩ (x_F_expand0 l htr D s.heap.size h dd bb ee da dy et em er el es as_2 at_2 ap_2 ai_2 ar_2 ao_2 k) (cw_V hts 1 k_467 k_1 k_464 k_465 k_466 (by decide +kernel) ⟨Nat.le_of_ble_eq_true rfl, Nat.le_of_ble_eq_true rfl⟩) (pr_V hP hD hK [0, 1, 2, 3] [] (by decide) rfl rfl (fun U hU hW => by rw [hAe]; exact hE.go hS hU hW) (fun U g mk a h => h.blind g mk a) (q0 := 0) (ci := 7) rfl rfl) rfl rfl hl.1 rfl (lv_room (Nat.le_of_ble_eq_true rfl)) d_L_expand_4 ⟨by decide, by decide⟩) hS hFc (fun st o t h => by rw [← hAe]; exact h.2) (fun v st t H1 locs1 h0 ht hal hq hS1 => ?_) (fun x st t H1 locs1 h0 ht hal hq hS1 => ?_)
  · obtain ⟨⟨x, ce, h9, -⟩, -⟩ := hq
    cases h9
  · obtain ⟨⟨x2, ce, hx2, e1, n1, a1, v1, -⟩, hF⟩ := hq
    cases hx2
    rw [hal.findClass] at n1
    rw [hal.assignable] at a1
    rw [ht] at e1
    refine ex_caught (xN := iaN) (cell := ce) hx rfl htab ⟨Nat.le_of_ble_eq_true rfl, Nat.le_of_ble_eq_true rfl⟩ (by decide) hown (hts _ k_258) e1 (by rw [v1]; rfl) n1 a1 ?_
    refine W.eq (g2 := F0 m 12 ls [.ref x]) rfl ?_
    refine lv_astore_n hx hb d_L_expand_12 rfl hl (by decide) rfl (fun ls hl => ?_)
    have hl : lv_has ls 4 [(3, .ref x), (0, .ref h), (1, .int k), (2, .ref oo)] := hl
    refine lv_iconst (v := 1) hx hb d_L_expand_13 (by decide) ?_
    exact ex_mono (fun t9 h9 => ex_of_MQ h9) (W.iret (v := 1) hx hb hr (fun t9 ht9 hW => ⟨⟨1, (), rfl, rfl, po_nil hK hW⟩, hS1.F ht9⟩) hS1.2.2 d_L_expand_14)
