set_option maxHeartbeats 4000000 in
set_option maxRecDepth 100000 in
/-- Expansion.letterMark(k) -/
theorem c_E_letterMark (l : Launch) (D : va_G) (sz : Nat) (k : Int32) : Met l y_E_letterMark (Cond.code y_E_letterMark b_E_letterMark 1 (some .int) :: wal) ({ frames := 10, cells := 0, slots := 0, locals := 120 }) (va_Pc [.int k] (pr D sz [] [] (fun _ => True))) (va_Qi (S := Unit) (fun r u => r = 100 + k - 97) (fun u t9 => po D (va_A ([]) sz) ((fun u => []) u) ((fun u => []) u) t9) (va_A ([]) sz)) 0 0 (va_A ([]) sz) := by
  refine Met.ofW (cc := b_E_letterMark) (maxL := 1) (ret := (some .int)) (by decide) rfl ?_
  intro p e s m args below meth c s₁ B hml hv
  obtain ⟨rfl, hsz, hP, hK, hD0, hE⟩ := hv
  have hx := B.exec
  have hb := B.bytes
  have hr := B.returns
  have hts0 := atoms_spec (ws := Cond.code y_E_letterMark b_E_letterMark 1 (some .int) :: wal) B.pre
  have hts : ∀ w ∈ wal, w.before _ s = true := fun w h => hts0 w (List.mem_cons_of_mem _ h)
  have hown : s.vm.findClass rc_E = some m.cls := findClass_of_methodNamed B.named
  have hlocks := B.notSynchronized
  subst hsz
  have hD := hD0.self (sz := s.heap.size)
  generalize hAe : va_A ([]) s.heap.size = A at hD ⊢
  have hA : ∀ q : Nat, s.heap.size ≤ q → A q := fun q h => by rw [← hAe]; exact Or.inr h
  have hS : va_S A s.heap s.heap [] := va_S.rf
  have hl := lv_entry ([.int k]) (n := 1) (Nat.le_of_ble_eq_true rfl)
  rw [lg_entry_eq]
  generalize (lg_sl ([.int k]) ++ List.replicate (1 - (lg_sl ([.int k])).length) Slot.unset).toArray = ls at hl ⊢
  have hl : lv_has ls 1 [(0, .int k)] := hl
  refine lv_bipush (v := 100) hx hb d_E_letterMark_0 (by decide) ?_
  refine lv_iload_n hx hb d_E_letterMark_2 rfl (lv_at hl 0 rfl) ?_
  refine lv_iadd hx hb d_E_letterMark_3 ?_
  refine lv_bipush (v := 97) hx hb d_E_letterMark_4 (by decide) ?_
  refine lv_isub hx hb d_E_letterMark_6 ?_
  have hP9 := hP.sub (ws' := []) [] rfl
  have hD9 := hD.sub (ws' := []) [] (by decide) rfl
  have hK9 := hK.sub (tys' := []) [] rfl
  exact W.iret (v := ((100 + k) - 97)) hx hb hr (fun t9 ht hW => ⟨⟨((100 + k) - 97), (), rfl, rfl, ⟨by rw [ht]; exact hP9, va_K.moved hW.alike hK9, hD9⟩⟩, hS.F ht⟩) hS.2.2 d_E_letterMark_7

set_option maxHeartbeats 4000000 in
set_option maxRecDepth 100000 in
/-- Expansion.numeralMark(k) -/
theorem c_E_numeralMark (l : Launch) (D : va_G) (sz : Nat) (k : Int32) : Met l y_E_numeralMark (Cond.code y_E_numeralMark b_E_numeralMark 1 (some .int) :: wal) ({ frames := 10, cells := 0, slots := 0, locals := 120 }) (va_Pc [.int k] (pr D sz [] [] (fun _ => True))) (va_Qi (S := Unit) (fun r u => r = 10 + k - 48) (fun u t9 => po D (va_A ([]) sz) ((fun u => []) u) ((fun u => []) u) t9) (va_A ([]) sz)) 0 0 (va_A ([]) sz) := by
  refine Met.ofW (cc := b_E_numeralMark) (maxL := 1) (ret := (some .int)) (by decide) rfl ?_
  intro p e s m args below meth c s₁ B hml hv
  obtain ⟨rfl, hsz, hP, hK, hD0, hE⟩ := hv
  have hx := B.exec
  have hb := B.bytes
  have hr := B.returns
  have hts0 := atoms_spec (ws := Cond.code y_E_numeralMark b_E_numeralMark 1 (some .int) :: wal) B.pre
  have hts : ∀ w ∈ wal, w.before _ s = true := fun w h => hts0 w (List.mem_cons_of_mem _ h)
  have hown : s.vm.findClass rc_E = some m.cls := findClass_of_methodNamed B.named
  have hlocks := B.notSynchronized
  subst hsz
  have hD := hD0.self (sz := s.heap.size)
  generalize hAe : va_A ([]) s.heap.size = A at hD ⊢
  have hA : ∀ q : Nat, s.heap.size ≤ q → A q := fun q h => by rw [← hAe]; exact Or.inr h
  have hS : va_S A s.heap s.heap [] := va_S.rf
  have hl := lv_entry ([.int k]) (n := 1) (Nat.le_of_ble_eq_true rfl)
  rw [lg_entry_eq]
  generalize (lg_sl ([.int k]) ++ List.replicate (1 - (lg_sl ([.int k])).length) Slot.unset).toArray = ls at hl ⊢
  have hl : lv_has ls 1 [(0, .int k)] := hl
  refine lv_bipush (v := 10) hx hb d_E_numeralMark_0 (by decide) ?_
  refine lv_iload_n hx hb d_E_numeralMark_2 rfl (lv_at hl 0 rfl) ?_
  refine lv_iadd hx hb d_E_numeralMark_3 ?_
  refine lv_bipush (v := 48) hx hb d_E_numeralMark_4 (by decide) ?_
  refine lv_isub hx hb d_E_numeralMark_6 ?_
  have hP9 := hP.sub (ws' := []) [] rfl
  have hD9 := hD.sub (ws' := []) [] (by decide) rfl
  have hK9 := hK.sub (tys' := []) [] rfl
  exact W.iret (v := ((10 + k) - 48)) hx hb hr (fun t9 ht hW => ⟨⟨((10 + k) - 48), (), rfl, rfl, ⟨by rw [ht]; exact hP9, va_K.moved hW.alike hK9, hD9⟩⟩, hS.F ht⟩) hS.2.2 d_E_numeralMark_7

set_option maxHeartbeats 4000000 in
set_option maxRecDepth 100000 in
/-- Expansion.quotedMark(c0) -/
theorem c_E_quotedMark (l : Launch) (D : va_G) (sz : Nat) (c0 : Nat) (hc0 : c0 < 65536) : Met l y_E_quotedMark (Cond.code y_E_quotedMark b_E_quotedMark 1 (some .int) :: wal) ({ frames := 11, cells := 0, slots := 0, locals := 180 }) (va_Pc [.int (nI c0)] (pr D sz [] [] (cx_W))) (va_Qi (S := Unit) (fun r u => r = e_qm c0) (fun u t9 => po D (va_A ([]) sz) ((fun u => []) u) ((fun u => []) u) t9) (va_A ([]) sz)) 0 0 (va_A ([]) sz) := by
  refine Met.ofW (cc := b_E_quotedMark) (maxL := 1) (ret := (some .int)) (by decide) rfl ?_
  intro p e s m args below meth c s₁ B hml hv
  obtain ⟨rfl, hsz, hP, hK, hD0, hE⟩ := hv
  have hx := B.exec
  have hb := B.bytes
  have hr := B.returns
  have hts0 := atoms_spec (ws := Cond.code y_E_quotedMark b_E_quotedMark 1 (some .int) :: wal) B.pre
  have hts : ∀ w ∈ wal, w.before _ s = true := fun w h => hts0 w (List.mem_cons_of_mem _ h)
  have hown : s.vm.findClass rc_E = some m.cls := findClass_of_methodNamed B.named
  have hlocks := B.notSynchronized
  subst hsz
  have hD := hD0.self (sz := s.heap.size)
  generalize hAe : va_A ([]) s.heap.size = A at hD ⊢
  have hA : ∀ q : Nat, s.heap.size ≤ q → A q := fun q h => by rw [← hAe]; exact Or.inr h
  have hS : va_S A s.heap s.heap [] := va_S.rf
  have hl := lv_entry ([.int (nI c0)]) (n := 1) (Nat.le_of_ble_eq_true rfl)
  rw [lg_entry_eq]
  generalize (lg_sl ([.int (nI c0)]) ++ List.replicate (1 - (lg_sl ([.int (nI c0)])).length) Slot.unset).toArray = ls at hl ⊢
  have hl : lv_has ls 1 [(0, .int (nI c0))] := hl
  refine lv_iload_n hx hb d_E_quotedMark_0 rfl (lv_at hl 0 rfl) ?_
  refine lv_bipush (v := 76) hx hb d_E_quotedMark_1 (by decide) ?_
  refine lv_icmp_ne (tgt := 8) hx hb d_E_quotedMark_3 (by decide) (fun h1 => ?_) (fun h1 => ?_)
  · have g1 : ¬ c0 = 76 := fun q => h1 (by rw [q]; rfl)
    refine lv_iload_n hx hb d_E_quotedMark_8 rfl (lv_at hl 0 rfl) ?_
    refine lv_bipush (v := 73) hx hb d_E_quotedMark_9 (by decide) ?_
    refine lv_icmp_ne (tgt := 17) hx hb d_E_quotedMark_11 (by decide) (fun h2 => ?_) (fun h2 => ?_)
    · have g2 : ¬ c0 = 73 := fun q => h2 (by rw [q]; rfl)
      refine lv_iload_n hx hb d_E_quotedMark_17 rfl (lv_at hl 0 rfl) ?_
      refine lv_bipush (v := 81) hx hb d_E_quotedMark_18 (by decide) ?_
      refine lv_icmp_ne (tgt := 26) hx hb d_E_quotedMark_20 (by decide) (fun h3 => ?_) (fun h3 => ?_)
      · have g3 : ¬ c0 = 81 := fun q => h3 (by rw [q]; rfl)
        refine lv_iload_n hx hb d_E_quotedMark_26 rfl (lv_at hl 0 rfl) ?_
        refine cl_i (wc := []) (wr := []) hP hD hK hS hA [] [] rfl rfl (by decide) (by decide) (va_runSN (As := [.int (nI c0)]) (rest := []) ⟨hx, hb, hml, hown, hts⟩ (c_F_isName l D s.heap.size (nI c0)) (cw_SN hts 1 k_289 k_1 (hE.1 _ k_500 rfl) k_288 (by decide +kernel) ⟨Nat.le_of_ble_eq_true rfl, Nat.le_of_ble_eq_true rfl⟩) (pr_S hP hD hK [] [] (by decide) rfl rfl (fun U hU hW => trivial) (fun U g mk a h => h)) rfl rfl hl.1 rfl (lv_room (Nat.le_of_ble_eq_true rfl)) d_E_quotedMark_27 ⟨by decide, by decide⟩) (fun r2 u H locs h1 hP hD hK hS => ?_)
        have hP : va_P D wcl [] H := hP
        have hD : va_D A [] := hD
        have hK : va_K D wcl [] s := hK
        have h1 : (r2 = 1 ∧ ¬ (nI c0) < 97 ∧ ¬ 122 < (nI c0)) ∨ (r2 = 0 ∧ ((nI c0) < 97 ∨ 122 < (nI c0))) := h1
        have hm := nm_of hc0 h1
        rcases hm with a9 | a9
        · refine lv_if_eq (tgt := 40) hx hb d_E_quotedMark_30 (by decide) (fun h9 => absurd h9 (by rw [a9.1]; decide)) (fun _ => ?_)
          refine lv_iload_n hx hb d_E_quotedMark_33 rfl (lv_at hl 0 rfl) ?_
          refine cl_i (wc := []) (wr := []) hP hD hK hS hA [] [] rfl rfl (by decide) (by decide) (va_runS (As := [.int (nI c0)]) (rest := []) ⟨hx, hb, hml, hown, hts⟩ (c_E_letterMark l D H.size (nI c0)) (cw_S hts 1 k_609 k_6 k_607 k_608 (by decide +kernel) ⟨Nat.le_of_ble_eq_true rfl, Nat.le_of_ble_eq_true rfl⟩) (pr_S hP hD hK [] [] (by decide) rfl rfl (fun U hU hW => trivial) (fun U g mk a h => h)) rfl rfl hl.1 rfl (lv_room (Nat.le_of_ble_eq_true rfl)) d_E_quotedMark_34 ⟨by decide, by decide⟩) (fun r4 u H locs h3 hP hD hK hS => ?_)
          have hP : va_P D wcl [] H := hP
          have hD : va_D A [] := hD
          have hK : va_K D wcl [] s := hK
          have h3 : r4 = 100 + (nI c0) - 97 := h3
          refine lv_goto (tgt := 44) hx hb d_E_quotedMark_37 (by decide) ?_
          have hP9 := hP.sub (ws' := []) [] rfl
          have hD9 := hD.sub (ws' := []) [] (by decide) rfl
          have hK9 := hK.sub (tys' := []) [] rfl
          exact W.iret (v := r4) hx hb hr (fun t9 ht hW => ⟨⟨r4, (), rfl, by rw [h3, e_qm, if_neg g1, if_neg g2, if_neg g3, if_pos a9.2], ⟨by rw [ht]; exact hP9, va_K.moved hW.alike hK9, hD9⟩⟩, hS.F ht⟩) hS.2.2 d_E_quotedMark_44
        · refine lv_if_eq (tgt := 40) hx hb d_E_quotedMark_30 (by decide) (fun _ => ?_) (fun h9 => absurd (a9.1) h9)
          refine lv_iload_n hx hb d_E_quotedMark_40 rfl (lv_at hl 0 rfl) ?_
          refine cl_i (wc := []) (wr := []) hP hD hK hS hA [] [] rfl rfl (by decide) (by decide) (va_runS (As := [.int (nI c0)]) (rest := []) ⟨hx, hb, hml, hown, hts⟩ (c_E_numeralMark l D H.size (nI c0)) (cw_S hts 1 k_620 k_6 k_618 k_619 (by decide +kernel) ⟨Nat.le_of_ble_eq_true rfl, Nat.le_of_ble_eq_true rfl⟩) (pr_S hP hD hK [] [] (by decide) rfl rfl (fun U hU hW => trivial) (fun U g mk a h => h)) rfl rfl hl.1 rfl (lv_room (Nat.le_of_ble_eq_true rfl)) d_E_quotedMark_41 ⟨by decide, by decide⟩) (fun r6 u H locs h5 hP hD hK hS => ?_)
          have hP : va_P D wcl [] H := hP
          have hD : va_D A [] := hD
          have hK : va_K D wcl [] s := hK
          have h5 : r6 = 10 + (nI c0) - 48 := h5
          have hP9 := hP.sub (ws' := []) [] rfl
          have hD9 := hD.sub (ws' := []) [] (by decide) rfl
          have hK9 := hK.sub (tys' := []) [] rfl
          exact W.iret (v := r6) hx hb hr (fun t9 ht hW => ⟨⟨r6, (), rfl, by rw [h5, e_qm, if_neg g1, if_neg g2, if_neg g3, if_neg a9.2], ⟨by rw [ht]; exact hP9, va_K.moved hW.alike hK9, hD9⟩⟩, hS.F ht⟩) hS.2.2 d_E_quotedMark_44
      · have g3 : c0 = 81 := (ceq hc0 (by decide)).mp h3
        refine lv_bipush (v := -3) hx hb d_E_quotedMark_23 (by decide) ?_
        have hP9 := hP.sub (ws' := []) [] rfl
        have hD9 := hD.sub (ws' := []) [] (by decide) rfl
        have hK9 := hK.sub (tys' := []) [] rfl
        exact W.iret (v := (-3)) hx hb hr (fun t9 ht hW => ⟨⟨(-3), (), rfl, by rw [e_qm, if_neg g1, if_neg g2, if_pos g3], ⟨by rw [ht]; exact hP9, va_K.moved hW.alike hK9, hD9⟩⟩, hS.F ht⟩) hS.2.2 d_E_quotedMark_25
    · have g2 : c0 = 73 := (ceq hc0 (by decide)).mp h2
      refine lv_bipush (v := -2) hx hb d_E_quotedMark_14 (by decide) ?_
      have hP9 := hP.sub (ws' := []) [] rfl
      have hD9 := hD.sub (ws' := []) [] (by decide) rfl
      have hK9 := hK.sub (tys' := []) [] rfl
      exact W.iret (v := (-2)) hx hb hr (fun t9 ht hW => ⟨⟨(-2), (), rfl, by rw [e_qm, if_neg g1, if_pos g2], ⟨by rw [ht]; exact hP9, va_K.moved hW.alike hK9, hD9⟩⟩, hS.F ht⟩) hS.2.2 d_E_quotedMark_16
  · have g1 : c0 = 76 := (ceq hc0 (by decide)).mp h1
    refine lv_iconst (v := -1) hx hb d_E_quotedMark_6 (by decide) ?_
    have hP9 := hP.sub (ws' := []) [] rfl
    have hD9 := hD.sub (ws' := []) [] (by decide) rfl
    have hK9 := hK.sub (tys' := []) [] rfl
    exact W.iret (v := (-1)) hx hb hr (fun t9 ht hW => ⟨⟨(-1), (), rfl, by rw [e_qm, if_pos g1], ⟨by rw [ht]; exact hP9, va_K.moved hW.alike hK9, hD9⟩⟩, hS.F ht⟩) hS.2.2 d_E_quotedMark_7

set_option maxHeartbeats 4000000 in
set_option maxRecDepth 100000 in
/-- MacroForge.replaced() -/
theorem c_F_replaced (l : Launch) (D : va_G) (sz : Nat) (f0 : Nat) (dd : Nat) (bk : Nat) (h : Nat) (tt : Nat) (mm : Nat) (er : Nat) (bla : Nat) (bsa : Nat) (bkv : Value) (bd : Nat) (fu : Int32) (md : Nat) : Met l y_F_replaced (Cond.code y_F_replaced b_F_replaced 1 (some .int) :: wal) ({ frames := 11, cells := 0, slots := 0, locals := 180 }) (va_Pc [.ref f0] (pr D sz [(f0, .inr (7, [.ref dd, .ref bk, .ref h])), (h, .inr (1, [.ref tt, .ref mm, .ref er, .ref bla, .ref bsa, bkv, .int (nI bd), .int fu, .int (nI md)]))] [] (cx_W))) (va_Qi (S := Unit) (fun r u => r = nI md) (fun u t9 => po D (va_A ([(f0, .inr (7, [.ref dd, .ref bk, .ref h])), (h, .inr (1, [.ref tt, .ref mm, .ref er, .ref bla, .ref bsa, bkv, .int (nI bd), .int fu, .int (nI md)]))]) sz) ((fun u => [(f0, .inr (7, [.ref dd, .ref bk, .ref h])), (h, .inr (1, [.ref tt, .ref mm, .ref er, .ref bla, .ref bsa, bkv, .int (nI bd), .int fu, .int (nI md)]))]) u) ((fun u => []) u) t9) (va_A ([(f0, .inr (7, [.ref dd, .ref bk, .ref h])), (h, .inr (1, [.ref tt, .ref mm, .ref er, .ref bla, .ref bsa, bkv, .int (nI bd), .int fu, .int (nI md)]))]) sz)) 0 0 (va_A ([(f0, .inr (7, [.ref dd, .ref bk, .ref h])), (h, .inr (1, [.ref tt, .ref mm, .ref er, .ref bla, .ref bsa, bkv, .int (nI bd), .int fu, .int (nI md)]))]) sz) := by
  refine Met.ofW (cc := b_F_replaced) (maxL := 1) (ret := (some .int)) (by decide) rfl ?_
  intro p e s m args below meth c s₁ B hml hv
  obtain ⟨rfl, hsz, hP, hK, hD0, hE⟩ := hv
  have hx := B.exec
  have hb := B.bytes
  have hr := B.returns
  have hts0 := atoms_spec (ws := Cond.code y_F_replaced b_F_replaced 1 (some .int) :: wal) B.pre
  have hts : ∀ w ∈ wal, w.before _ s = true := fun w h => hts0 w (List.mem_cons_of_mem _ h)
  have hown : s.vm.findClass rc_F = some m.cls := findClass_of_methodNamed B.named
  have hlocks := B.notSynchronized
  subst hsz
  have hD := hD0.self (sz := s.heap.size)
  generalize hAe : va_A ([(f0, .inr (7, [.ref dd, .ref bk, .ref h])), (h, .inr (1, [.ref tt, .ref mm, .ref er, .ref bla, .ref bsa, bkv, .int (nI bd), .int fu, .int (nI md)]))]) s.heap.size = A at hD ⊢
  have hA : ∀ q : Nat, s.heap.size ≤ q → A q := fun q h => by rw [← hAe]; exact Or.inr h
  have hS : va_S A s.heap s.heap [] := va_S.rf
  have hl := lv_entry ([.ref f0]) (n := 1) (Nat.le_of_ble_eq_true rfl)
  rw [lg_entry_eq]
  generalize (lg_sl ([.ref f0]) ++ List.replicate (1 - (lg_sl ([.ref f0])).length) Slot.unset).toArray = ls at hl ⊢
  have hl : lv_has ls 1 [(0, .ref f0)] := hl
  refine lv_aload_n hx hb d_F_replaced_0 rfl (lv_at hl 0 rfl) ?_
  refine va_get (D := D) (ci := 7) (v := .ref h) (C := rc_F) (T := ft_F) (N := 3) hx hb hts in_F hown hK hP 0 rfl rfl 2 (by decide) (hts _ k_184) (fun _ h9 => h9) rfl d_F_replaced_1 ?_
  refine cl_i (wc := [(h, .inr (1, [.ref tt, .ref mm, .ref er, .ref bla, .ref bsa, bkv, .int (nI bd), .int fu, .int (nI md)]))]) (wr := [(f0, .inr (7, [.ref dd, .ref bk, .ref h]))]) hP hD hK hS hA [1] [0] rfl rfl (by decide) (by decide) (va_runV (As := []) (rest := []) ⟨hx, hb, hml, hown, hts⟩ (c_E_made l D s.heap.size h tt mm er bla bsa bkv bd fu md) (cw_V hts 0 k_231 k_6 k_228 k_229 k_230 (by decide +kernel) ⟨Nat.le_of_ble_eq_true rfl, Nat.le_of_ble_eq_true rfl⟩) (pr_V hP hD hK [1] [] (by decide) rfl rfl (fun U hU hW => trivial) (fun U g mk a h => h) (q0 := 1) (ci := 1) rfl rfl) rfl rfl hl.1 rfl (lv_room (Nat.le_of_ble_eq_true rfl)) d_F_replaced_4 ⟨by decide, by decide⟩) (fun r2 u H locs h1 hP hD hK hS => ?_)
  have hP : va_P D wcl [(f0, .inr (7, [.ref dd, .ref bk, .ref h])), (h, .inr (1, [.ref tt, .ref mm, .ref er, .ref bla, .ref bsa, bkv, .int (nI bd), .int fu, .int (nI md)]))] H := hP
  have hD : va_D A [(f0, .inr (7, [.ref dd, .ref bk, .ref h])), (h, .inr (1, [.ref tt, .ref mm, .ref er, .ref bla, .ref bsa, bkv, .int (nI bd), .int fu, .int (nI md)]))] := hD
  have hK : va_K D wcl [] s := hK
  have h1 : r2 = nI md := h1
  have hP9 := hP.sub (ws' := [(f0, .inr (7, [.ref dd, .ref bk, .ref h])), (h, .inr (1, [.ref tt, .ref mm, .ref er, .ref bla, .ref bsa, bkv, .int (nI bd), .int fu, .int (nI md)]))]) [0, 1] rfl
  have hD9 := hD.sub (ws' := [(f0, .inr (7, [.ref dd, .ref bk, .ref h])), (h, .inr (1, [.ref tt, .ref mm, .ref er, .ref bla, .ref bsa, bkv, .int (nI bd), .int fu, .int (nI md)]))]) [0, 1] (by decide) rfl
  have hK9 := hK.sub (tys' := []) [] rfl
  exact W.iret (v := r2) hx hb hr (fun t9 ht hW => ⟨⟨r2, (), rfl, h1, ⟨by rw [ht]; exact hP9, va_K.moved hW.alike hK9, hD9⟩⟩, hS.F ht⟩) hS.2.2 d_F_replaced_7

set_option maxHeartbeats 4000000 in
set_option maxRecDepth 100000 in
/-- MacroForge.mark -/
theorem c_F_mark (l : Launch) (D : va_G) (sz : Nat) (f0 : Nat) (dd : Nat) (bk : Nat) (h : Nat) (tt : Nat) (mm : Nat) (er : Nat) (bla : Nat) (bsa : Nat) (bkv : Value) (bd : Nat) (fu : Int32) (md : Nat) (ma : Nat) (cm : ClassId) (mk : Nat → Int32) (fd : Int32) (n : Nat) (k : Int32) (hn : n ≤ 150) : Met l y_F_mark (Cond.code y_F_mark b_F_mark 2 (some .int) :: wal) ({ frames := 11, cells := 0, slots := 0, locals := 180 }) (va_Pc [.ref f0, .int k] (pr D sz [(f0, .inr (7, [.ref dd, .ref bk, .ref h])), (h, .inr (1, [.ref tt, .ref mm, .ref er, .ref bla, .ref bsa, bkv, .int (nI bd), .int fu, .int (nI md)])), (er, .inr (3, [.ref ma, .int fd, .int (nI n)])), (ma, .inl (cm, 150, .inl mk))] [(cm, .int)] (cx_W))) (va_Qi (S := Unit) (fun r u => r = s_at mk n k) (fun u t9 => po D (va_A ([(f0, .inr (7, [.ref dd, .ref bk, .ref h])), (h, .inr (1, [.ref tt, .ref mm, .ref er, .ref bla, .ref bsa, bkv, .int (nI bd), .int fu, .int (nI md)])), (er, .inr (3, [.ref ma, .int fd, .int (nI n)])), (ma, .inl (cm, 150, .inl mk))]) sz) ((fun u => [(f0, .inr (7, [.ref dd, .ref bk, .ref h])), (h, .inr (1, [.ref tt, .ref mm, .ref er, .ref bla, .ref bsa, bkv, .int (nI bd), .int fu, .int (nI md)])), (er, .inr (3, [.ref ma, .int fd, .int (nI n)])), (ma, .inl (cm, 150, .inl mk))]) u) ((fun u => [(cm, .int)]) u) t9) (va_A ([(f0, .inr (7, [.ref dd, .ref bk, .ref h])), (h, .inr (1, [.ref tt, .ref mm, .ref er, .ref bla, .ref bsa, bkv, .int (nI bd), .int fu, .int (nI md)])), (er, .inr (3, [.ref ma, .int fd, .int (nI n)])), (ma, .inl (cm, 150, .inl mk))]) sz)) 0 0 (va_A ([(f0, .inr (7, [.ref dd, .ref bk, .ref h])), (h, .inr (1, [.ref tt, .ref mm, .ref er, .ref bla, .ref bsa, bkv, .int (nI bd), .int fu, .int (nI md)])), (er, .inr (3, [.ref ma, .int fd, .int (nI n)])), (ma, .inl (cm, 150, .inl mk))]) sz) := by
  refine Met.ofW (cc := b_F_mark) (maxL := 2) (ret := (some .int)) (by decide) rfl ?_
  intro p e s m args below meth c s₁ B hml hv
  obtain ⟨rfl, hsz, hP, hK, hD0, hE⟩ := hv
  have hx := B.exec
  have hb := B.bytes
  have hr := B.returns
  have hts0 := atoms_spec (ws := Cond.code y_F_mark b_F_mark 2 (some .int) :: wal) B.pre
  have hts : ∀ w ∈ wal, w.before _ s = true := fun w h => hts0 w (List.mem_cons_of_mem _ h)
  have hown : s.vm.findClass rc_F = some m.cls := findClass_of_methodNamed B.named
  have hlocks := B.notSynchronized
  subst hsz
  have hD := hD0.self (sz := s.heap.size)
  generalize hAe : va_A ([(f0, .inr (7, [.ref dd, .ref bk, .ref h])), (h, .inr (1, [.ref tt, .ref mm, .ref er, .ref bla, .ref bsa, bkv, .int (nI bd), .int fu, .int (nI md)])), (er, .inr (3, [.ref ma, .int fd, .int (nI n)])), (ma, .inl (cm, 150, .inl mk))]) s.heap.size = A at hD ⊢
  have hA : ∀ q : Nat, s.heap.size ≤ q → A q := fun q h => by rw [← hAe]; exact Or.inr h
  have hS : va_S A s.heap s.heap [] := va_S.rf
  have hl := lv_entry ([.ref f0, .int k]) (n := 2) (Nat.le_of_ble_eq_true rfl)
  rw [lg_entry_eq]
  generalize (lg_sl ([.ref f0, .int k]) ++ List.replicate (2 - (lg_sl ([.ref f0, .int k])).length) Slot.unset).toArray = ls at hl ⊢
  have hl : lv_has ls 2 [(0, .ref f0), (1, .int k)] := hl
  refine lv_aload_n hx hb d_F_mark_0 rfl (lv_at hl 0 rfl) ?_
  refine va_get (D := D) (ci := 7) (v := .ref h) (C := rc_F) (T := ft_F) (N := 3) hx hb hts in_F hown hK hP 0 rfl rfl 2 (by decide) (hts _ k_184) (fun _ h9 => h9) rfl d_F_mark_1 ?_
  refine cl_r (ra := er) (wc := [(h, .inr (1, [.ref tt, .ref mm, .ref er, .ref bla, .ref bsa, bkv, .int (nI bd), .int fu, .int (nI md)]))]) (wr := [(f0, .inr (7, [.ref dd, .ref bk, .ref h])), (er, .inr (3, [.ref ma, .int fd, .int (nI n)])), (ma, .inl (cm, 150, .inl mk))]) hP hD hK hS hA [1] [0, 2, 3] rfl rfl (by decide) (by decide) (va_runV (As := []) (rest := []) ⟨hx, hb, hml, hown, hts⟩ (c_E_result l D s.heap.size h tt mm er bla bsa bkv bd fu md) (cw_V hts 0 k_239 k_6 k_236 k_237 k_238 (by decide +kernel) ⟨Nat.le_of_ble_eq_true rfl, Nat.le_of_ble_eq_true rfl⟩) (pr_V hP hD hK [1] [] (by decide) rfl rfl (fun U hU hW => trivial) (fun U g mk a h => h) (q0 := 1) (ci := 1) rfl rfl) rfl rfl hl.1 rfl (lv_room (Nat.le_of_ble_eq_true rfl)) d_F_mark_4 ⟨by decide, by decide⟩) (fun u H locs h1 hP hD hK hS => ?_)
  have hP : va_P D wcl [(f0, .inr (7, [.ref dd, .ref bk, .ref h])), (er, .inr (3, [.ref ma, .int fd, .int (nI n)])), (ma, .inl (cm, 150, .inl mk)), (h, .inr (1, [.ref tt, .ref mm, .ref er, .ref bla, .ref bsa, bkv, .int (nI bd), .int fu, .int (nI md)]))] H := hP
  have hD : va_D A [(f0, .inr (7, [.ref dd, .ref bk, .ref h])), (er, .inr (3, [.ref ma, .int fd, .int (nI n)])), (ma, .inl (cm, 150, .inl mk)), (h, .inr (1, [.ref tt, .ref mm, .ref er, .ref bla, .ref bsa, bkv, .int (nI bd), .int fu, .int (nI md)]))] := hD
  have hK : va_K D wcl [(cm, .int)] s := hK
  refine lv_iload_n hx hb d_F_mark_7 rfl (lv_at hl 1 rfl) ?_
  refine cl_i (wc := [(er, .inr (3, [.ref ma, .int fd, .int (nI n)])), (ma, .inl (cm, 150, .inl mk))]) (wr := [(f0, .inr (7, [.ref dd, .ref bk, .ref h])), (h, .inr (1, [.ref tt, .ref mm, .ref er, .ref bla, .ref bsa, bkv, .int (nI bd), .int fu, .int (nI md)]))]) hP hD hK hS hA [1, 2] [0, 3] rfl rfl (by decide) (by decide) (va_runV (As := [.int k]) (rest := []) ⟨hx, hb, hml, hown, hts⟩ (c_S_at l D H.size er ma cm mk fd n k hn) (cw_V hts 1 k_243 k_8 k_240 k_241 k_242 (by decide +kernel) ⟨Nat.le_of_ble_eq_true rfl, Nat.le_of_ble_eq_true rfl⟩) (pr_V hP hD hK [1, 2] [0] (by decide) rfl rfl (fun U hU hW => trivial) (fun U g mk a h => h) (q0 := 1) (ci := 3) rfl rfl) rfl rfl hl.1 rfl (lv_room (Nat.le_of_ble_eq_true rfl)) d_F_mark_8 ⟨by decide, by decide⟩) (fun r3 u H locs h2 hP hD hK hS => ?_)
  have hP : va_P D wcl [(f0, .inr (7, [.ref dd, .ref bk, .ref h])), (h, .inr (1, [.ref tt, .ref mm, .ref er, .ref bla, .ref bsa, bkv, .int (nI bd), .int fu, .int (nI md)])), (er, .inr (3, [.ref ma, .int fd, .int (nI n)])), (ma, .inl (cm, 150, .inl mk))] H := hP
  have hD : va_D A [(f0, .inr (7, [.ref dd, .ref bk, .ref h])), (h, .inr (1, [.ref tt, .ref mm, .ref er, .ref bla, .ref bsa, bkv, .int (nI bd), .int fu, .int (nI md)])), (er, .inr (3, [.ref ma, .int fd, .int (nI n)])), (ma, .inl (cm, 150, .inl mk))] := hD
  have hK : va_K D wcl [(cm, .int), (cm, .int)] s := hK
  have h2 : r3 = s_at mk n k := h2
  have hP9 := hP.sub (ws' := [(f0, .inr (7, [.ref dd, .ref bk, .ref h])), (h, .inr (1, [.ref tt, .ref mm, .ref er, .ref bla, .ref bsa, bkv, .int (nI bd), .int fu, .int (nI md)])), (er, .inr (3, [.ref ma, .int fd, .int (nI n)])), (ma, .inl (cm, 150, .inl mk))]) [0, 1, 2, 3] rfl
  have hD9 := hD.sub (ws' := [(f0, .inr (7, [.ref dd, .ref bk, .ref h])), (h, .inr (1, [.ref tt, .ref mm, .ref er, .ref bla, .ref bsa, bkv, .int (nI bd), .int fu, .int (nI md)])), (er, .inr (3, [.ref ma, .int fd, .int (nI n)])), (ma, .inl (cm, 150, .inl mk))]) [0, 1, 2, 3] (by decide) rfl
  have hK9 := hK.sub (tys' := [(cm, .int)]) [0] rfl
  exact W.iret (v := r3) hx hb hr (fun t9 ht hW => ⟨⟨r3, (), rfl, h2, ⟨by rw [ht]; exact hP9, va_K.moved hW.alike hK9, hD9⟩⟩, hS.F ht⟩) hS.2.2 d_F_mark_11

set_option maxHeartbeats 4000000 in
set_option maxRecDepth 100000 in
/-- MacroForge.depth -/
theorem c_F_depth (l : Launch) (D : va_G) (sz : Nat) (f0 : Nat) (dd : Nat) (bk : Nat) (h : Nat) (tt : Nat) (mm : Nat) (er : Nat) (bla : Nat) (bsa : Nat) (bkv : Value) (bd : Nat) (fu : Int32) (md : Nat) (ma : Nat) (cm : ClassId) (mk : Nat → Int32) (fd : Int32) (n : Nat) (hn : n ≤ 150) : Met l y_F_depth (Cond.code y_F_depth b_F_depth 1 (some .int) :: wal) ({ frames := 11, cells := 0, slots := 0, locals := 180 }) (va_Pc [.ref f0] (pr D sz [(f0, .inr (7, [.ref dd, .ref bk, .ref h])), (h, .inr (1, [.ref tt, .ref mm, .ref er, .ref bla, .ref bsa, bkv, .int (nI bd), .int fu, .int (nI md)])), (er, .inr (3, [.ref ma, .int fd, .int (nI n)])), (ma, .inl (cm, 150, .inl mk))] [(cm, .int)] (cx_W))) (va_Qi (S := Unit) (fun r u => r = s_dp mk n 0 0 0) (fun u t9 => po D (va_A ([(f0, .inr (7, [.ref dd, .ref bk, .ref h])), (h, .inr (1, [.ref tt, .ref mm, .ref er, .ref bla, .ref bsa, bkv, .int (nI bd), .int fu, .int (nI md)])), (er, .inr (3, [.ref ma, .int fd, .int (nI n)])), (ma, .inl (cm, 150, .inl mk))]) sz) ((fun u => [(f0, .inr (7, [.ref dd, .ref bk, .ref h])), (h, .inr (1, [.ref tt, .ref mm, .ref er, .ref bla, .ref bsa, bkv, .int (nI bd), .int fu, .int (nI md)])), (er, .inr (3, [.ref ma, .int fd, .int (nI n)])), (ma, .inl (cm, 150, .inl mk))]) u) ((fun u => [(cm, .int)]) u) t9) (va_A ([(f0, .inr (7, [.ref dd, .ref bk, .ref h])), (h, .inr (1, [.ref tt, .ref mm, .ref er, .ref bla, .ref bsa, bkv, .int (nI bd), .int fu, .int (nI md)])), (er, .inr (3, [.ref ma, .int fd, .int (nI n)])), (ma, .inl (cm, 150, .inl mk))]) sz)) 0 0 (va_A ([(f0, .inr (7, [.ref dd, .ref bk, .ref h])), (h, .inr (1, [.ref tt, .ref mm, .ref er, .ref bla, .ref bsa, bkv, .int (nI bd), .int fu, .int (nI md)])), (er, .inr (3, [.ref ma, .int fd, .int (nI n)])), (ma, .inl (cm, 150, .inl mk))]) sz) := by
  refine Met.ofW (cc := b_F_depth) (maxL := 1) (ret := (some .int)) (by decide) rfl ?_
  intro p e s m args below meth c s₁ B hml hv
  obtain ⟨rfl, hsz, hP, hK, hD0, hE⟩ := hv
  have hx := B.exec
  have hb := B.bytes
  have hr := B.returns
  have hts0 := atoms_spec (ws := Cond.code y_F_depth b_F_depth 1 (some .int) :: wal) B.pre
  have hts : ∀ w ∈ wal, w.before _ s = true := fun w h => hts0 w (List.mem_cons_of_mem _ h)
  have hown : s.vm.findClass rc_F = some m.cls := findClass_of_methodNamed B.named
  have hlocks := B.notSynchronized
  subst hsz
  have hD := hD0.self (sz := s.heap.size)
  generalize hAe : va_A ([(f0, .inr (7, [.ref dd, .ref bk, .ref h])), (h, .inr (1, [.ref tt, .ref mm, .ref er, .ref bla, .ref bsa, bkv, .int (nI bd), .int fu, .int (nI md)])), (er, .inr (3, [.ref ma, .int fd, .int (nI n)])), (ma, .inl (cm, 150, .inl mk))]) s.heap.size = A at hD ⊢
  have hA : ∀ q : Nat, s.heap.size ≤ q → A q := fun q h => by rw [← hAe]; exact Or.inr h
  have hS : va_S A s.heap s.heap [] := va_S.rf
  have hl := lv_entry ([.ref f0]) (n := 1) (Nat.le_of_ble_eq_true rfl)
  rw [lg_entry_eq]
  generalize (lg_sl ([.ref f0]) ++ List.replicate (1 - (lg_sl ([.ref f0])).length) Slot.unset).toArray = ls at hl ⊢
  have hl : lv_has ls 1 [(0, .ref f0)] := hl
  refine lv_aload_n hx hb d_F_depth_0 rfl (lv_at hl 0 rfl) ?_
  refine va_get (D := D) (ci := 7) (v := .ref h) (C := rc_F) (T := ft_F) (N := 3) hx hb hts in_F hown hK hP 0 rfl rfl 2 (by decide) (hts _ k_184) (fun _ h9 => h9) rfl d_F_depth_1 ?_
  refine cl_r (ra := er) (wc := [(h, .inr (1, [.ref tt, .ref mm, .ref er, .ref bla, .ref bsa, bkv, .int (nI bd), .int fu, .int (nI md)]))]) (wr := [(f0, .inr (7, [.ref dd, .ref bk, .ref h])), (er, .inr (3, [.ref ma, .int fd, .int (nI n)])), (ma, .inl (cm, 150, .inl mk))]) hP hD hK hS hA [1] [0, 2, 3] rfl rfl (by decide) (by decide) (va_runV (As := []) (rest := []) ⟨hx, hb, hml, hown, hts⟩ (c_E_result l D s.heap.size h tt mm er bla bsa bkv bd fu md) (cw_V hts 0 k_239 k_6 k_236 k_237 k_238 (by decide +kernel) ⟨Nat.le_of_ble_eq_true rfl, Nat.le_of_ble_eq_true rfl⟩) (pr_V hP hD hK [1] [] (by decide) rfl rfl (fun U hU hW => trivial) (fun U g mk a h => h) (q0 := 1) (ci := 1) rfl rfl) rfl rfl hl.1 rfl (lv_room (Nat.le_of_ble_eq_true rfl)) d_F_depth_4 ⟨by decide, by decide⟩) (fun u H locs h1 hP hD hK hS => ?_)
  have hP : va_P D wcl [(f0, .inr (7, [.ref dd, .ref bk, .ref h])), (er, .inr (3, [.ref ma, .int fd, .int (nI n)])), (ma, .inl (cm, 150, .inl mk)), (h, .inr (1, [.ref tt, .ref mm, .ref er, .ref bla, .ref bsa, bkv, .int (nI bd), .int fu, .int (nI md)]))] H := hP
  have hD : va_D A [(f0, .inr (7, [.ref dd, .ref bk, .ref h])), (er, .inr (3, [.ref ma, .int fd, .int (nI n)])), (ma, .inl (cm, 150, .inl mk)), (h, .inr (1, [.ref tt, .ref mm, .ref er, .ref bla, .ref bsa, bkv, .int (nI bd), .int fu, .int (nI md)]))] := hD
  have hK : va_K D wcl [(cm, .int)] s := hK
  refine cl_i (wc := [(er, .inr (3, [.ref ma, .int fd, .int (nI n)])), (ma, .inl (cm, 150, .inl mk))]) (wr := [(f0, .inr (7, [.ref dd, .ref bk, .ref h])), (h, .inr (1, [.ref tt, .ref mm, .ref er, .ref bla, .ref bsa, bkv, .int (nI bd), .int fu, .int (nI md)]))]) hP hD hK hS hA [1, 2] [0, 3] rfl rfl (by decide) (by decide) (va_runV (As := []) (rest := []) ⟨hx, hb, hml, hown, hts⟩ (c_S_deepest l D H.size er ma cm mk fd n hn) (cw_V hts 0 k_251 k_8 k_248 k_249 k_250 (by decide +kernel) ⟨Nat.le_of_ble_eq_true rfl, Nat.le_of_ble_eq_true rfl⟩) (pr_V hP hD hK [1, 2] [0] (by decide) rfl rfl (fun U hU hW => trivial) (fun U g mk a h => h) (q0 := 1) (ci := 3) rfl rfl) rfl rfl hl.1 rfl (lv_room (Nat.le_of_ble_eq_true rfl)) d_F_depth_7 ⟨by decide, by decide⟩) (fun r3 u H locs h2 hP hD hK hS => ?_)
  have hP : va_P D wcl [(f0, .inr (7, [.ref dd, .ref bk, .ref h])), (h, .inr (1, [.ref tt, .ref mm, .ref er, .ref bla, .ref bsa, bkv, .int (nI bd), .int fu, .int (nI md)])), (er, .inr (3, [.ref ma, .int fd, .int (nI n)])), (ma, .inl (cm, 150, .inl mk))] H := hP
  have hD : va_D A [(f0, .inr (7, [.ref dd, .ref bk, .ref h])), (h, .inr (1, [.ref tt, .ref mm, .ref er, .ref bla, .ref bsa, bkv, .int (nI bd), .int fu, .int (nI md)])), (er, .inr (3, [.ref ma, .int fd, .int (nI n)])), (ma, .inl (cm, 150, .inl mk))] := hD
  have hK : va_K D wcl [(cm, .int), (cm, .int)] s := hK
  have h2 : r3 = s_dp mk n 0 0 0 := h2
  have hP9 := hP.sub (ws' := [(f0, .inr (7, [.ref dd, .ref bk, .ref h])), (h, .inr (1, [.ref tt, .ref mm, .ref er, .ref bla, .ref bsa, bkv, .int (nI bd), .int fu, .int (nI md)])), (er, .inr (3, [.ref ma, .int fd, .int (nI n)])), (ma, .inl (cm, 150, .inl mk))]) [0, 1, 2, 3] rfl
  have hD9 := hD.sub (ws' := [(f0, .inr (7, [.ref dd, .ref bk, .ref h])), (h, .inr (1, [.ref tt, .ref mm, .ref er, .ref bla, .ref bsa, bkv, .int (nI bd), .int fu, .int (nI md)])), (er, .inr (3, [.ref ma, .int fd, .int (nI n)])), (ma, .inl (cm, 150, .inl mk))]) [0, 1, 2, 3] (by decide) rfl
  have hK9 := hK.sub (tys' := [(cm, .int)]) [0] rfl
  exact W.iret (v := r3) hx hb hr (fun t9 ht hW => ⟨⟨r3, (), rfl, h2, ⟨by rw [ht]; exact hP9, va_K.moved hW.alike hK9, hD9⟩⟩, hS.F ht⟩) hS.2.2 d_F_depth_10

set_option maxHeartbeats 4000000 in
set_option maxRecDepth 100000 in
/-- MacroForge.forget(c0) -/
theorem c_F_forget (l : Launch) (D : va_G) (sz : Nat) (f0 : Nat) (dd : Nat) (ee : Nat) (h : Nat) (ba : Nat) (cb : ClassId) (bf : Nat → Option Nat) (ca : Nat → ClassId) (ck : ClassId) (rt : Nat → RSt) (n : Nat) (c0 : Nat) (hbf : ∀ j, j < 13 → bf j = some (rt j).1) (hok : ∀ j, j < 13 → r_ok (rt j)) (hn : n ≤ 13) (hc0 : c0 < 65536) : Met l y_F_forget (Cond.code y_F_forget b_F_forget 2 (some .int) :: wal) ({ frames := 13, cells := 0, slots := 0, locals := 300 }) (va_Pc [.ref f0, .int (nI c0)] (pr D sz (([(f0, .inr (7, [.ref dd, .ref h, .ref ee])), (h, .inr (5, [.ref ba, .int (nI n)])), (ba, .inl (cb, 13, .inr (.inr (.inr (.inr bf)))))] : va_W) ++ w_al 13 (fun j => r_cl ca ck (rt j))) [(cb, .object rc_R), ((ca 0), .char), ((ca 1), .int), ((ca 2), .int), ((ca 3), .int), ((ca 4), .boolean), ((ca 5), .int), (ck, .int)] (cx_W))) (va_Qi (S := (Nat → Option Nat) × (Nat → RSt) × Nat) (fun r u => r = nI (n - u.2.2) ∧ u.2.2 ≤ n ∧ r_dr c0 n 0 0 rt = (u.2.1, u.2.2) ∧ (∀ j, j < 13 → u.1 j = some (u.2.1 j).1) ∧ (∀ j, j < 13 → r_ok (u.2.1 j))) (fun u t9 => po D (va_A (([(f0, .inr (7, [.ref dd, .ref h, .ref ee])), (h, .inr (5, [.ref ba, .int (nI n)])), (ba, .inl (cb, 13, .inr (.inr (.inr (.inr bf)))))] : va_W) ++ w_al 13 (fun j => r_cl ca ck (rt j))) sz) ((fun u => (([(f0, .inr (7, [.ref dd, .ref h, .ref ee])), (h, .inr (5, [.ref ba, .int (nI u.2.2)])), (ba, .inl (cb, 13, .inr (.inr (.inr (.inr u.1)))))] : va_W) ++ w_al 13 (fun j => r_cl ca ck (u.2.1 j)))) u) ((fun u => [(cb, .object rc_R), ((ca 0), .char), ((ca 1), .int), ((ca 2), .int), ((ca 3), .int), ((ca 4), .boolean), ((ca 5), .int), (ck, .int)]) u) t9) (va_A (([(f0, .inr (7, [.ref dd, .ref h, .ref ee])), (h, .inr (5, [.ref ba, .int (nI n)])), (ba, .inl (cb, 13, .inr (.inr (.inr (.inr bf)))))] : va_W) ++ w_al 13 (fun j => r_cl ca ck (rt j))) sz)) 0 0 (va_A (([(f0, .inr (7, [.ref dd, .ref h, .ref ee])), (h, .inr (5, [.ref ba, .int (nI n)])), (ba, .inl (cb, 13, .inr (.inr (.inr (.inr bf)))))] : va_W) ++ w_al 13 (fun j => r_cl ca ck (rt j))) sz) := by
  refine Met.ofW (cc := b_F_forget) (maxL := 2) (ret := (some .int)) (by decide) rfl ?_
  intro p e s m args below meth c s₁ B hml hv
  obtain ⟨rfl, hsz, hP, hK, hD0, hE⟩ := hv
  have hx := B.exec
  have hb := B.bytes
  have hr := B.returns
  have hts0 := atoms_spec (ws := Cond.code y_F_forget b_F_forget 2 (some .int) :: wal) B.pre
  have hts : ∀ w ∈ wal, w.before _ s = true := fun w h => hts0 w (List.mem_cons_of_mem _ h)
  have hown : s.vm.findClass rc_F = some m.cls := findClass_of_methodNamed B.named
  have hlocks := B.notSynchronized
  subst hsz
  have hD := hD0.self (sz := s.heap.size)
  generalize hAe : va_A (([(f0, .inr (7, [.ref dd, .ref h, .ref ee])), (h, .inr (5, [.ref ba, .int (nI n)])), (ba, .inl (cb, 13, .inr (.inr (.inr (.inr bf)))))] : va_W) ++ w_al 13 (fun j => r_cl ca ck (rt j))) s.heap.size = A at hD ⊢
  have hA : ∀ q : Nat, s.heap.size ≤ q → A q := fun q h => by rw [← hAe]; exact Or.inr h
  have hS : va_S A s.heap s.heap [] := va_S.rf
  have hl := lv_entry ([.ref f0, .int (nI c0)]) (n := 2) (Nat.le_of_ble_eq_true rfl)
  rw [lg_entry_eq]
  generalize (lg_sl ([.ref f0, .int (nI c0)]) ++ List.replicate (2 - (lg_sl ([.ref f0, .int (nI c0)])).length) Slot.unset).toArray = ls at hl ⊢
  have hl : lv_has ls 2 [(0, .ref f0), (1, .int (nI c0))] := hl
  refine lv_aload_n hx hb d_F_forget_0 rfl (lv_at hl 0 rfl) ?_
  refine va_get (D := D) (ci := 7) (v := .ref h) (C := rc_F) (T := ft_F) (N := 3) hx hb hts in_F hown hK hP 0 rfl rfl 1 (by decide) (hts _ k_183) (fun _ h9 => h9) rfl d_F_forget_1 ?_
  refine lv_iload_n hx hb d_F_forget_4 rfl (lv_at hl 1 rfl) ?_
  refine cl_iP (wc := [(h, .inr (5, [.ref ba, .int (nI n)])), (ba, .inl (cb, 13, .inr (.inr (.inr (.inr bf)))))]) (wr := [(f0, .inr (7, [.ref dd, .ref h, .ref ee]))]) hP hD hK hS hA [1, 2] [0] rfl rfl (by decide) (by decide) (va_runV (As := [.int (nI c0)]) (rest := []) ⟨hx, hb, hml, hown, hts⟩ (c_B_drop l D s.heap.size h ba cb bf ca ck rt n c0 hbf hok hn hc0) (cw_V hts 1 k_207 k_3 k_204 k_205 k_206 (by decide +kernel) ⟨Nat.le_of_ble_eq_true rfl, Nat.le_of_ble_eq_true rfl⟩) (pr_VP hP hD hK [1, 2] [0, 1, 2, 3, 4, 5, 6, 7] (by decide) rfl rfl (fun U hU hW => trivial) (fun U g mk a h => h) (q0 := 1) (ci := 5) rfl rfl) rfl rfl hl.1 rfl (lv_room (Nat.le_of_ble_eq_true rfl)) d_F_forget_5 ⟨by decide, by decide⟩) (fun r2 u H locs h1 hP hD hK hS => ?_)
  obtain ⟨bf3, rt3, kp3⟩ := u
  have hP : va_P D wcl (([(f0, .inr (7, [.ref dd, .ref h, .ref ee])), (h, .inr (5, [.ref ba, .int (nI kp3)])), (ba, .inl (cb, 13, .inr (.inr (.inr (.inr bf3)))))] : va_W) ++ w_al 13 (fun j => r_cl ca ck (rt3 j))) H := hP
  have hD : va_D A (([(f0, .inr (7, [.ref dd, .ref h, .ref ee])), (h, .inr (5, [.ref ba, .int (nI kp3)])), (ba, .inl (cb, 13, .inr (.inr (.inr (.inr bf3)))))] : va_W) ++ w_al 13 (fun j => r_cl ca ck (rt3 j))) := hD
  have hK : va_K D wcl [(cb, .object rc_R), ((ca 0), .char), ((ca 1), .int), ((ca 2), .int), ((ca 3), .int), ((ca 4), .boolean), ((ca 5), .int), (ck, .int), (cb, .object rc_R), ((ca 0), .char), ((ca 1), .int), ((ca 2), .int), ((ca 3), .int), ((ca 4), .boolean), ((ca 5), .int), (ck, .int)] s := hK
  have h1 : r2 = nI (n - kp3) ∧ kp3 ≤ n ∧ r_dr c0 n 0 0 rt = (rt3, kp3) ∧ (∀ j, j < 13 → bf3 j = some (rt3 j).1) ∧ (∀ j, j < 13 → r_ok (rt3 j)) := h1
  have hP9 : va_P D wcl (([(f0, .inr (7, [.ref dd, .ref h, .ref ee])), (h, .inr (5, [.ref ba, .int (nI kp3)])), (ba, .inl (cb, 13, .inr (.inr (.inr (.inr bf3)))))] : va_W) ++ w_al 13 (fun j => r_cl ca ck (rt3 j))) _ := hP.part [0, 1, 2] rfl
  have hD9 : va_D A (([(f0, .inr (7, [.ref dd, .ref h, .ref ee])), (h, .inr (5, [.ref ba, .int (nI kp3)])), (ba, .inl (cb, 13, .inr (.inr (.inr (.inr bf3)))))] : va_W) ++ w_al 13 (fun j => r_cl ca ck (rt3 j))) := hD.part [0, 1, 2] (by decide) rfl
  have hK9 := hK.sub (tys' := [(cb, .object rc_R), ((ca 0), .char), ((ca 1), .int), ((ca 2), .int), ((ca 3), .int), ((ca 4), .boolean), ((ca 5), .int), (ck, .int)]) [0, 1, 2, 3, 4, 5, 6, 7] rfl
  exact W.iret (v := r2) hx hb hr (fun t9 ht hW => ⟨⟨r2, (bf3, rt3, kp3), rfl, h1, ⟨by rw [ht]; exact hP9, va_K.moved hW.alike hK9, hD9⟩⟩, hS.F ht⟩) hS.2.2 d_F_forget_8
