set_option maxHeartbeats 4000000 in
set_option maxRecDepth 100000 in
/-- Rule.terms() -/
theorem c_R_terms (l : Launch) (D : va_G) (sz : Nat) (h : Nat) (tt : Nat) (kn : Nat) (v0 : Int32) : Met l y_R_terms (Cond.code y_R_terms b_R_terms 1 (some (.object "MacroForge$Terms")) :: wal) ({ frames := 10, cells := 0, slots := 0, locals := 120 }) (va_Pc [.ref h] (pr D sz [(h, .inr (4, [.ref tt, .ref kn, .int v0]))] [] (fun _ => True))) (va_Qr (S := Unit) (fun u => True) (fun u x9 t9 => x9 = tt ∧ po D (va_A ([(h, .inr (4, [.ref tt, .ref kn, .int v0]))]) sz) ((fun u => [(h, .inr (4, [.ref tt, .ref kn, .int v0]))]) u) ((fun u => []) u) t9) (va_A ([(h, .inr (4, [.ref tt, .ref kn, .int v0]))]) sz)) 0 0 (va_A ([(h, .inr (4, [.ref tt, .ref kn, .int v0]))]) sz) := by
  refine Met.ofW (cc := b_R_terms) (maxL := 1) (ret := (some (.object "MacroForge$Terms"))) (by decide) rfl ?_
  intro p e s m args below meth c s₁ B hml hv
  obtain ⟨rfl, hsz, hP, hK, hD0, hE⟩ := hv
  have hx := B.exec
  have hb := B.bytes
  have hr := B.returns
  have hts0 := atoms_spec (ws := Cond.code y_R_terms b_R_terms 1 (some (.object "MacroForge$Terms")) :: wal) B.pre
  have hts : ∀ w ∈ wal, w.before _ s = true := fun w h => hts0 w (List.mem_cons_of_mem _ h)
  have hown : s.vm.findClass rc_R = some m.cls := findClass_of_methodNamed B.named
  have hlocks := B.notSynchronized
  subst hsz
  have hD := hD0.self (sz := s.heap.size)
  generalize hAe : va_A ([(h, .inr (4, [.ref tt, .ref kn, .int v0]))]) s.heap.size = A at hD ⊢
  have hA : ∀ q : Nat, s.heap.size ≤ q → A q := fun q h => by rw [← hAe]; exact Or.inr h
  have hS : va_S A s.heap s.heap [] := va_S.rf
  have hl := lv_entry ([.ref h]) (n := 1) (Nat.le_of_ble_eq_true rfl)
  rw [lg_entry_eq]
  generalize (lg_sl ([.ref h]) ++ List.replicate (1 - (lg_sl ([.ref h])).length) Slot.unset).toArray = ls at hl ⊢
  have hl : lv_has ls 1 [(0, .ref h)] := hl
  refine lv_aload_n hx hb d_R_terms_0 rfl (lv_at hl 0 rfl) ?_
  refine va_get (D := D) (ci := 4) (v := .ref tt) (C := rc_R) (T := ft_R) (N := 3) hx hb hts in_R hown hK hP 0 rfl rfl 0 (by decide) (hts _ k_98) (fun _ h9 => h9) rfl d_R_terms_1 ?_
  have hP9 := hP.sub (ws' := [(h, .inr (4, [.ref tt, .ref kn, .int v0]))]) [0] rfl
  have hD9 := hD.sub (ws' := [(h, .inr (4, [.ref tt, .ref kn, .int v0]))]) [0] (by decide) rfl
  have hK9 := hK.sub (tys' := []) [] rfl
  exact W.aret (v := .ref tt) hx hb hr (Or.inl ⟨_, rfl⟩) (Or.inr ⟨_, rfl⟩) (fun t9 ht hW => ⟨⟨(), tt, rfl, trivial, ⟨rfl, ⟨by rw [ht]; exact hP9, va_K.moved hW.alike hK9, hD9⟩⟩⟩, hS.F ht⟩) hS.2.2 d_R_terms_4

set_option maxHeartbeats 4000000 in
set_option maxRecDepth 100000 in
/-- Rule.template() -/
theorem c_R_template (l : Launch) (D : va_G) (sz : Nat) (h : Nat) (tt : Nat) (kn : Nat) (v0 : Int32) : Met l y_R_template (Cond.code y_R_template b_R_template 1 (some .int) :: wal) ({ frames := 10, cells := 0, slots := 0, locals := 120 }) (va_Pc [.ref h] (pr D sz [(h, .inr (4, [.ref tt, .ref kn, .int v0]))] [] (fun _ => True))) (va_Qi (S := Unit) (fun r u => r = v0) (fun u t9 => po D (va_A ([(h, .inr (4, [.ref tt, .ref kn, .int v0]))]) sz) ((fun u => [(h, .inr (4, [.ref tt, .ref kn, .int v0]))]) u) ((fun u => []) u) t9) (va_A ([(h, .inr (4, [.ref tt, .ref kn, .int v0]))]) sz)) 0 0 (va_A ([(h, .inr (4, [.ref tt, .ref kn, .int v0]))]) sz) := by
  refine Met.ofW (cc := b_R_template) (maxL := 1) (ret := (some .int)) (by decide) rfl ?_
  intro p e s m args below meth c s₁ B hml hv
  obtain ⟨rfl, hsz, hP, hK, hD0, hE⟩ := hv
  have hx := B.exec
  have hb := B.bytes
  have hr := B.returns
  have hts0 := atoms_spec (ws := Cond.code y_R_template b_R_template 1 (some .int) :: wal) B.pre
  have hts : ∀ w ∈ wal, w.before _ s = true := fun w h => hts0 w (List.mem_cons_of_mem _ h)
  have hown : s.vm.findClass rc_R = some m.cls := findClass_of_methodNamed B.named
  have hlocks := B.notSynchronized
  subst hsz
  have hD := hD0.self (sz := s.heap.size)
  generalize hAe : va_A ([(h, .inr (4, [.ref tt, .ref kn, .int v0]))]) s.heap.size = A at hD ⊢
  have hA : ∀ q : Nat, s.heap.size ≤ q → A q := fun q h => by rw [← hAe]; exact Or.inr h
  have hS : va_S A s.heap s.heap [] := va_S.rf
  have hl := lv_entry ([.ref h]) (n := 1) (Nat.le_of_ble_eq_true rfl)
  rw [lg_entry_eq]
  generalize (lg_sl ([.ref h]) ++ List.replicate (1 - (lg_sl ([.ref h])).length) Slot.unset).toArray = ls at hl ⊢
  have hl : lv_has ls 1 [(0, .ref h)] := hl
  refine lv_aload_n hx hb d_R_template_0 rfl (lv_at hl 0 rfl) ?_
  refine va_get (D := D) (ci := 4) (v := .int v0) (C := rc_R) (T := ft_R) (N := 3) hx hb hts in_R hown hK hP 0 rfl rfl 2 (by decide) (hts _ k_100) (fun _ h9 => h9) rfl d_R_template_1 ?_
  have hP9 := hP.sub (ws' := [(h, .inr (4, [.ref tt, .ref kn, .int v0]))]) [0] rfl
  have hD9 := hD.sub (ws' := [(h, .inr (4, [.ref tt, .ref kn, .int v0]))]) [0] (by decide) rfl
  have hK9 := hK.sub (tys' := []) [] rfl
  exact W.iret (v := v0) hx hb hr (fun t9 ht hW => ⟨⟨v0, (), rfl, rfl, ⟨by rw [ht]; exact hP9, va_K.moved hW.alike hK9, hD9⟩⟩, hS.F ht⟩) hS.2.2 d_R_template_4

set_option maxHeartbeats 4000000 in
set_option maxRecDepth 100000 in
/-- Rule's key -/
theorem c_R_macro (l : Launch) (D : va_G) (sz : Nat) (h : Nat) (tt : Nat) (kn : Nat) (v0 : Int32) (ad : Nat → Nat) (ca : Nat → ClassId) (cap : Nat) (sg : Nat → Nat) (v1 : Int32) (v2 : Int32) (v3 : Int32) (v4 : Int32) (v5 : Int32) (hj : 1 < cap) (hc : cap < 2 ^ 31) (hbd : sg 1 < 65536) : Met l y_R_macro (Cond.code y_R_macro b_R_macro 1 (some .char) :: wal) ({ frames := 11, cells := 0, slots := 0, locals := 180 }) (va_Pc [.ref h] (pr D sz [(h, .inr (4, [.ref tt, .ref kn, .int v0])), (tt, .inr (6, [.ref (ad 0), .ref (ad 1), .ref (ad 2), .ref (ad 3), .ref (ad 4), .ref (ad 5), .int v1, .int v2, .int v3, .int v4, .int v5])), ((ad 0), .inl ((ca 0), cap, .inl (nf sg)))] [((ca 0), .char)] (fun _ => True))) (va_Qi (S := Unit) (fun r u => r = nI (sg 1)) (fun u t9 => po D (va_A ([(h, .inr (4, [.ref tt, .ref kn, .int v0])), (tt, .inr (6, [.ref (ad 0), .ref (ad 1), .ref (ad 2), .ref (ad 3), .ref (ad 4), .ref (ad 5), .int v1, .int v2, .int v3, .int v4, .int v5])), ((ad 0), .inl ((ca 0), cap, .inl (nf sg)))]) sz) ((fun u => [(h, .inr (4, [.ref tt, .ref kn, .int v0])), (tt, .inr (6, [.ref (ad 0), .ref (ad 1), .ref (ad 2), .ref (ad 3), .ref (ad 4), .ref (ad 5), .int v1, .int v2, .int v3, .int v4, .int v5])), ((ad 0), .inl ((ca 0), cap, .inl (nf sg)))]) u) ((fun u => [((ca 0), .char)]) u) t9) (va_A ([(h, .inr (4, [.ref tt, .ref kn, .int v0])), (tt, .inr (6, [.ref (ad 0), .ref (ad 1), .ref (ad 2), .ref (ad 3), .ref (ad 4), .ref (ad 5), .int v1, .int v2, .int v3, .int v4, .int v5])), ((ad 0), .inl ((ca 0), cap, .inl (nf sg)))]) sz)) 0 0 (va_A ([(h, .inr (4, [.ref tt, .ref kn, .int v0])), (tt, .inr (6, [.ref (ad 0), .ref (ad 1), .ref (ad 2), .ref (ad 3), .ref (ad 4), .ref (ad 5), .int v1, .int v2, .int v3, .int v4, .int v5])), ((ad 0), .inl ((ca 0), cap, .inl (nf sg)))]) sz) := by
  refine Met.ofW (cc := b_R_macro) (maxL := 1) (ret := (some .char)) (by decide) rfl ?_
  intro p e s m args below meth c s₁ B hml hv
  obtain ⟨rfl, hsz, hP, hK, hD0, hE⟩ := hv
  have hx := B.exec
  have hb := B.bytes
  have hr := B.returns
  have hts0 := atoms_spec (ws := Cond.code y_R_macro b_R_macro 1 (some .char) :: wal) B.pre
  have hts : ∀ w ∈ wal, w.before _ s = true := fun w h => hts0 w (List.mem_cons_of_mem _ h)
  have hown : s.vm.findClass rc_R = some m.cls := findClass_of_methodNamed B.named
  have hlocks := B.notSynchronized
  subst hsz
  have hD := hD0.self (sz := s.heap.size)
  generalize hAe : va_A ([(h, .inr (4, [.ref tt, .ref kn, .int v0])), (tt, .inr (6, [.ref (ad 0), .ref (ad 1), .ref (ad 2), .ref (ad 3), .ref (ad 4), .ref (ad 5), .int v1, .int v2, .int v3, .int v4, .int v5])), ((ad 0), .inl ((ca 0), cap, .inl (nf sg)))]) s.heap.size = A at hD ⊢
  have hA : ∀ q : Nat, s.heap.size ≤ q → A q := fun q h => by rw [← hAe]; exact Or.inr h
  have hS : va_S A s.heap s.heap [] := va_S.rf
  have hl := lv_entry ([.ref h]) (n := 1) (Nat.le_of_ble_eq_true rfl)
  rw [lg_entry_eq]
  generalize (lg_sl ([.ref h]) ++ List.replicate (1 - (lg_sl ([.ref h])).length) Slot.unset).toArray = ls at hl ⊢
  have hl : lv_has ls 1 [(0, .ref h)] := hl
  refine lv_aload_n hx hb d_R_macro_0 rfl (lv_at hl 0 rfl) ?_
  refine va_get (D := D) (ci := 4) (v := .ref tt) (C := rc_R) (T := ft_R) (N := 3) hx hb hts in_R hown hK hP 0 rfl rfl 0 (by decide) (hts _ k_98) (fun _ h9 => h9) rfl d_R_macro_1 ?_
  refine lv_iconst (v := 1) hx hb d_R_macro_4 (by decide) ?_
  refine cl_i (wc := [(tt, .inr (6, [.ref (ad 0), .ref (ad 1), .ref (ad 2), .ref (ad 3), .ref (ad 4), .ref (ad 5), .int v1, .int v2, .int v3, .int v4, .int v5])), ((ad 0), .inl ((ca 0), cap, .inl (nf sg)))]) (wr := [(h, .inr (4, [.ref tt, .ref kn, .int v0]))]) hP hD hK hS hA [1, 2] [0] rfl rfl (by decide) (by decide) (va_runV (As := [.int (nI 1)]) (rest := []) ⟨hx, hb, hml, hown, hts⟩ (c_T_sign l D s.heap.size tt ad ca cap sg v1 v2 v3 v4 v5 1 hj hc hbd) (cw_V hts 1 k_215 k_5 k_212 k_213 k_214 (by decide +kernel) ⟨Nat.le_of_ble_eq_true rfl, Nat.le_of_ble_eq_true rfl⟩) (pr_V hP hD hK [1, 2] [0] (by decide) rfl rfl (fun U hU hW => trivial) (fun U g mk a h => h) (q0 := 1) (ci := 6) rfl rfl) rfl rfl hl.1 rfl (lv_room (Nat.le_of_ble_eq_true rfl)) d_R_macro_5 ⟨by decide, by decide⟩) (fun r2 u H locs h1 hP hD hK hS => ?_)
  have hP : va_P D wcl [(h, .inr (4, [.ref tt, .ref kn, .int v0])), (tt, .inr (6, [.ref (ad 0), .ref (ad 1), .ref (ad 2), .ref (ad 3), .ref (ad 4), .ref (ad 5), .int v1, .int v2, .int v3, .int v4, .int v5])), ((ad 0), .inl ((ca 0), cap, .inl (nf sg)))] H := hP
  have hD : va_D A [(h, .inr (4, [.ref tt, .ref kn, .int v0])), (tt, .inr (6, [.ref (ad 0), .ref (ad 1), .ref (ad 2), .ref (ad 3), .ref (ad 4), .ref (ad 5), .int v1, .int v2, .int v3, .int v4, .int v5])), ((ad 0), .inl ((ca 0), cap, .inl (nf sg)))] := hD
  have hK : va_K D wcl [((ca 0), .char), ((ca 0), .char)] s := hK
  have h1 : r2 = nI (sg 1) := h1
  subst h1
  have hP9 := hP.sub (ws' := [(h, .inr (4, [.ref tt, .ref kn, .int v0])), (tt, .inr (6, [.ref (ad 0), .ref (ad 1), .ref (ad 2), .ref (ad 3), .ref (ad 4), .ref (ad 5), .int v1, .int v2, .int v3, .int v4, .int v5])), ((ad 0), .inl ((ca 0), cap, .inl (nf sg)))]) [0, 1, 2] rfl
  have hD9 := hD.sub (ws' := [(h, .inr (4, [.ref tt, .ref kn, .int v0])), (tt, .inr (6, [.ref (ad 0), .ref (ad 1), .ref (ad 2), .ref (ad 3), .ref (ad 4), .ref (ad 5), .int v1, .int v2, .int v3, .int v4, .int v5])), ((ad 0), .inl ((ca 0), cap, .inl (nf sg)))]) [0, 1, 2] (by decide) rfl
  have hK9 := hK.sub (tys' := [((ca 0), .char)]) [0] rfl
  exact W.zret (v := (nI (sg 1))) hx hb hr ((pk_charN hbd).1) (fun t9 ht hW => ⟨⟨(nI (sg 1)), (), rfl, rfl, ⟨by rw [ht]; exact hP9, va_K.moved hW.alike hK9, hD9⟩⟩, hS.F ht⟩) hS.2.2 d_R_macro_8

set_option maxHeartbeats 4000000 in
set_option maxRecDepth 100000 in
/-- Rule.isVariable(c0) -/
theorem c_R_isVariable (l : Launch) (D : va_G) (sz : Nat) (h : Nat) (tt : Nat) (kn : Nat) (v0 : Int32) (ck : ClassId) (kf : Nat → Nat) (c0 : Nat) (hc0 : c0 < 65536) (hkf : ∀ i, kf i < 3) : Met l y_R_isVariable (Cond.code y_R_isVariable b_R_isVariable 2 (some .boolean) :: wal) ({ frames := 11, cells := 0, slots := 0, locals := 180 }) (va_Pc [.ref h, .int (nI c0)] (pr D sz [(h, .inr (4, [.ref tt, .ref kn, .int v0])), (kn, .inl (ck, 26, .inl (nf kf)))] [(ck, .int)] (cx_W))) (va_Qi (S := Unit) (fun r u => (r = 1 ∧ k_var kf c0) ∨ (r = 0 ∧ ¬ (k_var kf c0))) (fun u t9 => po D (va_A ([(h, .inr (4, [.ref tt, .ref kn, .int v0])), (kn, .inl (ck, 26, .inl (nf kf)))]) sz) ((fun u => [(h, .inr (4, [.ref tt, .ref kn, .int v0])), (kn, .inl (ck, 26, .inl (nf kf)))]) u) ((fun u => [(ck, .int)]) u) t9) (va_A ([(h, .inr (4, [.ref tt, .ref kn, .int v0])), (kn, .inl (ck, 26, .inl (nf kf)))]) sz)) 0 0 (va_A ([(h, .inr (4, [.ref tt, .ref kn, .int v0])), (kn, .inl (ck, 26, .inl (nf kf)))]) sz) := by
  refine Met.ofW (cc := b_R_isVariable) (maxL := 2) (ret := (some .boolean)) (by decide) rfl ?_
  intro p e s m args below meth c s₁ B hml hv
  obtain ⟨rfl, hsz, hP, hK, hD0, hE⟩ := hv
  have hx := B.exec
  have hb := B.bytes
  have hr := B.returns
  have hts0 := atoms_spec (ws := Cond.code y_R_isVariable b_R_isVariable 2 (some .boolean) :: wal) B.pre
  have hts : ∀ w ∈ wal, w.before _ s = true := fun w h => hts0 w (List.mem_cons_of_mem _ h)
  have hown : s.vm.findClass rc_R = some m.cls := findClass_of_methodNamed B.named
  have hlocks := B.notSynchronized
  subst hsz
  have hD := hD0.self (sz := s.heap.size)
  generalize hAe : va_A ([(h, .inr (4, [.ref tt, .ref kn, .int v0])), (kn, .inl (ck, 26, .inl (nf kf)))]) s.heap.size = A at hD ⊢
  have hA : ∀ q : Nat, s.heap.size ≤ q → A q := fun q h => by rw [← hAe]; exact Or.inr h
  have hS : va_S A s.heap s.heap [] := va_S.rf
  have hl := lv_entry ([.ref h, .int (nI c0)]) (n := 2) (Nat.le_of_ble_eq_true rfl)
  rw [lg_entry_eq]
  generalize (lg_sl ([.ref h, .int (nI c0)]) ++ List.replicate (2 - (lg_sl ([.ref h, .int (nI c0)])).length) Slot.unset).toArray = ls at hl ⊢
  have hl : lv_has ls 2 [(0, .ref h), (1, .int (nI c0))] := hl
  refine lv_iload_n hx hb d_R_isVariable_0 rfl (lv_at hl 1 rfl) ?_
  refine cl_i (wc := []) (wr := [(h, .inr (4, [.ref tt, .ref kn, .int v0])), (kn, .inl (ck, 26, .inl (nf kf)))]) hP hD hK hS hA [] [0, 1] rfl rfl (by decide) (by decide) (va_runSN (As := [.int (nI c0)]) (rest := []) ⟨hx, hb, hml, hown, hts⟩ (c_F_isName l D s.heap.size (nI c0)) (cw_SN hts 1 k_289 k_1 (hE.1 _ k_287 rfl) k_288 (by decide +kernel) ⟨Nat.le_of_ble_eq_true rfl, Nat.le_of_ble_eq_true rfl⟩) (pr_S hP hD hK [] [] (by decide) rfl rfl (fun U hU hW => trivial) (fun U g mk a h => h)) rfl rfl hl.1 rfl (lv_room (Nat.le_of_ble_eq_true rfl)) d_R_isVariable_1 ⟨by decide, by decide⟩) (fun r2 u H locs h1 hP hD hK hS => ?_)
  have hP : va_P D wcl [(h, .inr (4, [.ref tt, .ref kn, .int v0])), (kn, .inl (ck, 26, .inl (nf kf)))] H := hP
  have hD : va_D A [(h, .inr (4, [.ref tt, .ref kn, .int v0])), (kn, .inl (ck, 26, .inl (nf kf)))] := hD
  have hK : va_K D wcl [(ck, .int)] s := hK
  have h1 : (r2 = 1 ∧ ¬ (nI c0) < 97 ∧ ¬ 122 < (nI c0)) ∨ (r2 = 0 ∧ ((nI c0) < 97 ∨ 122 < (nI c0))) := h1
  have hm := nm_of hc0 h1
  refine lv_if_eq (tgt := 23) hx hb d_R_isVariable_4 (by decide) (fun h1 => ?_) (fun h1 => ?_)
  · have h2 : ¬ c_nm c0 := by
      rcases hm with a9 | a9
      · exact absurd h1 (by rw [a9.1]; decide)
      · exact a9.2
    refine lv_iconst (v := 0) hx hb d_R_isVariable_23 (by decide) ?_
    have hP9 := hP.sub (ws' := [(h, .inr (4, [.ref tt, .ref kn, .int v0])), (kn, .inl (ck, 26, .inl (nf kf)))]) [0, 1] rfl
    have hD9 := hD.sub (ws' := [(h, .inr (4, [.ref tt, .ref kn, .int v0])), (kn, .inl (ck, 26, .inl (nf kf)))]) [0, 1] (by decide) rfl
    have hK9 := hK.sub (tys' := [(ck, .int)]) [0] rfl
    exact W.zret (v := 0) hx hb hr (by decide) (fun t9 ht hW => ⟨⟨0, (), rfl, Or.inr ⟨rfl, fun q => h2 q.1⟩, ⟨by rw [ht]; exact hP9, va_K.moved hW.alike hK9, hD9⟩⟩, hS.F ht⟩) hS.2.2 d_R_isVariable_24
  · have h2 : c_nm c0 := by
      rcases hm with a9 | a9
      · exact a9.2
      · exact absurd a9.1 h1
    refine lv_aload_n hx hb d_R_isVariable_7 rfl (lv_at hl 0 rfl) ?_
    refine va_get (D := D) (ci := 4) (v := .ref kn) (C := rc_R) (T := ft_R) (N := 3) hx hb hts in_R hown hK hP 0 rfl rfl 1 (by decide) (hts _ k_99) (fun _ h9 => h9) rfl d_R_isVariable_8 ?_
    refine lv_iload_n hx hb d_R_isVariable_11 rfl (lv_at hl 1 rfl) ?_
    refine lv_bipush (v := 97) hx hb d_R_isVariable_12 (by decide) ?_
    refine lv_isub hx hb d_R_isVariable_14 ?_
    refine lv_topi (fun z9 ez9 => ?_)
    have ez9 : z9 = (nI (c0 - 97)) := ez9.trans (nsub (b := 97) h2.1)
    subst ez9
    refine va_iald hx hb hK hP 1 0 rfl rfl (vp_in_nI (show c0 - 97 < 26 by have := h2; omega) (by decide)) d_R_isVariable_15 ?_
    refine lv_topi (fun z9 ez9 => ?_)
    have ez9 : z9 = (nI (kf (c0 - 97))) := ez9.trans (nf_at _ (Nat.lt_trans (show c0 - 97 < 26 by have := h2; omega) (by decide)))
    subst ez9
    refine lv_if_eq (tgt := 23) hx hb d_R_isVariable_16 (by decide) (fun h3 => ?_) (fun h3 => ?_)
    · refine lv_iconst (v := 0) hx hb d_R_isVariable_23 (by decide) ?_
      have hP9 := hP.sub (ws' := [(h, .inr (4, [.ref tt, .ref kn, .int v0])), (kn, .inl (ck, 26, .inl (nf kf)))]) [0, 1] rfl
      have hD9 := hD.sub (ws' := [(h, .inr (4, [.ref tt, .ref kn, .int v0])), (kn, .inl (ck, 26, .inl (nf kf)))]) [0, 1] (by decide) rfl
      have hK9 := hK.sub (tys' := [(ck, .int)]) [0] rfl
      exact W.zret (v := 0) hx hb hr (by decide) (fun t9 ht hW => ⟨⟨0, (), rfl, Or.inr ⟨rfl, fun q => q.2 (nI_inj (b := 0) (Nat.lt_trans (hkf _) (by decide)) (by decide) h3)⟩, ⟨by rw [ht]; exact hP9, va_K.moved hW.alike hK9, hD9⟩⟩, hS.F ht⟩) hS.2.2 d_R_isVariable_24
    · refine lv_iconst (v := 1) hx hb d_R_isVariable_19 (by decide) ?_
      refine lv_goto (tgt := 24) hx hb d_R_isVariable_20 (by decide) ?_
      have hP9 := hP.sub (ws' := [(h, .inr (4, [.ref tt, .ref kn, .int v0])), (kn, .inl (ck, 26, .inl (nf kf)))]) [0, 1] rfl
      have hD9 := hD.sub (ws' := [(h, .inr (4, [.ref tt, .ref kn, .int v0])), (kn, .inl (ck, 26, .inl (nf kf)))]) [0, 1] (by decide) rfl
      have hK9 := hK.sub (tys' := [(ck, .int)]) [0] rfl
      exact W.zret (v := 1) hx hb hr (by decide) (fun t9 ht hW => ⟨⟨1, (), rfl, Or.inl ⟨rfl, h2, fun q => h3 (by rw [q]; rfl)⟩, ⟨by rw [ht]; exact hP9, va_K.moved hW.alike hK9, hD9⟩⟩, hS.F ht⟩) hS.2.2 d_R_isVariable_24

set_option maxHeartbeats 4000000 in
set_option maxRecDepth 100000 in
/-- Rule.isMany(c0) -/
theorem c_R_isMany (l : Launch) (D : va_G) (sz : Nat) (h : Nat) (tt : Nat) (kn : Nat) (v0 : Int32) (ck : ClassId) (kf : Nat → Nat) (c0 : Nat) (hc0 : c0 < 65536) (hkf : ∀ i, kf i < 3) : Met l y_R_isMany (Cond.code y_R_isMany b_R_isMany 2 (some .boolean) :: wal) ({ frames := 11, cells := 0, slots := 0, locals := 180 }) (va_Pc [.ref h, .int (nI c0)] (pr D sz [(h, .inr (4, [.ref tt, .ref kn, .int v0])), (kn, .inl (ck, 26, .inl (nf kf)))] [(ck, .int)] (cx_W))) (va_Qi (S := Unit) (fun r u => (r = 1 ∧ k_many kf c0) ∨ (r = 0 ∧ ¬ (k_many kf c0))) (fun u t9 => po D (va_A ([(h, .inr (4, [.ref tt, .ref kn, .int v0])), (kn, .inl (ck, 26, .inl (nf kf)))]) sz) ((fun u => [(h, .inr (4, [.ref tt, .ref kn, .int v0])), (kn, .inl (ck, 26, .inl (nf kf)))]) u) ((fun u => [(ck, .int)]) u) t9) (va_A ([(h, .inr (4, [.ref tt, .ref kn, .int v0])), (kn, .inl (ck, 26, .inl (nf kf)))]) sz)) 0 0 (va_A ([(h, .inr (4, [.ref tt, .ref kn, .int v0])), (kn, .inl (ck, 26, .inl (nf kf)))]) sz) := by
  refine Met.ofW (cc := b_R_isMany) (maxL := 2) (ret := (some .boolean)) (by decide) rfl ?_
  intro p e s m args below meth c s₁ B hml hv
  obtain ⟨rfl, hsz, hP, hK, hD0, hE⟩ := hv
  have hx := B.exec
  have hb := B.bytes
  have hr := B.returns
  have hts0 := atoms_spec (ws := Cond.code y_R_isMany b_R_isMany 2 (some .boolean) :: wal) B.pre
  have hts : ∀ w ∈ wal, w.before _ s = true := fun w h => hts0 w (List.mem_cons_of_mem _ h)
  have hown : s.vm.findClass rc_R = some m.cls := findClass_of_methodNamed B.named
  have hlocks := B.notSynchronized
  subst hsz
  have hD := hD0.self (sz := s.heap.size)
  generalize hAe : va_A ([(h, .inr (4, [.ref tt, .ref kn, .int v0])), (kn, .inl (ck, 26, .inl (nf kf)))]) s.heap.size = A at hD ⊢
  have hA : ∀ q : Nat, s.heap.size ≤ q → A q := fun q h => by rw [← hAe]; exact Or.inr h
  have hS : va_S A s.heap s.heap [] := va_S.rf
  have hl := lv_entry ([.ref h, .int (nI c0)]) (n := 2) (Nat.le_of_ble_eq_true rfl)
  rw [lg_entry_eq]
  generalize (lg_sl ([.ref h, .int (nI c0)]) ++ List.replicate (2 - (lg_sl ([.ref h, .int (nI c0)])).length) Slot.unset).toArray = ls at hl ⊢
  have hl : lv_has ls 2 [(0, .ref h), (1, .int (nI c0))] := hl
  refine lv_iload_n hx hb d_R_isMany_0 rfl (lv_at hl 1 rfl) ?_
  refine cl_i (wc := []) (wr := [(h, .inr (4, [.ref tt, .ref kn, .int v0])), (kn, .inl (ck, 26, .inl (nf kf)))]) hP hD hK hS hA [] [0, 1] rfl rfl (by decide) (by decide) (va_runSN (As := [.int (nI c0)]) (rest := []) ⟨hx, hb, hml, hown, hts⟩ (c_F_isName l D s.heap.size (nI c0)) (cw_SN hts 1 k_289 k_1 (hE.1 _ k_287 rfl) k_288 (by decide +kernel) ⟨Nat.le_of_ble_eq_true rfl, Nat.le_of_ble_eq_true rfl⟩) (pr_S hP hD hK [] [] (by decide) rfl rfl (fun U hU hW => trivial) (fun U g mk a h => h)) rfl rfl hl.1 rfl (lv_room (Nat.le_of_ble_eq_true rfl)) d_R_isMany_1 ⟨by decide, by decide⟩) (fun r2 u H locs h1 hP hD hK hS => ?_)
  have hP : va_P D wcl [(h, .inr (4, [.ref tt, .ref kn, .int v0])), (kn, .inl (ck, 26, .inl (nf kf)))] H := hP
  have hD : va_D A [(h, .inr (4, [.ref tt, .ref kn, .int v0])), (kn, .inl (ck, 26, .inl (nf kf)))] := hD
  have hK : va_K D wcl [(ck, .int)] s := hK
  have h1 : (r2 = 1 ∧ ¬ (nI c0) < 97 ∧ ¬ 122 < (nI c0)) ∨ (r2 = 0 ∧ ((nI c0) < 97 ∨ 122 < (nI c0))) := h1
  have hm := nm_of hc0 h1
  refine lv_if_eq (tgt := 24) hx hb d_R_isMany_4 (by decide) (fun h1 => ?_) (fun h1 => ?_)
  · have h2 : ¬ c_nm c0 := by
      rcases hm with a9 | a9
      · exact absurd h1 (by rw [a9.1]; decide)
      · exact a9.2
    refine lv_iconst (v := 0) hx hb d_R_isMany_24 (by decide) ?_
    have hP9 := hP.sub (ws' := [(h, .inr (4, [.ref tt, .ref kn, .int v0])), (kn, .inl (ck, 26, .inl (nf kf)))]) [0, 1] rfl
    have hD9 := hD.sub (ws' := [(h, .inr (4, [.ref tt, .ref kn, .int v0])), (kn, .inl (ck, 26, .inl (nf kf)))]) [0, 1] (by decide) rfl
    have hK9 := hK.sub (tys' := [(ck, .int)]) [0] rfl
    exact W.zret (v := 0) hx hb hr (by decide) (fun t9 ht hW => ⟨⟨0, (), rfl, Or.inr ⟨rfl, fun q => h2 q.1⟩, ⟨by rw [ht]; exact hP9, va_K.moved hW.alike hK9, hD9⟩⟩, hS.F ht⟩) hS.2.2 d_R_isMany_25
  · have h2 : c_nm c0 := by
      rcases hm with a9 | a9
      · exact a9.2
      · exact absurd a9.1 h1
    refine lv_aload_n hx hb d_R_isMany_7 rfl (lv_at hl 0 rfl) ?_
    refine va_get (D := D) (ci := 4) (v := .ref kn) (C := rc_R) (T := ft_R) (N := 3) hx hb hts in_R hown hK hP 0 rfl rfl 1 (by decide) (hts _ k_99) (fun _ h9 => h9) rfl d_R_isMany_8 ?_
    refine lv_iload_n hx hb d_R_isMany_11 rfl (lv_at hl 1 rfl) ?_
    refine lv_bipush (v := 97) hx hb d_R_isMany_12 (by decide) ?_
    refine lv_isub hx hb d_R_isMany_14 ?_
    refine lv_topi (fun z9 ez9 => ?_)
    have ez9 : z9 = (nI (c0 - 97)) := ez9.trans (nsub (b := 97) h2.1)
    subst ez9
    refine va_iald hx hb hK hP 1 0 rfl rfl (vp_in_nI (show c0 - 97 < 26 by have := h2; omega) (by decide)) d_R_isMany_15 ?_
    refine lv_topi (fun z9 ez9 => ?_)
    have ez9 : z9 = (nI (kf (c0 - 97))) := ez9.trans (nf_at _ (Nat.lt_trans (show c0 - 97 < 26 by have := h2; omega) (by decide)))
    subst ez9
    refine lv_iconst (v := 2) hx hb d_R_isMany_16 (by decide) ?_
    refine lv_icmp_ne (tgt := 24) hx hb d_R_isMany_17 (by decide) (fun h3 => ?_) (fun h3 => ?_)
    · refine lv_iconst (v := 0) hx hb d_R_isMany_24 (by decide) ?_
      have hP9 := hP.sub (ws' := [(h, .inr (4, [.ref tt, .ref kn, .int v0])), (kn, .inl (ck, 26, .inl (nf kf)))]) [0, 1] rfl
      have hD9 := hD.sub (ws' := [(h, .inr (4, [.ref tt, .ref kn, .int v0])), (kn, .inl (ck, 26, .inl (nf kf)))]) [0, 1] (by decide) rfl
      have hK9 := hK.sub (tys' := [(ck, .int)]) [0] rfl
      exact W.zret (v := 0) hx hb hr (by decide) (fun t9 ht hW => ⟨⟨0, (), rfl, Or.inr ⟨rfl, fun q => h3 (by rw [q.2]; rfl)⟩, ⟨by rw [ht]; exact hP9, va_K.moved hW.alike hK9, hD9⟩⟩, hS.F ht⟩) hS.2.2 d_R_isMany_25
    · refine lv_iconst (v := 1) hx hb d_R_isMany_20 (by decide) ?_
      refine lv_goto (tgt := 25) hx hb d_R_isMany_21 (by decide) ?_
      have hP9 := hP.sub (ws' := [(h, .inr (4, [.ref tt, .ref kn, .int v0])), (kn, .inl (ck, 26, .inl (nf kf)))]) [0, 1] rfl
      have hD9 := hD.sub (ws' := [(h, .inr (4, [.ref tt, .ref kn, .int v0])), (kn, .inl (ck, 26, .inl (nf kf)))]) [0, 1] (by decide) rfl
      have hK9 := hK.sub (tys' := [(ck, .int)]) [0] rfl
      exact W.zret (v := 1) hx hb hr (by decide) (fun t9 ht hW => ⟨⟨1, (), rfl, Or.inl ⟨rfl, h2, nI_inj (b := 2) (Nat.lt_trans (hkf _) (by decide)) (by decide) h3⟩, ⟨by rw [ht]; exact hP9, va_K.moved hW.alike hK9, hD9⟩⟩, hS.F ht⟩) hS.2.2 d_R_isMany_25

set_option maxHeartbeats 4000000 in
set_option maxRecDepth 100000 in
/-- Rule.hasMacro(dd) -/
theorem c_R_hasMacro (l : Launch) (D : va_G) (sz : Nat) (dd : Nat) (da : Nat) (cD : ClassId) (sgn : Nat → Nat) (n : Nat) (dy : Int32) (hn : n ≤ 60) (hs : ∀ i, sgn i < 65536) : Met l y_R_hasMacro (Cond.code y_R_hasMacro b_R_hasMacro 1 (some .boolean) :: wal) ({ frames := 11, cells := 0, slots := 0, locals := 180 }) (va_Pc [.ref dd] (pr D sz [(dd, .inr (0, [.ref da, .int (nI n), .int dy])), (da, .inl (cD, 60, .inl (nf sgn)))] [(cD, .char)] (cx_W))) (va_Qi (S := Unit) (fun r u => (r = 1 ∧ d_mac sgn n) ∨ (r = 0 ∧ ¬ d_mac sgn n)) (fun u t9 => po D (va_A ([(dd, .inr (0, [.ref da, .int (nI n), .int dy])), (da, .inl (cD, 60, .inl (nf sgn)))]) sz) ((fun u => [(dd, .inr (0, [.ref da, .int (nI n), .int dy])), (da, .inl (cD, 60, .inl (nf sgn)))]) u) ((fun u => [(cD, .char)]) u) t9) (va_A ([(dd, .inr (0, [.ref da, .int (nI n), .int dy])), (da, .inl (cD, 60, .inl (nf sgn)))]) sz)) 0 0 (va_A ([(dd, .inr (0, [.ref da, .int (nI n), .int dy])), (da, .inl (cD, 60, .inl (nf sgn)))]) sz) := by
  refine Met.ofW (cc := b_R_hasMacro) (maxL := 1) (ret := (some .boolean)) (by decide) rfl ?_
  intro p e s m args below meth c s₁ B hml hv
  obtain ⟨rfl, hsz, hP, hK, hD0, hE⟩ := hv
  have hx := B.exec
  have hb := B.bytes
  have hr := B.returns
  have hts0 := atoms_spec (ws := Cond.code y_R_hasMacro b_R_hasMacro 1 (some .boolean) :: wal) B.pre
  have hts : ∀ w ∈ wal, w.before _ s = true := fun w h => hts0 w (List.mem_cons_of_mem _ h)
  have hown : s.vm.findClass rc_R = some m.cls := findClass_of_methodNamed B.named
  have hlocks := B.notSynchronized
  subst hsz
  have hD := hD0.self (sz := s.heap.size)
  generalize hAe : va_A ([(dd, .inr (0, [.ref da, .int (nI n), .int dy])), (da, .inl (cD, 60, .inl (nf sgn)))]) s.heap.size = A at hD ⊢
  have hA : ∀ q : Nat, s.heap.size ≤ q → A q := fun q h => by rw [← hAe]; exact Or.inr h
  have hS : va_S A s.heap s.heap [] := va_S.rf
  have hl := lv_entry ([.ref dd]) (n := 1) (Nat.le_of_ble_eq_true rfl)
  rw [lg_entry_eq]
  generalize (lg_sl ([.ref dd]) ++ List.replicate (1 - (lg_sl ([.ref dd])).length) Slot.unset).toArray = ls at hl ⊢
  have hl : lv_has ls 1 [(0, .ref dd)] := hl
  refine lv_aload_n hx hb d_R_hasMacro_0 rfl (lv_at hl 0 rfl) ?_
  refine lv_iconst (v := 0) hx hb d_R_hasMacro_1 (by decide) ?_
  refine cl_i (wc := [(dd, .inr (0, [.ref da, .int (nI n), .int dy])), (da, .inl (cD, 60, .inl (nf sgn)))]) (wr := []) hP hD hK hS hA [0, 1] [] rfl rfl (by decide) (by decide) (va_runV (As := [.int (nI 0)]) (rest := []) ⟨hx, hb, hml, hown, hts⟩ (c_D_at l D s.heap.size dd da cD sgn n dy 0 hn (by decide) hs) (cw_V hts 1 k_286 k_2 k_283 k_284 k_285 (by decide +kernel) ⟨Nat.le_of_ble_eq_true rfl, Nat.le_of_ble_eq_true rfl⟩) (pr_V hP hD hK [0, 1] [0] (by decide) rfl rfl (fun U hU hW => trivial) (fun U g mk a h => h) (q0 := 0) (ci := 0) rfl rfl) rfl rfl hl.1 rfl (lv_room (Nat.le_of_ble_eq_true rfl)) d_R_hasMacro_2 ⟨by decide, by decide⟩) (fun r2 u H locs h1 hP hD hK hS => ?_)
  have hP : va_P D wcl [(dd, .inr (0, [.ref da, .int (nI n), .int dy])), (da, .inl (cD, 60, .inl (nf sgn)))] H := hP
  have hD : va_D A [(dd, .inr (0, [.ref da, .int (nI n), .int dy])), (da, .inl (cD, 60, .inl (nf sgn)))] := hD
  have hK : va_K D wcl [(cD, .char), (cD, .char)] s := hK
  have h1 : r2 = nI (if 0 < n then sgn 0 else 32) := h1
  subst h1
  refine lv_bipush (v := 40) hx hb d_R_hasMacro_5 (by decide) ?_
  refine lv_icmp_ne (tgt := 35) hx hb d_R_hasMacro_7 (by decide) (fun h1 => ?_) (fun h1 => ?_)
  · refine lv_iconst (v := 0) hx hb d_R_hasMacro_35 (by decide) ?_
    have hP9 := hP.sub (ws' := [(dd, .inr (0, [.ref da, .int (nI n), .int dy])), (da, .inl (cD, 60, .inl (nf sgn)))]) [0, 1] rfl
    have hD9 := hD.sub (ws' := [(dd, .inr (0, [.ref da, .int (nI n), .int dy])), (da, .inl (cD, 60, .inl (nf sgn)))]) [0, 1] (by decide) rfl
    have hK9 := hK.sub (tys' := [(cD, .char)]) [0] rfl
    exact W.zret (v := 0) hx hb hr (by decide) (fun t9 ht hW => ⟨⟨0, (), rfl, Or.inr ⟨rfl, fun q => h1 ((ceq (dch_lt hs n 0) (k := 40) (by decide)).mpr q.1)⟩, ⟨by rw [ht]; exact hP9, va_K.moved hW.alike hK9, hD9⟩⟩, hS.F ht⟩) hS.2.2 d_R_hasMacro_36
  · have q0 : dch sgn n 0 = 40 := (ceq (dch_lt hs n 0) (k := 40) (by decide)).mp h1
    refine lv_aload_n hx hb d_R_hasMacro_10 rfl (lv_at hl 0 rfl) ?_
    refine lv_iconst (v := 1) hx hb d_R_hasMacro_11 (by decide) ?_
    refine cl_i (wc := [(dd, .inr (0, [.ref da, .int (nI n), .int dy])), (da, .inl (cD, 60, .inl (nf sgn)))]) (wr := []) hP hD hK hS hA [0, 1] [] rfl rfl (by decide) (by decide) (va_runV (As := [.int (nI 1)]) (rest := []) ⟨hx, hb, hml, hown, hts⟩ (c_D_at l D H.size dd da cD sgn n dy 1 hn (by decide) hs) (cw_V hts 1 k_286 k_2 k_283 k_284 k_285 (by decide +kernel) ⟨Nat.le_of_ble_eq_true rfl, Nat.le_of_ble_eq_true rfl⟩) (pr_V hP hD hK [0, 1] [0] (by decide) rfl rfl (fun U hU hW => trivial) (fun U g mk a h => h) (q0 := 0) (ci := 0) rfl rfl) rfl rfl hl.1 rfl (lv_room (Nat.le_of_ble_eq_true rfl)) d_R_hasMacro_12 ⟨by decide, by decide⟩) (fun r4 u H locs h3 hP hD hK hS => ?_)
    have hP : va_P D wcl [(dd, .inr (0, [.ref da, .int (nI n), .int dy])), (da, .inl (cD, 60, .inl (nf sgn)))] H := hP
    have hD : va_D A [(dd, .inr (0, [.ref da, .int (nI n), .int dy])), (da, .inl (cD, 60, .inl (nf sgn)))] := hD
    have hK : va_K D wcl [(cD, .char), (cD, .char), (cD, .char)] s := hK
    have h3 : r4 = nI (if 1 < n then sgn 1 else 32) := h3
    subst h3
    refine cl_i (wc := []) (wr := [(dd, .inr (0, [.ref da, .int (nI n), .int dy])), (da, .inl (cD, 60, .inl (nf sgn)))]) hP hD hK hS hA [] [0, 1] rfl rfl (by decide) (by decide) (va_runSN (As := [.int (nI (dch sgn n 1))]) (rest := []) ⟨hx, hb, hml, hown, hts⟩ (c_F_isName l D H.size (nI (dch sgn n 1))) (cw_SN hts 1 k_289 k_1 (hE.1 _ k_287 rfl) k_288 (by decide +kernel) ⟨Nat.le_of_ble_eq_true rfl, Nat.le_of_ble_eq_true rfl⟩) (pr_S hP hD hK [] [] (by decide) rfl rfl (fun U hU hW => trivial) (fun U g mk a h => h)) rfl rfl hl.1 rfl (lv_room (Nat.le_of_ble_eq_true rfl)) d_R_hasMacro_15 ⟨by decide, by decide⟩) (fun r6 u H locs h5 hP hD hK hS => ?_)
    have hP : va_P D wcl [(dd, .inr (0, [.ref da, .int (nI n), .int dy])), (da, .inl (cD, 60, .inl (nf sgn)))] H := hP
    have hD : va_D A [(dd, .inr (0, [.ref da, .int (nI n), .int dy])), (da, .inl (cD, 60, .inl (nf sgn)))] := hD
    have hK : va_K D wcl [(cD, .char), (cD, .char), (cD, .char)] s := hK
    have h5 : (r6 = 1 ∧ ¬ (nI (dch sgn n 1)) < 97 ∧ ¬ 122 < (nI (dch sgn n 1))) ∨ (r6 = 0 ∧ ((nI (dch sgn n 1)) < 97 ∨ 122 < (nI (dch sgn n 1)))) := h5
    have hm := nm_of (dch_lt hs n 1) h5
    refine lv_if_eq (tgt := 35) hx hb d_R_hasMacro_18 (by decide) (fun h2 => ?_) (fun h2 => ?_)
    · have h3 : ¬ c_nm (dch sgn n 1) := by
        rcases hm with a9 | a9
        · exact absurd h2 (by rw [a9.1]; decide)
        · exact a9.2
      refine lv_iconst (v := 0) hx hb d_R_hasMacro_35 (by decide) ?_
      have hP9 := hP.sub (ws' := [(dd, .inr (0, [.ref da, .int (nI n), .int dy])), (da, .inl (cD, 60, .inl (nf sgn)))]) [0, 1] rfl
      have hD9 := hD.sub (ws' := [(dd, .inr (0, [.ref da, .int (nI n), .int dy])), (da, .inl (cD, 60, .inl (nf sgn)))]) [0, 1] (by decide) rfl
      have hK9 := hK.sub (tys' := [(cD, .char)]) [0] rfl
      exact W.zret (v := 0) hx hb hr (by decide) (fun t9 ht hW => ⟨⟨0, (), rfl, Or.inr ⟨rfl, fun q => h3 q.2.1⟩, ⟨by rw [ht]; exact hP9, va_K.moved hW.alike hK9, hD9⟩⟩, hS.F ht⟩) hS.2.2 d_R_hasMacro_36
    · have h3 : c_nm (dch sgn n 1) := by
        rcases hm with a9 | a9
        · exact a9.2
        · exact absurd a9.1 h2
      refine lv_aload_n hx hb d_R_hasMacro_21 rfl (lv_at hl 0 rfl) ?_
      refine lv_iconst (v := 2) hx hb d_R_hasMacro_22 (by decide) ?_
      refine cl_i (wc := [(dd, .inr (0, [.ref da, .int (nI n), .int dy])), (da, .inl (cD, 60, .inl (nf sgn)))]) (wr := []) hP hD hK hS hA [0, 1] [] rfl rfl (by decide) (by decide) (va_runV (As := [.int (nI 2)]) (rest := []) ⟨hx, hb, hml, hown, hts⟩ (c_D_at l D H.size dd da cD sgn n dy 2 hn (by decide) hs) (cw_V hts 1 k_286 k_2 k_283 k_284 k_285 (by decide +kernel) ⟨Nat.le_of_ble_eq_true rfl, Nat.le_of_ble_eq_true rfl⟩) (pr_V hP hD hK [0, 1] [0] (by decide) rfl rfl (fun U hU hW => trivial) (fun U g mk a h => h) (q0 := 0) (ci := 0) rfl rfl) rfl rfl hl.1 rfl (lv_room (Nat.le_of_ble_eq_true rfl)) d_R_hasMacro_23 ⟨by decide, by decide⟩) (fun r8 u H locs h7 hP hD hK hS => ?_)
      have hP : va_P D wcl [(dd, .inr (0, [.ref da, .int (nI n), .int dy])), (da, .inl (cD, 60, .inl (nf sgn)))] H := hP
      have hD : va_D A [(dd, .inr (0, [.ref da, .int (nI n), .int dy])), (da, .inl (cD, 60, .inl (nf sgn)))] := hD
      have hK : va_K D wcl [(cD, .char), (cD, .char), (cD, .char), (cD, .char)] s := hK
      have h7 : r8 = nI (if 2 < n then sgn 2 else 32) := h7
      subst h7
      refine lv_bipush (v := 126) hx hb d_R_hasMacro_26 (by decide) ?_
      refine lv_icmp_eq (tgt := 35) hx hb d_R_hasMacro_28 (by decide) (fun h4 => ?_) (fun h4 => ?_)
      · refine lv_iconst (v := 0) hx hb d_R_hasMacro_35 (by decide) ?_
        have hP9 := hP.sub (ws' := [(dd, .inr (0, [.ref da, .int (nI n), .int dy])), (da, .inl (cD, 60, .inl (nf sgn)))]) [0, 1] rfl
        have hD9 := hD.sub (ws' := [(dd, .inr (0, [.ref da, .int (nI n), .int dy])), (da, .inl (cD, 60, .inl (nf sgn)))]) [0, 1] (by decide) rfl
        have hK9 := hK.sub (tys' := [(cD, .char)]) [0] rfl
        exact W.zret (v := 0) hx hb hr (by decide) (fun t9 ht hW => ⟨⟨0, (), rfl, Or.inr ⟨rfl, fun q => q.2.2 ((ceq (dch_lt hs n 2) (k := 126) (by decide)).mp h4)⟩, ⟨by rw [ht]; exact hP9, va_K.moved hW.alike hK9, hD9⟩⟩, hS.F ht⟩) hS.2.2 d_R_hasMacro_36
      · refine lv_iconst (v := 1) hx hb d_R_hasMacro_31 (by decide) ?_
        refine lv_goto (tgt := 36) hx hb d_R_hasMacro_32 (by decide) ?_
        have hP9 := hP.sub (ws' := [(dd, .inr (0, [.ref da, .int (nI n), .int dy])), (da, .inl (cD, 60, .inl (nf sgn)))]) [0, 1] rfl
        have hD9 := hD.sub (ws' := [(dd, .inr (0, [.ref da, .int (nI n), .int dy])), (da, .inl (cD, 60, .inl (nf sgn)))]) [0, 1] (by decide) rfl
        have hK9 := hK.sub (tys' := [(cD, .char)]) [0] rfl
        exact W.zret (v := 1) hx hb hr (by decide) (fun t9 ht hW => ⟨⟨1, (), rfl, Or.inl ⟨rfl, q0, h3, fun q => h4 ((ceq (dch_lt hs n 2) (k := 126) (by decide)).mpr q)⟩, ⟨by rw [ht]; exact hP9, va_K.moved hW.alike hK9, hD9⟩⟩, hS.F ht⟩) hS.2.2 d_R_hasMacro_36

set_option maxHeartbeats 4000000 in
set_option maxRecDepth 100000 in
/-- Rule.repeatsLastItems(dd, e0) -/
theorem c_R_repeatsLastItems (l : Launch) (D : va_G) (sz : Nat) (dd : Nat) (da : Nat) (cD : ClassId) (sgn : Nat → Nat) (n : Nat) (dy : Int32) (e0 : Nat) (hn : n ≤ 60) (hs : ∀ i, sgn i < 65536) (he0 : e0 ≤ 60) : Met l y_R_repeatsLastItems (Cond.code y_R_repeatsLastItems b_R_repeatsLastItems 3 (some .boolean) :: wal) ({ frames := 11, cells := 0, slots := 0, locals := 180 }) (va_Pc [.ref dd, .int (nI e0)] (pr D sz [(dd, .inr (0, [.ref da, .int (nI n), .int dy])), (da, .inl (cD, 60, .inl (nf sgn)))] [(cD, .char)] (fun _ => True))) (va_Qi (S := Unit) (fun r u => (r = 1 ∧ d_til sgn n e0) ∨ (r = 0 ∧ ¬ d_til sgn n e0)) (fun u t9 => po D (va_A ([(dd, .inr (0, [.ref da, .int (nI n), .int dy])), (da, .inl (cD, 60, .inl (nf sgn)))]) sz) ((fun u => [(dd, .inr (0, [.ref da, .int (nI n), .int dy])), (da, .inl (cD, 60, .inl (nf sgn)))]) u) ((fun u => [(cD, .char)]) u) t9) (va_A ([(dd, .inr (0, [.ref da, .int (nI n), .int dy])), (da, .inl (cD, 60, .inl (nf sgn)))]) sz)) 0 0 (va_A ([(dd, .inr (0, [.ref da, .int (nI n), .int dy])), (da, .inl (cD, 60, .inl (nf sgn)))]) sz) := by
  refine Met.ofW (cc := b_R_repeatsLastItems) (maxL := 3) (ret := (some .boolean)) (by decide) rfl ?_
  intro p e s m args below meth c s₁ B hml hv
  obtain ⟨rfl, hsz, hP, hK, hD0, hE⟩ := hv
  have hx := B.exec
  have hb := B.bytes
  have hr := B.returns
  have hts0 := atoms_spec (ws := Cond.code y_R_repeatsLastItems b_R_repeatsLastItems 3 (some .boolean) :: wal) B.pre
  have hts : ∀ w ∈ wal, w.before _ s = true := fun w h => hts0 w (List.mem_cons_of_mem _ h)
  have hown : s.vm.findClass rc_R = some m.cls := findClass_of_methodNamed B.named
  have hlocks := B.notSynchronized
  subst hsz
  have hD := hD0.self (sz := s.heap.size)
  generalize hAe : va_A ([(dd, .inr (0, [.ref da, .int (nI n), .int dy])), (da, .inl (cD, 60, .inl (nf sgn)))]) s.heap.size = A at hD ⊢
  have hA : ∀ q : Nat, s.heap.size ≤ q → A q := fun q h => by rw [← hAe]; exact Or.inr h
  have hS : va_S A s.heap s.heap [] := va_S.rf
  have hl := lv_entry ([.ref dd, .int (nI e0)]) (n := 3) (Nat.le_of_ble_eq_true rfl)
  rw [lg_entry_eq]
  generalize (lg_sl ([.ref dd, .int (nI e0)]) ++ List.replicate (3 - (lg_sl ([.ref dd, .int (nI e0)])).length) Slot.unset).toArray = ls at hl ⊢
  have hl : lv_has ls 3 [(0, .ref dd), (1, .int (nI e0))] := hl
  refine lv_iconst (v := 0) hx hb d_R_repeatsLastItems_0 (by decide) ?_
  refine lv_istore_n hx hb d_R_repeatsLastItems_1 rfl hl (by decide) rfl (fun ls hl => ?_)
  have hl : lv_has ls 3 [(2, .int 0), (0, .ref dd), (1, .int (nI e0))] := hl
  have key : ∀ (d : Nat) (i : Nat) (H : Heap) (locs : List Loc) (ls : Array Slot), e0 - i < d → (i ≤ e0) → (∀ j, j < i → dch sgn n j = 126 → dch sgn n (j + 1) = 41) → va_P D wcl [(dd, .inr (0, [.ref da, .int (nI n), .int dy])), (da, .inl (cD, 60, .inl (nf sgn)))] H → va_D A [(dd, .inr (0, [.ref da, .int (nI n), .int dy])), (da, .inl (cD, 60, .inl (nf sgn)))] → va_S A s.heap H locs → lv_has ls 3 [(2, .int (nI i)), (0, .ref dd), (1, .int (nI e0))] → W p l e (headSpec (Cond.code y_R_repeatsLastItems b_R_repeatsLastItems 3 (some .boolean) :: wal) ({ frames := 11, cells := 0, slots := 0, locals := 180 })).room s m ([.ref dd, .int (nI e0)] : List Value).toArray below meth c H locs 0 0 (MQ below (va_Qi (S := Unit) (fun r u => (r = 1 ∧ d_til sgn n e0) ∨ (r = 0 ∧ ¬ d_til sgn n e0)) (fun u t9 => po D (A) ((fun u => [(dd, .inr (0, [.ref da, .int (nI n), .int dy])), (da, .inl (cD, 60, .inl (nf sgn)))]) u) ((fun u => [(cD, .char)]) u) t9) (A)) ([.ref dd, .int (nI e0)] : List Value).toArray s 0 0 A) (F0 m 2 ls []) := by
    intro d
    induction d with
    | zero => intro i H locs ls hd; exact absurd hd (Nat.not_lt_zero _)
    | succ d ih =>
      intro i H locs ls hd hi hv hP hD hS hl
      refine lv_iload_n hx hb d_R_repeatsLastItems_2 rfl (lv_at hl 0 rfl) ?_
      refine lv_iload_n hx hb d_R_repeatsLastItems_3 rfl (lv_at hl 2 rfl) ?_
      refine lv_icmp_ge (tgt := 37) hx hb d_R_repeatsLastItems_4 (by decide) (fun h1 => ?_) (fun h1 => ?_)
      · have h2 : ¬ i < e0 := fun h => absurd h1 (nI_ge h (by omega))
        refine lv_iconst (v := 1) hx hb d_R_repeatsLastItems_37 (by decide) ?_
        have hP9 := hP.sub (ws' := [(dd, .inr (0, [.ref da, .int (nI n), .int dy])), (da, .inl (cD, 60, .inl (nf sgn)))]) [0, 1] rfl
        have hD9 := hD.sub (ws' := [(dd, .inr (0, [.ref da, .int (nI n), .int dy])), (da, .inl (cD, 60, .inl (nf sgn)))]) [0, 1] (by decide) rfl
        have hK9 := hK.sub (tys' := [(cD, .char)]) [0] rfl
        exact W.zret (v := 1) hx hb hr (by decide) (fun t9 ht hW => ⟨⟨1, (), rfl, Or.inl ⟨rfl, fun j hj => hv j (by omega)⟩, ⟨by rw [ht]; exact hP9, va_K.moved hW.alike hK9, hD9⟩⟩, hS.F ht⟩) hS.2.2 d_R_repeatsLastItems_38
      · have h2 : i < e0 := Nat.not_le.mp (fun h => h1 (nI_le h (by omega)))
        refine lv_aload_n hx hb d_R_repeatsLastItems_7 rfl (lv_at hl 1 rfl) ?_
        refine lv_iload_n hx hb d_R_repeatsLastItems_8 rfl (lv_at hl 0 rfl) ?_
        refine cl_i (wc := [(dd, .inr (0, [.ref da, .int (nI n), .int dy])), (da, .inl (cD, 60, .inl (nf sgn)))]) (wr := []) hP hD hK hS hA [0, 1] [] rfl rfl (by decide) (by decide) (va_runV (As := [.int (nI i)]) (rest := []) ⟨hx, hb, hml, hown, hts⟩ (c_D_at l D H.size dd da cD sgn n dy i hn (by omega) hs) (cw_V hts 1 k_286 k_2 k_283 k_284 k_285 (by decide +kernel) ⟨Nat.le_of_ble_eq_true rfl, Nat.le_of_ble_eq_true rfl⟩) (pr_V hP hD hK [0, 1] [0] (by decide) rfl rfl (fun U hU hW => trivial) (fun U g mk a h => h) (q0 := 0) (ci := 0) rfl rfl) rfl rfl hl.1 rfl (lv_room (Nat.le_of_ble_eq_true rfl)) d_R_repeatsLastItems_9 ⟨by decide, by decide⟩) (fun r2 u H locs h1 hP hD hK hS => ?_)
        have hP : va_P D wcl [(dd, .inr (0, [.ref da, .int (nI n), .int dy])), (da, .inl (cD, 60, .inl (nf sgn)))] H := hP
        have hD : va_D A [(dd, .inr (0, [.ref da, .int (nI n), .int dy])), (da, .inl (cD, 60, .inl (nf sgn)))] := hD
        have hK : va_K D wcl [(cD, .char), (cD, .char)] s := hK
        have h1 : r2 = nI (if i < n then sgn i else 32) := h1
        subst h1
        refine lv_bipush (v := 126) hx hb d_R_repeatsLastItems_12 (by decide) ?_
        refine lv_icmp_ne (tgt := 31) hx hb d_R_repeatsLastItems_14 (by decide) (fun h3 => ?_) (fun h3 => ?_)
        · refine lv_iinc (k := 0) (v := nI (i + 1)) hx hb d_R_repeatsLastItems_31 hl rfl (nI_1 i) (by decide) rfl (fun ls hl => ?_)
          have hl : lv_has ls 3 [(2, .int (nI (i + 1))), (0, .ref dd), (1, .int (nI e0))] := hl
          refine lv_goto (tgt := 2) hx hb d_R_repeatsLastItems_34 (by decide) ?_
          have hP := hP.sub (ws' := [(dd, .inr (0, [.ref da, .int (nI n), .int dy])), (da, .inl (cD, 60, .inl (nf sgn)))]) [0, 1] rfl
          have hD := hD.sub (ws' := [(dd, .inr (0, [.ref da, .int (nI n), .int dy])), (da, .inl (cD, 60, .inl (nf sgn)))]) [0, 1] (by decide) rfl
          have hK := hK.sub (tys' := [(cD, .char)]) [0] rfl
          exact ih (i + 1) H locs ls (by omega) (by omega) (fun j hj => by rcases Nat.lt_succ_iff_lt_or_eq.mp hj with h9 | h9; exact hv j h9; rw [h9]; exact fun q => absurd ((ceq (dch_lt hs n i) (k := 126) (by decide)).mpr q) h3) hP hD hS hl
        · have q0 : dch sgn n i = 126 := (ceq (dch_lt hs n i) (k := 126) (by decide)).mp h3
          refine lv_aload_n hx hb d_R_repeatsLastItems_17 rfl (lv_at hl 1 rfl) ?_
          refine lv_iload_n hx hb d_R_repeatsLastItems_18 rfl (lv_at hl 0 rfl) ?_
          refine lv_iconst (v := 1) hx hb d_R_repeatsLastItems_19 (by decide) ?_
          refine lv_iadd hx hb d_R_repeatsLastItems_20 ?_
          refine lv_topi (fun z9 ez9 => ?_)
          have ez9 : z9 = (nI (i + 1)) := ez9.trans (nI_1 i)
          subst ez9
          refine cl_i (wc := [(dd, .inr (0, [.ref da, .int (nI n), .int dy])), (da, .inl (cD, 60, .inl (nf sgn)))]) (wr := []) hP hD hK hS hA [0, 1] [] rfl rfl (by decide) (by decide) (va_runV (As := [.int (nI (i + 1))]) (rest := []) ⟨hx, hb, hml, hown, hts⟩ (c_D_at l D H.size dd da cD sgn n dy (i + 1) hn (by omega) hs) (cw_V hts 1 k_286 k_2 k_283 k_284 k_285 (by decide +kernel) ⟨Nat.le_of_ble_eq_true rfl, Nat.le_of_ble_eq_true rfl⟩) (pr_V hP hD hK [0, 1] [0] (by decide) rfl rfl (fun U hU hW => trivial) (fun U g mk a h => h) (q0 := 0) (ci := 0) rfl rfl) rfl rfl hl.1 rfl (lv_room (Nat.le_of_ble_eq_true rfl)) d_R_repeatsLastItems_21 ⟨by decide, by decide⟩) (fun r4 u H locs h3 hP hD hK hS => ?_)
          have hP : va_P D wcl [(dd, .inr (0, [.ref da, .int (nI n), .int dy])), (da, .inl (cD, 60, .inl (nf sgn)))] H := hP
          have hD : va_D A [(dd, .inr (0, [.ref da, .int (nI n), .int dy])), (da, .inl (cD, 60, .inl (nf sgn)))] := hD
          have hK : va_K D wcl [(cD, .char), (cD, .char), (cD, .char)] s := hK
          have h3 : r4 = nI (if (i + 1) < n then sgn (i + 1) else 32) := h3
          subst h3
          refine lv_bipush (v := 41) hx hb d_R_repeatsLastItems_24 (by decide) ?_
          refine lv_icmp_eq (tgt := 31) hx hb d_R_repeatsLastItems_26 (by decide) (fun h4 => ?_) (fun h4 => ?_)
          · have q1 : dch sgn n (i + 1) = 41 := (ceq (dch_lt hs n (i + 1)) (k := 41) (by decide)).mp h4
            refine lv_iinc (k := 0) (v := nI (i + 1)) hx hb d_R_repeatsLastItems_31 hl rfl (nI_1 i) (by decide) rfl (fun ls hl => ?_)
            have hl : lv_has ls 3 [(2, .int (nI (i + 1))), (0, .ref dd), (1, .int (nI e0))] := hl
            refine lv_goto (tgt := 2) hx hb d_R_repeatsLastItems_34 (by decide) ?_
            have hP := hP.sub (ws' := [(dd, .inr (0, [.ref da, .int (nI n), .int dy])), (da, .inl (cD, 60, .inl (nf sgn)))]) [0, 1] rfl
            have hD := hD.sub (ws' := [(dd, .inr (0, [.ref da, .int (nI n), .int dy])), (da, .inl (cD, 60, .inl (nf sgn)))]) [0, 1] (by decide) rfl
            have hK := hK.sub (tys' := [(cD, .char)]) [0] rfl
            exact ih (i + 1) H locs ls (by omega) (by omega) (fun j hj => by rcases Nat.lt_succ_iff_lt_or_eq.mp hj with h9 | h9; exact hv j h9; rw [h9]; exact fun _ => q1) hP hD hS hl
          · refine lv_iconst (v := 0) hx hb d_R_repeatsLastItems_29 (by decide) ?_
            have hP9 := hP.sub (ws' := [(dd, .inr (0, [.ref da, .int (nI n), .int dy])), (da, .inl (cD, 60, .inl (nf sgn)))]) [0, 1] rfl
            have hD9 := hD.sub (ws' := [(dd, .inr (0, [.ref da, .int (nI n), .int dy])), (da, .inl (cD, 60, .inl (nf sgn)))]) [0, 1] (by decide) rfl
            have hK9 := hK.sub (tys' := [(cD, .char)]) [0] rfl
            exact W.zret (v := 0) hx hb hr (by decide) (fun t9 ht hW => ⟨⟨0, (), rfl, Or.inr ⟨rfl, fun q => h4 ((ceq (dch_lt hs n (i + 1)) (k := 41) (by decide)).mpr (q i h2 q0))⟩, ⟨by rw [ht]; exact hP9, va_K.moved hW.alike hK9, hD9⟩⟩, hS.F ht⟩) hS.2.2 d_R_repeatsLastItems_30
  exact key _ 0 s.heap [] ls (Nat.lt_succ_self _) (Nat.zero_le _) (fun j hj => absurd hj (Nat.not_lt_zero _)) hP hD hS hl
