set_option maxHeartbeats 4000000 in
set_option maxRecDepth 100000 in
/-- Draft(): an empty draft, its row of 60 signs -/
theorem c_D_init (l : Launch) (D : va_G) (sz : Nat) (h : Nat) : Met l y_D_init (Cond.code y_D_init b_D_init 1 none :: wal) ({ frames := 10, cells := 1, slots := 60, locals := 120 }) (va_Pc [.ref h] (pr D sz [(h, .inr (0, [.null, .int 0, .int 0]))] [] (fun _ => True))) (va_Qv (S := Nat × ClassId) (fun u => True) (fun u t9 => po D (va_A ([(h, .inr (0, [.null, .int 0, .int 0]))]) sz) ((fun u => [(h, .inr (0, [.ref u.1, .int 0, .int 0])), (u.1, .inl (u.2, 60, .inl (fun _ => 0)))]) u) ((fun u => [(u.2, .char)]) u) t9) (va_A ([(h, .inr (0, [.null, .int 0, .int 0]))]) sz)) 1 60 (va_A ([(h, .inr (0, [.null, .int 0, .int 0]))]) sz) := by
  refine Met.ofW (cc := b_D_init) (maxL := 1) (ret := none) (by decide) rfl ?_
  intro p e s m args below meth c s₁ B hml hv
  obtain ⟨rfl, hsz, hP, hK, hD0, hE⟩ := hv
  have hx := B.exec
  have hb := B.bytes
  have hr := B.returns
  have hts0 := atoms_spec (ws := Cond.code y_D_init b_D_init 1 none :: wal) B.pre
  have hts : ∀ w ∈ wal, w.before _ s = true := fun w h => hts0 w (List.mem_cons_of_mem _ h)
  have hown : s.vm.findClass rc_D = some m.cls := findClass_of_methodNamed B.named
  have hlocks := B.notSynchronized
  have hin : meth.name = "<init>" := (name_of_methodNamed B.named B.method).1
  subst hsz
  have hD := hD0.self (sz := s.heap.size)
  generalize hAe : va_A ([(h, .inr (0, [.null, .int 0, .int 0]))]) s.heap.size = A at hD ⊢
  have hA : ∀ q : Nat, s.heap.size ≤ q → A q := fun q h => by rw [← hAe]; exact Or.inr h
  have hS : va_S A s.heap s.heap [] := va_S.rf
  have hl := lv_entry ([.ref h]) (n := 1) (Nat.le_of_ble_eq_true rfl)
  rw [lg_entry_eq]
  generalize (lg_sl ([.ref h]) ++ List.replicate (1 - (lg_sl ([.ref h])).length) Slot.unset).toArray = ls at hl ⊢
  have hl : lv_has ls 1 [(0, .ref h)] := hl
  refine lv_aload_n hx hb d_D_init_0 rfl (lv_at hl 0 rfl) ?_
  refine W.objInit hx hb hown (hts _ k_31) (hts _ k_24) (hts _ k_25) rfl (by rw [hml]; exact hl.1) rfl d_D_init_1 (Nat.le_of_ble_eq_true rfl) (Nat.le_of_ble_eq_true rfl) ?_
  refine W.eq (g2 := F0 m 4 ls []) rfl ?_
  refine lv_aload_n hx hb d_D_init_4 rfl (lv_at hl 0 rfl) ?_
  refine lv_bipush (v := 60) hx hb d_D_init_5 (by decide) ?_
  refine va_newa (atype := .char) (ty := .char) (N' := 60) (a0 := (60, .inl (fun _ => 0))) hx hb (hts _ k_42) rfl hK hP hD hS hA (fun cA => rfl) (by decide) (by decide) (by decide) (by decide) (by decide) d_D_init_7 (fun q1 cA2 H hK hP hD hS => ?_)
  have hP : va_P D wcl [(h, .inr (0, [.null, .int 0, .int 0])), (q1, .inl (cA2, 60, .inl (fun _ => 0)))] H := hP
  have hD : va_D A [(h, .inr (0, [.null, .int 0, .int 0])), (q1, .inl (cA2, 60, .inl (fun _ => 0)))] := hD
  have hK : va_K D wcl [(cA2, .char)] s := hK
  refine W.widen (k := 1) (n := 60) (by decide) (by decide) ?_
  refine va_putF (D := D) (ci := 0) (v := .ref q1) (ty := .array .char) (C := rc_D) (T := ft_D) (N := 3) hx hb hts in_D ty_D tk_D nm_D hown hK hP hD hS 0 rfl rfl 0 (by decide) (hts _ k_32) (fun _ h9 => h9) rfl hin rfl (by decide +kernel) rfl rfl (Nat.le_of_ble_eq_true rfl) d_D_init_9 (fun H locs hP hD hS => ?_)
  have hP : va_P D wcl [(h, .inr (0, [.ref q1, .int 0, .int 0])), (q1, .inl (cA2, 60, .inl (fun _ => 0)))] H := hP
  have hD : va_D A [(h, .inr (0, [.ref q1, .int 0, .int 0])), (q1, .inl (cA2, 60, .inl (fun _ => 0)))] := hD
  have hP9 := hP.sub (ws' := [(h, .inr (0, [.ref q1, .int 0, .int 0])), (q1, .inl (cA2, 60, .inl (fun _ => 0)))]) [0, 1] rfl
  have hD9 := hD.sub (ws' := [(h, .inr (0, [.ref q1, .int 0, .int 0])), (q1, .inl (cA2, 60, .inl (fun _ => 0)))]) [0, 1] (by decide) rfl
  have hK9 := hK.sub (tys' := [(cA2, .char)]) [0] rfl
  exact W.vret hx hb hr (fun t9 ht hW => ⟨⟨(q1, cA2), rfl, trivial, ⟨by rw [ht]; exact hP9, va_K.moved hW.alike hK9, hD9⟩⟩, hS.F ht⟩) hS.2.2 d_D_init_12

set_option maxHeartbeats 4000000 in
set_option maxRecDepth 100000 in
/-- Draft.clear() -/
theorem c_D_clear (l : Launch) (D : va_G) (sz : Nat) (h : Nat) (a1 : Nat) (x : Int32) (y : Int32) : Met l y_D_clear (Cond.code y_D_clear b_D_clear 1 none :: wal) ({ frames := 10, cells := 0, slots := 0, locals := 120 }) (va_Pc [.ref h] (pr D sz [(h, .inr (0, [.ref a1, .int x, .int y]))] [] (fun _ => True))) (va_Qv (S := Unit) (fun u => True) (fun u t9 => po D (va_A ([(h, .inr (0, [.ref a1, .int x, .int y]))]) sz) ((fun u => [(h, .inr (0, [.ref a1, .int 0, .int 0]))]) u) ((fun u => []) u) t9) (va_A ([(h, .inr (0, [.ref a1, .int x, .int y]))]) sz)) 0 0 (va_A ([(h, .inr (0, [.ref a1, .int x, .int y]))]) sz) := by
  refine Met.ofW (cc := b_D_clear) (maxL := 1) (ret := none) (by decide) rfl ?_
  intro p e s m args below meth c s₁ B hml hv
  obtain ⟨rfl, hsz, hP, hK, hD0, hE⟩ := hv
  have hx := B.exec
  have hb := B.bytes
  have hr := B.returns
  have hts0 := atoms_spec (ws := Cond.code y_D_clear b_D_clear 1 none :: wal) B.pre
  have hts : ∀ w ∈ wal, w.before _ s = true := fun w h => hts0 w (List.mem_cons_of_mem _ h)
  have hown : s.vm.findClass rc_D = some m.cls := findClass_of_methodNamed B.named
  have hlocks := B.notSynchronized
  subst hsz
  have hD := hD0.self (sz := s.heap.size)
  generalize hAe : va_A ([(h, .inr (0, [.ref a1, .int x, .int y]))]) s.heap.size = A at hD ⊢
  have hA : ∀ q : Nat, s.heap.size ≤ q → A q := fun q h => by rw [← hAe]; exact Or.inr h
  have hS : va_S A s.heap s.heap [] := va_S.rf
  have hl := lv_entry ([.ref h]) (n := 1) (Nat.le_of_ble_eq_true rfl)
  rw [lg_entry_eq]
  generalize (lg_sl ([.ref h]) ++ List.replicate (1 - (lg_sl ([.ref h])).length) Slot.unset).toArray = ls at hl ⊢
  have hl : lv_has ls 1 [(0, .ref h)] := hl
  refine lv_aload_n hx hb d_D_clear_0 rfl (lv_at hl 0 rfl) ?_
  refine lv_iconst (v := 0) hx hb d_D_clear_1 (by decide) ?_
  refine va_put (D := D) (ci := 0) (v := .int 0) (ty := .int) (C := rc_D) (T := ft_D) (N := 3) hx hb hts in_D ty_D tk_D nm_D hown hK hP hD hS 0 rfl rfl 1 (by decide) (hts _ k_33) (fun _ h9 => h9) rfl (by decide +kernel) rfl rfl (Nat.le_of_ble_eq_true rfl) d_D_clear_2 (fun H locs hP hD hS => ?_)
  have hP : va_P D wcl [(h, .inr (0, [.ref a1, .int 0, .int y]))] H := hP
  have hD : va_D A [(h, .inr (0, [.ref a1, .int 0, .int y]))] := hD
  refine lv_aload_n hx hb d_D_clear_5 rfl (lv_at hl 0 rfl) ?_
  refine lv_iconst (v := 0) hx hb d_D_clear_6 (by decide) ?_
  refine va_put (D := D) (ci := 0) (v := .int 0) (ty := .int) (C := rc_D) (T := ft_D) (N := 3) hx hb hts in_D ty_D tk_D nm_D hown hK hP hD hS 0 rfl rfl 2 (by decide) (hts _ k_34) (fun _ h9 => h9) rfl (by decide +kernel) rfl rfl (Nat.le_of_ble_eq_true rfl) d_D_clear_7 (fun H locs hP hD hS => ?_)
  have hP : va_P D wcl [(h, .inr (0, [.ref a1, .int 0, .int 0]))] H := hP
  have hD : va_D A [(h, .inr (0, [.ref a1, .int 0, .int 0]))] := hD
  have hP9 := hP.sub (ws' := [(h, .inr (0, [.ref a1, .int 0, .int 0]))]) [0] rfl
  have hD9 := hD.sub (ws' := [(h, .inr (0, [.ref a1, .int 0, .int 0]))]) [0] (by decide) rfl
  have hK9 := hK.sub (tys' := []) [] rfl
  exact W.vret hx hb hr (fun t9 ht hW => ⟨⟨(), rfl, trivial, ⟨by rw [ht]; exact hP9, va_K.moved hW.alike hK9, hD9⟩⟩, hS.F ht⟩) hS.2.2 d_D_clear_10

set_option maxHeartbeats 4000000 in
set_option maxRecDepth 100000 in
/-- Draft.length() -/
theorem c_D_length (l : Launch) (D : va_G) (sz : Nat) (h : Nat) (a1 : Nat) (x : Int32) (y : Int32) : Met l y_D_length (Cond.code y_D_length b_D_length 1 (some .int) :: wal) ({ frames := 10, cells := 0, slots := 0, locals := 120 }) (va_Pc [.ref h] (pr D sz [(h, .inr (0, [.ref a1, .int x, .int y]))] [] (fun _ => True))) (va_Qi (S := Unit) (fun r u => r = x) (fun u t9 => po D (va_A ([(h, .inr (0, [.ref a1, .int x, .int y]))]) sz) ((fun u => [(h, .inr (0, [.ref a1, .int x, .int y]))]) u) ((fun u => []) u) t9) (va_A ([(h, .inr (0, [.ref a1, .int x, .int y]))]) sz)) 0 0 (va_A ([(h, .inr (0, [.ref a1, .int x, .int y]))]) sz) := by
  refine Met.ofW (cc := b_D_length) (maxL := 1) (ret := (some .int)) (by decide) rfl ?_
  intro p e s m args below meth c s₁ B hml hv
  obtain ⟨rfl, hsz, hP, hK, hD0, hE⟩ := hv
  have hx := B.exec
  have hb := B.bytes
  have hr := B.returns
  have hts0 := atoms_spec (ws := Cond.code y_D_length b_D_length 1 (some .int) :: wal) B.pre
  have hts : ∀ w ∈ wal, w.before _ s = true := fun w h => hts0 w (List.mem_cons_of_mem _ h)
  have hown : s.vm.findClass rc_D = some m.cls := findClass_of_methodNamed B.named
  have hlocks := B.notSynchronized
  subst hsz
  have hD := hD0.self (sz := s.heap.size)
  generalize hAe : va_A ([(h, .inr (0, [.ref a1, .int x, .int y]))]) s.heap.size = A at hD ⊢
  have hA : ∀ q : Nat, s.heap.size ≤ q → A q := fun q h => by rw [← hAe]; exact Or.inr h
  have hS : va_S A s.heap s.heap [] := va_S.rf
  have hl := lv_entry ([.ref h]) (n := 1) (Nat.le_of_ble_eq_true rfl)
  rw [lg_entry_eq]
  generalize (lg_sl ([.ref h]) ++ List.replicate (1 - (lg_sl ([.ref h])).length) Slot.unset).toArray = ls at hl ⊢
  have hl : lv_has ls 1 [(0, .ref h)] := hl
  refine lv_aload_n hx hb d_D_length_0 rfl (lv_at hl 0 rfl) ?_
  refine va_get (D := D) (ci := 0) (v := .int x) (C := rc_D) (T := ft_D) (N := 3) hx hb hts in_D hown hK hP 0 rfl rfl 1 (by decide) (hts _ k_33) (fun _ h9 => h9) rfl d_D_length_1 ?_
  have hP9 := hP.sub (ws' := [(h, .inr (0, [.ref a1, .int x, .int y]))]) [0] rfl
  have hD9 := hD.sub (ws' := [(h, .inr (0, [.ref a1, .int x, .int y]))]) [0] (by decide) rfl
  have hK9 := hK.sub (tys' := []) [] rfl
  exact W.iret (v := x) hx hb hr (fun t9 ht hW => ⟨⟨x, (), rfl, rfl, ⟨by rw [ht]; exact hP9, va_K.moved hW.alike hK9, hD9⟩⟩, hS.F ht⟩) hS.2.2 d_D_length_4

set_option maxHeartbeats 4000000 in
set_option maxRecDepth 100000 in
/-- Draft.at(j) of an empty draft: a blank -/
theorem c_D_at0 (l : Launch) (D : va_G) (sz : Nat) (h : Nat) (a1 : Nat) (y : Int32) (j : Int32) : Met l y_D_at (Cond.code y_D_at b_D_at 2 (some .char) :: wal) ({ frames := 10, cells := 0, slots := 0, locals := 120 }) (va_Pc [.ref h, .int j] (pr D sz [(h, .inr (0, [.ref a1, .int 0, .int y]))] [] (fun _ => True))) (va_Qi (S := Unit) (fun r u => r = 32) (fun u t9 => po D (va_A ([(h, .inr (0, [.ref a1, .int 0, .int y]))]) sz) ((fun u => [(h, .inr (0, [.ref a1, .int 0, .int y]))]) u) ((fun u => []) u) t9) (va_A ([(h, .inr (0, [.ref a1, .int 0, .int y]))]) sz)) 0 0 (va_A ([(h, .inr (0, [.ref a1, .int 0, .int y]))]) sz) := by
  refine Met.ofW (cc := b_D_at) (maxL := 2) (ret := (some .char)) (by decide) rfl ?_
  intro p e s m args below meth c s₁ B hml hv
  obtain ⟨rfl, hsz, hP, hK, hD0, hE⟩ := hv
  have hx := B.exec
  have hb := B.bytes
  have hr := B.returns
  have hts0 := atoms_spec (ws := Cond.code y_D_at b_D_at 2 (some .char) :: wal) B.pre
  have hts : ∀ w ∈ wal, w.before _ s = true := fun w h => hts0 w (List.mem_cons_of_mem _ h)
  have hown : s.vm.findClass rc_D = some m.cls := findClass_of_methodNamed B.named
  have hlocks := B.notSynchronized
  subst hsz
  have hD := hD0.self (sz := s.heap.size)
  generalize hAe : va_A ([(h, .inr (0, [.ref a1, .int 0, .int y]))]) s.heap.size = A at hD ⊢
  have hA : ∀ q : Nat, s.heap.size ≤ q → A q := fun q h => by rw [← hAe]; exact Or.inr h
  have hS : va_S A s.heap s.heap [] := va_S.rf
  have hl := lv_entry ([.ref h, .int j]) (n := 2) (Nat.le_of_ble_eq_true rfl)
  rw [lg_entry_eq]
  generalize (lg_sl ([.ref h, .int j]) ++ List.replicate (2 - (lg_sl ([.ref h, .int j])).length) Slot.unset).toArray = ls at hl ⊢
  have hl : lv_has ls 2 [(0, .ref h), (1, .int j)] := hl
  refine lv_iload_n hx hb d_D_at_0 rfl (lv_at hl 1 rfl) ?_
  refine lv_if_lt (tgt := 21) hx hb d_D_at_1 (by decide) (fun _ => ?_) (fun h1 => ?_)
  · refine lv_bipush (v := 32) hx hb d_D_at_21 (by decide) ?_
    have hP9 := hP.sub (ws' := [(h, .inr (0, [.ref a1, .int 0, .int y]))]) [0] rfl
    have hD9 := hD.sub (ws' := [(h, .inr (0, [.ref a1, .int 0, .int y]))]) [0] (by decide) rfl
    have hK9 := hK.sub (tys' := []) [] rfl
    exact W.zret (v := 32) hx hb hr (by decide) (fun t9 ht hW => ⟨⟨32, (), rfl, rfl, ⟨by rw [ht]; exact hP9, va_K.moved hW.alike hK9, hD9⟩⟩, hS.F ht⟩) hS.2.2 d_D_at_23
  · refine lv_iload_n hx hb d_D_at_4 rfl (lv_at hl 1 rfl) ?_
    refine lv_aload_n hx hb d_D_at_5 rfl (lv_at hl 0 rfl) ?_
    refine va_get (D := D) (ci := 0) (v := .int 0) (C := rc_D) (T := ft_D) (N := 3) hx hb hts in_D hown hK hP 0 rfl rfl 1 (by decide) (hts _ k_33) (fun _ h9 => h9) rfl d_D_at_6 ?_
    refine lv_icmp_ge (tgt := 21) hx hb d_D_at_9 (by decide) (fun _ => ?_) (fun h9 => absurd (Int32.not_lt.mp h1) h9)
    refine lv_bipush (v := 32) hx hb d_D_at_21 (by decide) ?_
    have hP9 := hP.sub (ws' := [(h, .inr (0, [.ref a1, .int 0, .int y]))]) [0] rfl
    have hD9 := hD.sub (ws' := [(h, .inr (0, [.ref a1, .int 0, .int y]))]) [0] (by decide) rfl
    have hK9 := hK.sub (tys' := []) [] rfl
    exact W.zret (v := 32) hx hb hr (by decide) (fun t9 ht hW => ⟨⟨32, (), rfl, rfl, ⟨by rw [ht]; exact hP9, va_K.moved hW.alike hK9, hD9⟩⟩, hS.F ht⟩) hS.2.2 d_D_at_23

set_option maxHeartbeats 4000000 in
set_option maxRecDepth 100000 in
/-- Draft.find(..) in an empty draft: 0 -/
theorem c_D_find0 (l : Launch) (D : va_G) (sz : Nat) (h : Nat) (a1 : Nat) (y : Int32) (j : Int32) : Met l y_D_find (Cond.code y_D_find b_D_find 3 (some .int) :: wal) ({ frames := 10, cells := 0, slots := 0, locals := 120 }) (va_Pc [.ref h, .int j] (pr D sz [(h, .inr (0, [.ref a1, .int 0, .int y]))] [] (fun _ => True))) (va_Qi (S := Unit) (fun r u => r = 0) (fun u t9 => po D (va_A ([(h, .inr (0, [.ref a1, .int 0, .int y]))]) sz) ((fun u => [(h, .inr (0, [.ref a1, .int 0, .int y]))]) u) ((fun u => []) u) t9) (va_A ([(h, .inr (0, [.ref a1, .int 0, .int y]))]) sz)) 0 0 (va_A ([(h, .inr (0, [.ref a1, .int 0, .int y]))]) sz) := by
  refine Met.ofW (cc := b_D_find) (maxL := 3) (ret := (some .int)) (by decide) rfl ?_
  intro p e s m args below meth c s₁ B hml hv
  obtain ⟨rfl, hsz, hP, hK, hD0, hE⟩ := hv
  have hx := B.exec
  have hb := B.bytes
  have hr := B.returns
  have hts0 := atoms_spec (ws := Cond.code y_D_find b_D_find 3 (some .int) :: wal) B.pre
  have hts : ∀ w ∈ wal, w.before _ s = true := fun w h => hts0 w (List.mem_cons_of_mem _ h)
  have hown : s.vm.findClass rc_D = some m.cls := findClass_of_methodNamed B.named
  have hlocks := B.notSynchronized
  subst hsz
  have hD := hD0.self (sz := s.heap.size)
  generalize hAe : va_A ([(h, .inr (0, [.ref a1, .int 0, .int y]))]) s.heap.size = A at hD ⊢
  have hA : ∀ q : Nat, s.heap.size ≤ q → A q := fun q h => by rw [← hAe]; exact Or.inr h
  have hS : va_S A s.heap s.heap [] := va_S.rf
  have hl := lv_entry ([.ref h, .int j]) (n := 3) (Nat.le_of_ble_eq_true rfl)
  rw [lg_entry_eq]
  generalize (lg_sl ([.ref h, .int j]) ++ List.replicate (3 - (lg_sl ([.ref h, .int j])).length) Slot.unset).toArray = ls at hl ⊢
  have hl : lv_has ls 3 [(0, .ref h), (1, .int j)] := hl
  refine lv_iconst (v := 0) hx hb d_D_find_0 (by decide) ?_
  refine lv_istore_n hx hb d_D_find_1 rfl hl (by decide) rfl (fun ls hl => ?_)
  have hl : lv_has ls 3 [(2, .int 0), (0, .ref h), (1, .int j)] := hl
  refine lv_iload_n hx hb d_D_find_2 rfl (lv_at hl 0 rfl) ?_
  refine lv_aload_n hx hb d_D_find_3 rfl (lv_at hl 1 rfl) ?_
  refine va_get (D := D) (ci := 0) (v := .int 0) (C := rc_D) (T := ft_D) (N := 3) hx hb hts in_D hown hK hP 0 rfl rfl 1 (by decide) (hts _ k_33) (fun _ h9 => h9) rfl d_D_find_4 ?_
  refine lv_icmp_ge (tgt := 28) hx hb d_D_find_7 (by decide) (fun _ => ?_) (fun h9 => absurd (by decide) h9)
  refine lv_aload_n hx hb d_D_find_28 rfl (lv_at hl 1 rfl) ?_
  refine va_get (D := D) (ci := 0) (v := .int 0) (C := rc_D) (T := ft_D) (N := 3) hx hb hts in_D hown hK hP 0 rfl rfl 1 (by decide) (hts _ k_33) (fun _ h9 => h9) rfl d_D_find_29 ?_
  have hP9 := hP.sub (ws' := [(h, .inr (0, [.ref a1, .int 0, .int y]))]) [0] rfl
  have hD9 := hD.sub (ws' := [(h, .inr (0, [.ref a1, .int 0, .int y]))]) [0] (by decide) rfl
  have hK9 := hK.sub (tys' := []) [] rfl
  exact W.iret (v := 0) hx hb hr (fun t9 ht hW => ⟨⟨0, (), rfl, rfl, ⟨by rw [ht]; exact hP9, va_K.moved hW.alike hK9, hD9⟩⟩, hS.F ht⟩) hS.2.2 d_D_find_32

set_option maxHeartbeats 4000000 in
set_option maxRecDepth 100000 in
/-- Draft.put(k) -/
theorem c_D_put (l : Launch) (D : va_G) (sz : Nat) (h : Nat) (a1 : Nat) (cC : ClassId) (sg : Nat → Int32) (n : Nat) (t : Nat) (k : Int32) (hn : n ≤ t) (ht0 : t ≤ 60) : Met l y_D_put (Cond.code y_D_put b_D_put 2 (some .boolean) :: wal) ({ frames := 10, cells := 0, slots := 0, locals := 120 }) (va_Pc [.ref h, .int k] (pr D sz [(h, .inr (0, [.ref a1, .int (nI n), .int (nI t)])), (a1, .inl (cC, 60, .inl sg))] [(cC, .char)] (fun _ => True))) (va_Qi (S := Nat × Nat × (Nat → Int32)) (fun r u => (r = 0 ∧ (k < 32 ∨ 126 < k ∨ t = 60) ∧ u.1 = n ∧ u.2.1 = t ∧ u.2.2 = sg) ∨ (r = 1 ∧ ¬ k < 32 ∧ ¬ 126 < k ∧ t < 60 ∧ u.2.1 = t + 1 ∧ ((k = 32 ∧ u.1 = n ∧ u.2.2 = sg) ∨ (¬ k = 32 ∧ u.1 = n + 1 ∧ u.2.2 = upd sg n (vp_nar .char k))))) (fun u t9 => po D (va_A ([(h, .inr (0, [.ref a1, .int (nI n), .int (nI t)])), (a1, .inl (cC, 60, .inl sg))]) sz) ((fun u => [(h, .inr (0, [.ref a1, .int (nI u.1), .int (nI u.2.1)])), (a1, .inl (cC, 60, .inl u.2.2))]) u) ((fun u => [(cC, .char)]) u) t9) (va_A ([(h, .inr (0, [.ref a1, .int (nI n), .int (nI t)])), (a1, .inl (cC, 60, .inl sg))]) sz)) 0 0 (va_A ([(h, .inr (0, [.ref a1, .int (nI n), .int (nI t)])), (a1, .inl (cC, 60, .inl sg))]) sz) := by
  refine Met.ofW (cc := b_D_put) (maxL := 2) (ret := (some .boolean)) (by decide) rfl ?_
  intro p e s m args below meth c s₁ B hml hv
  obtain ⟨rfl, hsz, hP, hK, hD0, hE⟩ := hv
  have hx := B.exec
  have hb := B.bytes
  have hr := B.returns
  have hts0 := atoms_spec (ws := Cond.code y_D_put b_D_put 2 (some .boolean) :: wal) B.pre
  have hts : ∀ w ∈ wal, w.before _ s = true := fun w h => hts0 w (List.mem_cons_of_mem _ h)
  have hown : s.vm.findClass rc_D = some m.cls := findClass_of_methodNamed B.named
  have hlocks := B.notSynchronized
  subst hsz
  have hD := hD0.self (sz := s.heap.size)
  generalize hAe : va_A ([(h, .inr (0, [.ref a1, .int (nI n), .int (nI t)])), (a1, .inl (cC, 60, .inl sg))]) s.heap.size = A at hD ⊢
  have hA : ∀ q : Nat, s.heap.size ≤ q → A q := fun q h => by rw [← hAe]; exact Or.inr h
  have hS : va_S A s.heap s.heap [] := va_S.rf
  have hl := lv_entry ([.ref h, .int k]) (n := 2) (Nat.le_of_ble_eq_true rfl)
  rw [lg_entry_eq]
  generalize (lg_sl ([.ref h, .int k]) ++ List.replicate (2 - (lg_sl ([.ref h, .int k])).length) Slot.unset).toArray = ls at hl ⊢
  have hl : lv_has ls 2 [(0, .ref h), (1, .int k)] := hl
  refine lv_iload_n hx hb d_D_put_0 rfl (lv_at hl 1 rfl) ?_
  refine lv_bipush (v := 32) hx hb d_D_put_1 (by decide) ?_
  refine lv_icmp_lt (tgt := 21) hx hb d_D_put_3 (by decide) (fun h1 => ?_) (fun h1 => ?_)
  · refine lv_iconst (v := 0) hx hb d_D_put_21 (by decide) ?_
    have hP9 := hP.sub (ws' := [(h, .inr (0, [.ref a1, .int (nI n), .int (nI t)])), (a1, .inl (cC, 60, .inl sg))]) [0, 1] rfl
    have hD9 := hD.sub (ws' := [(h, .inr (0, [.ref a1, .int (nI n), .int (nI t)])), (a1, .inl (cC, 60, .inl sg))]) [0, 1] (by decide) rfl
    have hK9 := hK.sub (tys' := [(cC, .char)]) [0] rfl
    exact W.zret (v := 0) hx hb hr (by decide) (fun t9 ht hW => ⟨⟨0, (n, t, sg), rfl, Or.inl ⟨rfl, Or.inl h1, rfl, rfl, rfl⟩, ⟨by rw [ht]; exact hP9, va_K.moved hW.alike hK9, hD9⟩⟩, hS.F ht⟩) hS.2.2 d_D_put_22
  · refine lv_iload_n hx hb d_D_put_6 rfl (lv_at hl 1 rfl) ?_
    refine lv_bipush (v := 126) hx hb d_D_put_7 (by decide) ?_
    refine lv_icmp_gt (tgt := 21) hx hb d_D_put_9 (by decide) (fun h2 => ?_) (fun h2 => ?_)
    · refine lv_iconst (v := 0) hx hb d_D_put_21 (by decide) ?_
      have hP9 := hP.sub (ws' := [(h, .inr (0, [.ref a1, .int (nI n), .int (nI t)])), (a1, .inl (cC, 60, .inl sg))]) [0, 1] rfl
      have hD9 := hD.sub (ws' := [(h, .inr (0, [.ref a1, .int (nI n), .int (nI t)])), (a1, .inl (cC, 60, .inl sg))]) [0, 1] (by decide) rfl
      have hK9 := hK.sub (tys' := [(cC, .char)]) [0] rfl
      exact W.zret (v := 0) hx hb hr (by decide) (fun t9 ht hW => ⟨⟨0, (n, t, sg), rfl, Or.inl ⟨rfl, Or.inr (Or.inl h2), rfl, rfl, rfl⟩, ⟨by rw [ht]; exact hP9, va_K.moved hW.alike hK9, hD9⟩⟩, hS.F ht⟩) hS.2.2 d_D_put_22
    · refine lv_aload_n hx hb d_D_put_12 rfl (lv_at hl 0 rfl) ?_
      refine va_get (D := D) (ci := 0) (v := .int (nI t)) (C := rc_D) (T := ft_D) (N := 3) hx hb hts in_D hown hK hP 0 rfl rfl 2 (by decide) (hts _ k_34) (fun _ h9 => h9) rfl d_D_put_13 ?_
      refine lv_bipush (v := 60) hx hb d_D_put_16 (by decide) ?_
      refine lv_icmp_lt (tgt := 23) hx hb d_D_put_18 (by decide) (fun h3 => ?_) (fun h3 => ?_)
      · have h4 : t < 60 := (nI_ltI (b := 60) (by omega) (by decide)).mp h3
        refine lv_aload_n hx hb d_D_put_23 rfl (lv_at hl 0 rfl) ?_
        refine lv_dup hx hb d_D_put_24 rfl ?_
        refine va_get (D := D) (ci := 0) (v := .int (nI t)) (C := rc_D) (T := ft_D) (N := 3) hx hb hts in_D hown hK hP 0 rfl rfl 2 (by decide) (hts _ k_34) (fun _ h9 => h9) rfl d_D_put_25 ?_
        refine lv_iconst (v := 1) hx hb d_D_put_28 (by decide) ?_
        refine lv_iadd hx hb d_D_put_29 ?_
        refine lv_topi (fun z9 ez9 => ?_)
        have ez9 : z9 = nI (t + 1) := ez9.trans (nI_1 t)
        subst ez9
        refine va_put (D := D) (ci := 0) (v := .int (nI (t + 1))) (ty := .int) (C := rc_D) (T := ft_D) (N := 3) hx hb hts in_D ty_D tk_D nm_D hown hK hP hD hS 0 rfl rfl 2 (by decide) (hts _ k_34) (fun _ h9 => h9) rfl (by decide +kernel) rfl rfl (Nat.le_of_ble_eq_true rfl) d_D_put_30 (fun H locs hP hD hS => ?_)
        have hP : va_P D wcl [(h, .inr (0, [.ref a1, .int (nI n), .int (nI (t + 1))])), (a1, .inl (cC, 60, .inl sg))] H := hP
        have hD : va_D A [(h, .inr (0, [.ref a1, .int (nI n), .int (nI (t + 1))])), (a1, .inl (cC, 60, .inl sg))] := hD
        refine lv_iload_n hx hb d_D_put_33 rfl (lv_at hl 1 rfl) ?_
        refine lv_bipush (v := 32) hx hb d_D_put_34 (by decide) ?_
        refine lv_icmp_eq (tgt := 59) hx hb d_D_put_36 (by decide) (fun h5 => ?_) (fun h5 => ?_)
        · refine lv_iconst (v := 1) hx hb d_D_put_59 (by decide) ?_
          have hP9 := hP.sub (ws' := [(h, .inr (0, [.ref a1, .int (nI n), .int (nI (t + 1))])), (a1, .inl (cC, 60, .inl sg))]) [0, 1] rfl
          have hD9 := hD.sub (ws' := [(h, .inr (0, [.ref a1, .int (nI n), .int (nI (t + 1))])), (a1, .inl (cC, 60, .inl sg))]) [0, 1] (by decide) rfl
          have hK9 := hK.sub (tys' := [(cC, .char)]) [0] rfl
          exact W.zret (v := 1) hx hb hr (by decide) (fun t9 ht hW => ⟨⟨1, (n, t + 1, sg), rfl, Or.inr ⟨rfl, h1, h2, h4, rfl, Or.inl ⟨h5, rfl, rfl⟩⟩, ⟨by rw [ht]; exact hP9, va_K.moved hW.alike hK9, hD9⟩⟩, hS.F ht⟩) hS.2.2 d_D_put_60
        · refine lv_aload_n hx hb d_D_put_39 rfl (lv_at hl 0 rfl) ?_
          refine va_get (D := D) (ci := 0) (v := .ref a1) (C := rc_D) (T := ft_D) (N := 3) hx hb hts in_D hown hK hP 0 rfl rfl 0 (by decide) (hts _ k_32) (fun _ h9 => h9) rfl d_D_put_40 ?_
          refine lv_aload_n hx hb d_D_put_43 rfl (lv_at hl 0 rfl) ?_
          refine va_get (D := D) (ci := 0) (v := .int (nI n)) (C := rc_D) (T := ft_D) (N := 3) hx hb hts in_D hown hK hP 0 rfl rfl 1 (by decide) (hts _ k_33) (fun _ h9 => h9) rfl d_D_put_44 ?_
          refine lv_iload_n hx hb d_D_put_47 rfl (lv_at hl 1 rfl) ?_
          refine va_cast hx hb hK hP hD hS 1 0 rfl rfl (vp_in_nI (show n < 60 by omega) (by decide)) d_D_put_48 (fun H locs hP hD hS => ?_)
          have hP : va_P D wcl [(h, .inr (0, [.ref a1, .int (nI n), .int (nI (t + 1))])), (a1, .inl (cC, 60, .inl (upd sg (nI n).toNatClampNeg (vp_nar .char k))))] H := hP
          have hD : va_D A [(h, .inr (0, [.ref a1, .int (nI n), .int (nI (t + 1))])), (a1, .inl (cC, 60, .inl (upd sg (nI n).toNatClampNeg (vp_nar .char k))))] := hD
          rw [nI_clamp (show n < 2 ^ 31 by omega)] at hP hD
          have hP : va_P D wcl [(h, .inr (0, [.ref a1, .int (nI n), .int (nI (t + 1))])), (a1, .inl (cC, 60, .inl (upd sg n (vp_nar .char k))))] H := hP
          have hD : va_D A [(h, .inr (0, [.ref a1, .int (nI n), .int (nI (t + 1))])), (a1, .inl (cC, 60, .inl (upd sg n (vp_nar .char k))))] := hD
          refine lv_aload_n hx hb d_D_put_49 rfl (lv_at hl 0 rfl) ?_
          refine lv_dup hx hb d_D_put_50 rfl ?_
          refine va_get (D := D) (ci := 0) (v := .int (nI n)) (C := rc_D) (T := ft_D) (N := 3) hx hb hts in_D hown hK hP 0 rfl rfl 1 (by decide) (hts _ k_33) (fun _ h9 => h9) rfl d_D_put_51 ?_
          refine lv_iconst (v := 1) hx hb d_D_put_54 (by decide) ?_
          refine lv_iadd hx hb d_D_put_55 ?_
          refine lv_topi (fun z9 ez9 => ?_)
          have ez9 : z9 = nI (n + 1) := ez9.trans (nI_1 n)
          subst ez9
          refine va_put (D := D) (ci := 0) (v := .int (nI (n + 1))) (ty := .int) (C := rc_D) (T := ft_D) (N := 3) hx hb hts in_D ty_D tk_D nm_D hown hK hP hD hS 0 rfl rfl 1 (by decide) (hts _ k_33) (fun _ h9 => h9) rfl (by decide +kernel) rfl rfl (Nat.le_of_ble_eq_true rfl) d_D_put_56 (fun H locs hP hD hS => ?_)
          have hP : va_P D wcl [(h, .inr (0, [.ref a1, .int (nI (n + 1)), .int (nI (t + 1))])), (a1, .inl (cC, 60, .inl (upd sg n (vp_nar .char k))))] H := hP
          have hD : va_D A [(h, .inr (0, [.ref a1, .int (nI (n + 1)), .int (nI (t + 1))])), (a1, .inl (cC, 60, .inl (upd sg n (vp_nar .char k))))] := hD
          refine lv_iconst (v := 1) hx hb d_D_put_59 (by decide) ?_
          have hP9 := hP.sub (ws' := [(h, .inr (0, [.ref a1, .int (nI (n + 1)), .int (nI (t + 1))])), (a1, .inl (cC, 60, .inl (upd sg n (vp_nar .char k))))]) [0, 1] rfl
          have hD9 := hD.sub (ws' := [(h, .inr (0, [.ref a1, .int (nI (n + 1)), .int (nI (t + 1))])), (a1, .inl (cC, 60, .inl (upd sg n (vp_nar .char k))))]) [0, 1] (by decide) rfl
          have hK9 := hK.sub (tys' := [(cC, .char)]) [0] rfl
          exact W.zret (v := 1) hx hb hr (by decide) (fun t9 ht hW => ⟨⟨1, (n + 1, t + 1, upd sg n (vp_nar .char k)), rfl, Or.inr ⟨rfl, h1, h2, h4, rfl, Or.inr ⟨h5, rfl, rfl⟩⟩, ⟨by rw [ht]; exact hP9, va_K.moved hW.alike hK9, hD9⟩⟩, hS.F ht⟩) hS.2.2 d_D_put_60
      · refine lv_iconst (v := 0) hx hb d_D_put_21 (by decide) ?_
        have hP9 := hP.sub (ws' := [(h, .inr (0, [.ref a1, .int (nI n), .int (nI t)])), (a1, .inl (cC, 60, .inl sg))]) [0, 1] rfl
        have hD9 := hD.sub (ws' := [(h, .inr (0, [.ref a1, .int (nI n), .int (nI t)])), (a1, .inl (cC, 60, .inl sg))]) [0, 1] (by decide) rfl
        have hK9 := hK.sub (tys' := [(cC, .char)]) [0] rfl
        exact W.zret (v := 0) hx hb hr (by decide) (fun t9 ht hW => ⟨⟨0, (n, t, sg), rfl, Or.inl ⟨rfl, Or.inr (Or.inr (by have h4 : ¬ t < 60 := fun h => h3 ((nI_ltI (b := 60) (by omega) (by decide)).mpr h); omega)), rfl, rfl, rfl⟩, ⟨by rw [ht]; exact hP9, va_K.moved hW.alike hK9, hD9⟩⟩, hS.F ht⟩) hS.2.2 d_D_put_22
