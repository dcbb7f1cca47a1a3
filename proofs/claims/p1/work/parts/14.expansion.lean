set_option maxHeartbeats 4000000 in
set_option maxRecDepth 100000 in
/-- Match(): its rows are made, not looked at -/
theorem c_M_init0 (l : Launch) (D : va_G) (sz : Nat) (h : Nat) : Met l y_M_init (Cond.code y_M_init b_M_init 1 none :: wal) ({ frames := 10, cells := 28, slots := 1612, locals := 120 }) (va_Pc [.ref h] (pr D sz [(h, .inr (2, [.null, .null]))] [] (cx_W))) (va_Qv (S := Unit) (fun u => True) (fun u t9 => po D (va_A ([(h, .inr (2, [.null, .null]))]) sz) ((fun u => []) u) ((fun u => []) u) t9) (va_A ([(h, .inr (2, [.null, .null]))]) sz)) 28 1612 (va_A ([(h, .inr (2, [.null, .null]))]) sz) := by
  refine Met.ofW (cc := b_M_init) (maxL := 1) (ret := none) (by decide) rfl ?_
  intro p e s m args below meth c s₁ B hml hv
  obtain ⟨rfl, hsz, hP, hK, hD0, hE⟩ := hv
  have hx := B.exec
  have hb := B.bytes
  have hr := B.returns
  have hts0 := atoms_spec (ws := Cond.code y_M_init b_M_init 1 none :: wal) B.pre
  have hts : ∀ w ∈ wal, w.before _ s = true := fun w h => hts0 w (List.mem_cons_of_mem _ h)
  have hown : s.vm.findClass rc_M = some m.cls := findClass_of_methodNamed B.named
  have hlocks := B.notSynchronized
  have hin : meth.name = "<init>" := (name_of_methodNamed B.named B.method).1
  subst hsz
  have hD := hD0.self (sz := s.heap.size)
  generalize hAe : va_A ([(h, .inr (2, [.null, .null]))]) s.heap.size = A at hD ⊢
  have hA : ∀ q : Nat, s.heap.size ≤ q → A q := fun q h => by rw [← hAe]; exact Or.inr h
  have hS : va_S A s.heap s.heap [] := va_S.rf
  have hl := lv_entry ([.ref h]) (n := 1) (Nat.le_of_ble_eq_true rfl)
  rw [lg_entry_eq]
  generalize (lg_sl ([.ref h]) ++ List.replicate (1 - (lg_sl ([.ref h])).length) Slot.unset).toArray = ls at hl ⊢
  have hl : lv_has ls 1 [(0, .ref h)] := hl
  refine lv_aload_n hx hb d_M_init_0 rfl (lv_at hl 0 rfl) ?_
  refine W.objInit hx hb hown (hts _ k_128) (hts _ k_24) (hts _ k_25) rfl (by rw [hml]; exact hl.1) rfl d_M_init_1 (Nat.le_of_ble_eq_true rfl) (Nat.le_of_ble_eq_true rfl) ?_
  refine W.eq (g2 := F0 m 4 ls []) rfl ?_
  refine lv_aload_n hx hb d_M_init_4 rfl (lv_at hl 0 rfl) ?_
  refine lv_bipush (v := 26) hx hb d_M_init_5 (by decide) ?_
  refine lv_bipush (v := 60) hx hb d_M_init_7 (by decide) ?_
  refine mu_new (N := 26) (M := 60) hx hb hown (hts _ k_129) hE.2.2.2 (hts _ k_96) (by decide) (by decide) (by decide) (by decide) (by decide) (by decide) (by decide) (by decide) d_M_init_9 (fun cA9 cI9 H9 locs9 z1 o1 f1 r1 l1 n1 n2 => ?_)
  have hP : va_P D wcl [(h, .inr (2, [.null, .null]))] H9 := hP.kept (fun k9 q9 hq => o1 q9.1 ((hP k9 q9 hq).lt))
  have hS : va_S A s.heap H9 locs9 := ⟨Nat.le_trans hS.1 (by rw [z1]; omega), fun q9 a9 b9 => (o1 q9 (Nat.lt_of_lt_of_le a9 hS.1)).trans (hS.2.1 q9 a9 b9), fun q9 hq => (l1 q9 hq).elim (fun h => hS.2.2 q9 h) (fun h => hA _ (Nat.le_trans hS.1 h))⟩
  refine W.widen (k := 27) (n := 1586) (by decide) (by decide) ?_
  refine va_putF (D := D) (ci := 2) (v := .ref s.heap.size) (ty := .array (.array .int)) (C := rc_M) (T := ft_M) (N := 2) hx hb hts in_M ty_M tk_M nm_M hown hK hP hD hS 0 rfl rfl 0 (by decide) (hts _ k_131) (fun _ h9 => h9) rfl hin rfl (by decide +kernel) rfl rfl (Nat.le_of_ble_eq_true rfl) d_M_init_13 (fun H locs hP hD hS => ?_)
  have hP : va_P D wcl [(h, .inr (2, [.ref s.heap.size, .null]))] H := hP
  have hD : va_D A [(h, .inr (2, [.ref s.heap.size, .null]))] := hD
  refine lv_aload_n hx hb d_M_init_16 rfl (lv_at hl 0 rfl) ?_
  refine lv_bipush (v := 26) hx hb d_M_init_17 (by decide) ?_
  refine va_newa (atype := .int) (ty := .int) (N' := 26) (a0 := (26, .inl (fun _ => 0))) hx hb (hts _ k_96) rfl hK hP hD hS hA (fun cA => rfl) (by decide) (by decide) (by decide) (by decide) (by decide) d_M_init_19 (fun q1 cA2 H hK hP hD hS => ?_)
  have hP : va_P D wcl [(h, .inr (2, [.ref s.heap.size, .null])), (q1, .inl (cA2, 26, .inl (fun _ => 0)))] H := hP
  have hD : va_D A [(h, .inr (2, [.ref s.heap.size, .null])), (q1, .inl (cA2, 26, .inl (fun _ => 0)))] := hD
  have hK : va_K D wcl [(cA2, .int)] s := hK
  refine W.widen (k := 28) (n := 1612) (by decide) (by decide) ?_
  refine va_putF (D := D) (ci := 2) (v := .ref q1) (ty := .array .int) (C := rc_M) (T := ft_M) (N := 2) hx hb hts in_M ty_M tk_M nm_M hown hK hP hD hS 0 rfl rfl 1 (by decide) (hts _ k_132) (fun _ h9 => h9) rfl hin rfl (by decide +kernel) rfl rfl (Nat.le_of_ble_eq_true rfl) d_M_init_21 (fun H locs hP hD hS => ?_)
  have hP : va_P D wcl [(h, .inr (2, [.ref s.heap.size, .ref q1])), (q1, .inl (cA2, 26, .inl (fun _ => 0)))] H := hP
  have hD : va_D A [(h, .inr (2, [.ref s.heap.size, .ref q1])), (q1, .inl (cA2, 26, .inl (fun _ => 0)))] := hD
  have hP9 := hP.sub (ws' := []) [] rfl
  have hD9 := hD.sub (ws' := []) [] (by decide) rfl
  have hK9 := hK.sub (tys' := []) [] rfl
  exact W.vret hx hb hr (fun t9 ht hW => ⟨⟨(), rfl, trivial, ⟨by rw [ht]; exact hP9, va_K.moved hW.alike hK9, hD9⟩⟩, hS.F ht⟩) hS.2.2 d_M_init_24

set_option maxHeartbeats 4000000 in
set_option maxRecDepth 100000 in
/-- Result(): empty, its row of 150 marks -/
theorem c_S_init (l : Launch) (D : va_G) (sz : Nat) (h : Nat) : Met l y_S_init (Cond.code y_S_init b_S_init 1 none :: wal) ({ frames := 10, cells := 1, slots := 150, locals := 120 }) (va_Pc [.ref h] (pr D sz [(h, .inr (3, [.null, .int 0, .int 0]))] [] (fun _ => True))) (va_Qv (S := Nat × ClassId) (fun u => True) (fun u t9 => po D (va_A ([(h, .inr (3, [.null, .int 0, .int 0]))]) sz) ((fun u => [(h, .inr (3, [.ref u.1, .int 0, .int 0])), (u.1, .inl (u.2, 150, .inl (fun _ => 0)))]) u) ((fun u => [(u.2, .int)]) u) t9) (va_A ([(h, .inr (3, [.null, .int 0, .int 0]))]) sz)) 1 150 (va_A ([(h, .inr (3, [.null, .int 0, .int 0]))]) sz) := by
  refine Met.ofW (cc := b_S_init) (maxL := 1) (ret := none) (by decide) rfl ?_
  intro p e s m args below meth c s₁ B hml hv
  obtain ⟨rfl, hsz, hP, hK, hD0, hE⟩ := hv
  have hx := B.exec
  have hb := B.bytes
  have hr := B.returns
  have hts0 := atoms_spec (ws := Cond.code y_S_init b_S_init 1 none :: wal) B.pre
  have hts : ∀ w ∈ wal, w.before _ s = true := fun w h => hts0 w (List.mem_cons_of_mem _ h)
  have hown : s.vm.findClass rc_S = some m.cls := findClass_of_methodNamed B.named
  have hlocks := B.notSynchronized
  have hin : meth.name = "<init>" := (name_of_methodNamed B.named B.method).1
  subst hsz
  have hD := hD0.self (sz := s.heap.size)
  generalize hAe : va_A ([(h, .inr (3, [.null, .int 0, .int 0]))]) s.heap.size = A at hD ⊢
  have hA : ∀ q : Nat, s.heap.size ≤ q → A q := fun q h => by rw [← hAe]; exact Or.inr h
  have hS : va_S A s.heap s.heap [] := va_S.rf
  have hl := lv_entry ([.ref h]) (n := 1) (Nat.le_of_ble_eq_true rfl)
  rw [lg_entry_eq]
  generalize (lg_sl ([.ref h]) ++ List.replicate (1 - (lg_sl ([.ref h])).length) Slot.unset).toArray = ls at hl ⊢
  have hl : lv_has ls 1 [(0, .ref h)] := hl
  refine lv_aload_n hx hb d_S_init_0 rfl (lv_at hl 0 rfl) ?_
  refine W.objInit hx hb hown (hts _ k_143) (hts _ k_24) (hts _ k_25) rfl (by rw [hml]; exact hl.1) rfl d_S_init_1 (Nat.le_of_ble_eq_true rfl) (Nat.le_of_ble_eq_true rfl) ?_
  refine W.eq (g2 := F0 m 4 ls []) rfl ?_
  refine lv_aload_n hx hb d_S_init_4 rfl (lv_at hl 0 rfl) ?_
  refine lv_sipush (v := 150) hx hb d_S_init_5 (by decide) ?_
  refine va_newa (atype := .int) (ty := .int) (N' := 150) (a0 := (150, .inl (fun _ => 0))) hx hb (hts _ k_96) rfl hK hP hD hS hA (fun cA => rfl) (by decide) (by decide) (by decide) (by decide) (by decide) d_S_init_8 (fun q1 cA2 H hK hP hD hS => ?_)
  have hP : va_P D wcl [(h, .inr (3, [.null, .int 0, .int 0])), (q1, .inl (cA2, 150, .inl (fun _ => 0)))] H := hP
  have hD : va_D A [(h, .inr (3, [.null, .int 0, .int 0])), (q1, .inl (cA2, 150, .inl (fun _ => 0)))] := hD
  have hK : va_K D wcl [(cA2, .int)] s := hK
  refine W.widen (k := 1) (n := 150) (by decide) (by decide) ?_
  refine va_putF (D := D) (ci := 3) (v := .ref q1) (ty := .array .int) (C := rc_S) (T := ft_S) (N := 3) hx hb hts in_S ty_S tk_S nm_S hown hK hP hD hS 0 rfl rfl 0 (by decide) (hts _ k_144) (fun _ h9 => h9) rfl hin rfl (by decide +kernel) rfl rfl (Nat.le_of_ble_eq_true rfl) d_S_init_10 (fun H locs hP hD hS => ?_)
  have hP : va_P D wcl [(h, .inr (3, [.ref q1, .int 0, .int 0])), (q1, .inl (cA2, 150, .inl (fun _ => 0)))] H := hP
  have hD : va_D A [(h, .inr (3, [.ref q1, .int 0, .int 0])), (q1, .inl (cA2, 150, .inl (fun _ => 0)))] := hD
  have hP9 := hP.sub (ws' := [(h, .inr (3, [.ref q1, .int 0, .int 0])), (q1, .inl (cA2, 150, .inl (fun _ => 0)))]) [0, 1] rfl
  have hD9 := hD.sub (ws' := [(h, .inr (3, [.ref q1, .int 0, .int 0])), (q1, .inl (cA2, 150, .inl (fun _ => 0)))]) [0, 1] (by decide) rfl
  have hK9 := hK.sub (tys' := [(cA2, .int)]) [0] rfl
  exact W.vret hx hb hr (fun t9 ht hW => ⟨⟨(q1, cA2), rfl, trivial, ⟨by rw [ht]; exact hP9, va_K.moved hW.alike hK9, hD9⟩⟩, hS.F ht⟩) hS.2.2 d_S_init_13

set_option maxHeartbeats 4000000 in
set_option maxRecDepth 100000 in
/-- Result.at(k) of no marks -/
theorem c_S_at0 (l : Launch) (D : va_G) (sz : Nat) (h : Nat) (ma : Nat) (fd : Int32) (k : Int32) : Met l y_S_at (Cond.code y_S_at b_S_at 2 (some .int) :: wal) ({ frames := 10, cells := 0, slots := 0, locals := 120 }) (va_Pc [.ref h, .int k] (pr D sz [(h, .inr (3, [.ref ma, .int fd, .int 0]))] [] (fun _ => True))) (va_Qi (S := Unit) (fun r u => r = -99) (fun u t9 => po D (va_A ([(h, .inr (3, [.ref ma, .int fd, .int 0]))]) sz) ((fun u => [(h, .inr (3, [.ref ma, .int fd, .int 0]))]) u) ((fun u => []) u) t9) (va_A ([(h, .inr (3, [.ref ma, .int fd, .int 0]))]) sz)) 0 0 (va_A ([(h, .inr (3, [.ref ma, .int fd, .int 0]))]) sz) := by
  refine Met.ofW (cc := b_S_at) (maxL := 2) (ret := (some .int)) (by decide) rfl ?_
  intro p e s m args below meth c s₁ B hml hv
  obtain ⟨rfl, hsz, hP, hK, hD0, hE⟩ := hv
  have hx := B.exec
  have hb := B.bytes
  have hr := B.returns
  have hts0 := atoms_spec (ws := Cond.code y_S_at b_S_at 2 (some .int) :: wal) B.pre
  have hts : ∀ w ∈ wal, w.before _ s = true := fun w h => hts0 w (List.mem_cons_of_mem _ h)
  have hown : s.vm.findClass rc_S = some m.cls := findClass_of_methodNamed B.named
  have hlocks := B.notSynchronized
  subst hsz
  have hD := hD0.self (sz := s.heap.size)
  generalize hAe : va_A ([(h, .inr (3, [.ref ma, .int fd, .int 0]))]) s.heap.size = A at hD ⊢
  have hA : ∀ q : Nat, s.heap.size ≤ q → A q := fun q h => by rw [← hAe]; exact Or.inr h
  have hS : va_S A s.heap s.heap [] := va_S.rf
  have hl := lv_entry ([.ref h, .int k]) (n := 2) (Nat.le_of_ble_eq_true rfl)
  rw [lg_entry_eq]
  generalize (lg_sl ([.ref h, .int k]) ++ List.replicate (2 - (lg_sl ([.ref h, .int k])).length) Slot.unset).toArray = ls at hl ⊢
  have hl : lv_has ls 2 [(0, .ref h), (1, .int k)] := hl
  refine lv_iload_n hx hb d_S_at_0 rfl (lv_at hl 1 rfl) ?_
  refine lv_if_lt (tgt := 21) hx hb d_S_at_1 (by decide) (fun _ => ?_) (fun h1 => ?_)
  · refine lv_bipush (v := -99) hx hb d_S_at_21 (by decide) ?_
    have hP9 := hP.sub (ws' := [(h, .inr (3, [.ref ma, .int fd, .int 0]))]) [0] rfl
    have hD9 := hD.sub (ws' := [(h, .inr (3, [.ref ma, .int fd, .int 0]))]) [0] (by decide) rfl
    have hK9 := hK.sub (tys' := []) [] rfl
    exact W.iret (v := (-99)) hx hb hr (fun t9 ht hW => ⟨⟨(-99), (), rfl, rfl, ⟨by rw [ht]; exact hP9, va_K.moved hW.alike hK9, hD9⟩⟩, hS.F ht⟩) hS.2.2 d_S_at_23
  · refine lv_iload_n hx hb d_S_at_4 rfl (lv_at hl 1 rfl) ?_
    refine lv_aload_n hx hb d_S_at_5 rfl (lv_at hl 0 rfl) ?_
    refine va_get (D := D) (ci := 3) (v := .int 0) (C := rc_S) (T := ft_S) (N := 3) hx hb hts in_S hown hK hP 0 rfl rfl 2 (by decide) (hts _ k_146) (fun _ h9 => h9) rfl d_S_at_6 ?_
    refine lv_icmp_ge (tgt := 21) hx hb d_S_at_9 (by decide) (fun _ => ?_) (fun h9 => absurd (Int32.not_lt.mp h1) h9)
    refine lv_bipush (v := -99) hx hb d_S_at_21 (by decide) ?_
    have hP9 := hP.sub (ws' := [(h, .inr (3, [.ref ma, .int fd, .int 0]))]) [0] rfl
    have hD9 := hD.sub (ws' := [(h, .inr (3, [.ref ma, .int fd, .int 0]))]) [0] (by decide) rfl
    have hK9 := hK.sub (tys' := []) [] rfl
    exact W.iret (v := (-99)) hx hb hr (fun t9 ht hW => ⟨⟨(-99), (), rfl, rfl, ⟨by rw [ht]; exact hP9, va_K.moved hW.alike hK9, hD9⟩⟩, hS.F ht⟩) hS.2.2 d_S_at_23

set_option maxHeartbeats 4000000 in
set_option maxRecDepth 100000 in
/-- Result.deepest() of no marks -/
theorem c_S_deepest0 (l : Launch) (D : va_G) (sz : Nat) (h : Nat) (ma : Nat) (fd : Int32) : Met l y_S_deepest (Cond.code y_S_deepest b_S_deepest 4 (some .int) :: wal) ({ frames := 10, cells := 0, slots := 0, locals := 120 }) (va_Pc [.ref h] (pr D sz [(h, .inr (3, [.ref ma, .int fd, .int 0]))] [] (fun _ => True))) (va_Qi (S := Unit) (fun r u => r = 0) (fun u t9 => po D (va_A ([(h, .inr (3, [.ref ma, .int fd, .int 0]))]) sz) ((fun u => [(h, .inr (3, [.ref ma, .int fd, .int 0]))]) u) ((fun u => []) u) t9) (va_A ([(h, .inr (3, [.ref ma, .int fd, .int 0]))]) sz)) 0 0 (va_A ([(h, .inr (3, [.ref ma, .int fd, .int 0]))]) sz) := by
  refine Met.ofW (cc := b_S_deepest) (maxL := 4) (ret := (some .int)) (by decide) rfl ?_
  intro p e s m args below meth c s₁ B hml hv
  obtain ⟨rfl, hsz, hP, hK, hD0, hE⟩ := hv
  have hx := B.exec
  have hb := B.bytes
  have hr := B.returns
  have hts0 := atoms_spec (ws := Cond.code y_S_deepest b_S_deepest 4 (some .int) :: wal) B.pre
  have hts : ∀ w ∈ wal, w.before _ s = true := fun w h => hts0 w (List.mem_cons_of_mem _ h)
  have hown : s.vm.findClass rc_S = some m.cls := findClass_of_methodNamed B.named
  have hlocks := B.notSynchronized
  subst hsz
  have hD := hD0.self (sz := s.heap.size)
  generalize hAe : va_A ([(h, .inr (3, [.ref ma, .int fd, .int 0]))]) s.heap.size = A at hD ⊢
  have hA : ∀ q : Nat, s.heap.size ≤ q → A q := fun q h => by rw [← hAe]; exact Or.inr h
  have hS : va_S A s.heap s.heap [] := va_S.rf
  have hl := lv_entry ([.ref h]) (n := 4) (Nat.le_of_ble_eq_true rfl)
  rw [lg_entry_eq]
  generalize (lg_sl ([.ref h]) ++ List.replicate (4 - (lg_sl ([.ref h])).length) Slot.unset).toArray = ls at hl ⊢
  have hl : lv_has ls 4 [(0, .ref h)] := hl
  refine lv_iconst (v := 0) hx hb d_S_deepest_0 (by decide) ?_
  refine lv_istore_n hx hb d_S_deepest_1 rfl hl (by decide) rfl (fun ls hl => ?_)
  have hl : lv_has ls 4 [(1, .int 0), (0, .ref h)] := hl
  refine lv_iconst (v := 0) hx hb d_S_deepest_2 (by decide) ?_
  refine lv_istore_n hx hb d_S_deepest_3 rfl hl (by decide) rfl (fun ls hl => ?_)
  have hl : lv_has ls 4 [(2, .int 0), (1, .int 0), (0, .ref h)] := hl
  refine lv_iconst (v := 0) hx hb d_S_deepest_4 (by decide) ?_
  refine lv_istore_n hx hb d_S_deepest_5 rfl hl (by decide) rfl (fun ls hl => ?_)
  have hl : lv_has ls 4 [(3, .int 0), (2, .int 0), (1, .int 0), (0, .ref h)] := hl
  refine lv_iload_n hx hb d_S_deepest_6 rfl (lv_at hl 0 rfl) ?_
  refine lv_aload_n hx hb d_S_deepest_7 rfl (lv_at hl 3 rfl) ?_
  refine va_get (D := D) (ci := 3) (v := .int 0) (C := rc_S) (T := ft_S) (N := 3) hx hb hts in_S hown hK hP 0 rfl rfl 2 (by decide) (hts _ k_146) (fun _ h9 => h9) rfl d_S_deepest_8 ?_
  refine lv_icmp_ge (tgt := 55) hx hb d_S_deepest_11 (by decide) (fun _ => ?_) (fun h9 => absurd (by decide) h9)
  refine lv_iload_n hx hb d_S_deepest_55 rfl (lv_at hl 1 rfl) ?_
  have hP9 := hP.sub (ws' := [(h, .inr (3, [.ref ma, .int fd, .int 0]))]) [0] rfl
  have hD9 := hD.sub (ws' := [(h, .inr (3, [.ref ma, .int fd, .int 0]))]) [0] (by decide) rfl
  have hK9 := hK.sub (tys' := []) [] rfl
  exact W.iret (v := 0) hx hb hr (fun t9 ht hW => ⟨⟨0, (), rfl, rfl, ⟨by rw [ht]; exact hP9, va_K.moved hW.alike hK9, hD9⟩⟩, hS.F ht⟩) hS.2.2 d_S_deepest_56

set_option maxHeartbeats 4000000 in
set_option maxRecDepth 100000 in
/-- Expansion(): its terms and its result are kept in sight -/
theorem c_E_init0 (l : Launch) (D : va_G) (sz : Nat) (h : Nat) : Met l y_E_init (Cond.code y_E_init b_E_init 1 none :: wal) ({ frames := 12, cells := 40, slots := 5714, locals := 240 }) (va_Pc [.ref h] (pr D sz [(h, .inr (1, [.null, .null, .null, .null, .null, .null, .int 0, .int 0, .int 0]))] [] (cx_W))) (va_Qv (S := Nat × Nat × Nat × Nat × Nat × Nat × Nat × Nat × Nat × Nat × Nat × Nat) (fun u => True) (fun u t9 => po D (va_A ([(h, .inr (1, [.null, .null, .null, .null, .null, .null, .int 0, .int 0, .int 0]))]) sz) ((fun u => [(h, .inr (1, [.ref u.1, .ref u.2.1, .ref u.2.2.1, .ref u.2.2.2.1, .ref u.2.2.2.2.1, .null, .int 0, .int 0, .int 0])), (u.1, .inr (6, [.ref u.2.2.2.2.2.2.1, .ref u.2.2.2.2.2.2.2.1, .ref u.2.2.2.2.2.2.2.2.1, .ref u.2.2.2.2.2.2.2.2.2.1, .ref u.2.2.2.2.2.2.2.2.2.2.1, .ref u.2.2.2.2.2.2.2.2.2.2.2, .int 0, .int 0, .int 0, .int 0, .int 0])), (u.2.2.1, .inr (3, [.ref u.2.2.2.2.2.1, .int 0, .int 0]))]) u) ((fun u => []) u) t9) (va_A ([(h, .inr (1, [.null, .null, .null, .null, .null, .null, .int 0, .int 0, .int 0]))]) sz)) 40 5714 (va_A ([(h, .inr (1, [.null, .null, .null, .null, .null, .null, .int 0, .int 0, .int 0]))]) sz) := by
  refine Met.ofW (cc := b_E_init) (maxL := 1) (ret := none) (by decide) rfl ?_
  intro p e s m args below meth c s₁ B hml hv
  obtain ⟨rfl, hsz, hP, hK, hD0, hE⟩ := hv
  have hx := B.exec
  have hb := B.bytes
  have hr := B.returns
  have hts0 := atoms_spec (ws := Cond.code y_E_init b_E_init 1 none :: wal) B.pre
  have hts : ∀ w ∈ wal, w.before _ s = true := fun w h => hts0 w (List.mem_cons_of_mem _ h)
  have hown : s.vm.findClass rc_E = some m.cls := findClass_of_methodNamed B.named
  have hlocks := B.notSynchronized
  have hin : meth.name = "<init>" := (name_of_methodNamed B.named B.method).1
  subst hsz
  have hD := hD0.self (sz := s.heap.size)
  generalize hAe : va_A ([(h, .inr (1, [.null, .null, .null, .null, .null, .null, .int 0, .int 0, .int 0]))]) s.heap.size = A at hD ⊢
  have hA : ∀ q : Nat, s.heap.size ≤ q → A q := fun q h => by rw [← hAe]; exact Or.inr h
  have hS : va_S A s.heap s.heap [] := va_S.rf
  have hl := lv_entry ([.ref h]) (n := 1) (Nat.le_of_ble_eq_true rfl)
  rw [lg_entry_eq]
  generalize (lg_sl ([.ref h]) ++ List.replicate (1 - (lg_sl ([.ref h])).length) Slot.unset).toArray = ls at hl ⊢
  have hl : lv_has ls 1 [(0, .ref h)] := hl
  refine lv_aload_n hx hb d_E_init_0 rfl (lv_at hl 0 rfl) ?_
  refine W.objInit hx hb hown (hts _ k_120) (hts _ k_24) (hts _ k_25) rfl (by rw [hml]; exact hl.1) rfl d_E_init_1 (Nat.le_of_ble_eq_true rfl) (Nat.le_of_ble_eq_true rfl) ?_
  refine W.eq (g2 := F0 m 4 ls []) rfl ?_
  refine lv_aload_n hx hb d_E_init_4 rfl (lv_at hl 0 rfl) ?_
  refine va_new (ci := 6) (fs := [.null, .null, .null, .null, .null, .null, .int 0, .int 0, .int 0, .int 0, .int 0]) (C := rc_T) (T := ft_T) (N := 11) hx hb hts in_T ty_T tk_T hown (hts _ k_121) (hts _ k_57) (hts _ k_5) hK hP hD hS hA rfl (fun j hj => by revert j; decide) (by decide) (by decide) d_E_init_5 (fun q1 H hP hD hS => ?_)
  have hP : va_P D wcl [(h, .inr (1, [.null, .null, .null, .null, .null, .null, .int 0, .int 0, .int 0])), (q1, .inr (6, [.null, .null, .null, .null, .null, .null, .int 0, .int 0, .int 0, .int 0, .int 0]))] H := hP
  have hD : va_D A [(h, .inr (1, [.null, .null, .null, .null, .null, .null, .int 0, .int 0, .int 0])), (q1, .inr (6, [.null, .null, .null, .null, .null, .null, .int 0, .int 0, .int 0, .int 0, .int 0]))] := hD
  refine W.widen (k := 1) (n := 11) (by decide) (by decide) ?_
  refine lv_dup hx hb d_E_init_8 rfl ?_
  refine lv_sipush (v := 780) hx hb d_E_init_9 (by decide) ?_
  refine cl_v (wc := [(q1, .inr (6, [.null, .null, .null, .null, .null, .null, .int 0, .int 0, .int 0, .int 0, .int 0]))]) (wr := [(h, .inr (1, [.null, .null, .null, .null, .null, .null, .int 0, .int 0, .int 0]))]) hP hD hK hS hA [1] [0] rfl rfl (by decide) (by decide) (va_runI (As := [.int 780]) (rest := [.ref q1, .ref h]) ⟨hx, hb, hml, hown, hts⟩ (c_T_init780 l D H.size q1) (cw_I hts 1 k_60 k_5 k_122 k_59 rfl (by decide +kernel) ⟨Nat.le_of_ble_eq_true rfl, Nat.le_of_ble_eq_true rfl⟩) (pr_S hP hD hK [1] [] (by decide) rfl rfl (fun U hU hW => trivial) (fun U g mk a h => h)) rfl rfl hl.1 rfl (lv_room (Nat.le_of_ble_eq_true rfl)) d_E_init_12 ⟨by decide, by decide⟩) (fun u H locs h2 hP hD hK hS => ?_)
  obtain ⟨as_2, at_2, ap_2, ai_2, ar_2, ao_2, cs_2, ct_2, cp_2, ci_2, cr_2, co_2⟩ := u
  have hP : va_P D wcl [(h, .inr (1, [.null, .null, .null, .null, .null, .null, .int 0, .int 0, .int 0])), (q1, .inr (6, [.ref as_2, .ref at_2, .ref ap_2, .ref ai_2, .ref ar_2, .ref ao_2, .int 0, .int 0, .int 0, .int 0, .int 0])), (as_2, .inl (cs_2, 780, .inl (fun _ => 0))), (at_2, .inl (ct_2, 780, .inl (fun _ => 0))), (ap_2, .inl (cp_2, 780, .inl (fun _ => 0))), (ai_2, .inl (ci_2, 780, .inl (fun _ => 0))), (ar_2, .inl (cr_2, 780, .inl (fun _ => 0))), (ao_2, .inl (co_2, 12, .inl (fun _ => 0)))] H := hP
  have hD : va_D A [(h, .inr (1, [.null, .null, .null, .null, .null, .null, .int 0, .int 0, .int 0])), (q1, .inr (6, [.ref as_2, .ref at_2, .ref ap_2, .ref ai_2, .ref ar_2, .ref ao_2, .int 0, .int 0, .int 0, .int 0, .int 0])), (as_2, .inl (cs_2, 780, .inl (fun _ => 0))), (at_2, .inl (ct_2, 780, .inl (fun _ => 0))), (ap_2, .inl (cp_2, 780, .inl (fun _ => 0))), (ai_2, .inl (ci_2, 780, .inl (fun _ => 0))), (ar_2, .inl (cr_2, 780, .inl (fun _ => 0))), (ao_2, .inl (co_2, 12, .inl (fun _ => 0)))] := hD
  have hK : va_K D wcl [(cs_2, .char), (ct_2, .int), (cp_2, .int), (ci_2, .int), (cr_2, .boolean), (co_2, .int)] s := hK
  refine W.widen (k := 7) (n := 3923) (by decide) (by decide) ?_
  have hP := hP.sub (ws' := [(h, .inr (1, [.null, .null, .null, .null, .null, .null, .int 0, .int 0, .int 0])), (q1, .inr (6, [.ref as_2, .ref at_2, .ref ap_2, .ref ai_2, .ref ar_2, .ref ao_2, .int 0, .int 0, .int 0, .int 0, .int 0]))]) [0, 1] rfl
  have hD := hD.sub (ws' := [(h, .inr (1, [.null, .null, .null, .null, .null, .null, .int 0, .int 0, .int 0])), (q1, .inr (6, [.ref as_2, .ref at_2, .ref ap_2, .ref ai_2, .ref ar_2, .ref ao_2, .int 0, .int 0, .int 0, .int 0, .int 0]))]) [0, 1] (by decide) rfl
  have hK := hK.sub (tys' := []) [] rfl
  refine va_putF (D := D) (ci := 1) (v := .ref q1) (ty := .object "MacroForge$Terms") (C := rc_E) (T := ft_E) (N := 9) hx hb hts in_E ty_E tk_E nm_E hown hK hP hD hS 0 rfl rfl 0 (by decide) (hts _ k_154) (fun _ h9 => h9) rfl hin rfl (by decide +kernel) rfl rfl (Nat.le_of_ble_eq_true rfl) d_E_init_15 (fun H locs hP hD hS => ?_)
  have hP : va_P D wcl [(h, .inr (1, [.ref q1, .null, .null, .null, .null, .null, .int 0, .int 0, .int 0])), (q1, .inr (6, [.ref as_2, .ref at_2, .ref ap_2, .ref ai_2, .ref ar_2, .ref ao_2, .int 0, .int 0, .int 0, .int 0, .int 0]))] H := hP
  have hD : va_D A [(h, .inr (1, [.ref q1, .null, .null, .null, .null, .null, .int 0, .int 0, .int 0])), (q1, .inr (6, [.ref as_2, .ref at_2, .ref ap_2, .ref ai_2, .ref ar_2, .ref ao_2, .int 0, .int 0, .int 0, .int 0, .int 0]))] := hD
  refine lv_aload_n hx hb d_E_init_18 rfl (lv_at hl 0 rfl) ?_
  refine va_new (ci := 2) (fs := [.null, .null]) (C := rc_M) (T := ft_M) (N := 2) hx hb hts in_M ty_M tk_M hown (hts _ k_123) (hts _ k_124) (hts _ k_7) hK hP hD hS hA rfl (fun j hj => by revert j; decide) (by decide) (by decide) d_E_init_19 (fun q3 H hP hD hS => ?_)
  have hP : va_P D wcl [(h, .inr (1, [.ref q1, .null, .null, .null, .null, .null, .int 0, .int 0, .int 0])), (q1, .inr (6, [.ref as_2, .ref at_2, .ref ap_2, .ref ai_2, .ref ar_2, .ref ao_2, .int 0, .int 0, .int 0, .int 0, .int 0])), (q3, .inr (2, [.null, .null]))] H := hP
  have hD : va_D A [(h, .inr (1, [.ref q1, .null, .null, .null, .null, .null, .int 0, .int 0, .int 0])), (q1, .inr (6, [.ref as_2, .ref at_2, .ref ap_2, .ref ai_2, .ref ar_2, .ref ao_2, .int 0, .int 0, .int 0, .int 0, .int 0])), (q3, .inr (2, [.null, .null]))] := hD
  refine W.widen (k := 8) (n := 3925) (by decide) (by decide) ?_
  refine lv_dup hx hb d_E_init_22 rfl ?_
  refine cl_v (wc := [(q3, .inr (2, [.null, .null]))]) (wr := [(h, .inr (1, [.ref q1, .null, .null, .null, .null, .null, .int 0, .int 0, .int 0])), (q1, .inr (6, [.ref as_2, .ref at_2, .ref ap_2, .ref ai_2, .ref ar_2, .ref ao_2, .int 0, .int 0, .int 0, .int 0, .int 0]))]) hP hD hK hS hA [2] [0, 1] rfl rfl (by decide) (by decide) (va_runIN (As := []) (rest := [.ref q3, .ref h]) ⟨hx, hb, hml, hown, hts⟩ (c_M_init0 l D H.size q3) (cw_IN hts 0 k_127 k_7 (hE.1 _ k_125 rfl) k_126 rfl (by decide +kernel) ⟨Nat.le_of_ble_eq_true rfl, Nat.le_of_ble_eq_true rfl⟩) (pr_S hP hD hK [2] [] (by decide) rfl rfl (fun U hU hW => hE.warm hW) (fun U g mk a h => h.blind g mk a)) rfl rfl hl.1 rfl (lv_room (Nat.le_of_ble_eq_true rfl)) d_E_init_23 ⟨by decide, by decide⟩) (fun u H locs h4 hP hD hK hS => ?_)
  have hP : va_P D wcl [(h, .inr (1, [.ref q1, .null, .null, .null, .null, .null, .int 0, .int 0, .int 0])), (q1, .inr (6, [.ref as_2, .ref at_2, .ref ap_2, .ref ai_2, .ref ar_2, .ref ao_2, .int 0, .int 0, .int 0, .int 0, .int 0]))] H := hP
  have hD : va_D A [(h, .inr (1, [.ref q1, .null, .null, .null, .null, .null, .int 0, .int 0, .int 0])), (q1, .inr (6, [.ref as_2, .ref at_2, .ref ap_2, .ref ai_2, .ref ar_2, .ref ao_2, .int 0, .int 0, .int 0, .int 0, .int 0]))] := hD
  have hK : va_K D wcl [] s := hK
  refine W.widen (k := 36) (n := 5537) (by decide) (by decide) ?_
  refine va_putF (D := D) (ci := 1) (v := .ref q3) (ty := .object "MacroForge$Match") (C := rc_E) (T := ft_E) (N := 9) hx hb hts in_E ty_E tk_E nm_E hown hK hP hD hS 0 rfl rfl 1 (by decide) (hts _ k_155) (fun _ h9 => h9) rfl hin rfl (by decide +kernel) rfl rfl (Nat.le_of_ble_eq_true rfl) d_E_init_26 (fun H locs hP hD hS => ?_)
  have hP : va_P D wcl [(h, .inr (1, [.ref q1, .ref q3, .null, .null, .null, .null, .int 0, .int 0, .int 0])), (q1, .inr (6, [.ref as_2, .ref at_2, .ref ap_2, .ref ai_2, .ref ar_2, .ref ao_2, .int 0, .int 0, .int 0, .int 0, .int 0]))] H := hP
  have hD : va_D A [(h, .inr (1, [.ref q1, .ref q3, .null, .null, .null, .null, .int 0, .int 0, .int 0])), (q1, .inr (6, [.ref as_2, .ref at_2, .ref ap_2, .ref ai_2, .ref ar_2, .ref ao_2, .int 0, .int 0, .int 0, .int 0, .int 0]))] := hD
  refine lv_aload_n hx hb d_E_init_29 rfl (lv_at hl 0 rfl) ?_
  refine va_new (ci := 3) (fs := [.null, .int 0, .int 0]) (C := rc_S) (T := ft_S) (N := 3) hx hb hts in_S ty_S tk_S hown (hts _ k_138) (hts _ k_139) (hts _ k_8) hK hP hD hS hA rfl (fun j hj => by revert j; decide) (by decide) (by decide) d_E_init_30 (fun q5 H hP hD hS => ?_)
  have hP : va_P D wcl [(h, .inr (1, [.ref q1, .ref q3, .null, .null, .null, .null, .int 0, .int 0, .int 0])), (q1, .inr (6, [.ref as_2, .ref at_2, .ref ap_2, .ref ai_2, .ref ar_2, .ref ao_2, .int 0, .int 0, .int 0, .int 0, .int 0])), (q5, .inr (3, [.null, .int 0, .int 0]))] H := hP
  have hD : va_D A [(h, .inr (1, [.ref q1, .ref q3, .null, .null, .null, .null, .int 0, .int 0, .int 0])), (q1, .inr (6, [.ref as_2, .ref at_2, .ref ap_2, .ref ai_2, .ref ar_2, .ref ao_2, .int 0, .int 0, .int 0, .int 0, .int 0])), (q5, .inr (3, [.null, .int 0, .int 0]))] := hD
  refine W.widen (k := 37) (n := 5540) (by decide) (by decide) ?_
  refine lv_dup hx hb d_E_init_33 rfl ?_
  refine cl_v (wc := [(q5, .inr (3, [.null, .int 0, .int 0]))]) (wr := [(h, .inr (1, [.ref q1, .ref q3, .null, .null, .null, .null, .int 0, .int 0, .int 0])), (q1, .inr (6, [.ref as_2, .ref at_2, .ref ap_2, .ref ai_2, .ref ar_2, .ref ao_2, .int 0, .int 0, .int 0, .int 0, .int 0]))]) hP hD hK hS hA [2] [0, 1] rfl rfl (by decide) (by decide) (va_runIN (As := []) (rest := [.ref q5, .ref h]) ⟨hx, hb, hml, hown, hts⟩ (c_S_init l D H.size q5) (cw_IN hts 0 k_142 k_8 (hE.1 _ k_140 rfl) k_141 rfl (by decide +kernel) ⟨Nat.le_of_ble_eq_true rfl, Nat.le_of_ble_eq_true rfl⟩) (pr_S hP hD hK [2] [] (by decide) rfl rfl (fun U hU hW => trivial) (fun U g mk a h => h)) rfl rfl hl.1 rfl (lv_room (Nat.le_of_ble_eq_true rfl)) d_E_init_34 ⟨by decide, by decide⟩) (fun u H locs h6 hP hD hK hS => ?_)
  obtain ⟨ma, cm⟩ := u
  have hP : va_P D wcl [(h, .inr (1, [.ref q1, .ref q3, .null, .null, .null, .null, .int 0, .int 0, .int 0])), (q1, .inr (6, [.ref as_2, .ref at_2, .ref ap_2, .ref ai_2, .ref ar_2, .ref ao_2, .int 0, .int 0, .int 0, .int 0, .int 0])), (q5, .inr (3, [.ref ma, .int 0, .int 0])), (ma, .inl (cm, 150, .inl (fun _ => 0)))] H := hP
  have hD : va_D A [(h, .inr (1, [.ref q1, .ref q3, .null, .null, .null, .null, .int 0, .int 0, .int 0])), (q1, .inr (6, [.ref as_2, .ref at_2, .ref ap_2, .ref ai_2, .ref ar_2, .ref ao_2, .int 0, .int 0, .int 0, .int 0, .int 0])), (q5, .inr (3, [.ref ma, .int 0, .int 0])), (ma, .inl (cm, 150, .inl (fun _ => 0)))] := hD
  have hK : va_K D wcl [(cm, .int)] s := hK
  refine W.widen (k := 38) (n := 5690) (by decide) (by decide) ?_
  refine va_putF (D := D) (ci := 1) (v := .ref q5) (ty := .object "MacroForge$Result") (C := rc_E) (T := ft_E) (N := 9) hx hb hts in_E ty_E tk_E nm_E hown hK hP hD hS 0 rfl rfl 2 (by decide) (hts _ k_156) (fun _ h9 => h9) rfl hin rfl (by decide +kernel) rfl rfl (Nat.le_of_ble_eq_true rfl) d_E_init_37 (fun H locs hP hD hS => ?_)
  have hP : va_P D wcl [(h, .inr (1, [.ref q1, .ref q3, .ref q5, .null, .null, .null, .int 0, .int 0, .int 0])), (q1, .inr (6, [.ref as_2, .ref at_2, .ref ap_2, .ref ai_2, .ref ar_2, .ref ao_2, .int 0, .int 0, .int 0, .int 0, .int 0])), (q5, .inr (3, [.ref ma, .int 0, .int 0])), (ma, .inl (cm, 150, .inl (fun _ => 0)))] H := hP
  have hD : va_D A [(h, .inr (1, [.ref q1, .ref q3, .ref q5, .null, .null, .null, .int 0, .int 0, .int 0])), (q1, .inr (6, [.ref as_2, .ref at_2, .ref ap_2, .ref ai_2, .ref ar_2, .ref ao_2, .int 0, .int 0, .int 0, .int 0, .int 0])), (q5, .inr (3, [.ref ma, .int 0, .int 0])), (ma, .inl (cm, 150, .inl (fun _ => 0)))] := hD
  refine lv_aload_n hx hb d_E_init_40 rfl (lv_at hl 0 rfl) ?_
  refine lv_bipush (v := 12) hx hb d_E_init_41 (by decide) ?_
  refine va_newa (atype := .char) (ty := .char) (N' := 12) (a0 := (12, .inl (fun _ => 0))) hx hb (hts _ k_42) rfl hK hP hD hS hA (fun cA => rfl) (by decide) (by decide) (by decide) (by decide) (by decide) d_E_init_43 (fun q7 cA8 H hK hP hD hS => ?_)
  have hP : va_P D wcl [(h, .inr (1, [.ref q1, .ref q3, .ref q5, .null, .null, .null, .int 0, .int 0, .int 0])), (q1, .inr (6, [.ref as_2, .ref at_2, .ref ap_2, .ref ai_2, .ref ar_2, .ref ao_2, .int 0, .int 0, .int 0, .int 0, .int 0])), (q5, .inr (3, [.ref ma, .int 0, .int 0])), (ma, .inl (cm, 150, .inl (fun _ => 0))), (q7, .inl (cA8, 12, .inl (fun _ => 0)))] H := hP
  have hD : va_D A [(h, .inr (1, [.ref q1, .ref q3, .ref q5, .null, .null, .null, .int 0, .int 0, .int 0])), (q1, .inr (6, [.ref as_2, .ref at_2, .ref ap_2, .ref ai_2, .ref ar_2, .ref ao_2, .int 0, .int 0, .int 0, .int 0, .int 0])), (q5, .inr (3, [.ref ma, .int 0, .int 0])), (ma, .inl (cm, 150, .inl (fun _ => 0))), (q7, .inl (cA8, 12, .inl (fun _ => 0)))] := hD
  have hK : va_K D wcl [(cm, .int), (cA8, .char)] s := hK
  refine W.widen (k := 39) (n := 5702) (by decide) (by decide) ?_
  refine va_putF (D := D) (ci := 1) (v := .ref q7) (ty := .array .char) (C := rc_E) (T := ft_E) (N := 9) hx hb hts in_E ty_E tk_E nm_E hown hK hP hD hS 0 rfl rfl 3 (by decide) (hts _ k_157) (fun _ h9 => h9) rfl hin rfl (by decide +kernel) rfl rfl (Nat.le_of_ble_eq_true rfl) d_E_init_45 (fun H locs hP hD hS => ?_)
  have hP : va_P D wcl [(h, .inr (1, [.ref q1, .ref q3, .ref q5, .ref q7, .null, .null, .int 0, .int 0, .int 0])), (q1, .inr (6, [.ref as_2, .ref at_2, .ref ap_2, .ref ai_2, .ref ar_2, .ref ao_2, .int 0, .int 0, .int 0, .int 0, .int 0])), (q5, .inr (3, [.ref ma, .int 0, .int 0])), (ma, .inl (cm, 150, .inl (fun _ => 0))), (q7, .inl (cA8, 12, .inl (fun _ => 0)))] H := hP
  have hD : va_D A [(h, .inr (1, [.ref q1, .ref q3, .ref q5, .ref q7, .null, .null, .int 0, .int 0, .int 0])), (q1, .inr (6, [.ref as_2, .ref at_2, .ref ap_2, .ref ai_2, .ref ar_2, .ref ao_2, .int 0, .int 0, .int 0, .int 0, .int 0])), (q5, .inr (3, [.ref ma, .int 0, .int 0])), (ma, .inl (cm, 150, .inl (fun _ => 0))), (q7, .inl (cA8, 12, .inl (fun _ => 0)))] := hD
  refine lv_aload_n hx hb d_E_init_48 rfl (lv_at hl 0 rfl) ?_
  refine lv_bipush (v := 12) hx hb d_E_init_49 (by decide) ?_
  refine va_newa (atype := .int) (ty := .int) (N' := 12) (a0 := (12, .inl (fun _ => 0))) hx hb (hts _ k_96) rfl hK hP hD hS hA (fun cA => rfl) (by decide) (by decide) (by decide) (by decide) (by decide) d_E_init_51 (fun q9 cA10 H hK hP hD hS => ?_)
  have hP : va_P D wcl [(h, .inr (1, [.ref q1, .ref q3, .ref q5, .ref q7, .null, .null, .int 0, .int 0, .int 0])), (q1, .inr (6, [.ref as_2, .ref at_2, .ref ap_2, .ref ai_2, .ref ar_2, .ref ao_2, .int 0, .int 0, .int 0, .int 0, .int 0])), (q5, .inr (3, [.ref ma, .int 0, .int 0])), (ma, .inl (cm, 150, .inl (fun _ => 0))), (q7, .inl (cA8, 12, .inl (fun _ => 0))), (q9, .inl (cA10, 12, .inl (fun _ => 0)))] H := hP
  have hD : va_D A [(h, .inr (1, [.ref q1, .ref q3, .ref q5, .ref q7, .null, .null, .int 0, .int 0, .int 0])), (q1, .inr (6, [.ref as_2, .ref at_2, .ref ap_2, .ref ai_2, .ref ar_2, .ref ao_2, .int 0, .int 0, .int 0, .int 0, .int 0])), (q5, .inr (3, [.ref ma, .int 0, .int 0])), (ma, .inl (cm, 150, .inl (fun _ => 0))), (q7, .inl (cA8, 12, .inl (fun _ => 0))), (q9, .inl (cA10, 12, .inl (fun _ => 0)))] := hD
  have hK : va_K D wcl [(cm, .int), (cA8, .char), (cA10, .int)] s := hK
  refine W.widen (k := 40) (n := 5714) (by decide) (by decide) ?_
  refine va_putF (D := D) (ci := 1) (v := .ref q9) (ty := .array .int) (C := rc_E) (T := ft_E) (N := 9) hx hb hts in_E ty_E tk_E nm_E hown hK hP hD hS 0 rfl rfl 4 (by decide) (hts _ k_158) (fun _ h9 => h9) rfl hin rfl (by decide +kernel) rfl rfl (Nat.le_of_ble_eq_true rfl) d_E_init_53 (fun H locs hP hD hS => ?_)
  have hP : va_P D wcl [(h, .inr (1, [.ref q1, .ref q3, .ref q5, .ref q7, .ref q9, .null, .int 0, .int 0, .int 0])), (q1, .inr (6, [.ref as_2, .ref at_2, .ref ap_2, .ref ai_2, .ref ar_2, .ref ao_2, .int 0, .int 0, .int 0, .int 0, .int 0])), (q5, .inr (3, [.ref ma, .int 0, .int 0])), (ma, .inl (cm, 150, .inl (fun _ => 0))), (q7, .inl (cA8, 12, .inl (fun _ => 0))), (q9, .inl (cA10, 12, .inl (fun _ => 0)))] H := hP
  have hD : va_D A [(h, .inr (1, [.ref q1, .ref q3, .ref q5, .ref q7, .ref q9, .null, .int 0, .int 0, .int 0])), (q1, .inr (6, [.ref as_2, .ref at_2, .ref ap_2, .ref ai_2, .ref ar_2, .ref ao_2, .int 0, .int 0, .int 0, .int 0, .int 0])), (q5, .inr (3, [.ref ma, .int 0, .int 0])), (ma, .inl (cm, 150, .inl (fun _ => 0))), (q7, .inl (cA8, 12, .inl (fun _ => 0))), (q9, .inl (cA10, 12, .inl (fun _ => 0)))] := hD
  have hP9 := hP.sub (ws' := [(h, .inr (1, [.ref q1, .ref q3, .ref q5, .ref q7, .ref q9, .null, .int 0, .int 0, .int 0])), (q1, .inr (6, [.ref as_2, .ref at_2, .ref ap_2, .ref ai_2, .ref ar_2, .ref ao_2, .int 0, .int 0, .int 0, .int 0, .int 0])), (q5, .inr (3, [.ref ma, .int 0, .int 0]))]) [0, 1, 2] rfl
  have hD9 := hD.sub (ws' := [(h, .inr (1, [.ref q1, .ref q3, .ref q5, .ref q7, .ref q9, .null, .int 0, .int 0, .int 0])), (q1, .inr (6, [.ref as_2, .ref at_2, .ref ap_2, .ref ai_2, .ref ar_2, .ref ao_2, .int 0, .int 0, .int 0, .int 0, .int 0])), (q5, .inr (3, [.ref ma, .int 0, .int 0]))]) [0, 1, 2] (by decide) rfl
  have hK9 := hK.sub (tys' := []) [] rfl
  exact W.vret hx hb hr (fun t9 ht hW => ⟨⟨(q1, q3, q5, q7, q9, ma, as_2, at_2, ap_2, ai_2, ar_2, ao_2), rfl, trivial, ⟨by rw [ht]; exact hP9, va_K.moved hW.alike hK9, hD9⟩⟩, hS.F ht⟩) hS.2.2 d_E_init_56

set_option maxHeartbeats 4000000 in
set_option maxRecDepth 100000 in
/-- Expansion.result() -/
theorem c_E_result0 (l : Launch) (D : va_G) (sz : Nat) (h : Nat) (et : Nat) (em : Nat) (er : Nat) (el : Nat) (es : Nat) : Met l y_E_result (Cond.code y_E_result b_E_result 1 (some (.object "MacroForge$Result")) :: wal) ({ frames := 10, cells := 0, slots := 0, locals := 120 }) (va_Pc [.ref h] (pr D sz [(h, .inr (1, [.ref et, .ref em, .ref er, .ref el, .ref es, .null, .int 0, .int 0, .int 0]))] [] (fun _ => True))) (va_Qr (S := Unit) (fun u => True) (fun u x9 t9 => x9 = er ∧ po D (va_A ([(h, .inr (1, [.ref et, .ref em, .ref er, .ref el, .ref es, .null, .int 0, .int 0, .int 0]))]) sz) ((fun u => [(h, .inr (1, [.ref et, .ref em, .ref er, .ref el, .ref es, .null, .int 0, .int 0, .int 0]))]) u) ((fun u => []) u) t9) (va_A ([(h, .inr (1, [.ref et, .ref em, .ref er, .ref el, .ref es, .null, .int 0, .int 0, .int 0]))]) sz)) 0 0 (va_A ([(h, .inr (1, [.ref et, .ref em, .ref er, .ref el, .ref es, .null, .int 0, .int 0, .int 0]))]) sz) := by
  refine Met.ofW (cc := b_E_result) (maxL := 1) (ret := (some (.object "MacroForge$Result"))) (by decide) rfl ?_
  intro p e s m args below meth c s₁ B hml hv
  obtain ⟨rfl, hsz, hP, hK, hD0, hE⟩ := hv
  have hx := B.exec
  have hb := B.bytes
  have hr := B.returns
  have hts0 := atoms_spec (ws := Cond.code y_E_result b_E_result 1 (some (.object "MacroForge$Result")) :: wal) B.pre
  have hts : ∀ w ∈ wal, w.before _ s = true := fun w h => hts0 w (List.mem_cons_of_mem _ h)
  have hown : s.vm.findClass rc_E = some m.cls := findClass_of_methodNamed B.named
  have hlocks := B.notSynchronized
  subst hsz
  have hD := hD0.self (sz := s.heap.size)
  generalize hAe : va_A ([(h, .inr (1, [.ref et, .ref em, .ref er, .ref el, .ref es, .null, .int 0, .int 0, .int 0]))]) s.heap.size = A at hD ⊢
  have hA : ∀ q : Nat, s.heap.size ≤ q → A q := fun q h => by rw [← hAe]; exact Or.inr h
  have hS : va_S A s.heap s.heap [] := va_S.rf
  have hl := lv_entry ([.ref h]) (n := 1) (Nat.le_of_ble_eq_true rfl)
  rw [lg_entry_eq]
  generalize (lg_sl ([.ref h]) ++ List.replicate (1 - (lg_sl ([.ref h])).length) Slot.unset).toArray = ls at hl ⊢
  have hl : lv_has ls 1 [(0, .ref h)] := hl
  refine lv_aload_n hx hb d_E_result_0 rfl (lv_at hl 0 rfl) ?_
  refine va_get (D := D) (ci := 1) (v := .ref er) (C := rc_E) (T := ft_E) (N := 9) hx hb hts in_E hown hK hP 0 rfl rfl 2 (by decide) (hts _ k_156) (fun _ h9 => h9) rfl d_E_result_1 ?_
  have hP9 := hP.sub (ws' := [(h, .inr (1, [.ref et, .ref em, .ref er, .ref el, .ref es, .null, .int 0, .int 0, .int 0]))]) [0] rfl
  have hD9 := hD.sub (ws' := [(h, .inr (1, [.ref et, .ref em, .ref er, .ref el, .ref es, .null, .int 0, .int 0, .int 0]))]) [0] (by decide) rfl
  have hK9 := hK.sub (tys' := []) [] rfl
  exact W.aret (v := .ref er) hx hb hr (Or.inl ⟨_, rfl⟩) (Or.inr ⟨_, rfl⟩) (fun t9 ht hW => ⟨⟨(), er, rfl, trivial, ⟨rfl, ⟨by rw [ht]; exact hP9, va_K.moved hW.alike hK9, hD9⟩⟩⟩, hS.F ht⟩) hS.2.2 d_E_result_4

set_option maxHeartbeats 4000000 in
set_option maxRecDepth 100000 in
/-- Expansion.made() -/
theorem c_E_made0 (l : Launch) (D : va_G) (sz : Nat) (h : Nat) (et : Nat) (em : Nat) (er : Nat) (el : Nat) (es : Nat) : Met l y_E_made (Cond.code y_E_made b_E_made 1 (some .int) :: wal) ({ frames := 10, cells := 0, slots := 0, locals := 120 }) (va_Pc [.ref h] (pr D sz [(h, .inr (1, [.ref et, .ref em, .ref er, .ref el, .ref es, .null, .int 0, .int 0, .int 0]))] [] (fun _ => True))) (va_Qi (S := Unit) (fun r u => r = 0) (fun u t9 => po D (va_A ([(h, .inr (1, [.ref et, .ref em, .ref er, .ref el, .ref es, .null, .int 0, .int 0, .int 0]))]) sz) ((fun u => [(h, .inr (1, [.ref et, .ref em, .ref er, .ref el, .ref es, .null, .int 0, .int 0, .int 0]))]) u) ((fun u => []) u) t9) (va_A ([(h, .inr (1, [.ref et, .ref em, .ref er, .ref el, .ref es, .null, .int 0, .int 0, .int 0]))]) sz)) 0 0 (va_A ([(h, .inr (1, [.ref et, .ref em, .ref er, .ref el, .ref es, .null, .int 0, .int 0, .int 0]))]) sz) := by
  refine Met.ofW (cc := b_E_made) (maxL := 1) (ret := (some .int)) (by decide) rfl ?_
  intro p e s m args below meth c s₁ B hml hv
  obtain ⟨rfl, hsz, hP, hK, hD0, hE⟩ := hv
  have hx := B.exec
  have hb := B.bytes
  have hr := B.returns
  have hts0 := atoms_spec (ws := Cond.code y_E_made b_E_made 1 (some .int) :: wal) B.pre
  have hts : ∀ w ∈ wal, w.before _ s = true := fun w h => hts0 w (List.mem_cons_of_mem _ h)
  have hown : s.vm.findClass rc_E = some m.cls := findClass_of_methodNamed B.named
  have hlocks := B.notSynchronized
  subst hsz
  have hD := hD0.self (sz := s.heap.size)
  generalize hAe : va_A ([(h, .inr (1, [.ref et, .ref em, .ref er, .ref el, .ref es, .null, .int 0, .int 0, .int 0]))]) s.heap.size = A at hD ⊢
  have hA : ∀ q : Nat, s.heap.size ≤ q → A q := fun q h => by rw [← hAe]; exact Or.inr h
  have hS : va_S A s.heap s.heap [] := va_S.rf
  have hl := lv_entry ([.ref h]) (n := 1) (Nat.le_of_ble_eq_true rfl)
  rw [lg_entry_eq]
  generalize (lg_sl ([.ref h]) ++ List.replicate (1 - (lg_sl ([.ref h])).length) Slot.unset).toArray = ls at hl ⊢
  have hl : lv_has ls 1 [(0, .ref h)] := hl
  refine lv_aload_n hx hb d_E_made_0 rfl (lv_at hl 0 rfl) ?_
  refine va_get (D := D) (ci := 1) (v := .int 0) (C := rc_E) (T := ft_E) (N := 9) hx hb hts in_E hown hK hP 0 rfl rfl 8 (by decide) (hts _ k_162) (fun _ h9 => h9) rfl d_E_made_1 ?_
  have hP9 := hP.sub (ws' := [(h, .inr (1, [.ref et, .ref em, .ref er, .ref el, .ref es, .null, .int 0, .int 0, .int 0]))]) [0] rfl
  have hD9 := hD.sub (ws' := [(h, .inr (1, [.ref et, .ref em, .ref er, .ref el, .ref es, .null, .int 0, .int 0, .int 0]))]) [0] (by decide) rfl
  have hK9 := hK.sub (tys' := []) [] rfl
  exact W.iret (v := 0) hx hb hr (fun t9 ht hW => ⟨⟨0, (), rfl, rfl, ⟨by rw [ht]; exact hP9, va_K.moved hW.alike hK9, hD9⟩⟩, hS.F ht⟩) hS.2.2 d_E_made_4

set_option maxHeartbeats 4000000 in
set_option maxRecDepth 100000 in
/-- Expansion.read of an empty draft: no term -/
theorem c_E_read0 (l : Launch) (D : va_G) (sz : Nat) (h : Nat) (et : Nat) (em : Nat) (er : Nat) (el : Nat) (es : Nat) (as_2 : Nat) (at_2 : Nat) (ap_2 : Nat) (ai_2 : Nat) (ar_2 : Nat) (ao_2 : Nat) (x1 : Int32) (x2 : Int32) (x3 : Int32) (x4 : Int32) (x5 : Int32) (dd : Nat) (da : Nat) (dy : Int32) : Met l y_E_read (Cond.code y_E_read b_E_read 2 (some .boolean) :: wal) ({ frames := 12, cells := 0, slots := 0, locals := 240 }) (va_Pc [.ref h, .ref dd] (pr D sz [(h, .inr (1, [.ref et, .ref em, .ref er, .ref el, .ref es, .null, .int 0, .int 0, .int 0])), (et, .inr (6, [.ref as_2, .ref at_2, .ref ap_2, .ref ai_2, .ref ar_2, .ref ao_2, .int x1, .int x2, .int x3, .int x4, .int x5])), (dd, .inr (0, [.ref da, .int 0, .int dy]))] [] (fun _ => True))) (va_Qi (S := Unit) (fun r u => r = 0) (fun u t9 => po D (va_A ([(h, .inr (1, [.ref et, .ref em, .ref er, .ref el, .ref es, .null, .int 0, .int 0, .int 0])), (et, .inr (6, [.ref as_2, .ref at_2, .ref ap_2, .ref ai_2, .ref ar_2, .ref ao_2, .int x1, .int x2, .int x3, .int x4, .int x5])), (dd, .inr (0, [.ref da, .int 0, .int dy]))]) sz) ((fun u => [(h, .inr (1, [.ref et, .ref em, .ref er, .ref el, .ref es, .null, .int 0, .int 0, .int 0])), (et, .inr (6, [.ref as_2, .ref at_2, .ref ap_2, .ref ai_2, .ref ar_2, .ref ao_2, .int 0, .int 0, .int 0, .int 8, .int (-1)])), (dd, .inr (0, [.ref da, .int 0, .int dy]))]) u) ((fun u => []) u) t9) (va_A ([(h, .inr (1, [.ref et, .ref em, .ref er, .ref el, .ref es, .null, .int 0, .int 0, .int 0])), (et, .inr (6, [.ref as_2, .ref at_2, .ref ap_2, .ref ai_2, .ref ar_2, .ref ao_2, .int x1, .int x2, .int x3, .int x4, .int x5])), (dd, .inr (0, [.ref da, .int 0, .int dy]))]) sz)) 0 0 (va_A ([(h, .inr (1, [.ref et, .ref em, .ref er, .ref el, .ref es, .null, .int 0, .int 0, .int 0])), (et, .inr (6, [.ref as_2, .ref at_2, .ref ap_2, .ref ai_2, .ref ar_2, .ref ao_2, .int x1, .int x2, .int x3, .int x4, .int x5])), (dd, .inr (0, [.ref da, .int 0, .int dy]))]) sz) := by
  refine Met.ofW (cc := b_E_read) (maxL := 2) (ret := (some .boolean)) (by decide) rfl ?_
  intro p e s m args below meth c s₁ B hml hv
  obtain ⟨rfl, hsz, hP, hK, hD0, hE⟩ := hv
  have hx := B.exec
  have hb := B.bytes
  have hr := B.returns
  have hts0 := atoms_spec (ws := Cond.code y_E_read b_E_read 2 (some .boolean) :: wal) B.pre
  have hts : ∀ w ∈ wal, w.before _ s = true := fun w h => hts0 w (List.mem_cons_of_mem _ h)
  have hown : s.vm.findClass rc_E = some m.cls := findClass_of_methodNamed B.named
  have hlocks := B.notSynchronized
  subst hsz
  have hD := hD0.self (sz := s.heap.size)
  generalize hAe : va_A ([(h, .inr (1, [.ref et, .ref em, .ref er, .ref el, .ref es, .null, .int 0, .int 0, .int 0])), (et, .inr (6, [.ref as_2, .ref at_2, .ref ap_2, .ref ai_2, .ref ar_2, .ref ao_2, .int x1, .int x2, .int x3, .int x4, .int x5])), (dd, .inr (0, [.ref da, .int 0, .int dy]))]) s.heap.size = A at hD ⊢
  have hA : ∀ q : Nat, s.heap.size ≤ q → A q := fun q h => by rw [← hAe]; exact Or.inr h
  have hS : va_S A s.heap s.heap [] := va_S.rf
  have hl := lv_entry ([.ref h, .ref dd]) (n := 2) (Nat.le_of_ble_eq_true rfl)
  rw [lg_entry_eq]
  generalize (lg_sl ([.ref h, .ref dd]) ++ List.replicate (2 - (lg_sl ([.ref h, .ref dd])).length) Slot.unset).toArray = ls at hl ⊢
  have hl : lv_has ls 2 [(0, .ref h), (1, .ref dd)] := hl
  refine lv_aload_n hx hb d_E_read_0 rfl (lv_at hl 0 rfl) ?_
  refine va_get (D := D) (ci := 1) (v := .ref et) (C := rc_E) (T := ft_E) (N := 9) hx hb hts in_E hown hK hP 0 rfl rfl 0 (by decide) (hts _ k_154) (fun _ h9 => h9) rfl d_E_read_1 ?_
  refine cl_v (wc := [(et, .inr (6, [.ref as_2, .ref at_2, .ref ap_2, .ref ai_2, .ref ar_2, .ref ao_2, .int x1, .int x2, .int x3, .int x4, .int x5]))]) (wr := [(h, .inr (1, [.ref et, .ref em, .ref er, .ref el, .ref es, .null, .int 0, .int 0, .int 0])), (dd, .inr (0, [.ref da, .int 0, .int dy]))]) hP hD hK hS hA [1] [0, 2] rfl rfl (by decide) (by decide) (va_runV (As := []) (rest := []) ⟨hx, hb, hml, hown, hts⟩ (c_T_clear l D s.heap.size et as_2 at_2 ap_2 ai_2 ar_2 ao_2 x1 x2 x3 x4 x5) (cw_V hts 0 k_279 k_5 k_472 k_277 k_278 (by decide +kernel) ⟨Nat.le_of_ble_eq_true rfl, Nat.le_of_ble_eq_true rfl⟩) (pr_V hP hD hK [1] [] (by decide) rfl rfl (fun U hU hW => trivial) (fun U g mk a h => h) (q0 := 1) (ci := 6) rfl rfl) rfl rfl hl.1 rfl (lv_room (Nat.le_of_ble_eq_true rfl)) d_E_read_4 ⟨by decide, by decide⟩) (fun u H locs h1 hP hD hK hS => ?_)
  have hP : va_P D wcl [(h, .inr (1, [.ref et, .ref em, .ref er, .ref el, .ref es, .null, .int 0, .int 0, .int 0])), (dd, .inr (0, [.ref da, .int 0, .int dy])), (et, .inr (6, [.ref as_2, .ref at_2, .ref ap_2, .ref ai_2, .ref ar_2, .ref ao_2, .int 0, .int x2, .int x3, .int x4, .int x5]))] H := hP
  have hD : va_D A [(h, .inr (1, [.ref et, .ref em, .ref er, .ref el, .ref es, .null, .int 0, .int 0, .int 0])), (dd, .inr (0, [.ref da, .int 0, .int dy])), (et, .inr (6, [.ref as_2, .ref at_2, .ref ap_2, .ref ai_2, .ref ar_2, .ref ao_2, .int 0, .int x2, .int x3, .int x4, .int x5]))] := hD
  have hK : va_K D wcl [] s := hK
  refine lv_aload_n hx hb d_E_read_7 rfl (lv_at hl 0 rfl) ?_
  refine va_get (D := D) (ci := 1) (v := .ref et) (C := rc_E) (T := ft_E) (N := 9) hx hb hts in_E hown hK hP 0 rfl rfl 0 (by decide) (hts _ k_154) (fun _ h9 => h9) rfl d_E_read_8 ?_
  refine lv_aload_n hx hb d_E_read_11 rfl (lv_at hl 1 rfl) ?_
  refine lv_iconst (v := 0) hx hb d_E_read_12 (by decide) ?_
  refine lv_aload_n hx hb d_E_read_13 rfl (lv_at hl 1 rfl) ?_
  refine cl_i (wc := [(dd, .inr (0, [.ref da, .int 0, .int dy]))]) (wr := [(h, .inr (1, [.ref et, .ref em, .ref er, .ref el, .ref es, .null, .int 0, .int 0, .int 0])), (et, .inr (6, [.ref as_2, .ref at_2, .ref ap_2, .ref ai_2, .ref ar_2, .ref ao_2, .int 0, .int x2, .int x3, .int x4, .int x5]))]) hP hD hK hS hA [1] [0, 2] rfl rfl (by decide) (by decide) (va_runV (As := []) (rest := [.int 0, .ref dd, .ref et]) ⟨hx, hb, hml, hown, hts⟩ (c_D_length l D H.size dd da 0 dy) (cw_V hts 0 k_351 k_2 k_473 k_349 k_350 (by decide +kernel) ⟨Nat.le_of_ble_eq_true rfl, Nat.le_of_ble_eq_true rfl⟩) (pr_V hP hD hK [1] [] (by decide) rfl rfl (fun U hU hW => trivial) (fun U g mk a h => h) (q0 := 1) (ci := 0) rfl rfl) rfl rfl hl.1 rfl (lv_room (Nat.le_of_ble_eq_true rfl)) d_E_read_14 ⟨by decide, by decide⟩) (fun r3 u H locs h2 hP hD hK hS => ?_)
  have hP : va_P D wcl [(h, .inr (1, [.ref et, .ref em, .ref er, .ref el, .ref es, .null, .int 0, .int 0, .int 0])), (et, .inr (6, [.ref as_2, .ref at_2, .ref ap_2, .ref ai_2, .ref ar_2, .ref ao_2, .int 0, .int x2, .int x3, .int x4, .int x5])), (dd, .inr (0, [.ref da, .int 0, .int dy]))] H := hP
  have hD : va_D A [(h, .inr (1, [.ref et, .ref em, .ref er, .ref el, .ref es, .null, .int 0, .int 0, .int 0])), (et, .inr (6, [.ref as_2, .ref at_2, .ref ap_2, .ref ai_2, .ref ar_2, .ref ao_2, .int 0, .int x2, .int x3, .int x4, .int x5])), (dd, .inr (0, [.ref da, .int 0, .int dy]))] := hD
  have hK : va_K D wcl [] s := hK
  have h2 : r3 = 0 := h2
  subst h2
  refine lv_iconst (v := 0) hx hb d_E_read_17 (by decide) ?_
  refine cl_i (wc := [(et, .inr (6, [.ref as_2, .ref at_2, .ref ap_2, .ref ai_2, .ref ar_2, .ref ao_2, .int 0, .int x2, .int x3, .int x4, .int x5]))]) (wr := [(h, .inr (1, [.ref et, .ref em, .ref er, .ref el, .ref es, .null, .int 0, .int 0, .int 0])), (dd, .inr (0, [.ref da, .int 0, .int dy]))]) hP hD hK hS hA [1] [0, 2] rfl rfl (by decide) (by decide) (va_runV (As := [.ref dd, .int 0, .int 0, .int 0]) (rest := []) ⟨hx, hb, hml, hown, hts⟩ (c_T_read0 l D H.size et as_2 at_2 ap_2 ai_2 ar_2 ao_2 0 x2 x3 x4 x5 dd 0 0) (cw_V hts 4 k_296 k_5 k_474 k_294 k_295 (by decide +kernel) ⟨Nat.le_of_ble_eq_true rfl, Nat.le_of_ble_eq_true rfl⟩) (pr_V hP hD hK [1] [] (by decide) rfl rfl (fun U hU hW => trivial) (fun U g mk a h => h) (q0 := 1) (ci := 6) rfl rfl) rfl rfl hl.1 rfl (lv_room (Nat.le_of_ble_eq_true rfl)) d_E_read_18 ⟨by decide, by decide⟩) (fun r5 u H locs h4 hP hD hK hS => ?_)
  have hP : va_P D wcl [(h, .inr (1, [.ref et, .ref em, .ref er, .ref el, .ref es, .null, .int 0, .int 0, .int 0])), (dd, .inr (0, [.ref da, .int 0, .int dy])), (et, .inr (6, [.ref as_2, .ref at_2, .ref ap_2, .ref ai_2, .ref ar_2, .ref ao_2, .int 0, .int 0, .int 0, .int 8, .int (-1)]))] H := hP
  have hD : va_D A [(h, .inr (1, [.ref et, .ref em, .ref er, .ref el, .ref es, .null, .int 0, .int 0, .int 0])), (dd, .inr (0, [.ref da, .int 0, .int dy])), (et, .inr (6, [.ref as_2, .ref at_2, .ref ap_2, .ref ai_2, .ref ar_2, .ref ao_2, .int 0, .int 0, .int 0, .int 8, .int (-1)]))] := hD
  have hK : va_K D wcl [] s := hK
  have h4 : r5 = 0 := h4
  subst h4
  have hP9 := hP.sub (ws' := [(h, .inr (1, [.ref et, .ref em, .ref er, .ref el, .ref es, .null, .int 0, .int 0, .int 0])), (et, .inr (6, [.ref as_2, .ref at_2, .ref ap_2, .ref ai_2, .ref ar_2, .ref ao_2, .int 0, .int 0, .int 0, .int 8, .int (-1)])), (dd, .inr (0, [.ref da, .int 0, .int dy]))]) [0, 2, 1] rfl
  have hD9 := hD.sub (ws' := [(h, .inr (1, [.ref et, .ref em, .ref er, .ref el, .ref es, .null, .int 0, .int 0, .int 0])), (et, .inr (6, [.ref as_2, .ref at_2, .ref ap_2, .ref ai_2, .ref ar_2, .ref ao_2, .int 0, .int 0, .int 0, .int 8, .int (-1)])), (dd, .inr (0, [.ref da, .int 0, .int dy]))]) [0, 2, 1] (by decide) rfl
  have hK9 := hK.sub (tys' := []) [] rfl
  exact W.zret (v := 0) hx hb hr (by decide) (fun t9 ht hW => ⟨⟨0, (), rfl, rfl, ⟨by rw [ht]; exact hP9, va_K.moved hW.alike hK9, hD9⟩⟩, hS.F ht⟩) hS.2.2 d_E_read_21
