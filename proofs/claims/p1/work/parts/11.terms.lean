set_option maxHeartbeats 4000000 in
set_option maxRecDepth 100000 in
/-- Terms(60): an empty row of 60 nodes -/
theorem c_T_init60 (l : Launch) (D : va_G) (sz : Nat) (h : Nat) : Met l y_T_init (Cond.code y_T_init b_T_init 2 none :: wal) ({ frames := 10, cells := 6, slots := 312, locals := 120 }) (va_Pc [.ref h, .int 60] (pr D sz [(h, .inr (6, [.null, .null, .null, .null, .null, .null, .int 0, .int 0, .int 0, .int 0, .int 0]))] [] (fun _ => True))) (va_Qv (S := Nat × Nat × Nat × Nat × Nat × Nat × ClassId × ClassId × ClassId × ClassId × ClassId × ClassId) (fun u => True) (fun u t9 => po D (va_A ([(h, .inr (6, [.null, .null, .null, .null, .null, .null, .int 0, .int 0, .int 0, .int 0, .int 0]))]) sz) ((fun u => [(h, .inr (6, [.ref u.1, .ref u.2.1, .ref u.2.2.1, .ref u.2.2.2.1, .ref u.2.2.2.2.1, .ref u.2.2.2.2.2.1, .int 0, .int 0, .int 0, .int 0, .int 0])), (u.1, .inl (u.2.2.2.2.2.2.1, 60, .inl (fun _ => 0))), (u.2.1, .inl (u.2.2.2.2.2.2.2.1, 60, .inl (fun _ => 0))), (u.2.2.1, .inl (u.2.2.2.2.2.2.2.2.1, 60, .inl (fun _ => 0))), (u.2.2.2.1, .inl (u.2.2.2.2.2.2.2.2.2.1, 60, .inl (fun _ => 0))), (u.2.2.2.2.1, .inl (u.2.2.2.2.2.2.2.2.2.2.1, 60, .inl (fun _ => 0))), (u.2.2.2.2.2.1, .inl (u.2.2.2.2.2.2.2.2.2.2.2, 12, .inl (fun _ => 0)))]) u) ((fun u => [(u.2.2.2.2.2.2.1, .char), (u.2.2.2.2.2.2.2.1, .int), (u.2.2.2.2.2.2.2.2.1, .int), (u.2.2.2.2.2.2.2.2.2.1, .int), (u.2.2.2.2.2.2.2.2.2.2.1, .boolean), (u.2.2.2.2.2.2.2.2.2.2.2, .int)]) u) t9) (va_A ([(h, .inr (6, [.null, .null, .null, .null, .null, .null, .int 0, .int 0, .int 0, .int 0, .int 0]))]) sz)) 6 312 (va_A ([(h, .inr (6, [.null, .null, .null, .null, .null, .null, .int 0, .int 0, .int 0, .int 0, .int 0]))]) sz) := by
  refine Met.ofW (cc := b_T_init) (maxL := 2) (ret := none) (by decide) rfl ?_
  intro p e s m args below meth c s₁ B hml hv
  obtain ⟨rfl, hsz, hP, hK, hD0, hE⟩ := hv
  have hx := B.exec
  have hb := B.bytes
  have hr := B.returns
  have hts0 := atoms_spec (ws := Cond.code y_T_init b_T_init 2 none :: wal) B.pre
  have hts : ∀ w ∈ wal, w.before _ s = true := fun w h => hts0 w (List.mem_cons_of_mem _ h)
  have hown : s.vm.findClass rc_T = some m.cls := findClass_of_methodNamed B.named
  have hlocks := B.notSynchronized
  have hin : meth.name = "<init>" := (name_of_methodNamed B.named B.method).1
  subst hsz
  have hD := hD0.self (sz := s.heap.size)
  generalize hAe : va_A ([(h, .inr (6, [.null, .null, .null, .null, .null, .null, .int 0, .int 0, .int 0, .int 0, .int 0]))]) s.heap.size = A at hD ⊢
  have hA : ∀ q : Nat, s.heap.size ≤ q → A q := fun q h => by rw [← hAe]; exact Or.inr h
  have hS : va_S A s.heap s.heap [] := va_S.rf
  have hl := lv_entry ([.ref h, .int 60]) (n := 2) (Nat.le_of_ble_eq_true rfl)
  rw [lg_entry_eq]
  generalize (lg_sl ([.ref h, .int 60]) ++ List.replicate (2 - (lg_sl ([.ref h, .int 60])).length) Slot.unset).toArray = ls at hl ⊢
  have hl : lv_has ls 2 [(0, .ref h), (1, .int 60)] := hl
  refine lv_aload_n hx hb d_T_init_0 rfl (lv_at hl 0 rfl) ?_
  refine W.objInit hx hb hown (hts _ k_61) (hts _ k_24) (hts _ k_25) rfl (by rw [hml]; exact hl.1) rfl d_T_init_1 (Nat.le_of_ble_eq_true rfl) (Nat.le_of_ble_eq_true rfl) ?_
  refine W.eq (g2 := F0 m 4 ls []) rfl ?_
  refine lv_aload_n hx hb d_T_init_4 rfl (lv_at hl 0 rfl) ?_
  refine lv_bipush (v := 12) hx hb d_T_init_5 (by decide) ?_
  refine va_newa (atype := .int) (ty := .int) (N' := 12) (a0 := (12, .inl (fun _ => 0))) hx hb (hts _ k_96) rfl hK hP hD hS hA (fun cA => rfl) (by decide) (by decide) (by decide) (by decide) (by decide) d_T_init_7 (fun q1 cA2 H hK hP hD hS => ?_)
  have hP : va_P D wcl [(h, .inr (6, [.null, .null, .null, .null, .null, .null, .int 0, .int 0, .int 0, .int 0, .int 0])), (q1, .inl (cA2, 12, .inl (fun _ => 0)))] H := hP
  have hD : va_D A [(h, .inr (6, [.null, .null, .null, .null, .null, .null, .int 0, .int 0, .int 0, .int 0, .int 0])), (q1, .inl (cA2, 12, .inl (fun _ => 0)))] := hD
  have hK : va_K D wcl [(cA2, .int)] s := hK
  refine W.widen (k := 1) (n := 12) (by decide) (by decide) ?_
  refine va_putF (D := D) (ci := 6) (v := .ref q1) (ty := .array .int) (C := rc_T) (T := ft_T) (N := 11) hx hb hts in_T ty_T tk_T nm_T hown hK hP hD hS 0 rfl rfl 5 (by decide) (hts _ k_67) (fun _ h9 => h9) rfl hin rfl (by decide +kernel) rfl rfl (Nat.le_of_ble_eq_true rfl) d_T_init_9 (fun H locs hP hD hS => ?_)
  have hP : va_P D wcl [(h, .inr (6, [.null, .null, .null, .null, .null, .ref q1, .int 0, .int 0, .int 0, .int 0, .int 0])), (q1, .inl (cA2, 12, .inl (fun _ => 0)))] H := hP
  have hD : va_D A [(h, .inr (6, [.null, .null, .null, .null, .null, .ref q1, .int 0, .int 0, .int 0, .int 0, .int 0])), (q1, .inl (cA2, 12, .inl (fun _ => 0)))] := hD
  refine lv_aload_n hx hb d_T_init_12 rfl (lv_at hl 0 rfl) ?_
  refine lv_iload_n hx hb d_T_init_13 rfl (lv_at hl 1 rfl) ?_
  refine va_newa (atype := .char) (ty := .char) (N' := 60) (a0 := (60, .inl (fun _ => 0))) hx hb (hts _ k_42) rfl hK hP hD hS hA (fun cA => rfl) (by decide) (by decide) (by decide) (by decide) (by decide) d_T_init_14 (fun q3 cA4 H hK hP hD hS => ?_)
  have hP : va_P D wcl [(h, .inr (6, [.null, .null, .null, .null, .null, .ref q1, .int 0, .int 0, .int 0, .int 0, .int 0])), (q1, .inl (cA2, 12, .inl (fun _ => 0))), (q3, .inl (cA4, 60, .inl (fun _ => 0)))] H := hP
  have hD : va_D A [(h, .inr (6, [.null, .null, .null, .null, .null, .ref q1, .int 0, .int 0, .int 0, .int 0, .int 0])), (q1, .inl (cA2, 12, .inl (fun _ => 0))), (q3, .inl (cA4, 60, .inl (fun _ => 0)))] := hD
  have hK : va_K D wcl [(cA2, .int), (cA4, .char)] s := hK
  refine W.widen (k := 2) (n := 72) (by decide) (by decide) ?_
  refine va_putF (D := D) (ci := 6) (v := .ref q3) (ty := .array .char) (C := rc_T) (T := ft_T) (N := 11) hx hb hts in_T ty_T tk_T nm_T hown hK hP hD hS 0 rfl rfl 0 (by decide) (hts _ k_62) (fun _ h9 => h9) rfl hin rfl (by decide +kernel) rfl rfl (Nat.le_of_ble_eq_true rfl) d_T_init_16 (fun H locs hP hD hS => ?_)
  have hP : va_P D wcl [(h, .inr (6, [.ref q3, .null, .null, .null, .null, .ref q1, .int 0, .int 0, .int 0, .int 0, .int 0])), (q1, .inl (cA2, 12, .inl (fun _ => 0))), (q3, .inl (cA4, 60, .inl (fun _ => 0)))] H := hP
  have hD : va_D A [(h, .inr (6, [.ref q3, .null, .null, .null, .null, .ref q1, .int 0, .int 0, .int 0, .int 0, .int 0])), (q1, .inl (cA2, 12, .inl (fun _ => 0))), (q3, .inl (cA4, 60, .inl (fun _ => 0)))] := hD
  refine lv_aload_n hx hb d_T_init_19 rfl (lv_at hl 0 rfl) ?_
  refine lv_iload_n hx hb d_T_init_20 rfl (lv_at hl 1 rfl) ?_
  refine va_newa (atype := .int) (ty := .int) (N' := 60) (a0 := (60, .inl (fun _ => 0))) hx hb (hts _ k_96) rfl hK hP hD hS hA (fun cA => rfl) (by decide) (by decide) (by decide) (by decide) (by decide) d_T_init_21 (fun q5 cA6 H hK hP hD hS => ?_)
  have hP : va_P D wcl [(h, .inr (6, [.ref q3, .null, .null, .null, .null, .ref q1, .int 0, .int 0, .int 0, .int 0, .int 0])), (q1, .inl (cA2, 12, .inl (fun _ => 0))), (q3, .inl (cA4, 60, .inl (fun _ => 0))), (q5, .inl (cA6, 60, .inl (fun _ => 0)))] H := hP
  have hD : va_D A [(h, .inr (6, [.ref q3, .null, .null, .null, .null, .ref q1, .int 0, .int 0, .int 0, .int 0, .int 0])), (q1, .inl (cA2, 12, .inl (fun _ => 0))), (q3, .inl (cA4, 60, .inl (fun _ => 0))), (q5, .inl (cA6, 60, .inl (fun _ => 0)))] := hD
  have hK : va_K D wcl [(cA2, .int), (cA4, .char), (cA6, .int)] s := hK
  refine W.widen (k := 3) (n := 132) (by decide) (by decide) ?_
  refine va_putF (D := D) (ci := 6) (v := .ref q5) (ty := .array .int) (C := rc_T) (T := ft_T) (N := 11) hx hb hts in_T ty_T tk_T nm_T hown hK hP hD hS 0 rfl rfl 1 (by decide) (hts _ k_63) (fun _ h9 => h9) rfl hin rfl (by decide +kernel) rfl rfl (Nat.le_of_ble_eq_true rfl) d_T_init_23 (fun H locs hP hD hS => ?_)
  have hP : va_P D wcl [(h, .inr (6, [.ref q3, .ref q5, .null, .null, .null, .ref q1, .int 0, .int 0, .int 0, .int 0, .int 0])), (q1, .inl (cA2, 12, .inl (fun _ => 0))), (q3, .inl (cA4, 60, .inl (fun _ => 0))), (q5, .inl (cA6, 60, .inl (fun _ => 0)))] H := hP
  have hD : va_D A [(h, .inr (6, [.ref q3, .ref q5, .null, .null, .null, .ref q1, .int 0, .int 0, .int 0, .int 0, .int 0])), (q1, .inl (cA2, 12, .inl (fun _ => 0))), (q3, .inl (cA4, 60, .inl (fun _ => 0))), (q5, .inl (cA6, 60, .inl (fun _ => 0)))] := hD
  refine lv_aload_n hx hb d_T_init_26 rfl (lv_at hl 0 rfl) ?_
  refine lv_iload_n hx hb d_T_init_27 rfl (lv_at hl 1 rfl) ?_
  refine va_newa (atype := .int) (ty := .int) (N' := 60) (a0 := (60, .inl (fun _ => 0))) hx hb (hts _ k_96) rfl hK hP hD hS hA (fun cA => rfl) (by decide) (by decide) (by decide) (by decide) (by decide) d_T_init_28 (fun q7 cA8 H hK hP hD hS => ?_)
  have hP : va_P D wcl [(h, .inr (6, [.ref q3, .ref q5, .null, .null, .null, .ref q1, .int 0, .int 0, .int 0, .int 0, .int 0])), (q1, .inl (cA2, 12, .inl (fun _ => 0))), (q3, .inl (cA4, 60, .inl (fun _ => 0))), (q5, .inl (cA6, 60, .inl (fun _ => 0))), (q7, .inl (cA8, 60, .inl (fun _ => 0)))] H := hP
  have hD : va_D A [(h, .inr (6, [.ref q3, .ref q5, .null, .null, .null, .ref q1, .int 0, .int 0, .int 0, .int 0, .int 0])), (q1, .inl (cA2, 12, .inl (fun _ => 0))), (q3, .inl (cA4, 60, .inl (fun _ => 0))), (q5, .inl (cA6, 60, .inl (fun _ => 0))), (q7, .inl (cA8, 60, .inl (fun _ => 0)))] := hD
  have hK : va_K D wcl [(cA2, .int), (cA4, .char), (cA6, .int), (cA8, .int)] s := hK
  refine W.widen (k := 4) (n := 192) (by decide) (by decide) ?_
  refine va_putF (D := D) (ci := 6) (v := .ref q7) (ty := .array .int) (C := rc_T) (T := ft_T) (N := 11) hx hb hts in_T ty_T tk_T nm_T hown hK hP hD hS 0 rfl rfl 2 (by decide) (hts _ k_64) (fun _ h9 => h9) rfl hin rfl (by decide +kernel) rfl rfl (Nat.le_of_ble_eq_true rfl) d_T_init_30 (fun H locs hP hD hS => ?_)
  have hP : va_P D wcl [(h, .inr (6, [.ref q3, .ref q5, .ref q7, .null, .null, .ref q1, .int 0, .int 0, .int 0, .int 0, .int 0])), (q1, .inl (cA2, 12, .inl (fun _ => 0))), (q3, .inl (cA4, 60, .inl (fun _ => 0))), (q5, .inl (cA6, 60, .inl (fun _ => 0))), (q7, .inl (cA8, 60, .inl (fun _ => 0)))] H := hP
  have hD : va_D A [(h, .inr (6, [.ref q3, .ref q5, .ref q7, .null, .null, .ref q1, .int 0, .int 0, .int 0, .int 0, .int 0])), (q1, .inl (cA2, 12, .inl (fun _ => 0))), (q3, .inl (cA4, 60, .inl (fun _ => 0))), (q5, .inl (cA6, 60, .inl (fun _ => 0))), (q7, .inl (cA8, 60, .inl (fun _ => 0)))] := hD
  refine lv_aload_n hx hb d_T_init_33 rfl (lv_at hl 0 rfl) ?_
  refine lv_iload_n hx hb d_T_init_34 rfl (lv_at hl 1 rfl) ?_
  refine va_newa (atype := .int) (ty := .int) (N' := 60) (a0 := (60, .inl (fun _ => 0))) hx hb (hts _ k_96) rfl hK hP hD hS hA (fun cA => rfl) (by decide) (by decide) (by decide) (by decide) (by decide) d_T_init_35 (fun q9 cA10 H hK hP hD hS => ?_)
  have hP : va_P D wcl [(h, .inr (6, [.ref q3, .ref q5, .ref q7, .null, .null, .ref q1, .int 0, .int 0, .int 0, .int 0, .int 0])), (q1, .inl (cA2, 12, .inl (fun _ => 0))), (q3, .inl (cA4, 60, .inl (fun _ => 0))), (q5, .inl (cA6, 60, .inl (fun _ => 0))), (q7, .inl (cA8, 60, .inl (fun _ => 0))), (q9, .inl (cA10, 60, .inl (fun _ => 0)))] H := hP
  have hD : va_D A [(h, .inr (6, [.ref q3, .ref q5, .ref q7, .null, .null, .ref q1, .int 0, .int 0, .int 0, .int 0, .int 0])), (q1, .inl (cA2, 12, .inl (fun _ => 0))), (q3, .inl (cA4, 60, .inl (fun _ => 0))), (q5, .inl (cA6, 60, .inl (fun _ => 0))), (q7, .inl (cA8, 60, .inl (fun _ => 0))), (q9, .inl (cA10, 60, .inl (fun _ => 0)))] := hD
  have hK : va_K D wcl [(cA2, .int), (cA4, .char), (cA6, .int), (cA8, .int), (cA10, .int)] s := hK
  refine W.widen (k := 5) (n := 252) (by decide) (by decide) ?_
  refine va_putF (D := D) (ci := 6) (v := .ref q9) (ty := .array .int) (C := rc_T) (T := ft_T) (N := 11) hx hb hts in_T ty_T tk_T nm_T hown hK hP hD hS 0 rfl rfl 3 (by decide) (hts _ k_65) (fun _ h9 => h9) rfl hin rfl (by decide +kernel) rfl rfl (Nat.le_of_ble_eq_true rfl) d_T_init_37 (fun H locs hP hD hS => ?_)
  have hP : va_P D wcl [(h, .inr (6, [.ref q3, .ref q5, .ref q7, .ref q9, .null, .ref q1, .int 0, .int 0, .int 0, .int 0, .int 0])), (q1, .inl (cA2, 12, .inl (fun _ => 0))), (q3, .inl (cA4, 60, .inl (fun _ => 0))), (q5, .inl (cA6, 60, .inl (fun _ => 0))), (q7, .inl (cA8, 60, .inl (fun _ => 0))), (q9, .inl (cA10, 60, .inl (fun _ => 0)))] H := hP
  have hD : va_D A [(h, .inr (6, [.ref q3, .ref q5, .ref q7, .ref q9, .null, .ref q1, .int 0, .int 0, .int 0, .int 0, .int 0])), (q1, .inl (cA2, 12, .inl (fun _ => 0))), (q3, .inl (cA4, 60, .inl (fun _ => 0))), (q5, .inl (cA6, 60, .inl (fun _ => 0))), (q7, .inl (cA8, 60, .inl (fun _ => 0))), (q9, .inl (cA10, 60, .inl (fun _ => 0)))] := hD
  refine lv_aload_n hx hb d_T_init_40 rfl (lv_at hl 0 rfl) ?_
  refine lv_iload_n hx hb d_T_init_41 rfl (lv_at hl 1 rfl) ?_
  refine va_newa (atype := .boolean) (ty := .boolean) (N' := 60) (a0 := (60, .inl (fun _ => 0))) hx hb (hts _ k_97) rfl hK hP hD hS hA (fun cA => rfl) (by decide) (by decide) (by decide) (by decide) (by decide) d_T_init_42 (fun q11 cA12 H hK hP hD hS => ?_)
  have hP : va_P D wcl [(h, .inr (6, [.ref q3, .ref q5, .ref q7, .ref q9, .null, .ref q1, .int 0, .int 0, .int 0, .int 0, .int 0])), (q1, .inl (cA2, 12, .inl (fun _ => 0))), (q3, .inl (cA4, 60, .inl (fun _ => 0))), (q5, .inl (cA6, 60, .inl (fun _ => 0))), (q7, .inl (cA8, 60, .inl (fun _ => 0))), (q9, .inl (cA10, 60, .inl (fun _ => 0))), (q11, .inl (cA12, 60, .inl (fun _ => 0)))] H := hP
  have hD : va_D A [(h, .inr (6, [.ref q3, .ref q5, .ref q7, .ref q9, .null, .ref q1, .int 0, .int 0, .int 0, .int 0, .int 0])), (q1, .inl (cA2, 12, .inl (fun _ => 0))), (q3, .inl (cA4, 60, .inl (fun _ => 0))), (q5, .inl (cA6, 60, .inl (fun _ => 0))), (q7, .inl (cA8, 60, .inl (fun _ => 0))), (q9, .inl (cA10, 60, .inl (fun _ => 0))), (q11, .inl (cA12, 60, .inl (fun _ => 0)))] := hD
  have hK : va_K D wcl [(cA2, .int), (cA4, .char), (cA6, .int), (cA8, .int), (cA10, .int), (cA12, .boolean)] s := hK
  refine W.widen (k := 6) (n := 312) (by decide) (by decide) ?_
  refine va_putF (D := D) (ci := 6) (v := .ref q11) (ty := .array .boolean) (C := rc_T) (T := ft_T) (N := 11) hx hb hts in_T ty_T tk_T nm_T hown hK hP hD hS 0 rfl rfl 4 (by decide) (hts _ k_66) (fun _ h9 => h9) rfl hin rfl (by decide +kernel) rfl rfl (Nat.le_of_ble_eq_true rfl) d_T_init_44 (fun H locs hP hD hS => ?_)
  have hP : va_P D wcl [(h, .inr (6, [.ref q3, .ref q5, .ref q7, .ref q9, .ref q11, .ref q1, .int 0, .int 0, .int 0, .int 0, .int 0])), (q1, .inl (cA2, 12, .inl (fun _ => 0))), (q3, .inl (cA4, 60, .inl (fun _ => 0))), (q5, .inl (cA6, 60, .inl (fun _ => 0))), (q7, .inl (cA8, 60, .inl (fun _ => 0))), (q9, .inl (cA10, 60, .inl (fun _ => 0))), (q11, .inl (cA12, 60, .inl (fun _ => 0)))] H := hP
  have hD : va_D A [(h, .inr (6, [.ref q3, .ref q5, .ref q7, .ref q9, .ref q11, .ref q1, .int 0, .int 0, .int 0, .int 0, .int 0])), (q1, .inl (cA2, 12, .inl (fun _ => 0))), (q3, .inl (cA4, 60, .inl (fun _ => 0))), (q5, .inl (cA6, 60, .inl (fun _ => 0))), (q7, .inl (cA8, 60, .inl (fun _ => 0))), (q9, .inl (cA10, 60, .inl (fun _ => 0))), (q11, .inl (cA12, 60, .inl (fun _ => 0)))] := hD
  have hP9 := hP.sub (ws' := [(h, .inr (6, [.ref q3, .ref q5, .ref q7, .ref q9, .ref q11, .ref q1, .int 0, .int 0, .int 0, .int 0, .int 0])), (q3, .inl (cA4, 60, .inl (fun _ => 0))), (q5, .inl (cA6, 60, .inl (fun _ => 0))), (q7, .inl (cA8, 60, .inl (fun _ => 0))), (q9, .inl (cA10, 60, .inl (fun _ => 0))), (q11, .inl (cA12, 60, .inl (fun _ => 0))), (q1, .inl (cA2, 12, .inl (fun _ => 0)))]) [0, 2, 3, 4, 5, 6, 1] rfl
  have hD9 := hD.sub (ws' := [(h, .inr (6, [.ref q3, .ref q5, .ref q7, .ref q9, .ref q11, .ref q1, .int 0, .int 0, .int 0, .int 0, .int 0])), (q3, .inl (cA4, 60, .inl (fun _ => 0))), (q5, .inl (cA6, 60, .inl (fun _ => 0))), (q7, .inl (cA8, 60, .inl (fun _ => 0))), (q9, .inl (cA10, 60, .inl (fun _ => 0))), (q11, .inl (cA12, 60, .inl (fun _ => 0))), (q1, .inl (cA2, 12, .inl (fun _ => 0)))]) [0, 2, 3, 4, 5, 6, 1] (by decide) rfl
  have hK9 := hK.sub (tys' := [(cA4, .char), (cA6, .int), (cA8, .int), (cA10, .int), (cA12, .boolean), (cA2, .int)]) [1, 2, 3, 4, 5, 0] rfl
  exact W.vret hx hb hr (fun t9 ht hW => ⟨⟨(q3, q5, q7, q9, q11, q1, cA4, cA6, cA8, cA10, cA12, cA2), rfl, trivial, ⟨by rw [ht]; exact hP9, va_K.moved hW.alike hK9, hD9⟩⟩, hS.F ht⟩) hS.2.2 d_T_init_47

set_option maxHeartbeats 4000000 in
set_option maxRecDepth 100000 in
/-- Terms(780): an empty row of 780 nodes -/
theorem c_T_init780 (l : Launch) (D : va_G) (sz : Nat) (h : Nat) : Met l y_T_init (Cond.code y_T_init b_T_init 2 none :: wal) ({ frames := 10, cells := 6, slots := 3912, locals := 120 }) (va_Pc [.ref h, .int 780] (pr D sz [(h, .inr (6, [.null, .null, .null, .null, .null, .null, .int 0, .int 0, .int 0, .int 0, .int 0]))] [] (fun _ => True))) (va_Qv (S := Nat × Nat × Nat × Nat × Nat × Nat × ClassId × ClassId × ClassId × ClassId × ClassId × ClassId) (fun u => True) (fun u t9 => po D (va_A ([(h, .inr (6, [.null, .null, .null, .null, .null, .null, .int 0, .int 0, .int 0, .int 0, .int 0]))]) sz) ((fun u => [(h, .inr (6, [.ref u.1, .ref u.2.1, .ref u.2.2.1, .ref u.2.2.2.1, .ref u.2.2.2.2.1, .ref u.2.2.2.2.2.1, .int 0, .int 0, .int 0, .int 0, .int 0])), (u.1, .inl (u.2.2.2.2.2.2.1, 780, .inl (fun _ => 0))), (u.2.1, .inl (u.2.2.2.2.2.2.2.1, 780, .inl (fun _ => 0))), (u.2.2.1, .inl (u.2.2.2.2.2.2.2.2.1, 780, .inl (fun _ => 0))), (u.2.2.2.1, .inl (u.2.2.2.2.2.2.2.2.2.1, 780, .inl (fun _ => 0))), (u.2.2.2.2.1, .inl (u.2.2.2.2.2.2.2.2.2.2.1, 780, .inl (fun _ => 0))), (u.2.2.2.2.2.1, .inl (u.2.2.2.2.2.2.2.2.2.2.2, 12, .inl (fun _ => 0)))]) u) ((fun u => [(u.2.2.2.2.2.2.1, .char), (u.2.2.2.2.2.2.2.1, .int), (u.2.2.2.2.2.2.2.2.1, .int), (u.2.2.2.2.2.2.2.2.2.1, .int), (u.2.2.2.2.2.2.2.2.2.2.1, .boolean), (u.2.2.2.2.2.2.2.2.2.2.2, .int)]) u) t9) (va_A ([(h, .inr (6, [.null, .null, .null, .null, .null, .null, .int 0, .int 0, .int 0, .int 0, .int 0]))]) sz)) 6 3912 (va_A ([(h, .inr (6, [.null, .null, .null, .null, .null, .null, .int 0, .int 0, .int 0, .int 0, .int 0]))]) sz) := by
  refine Met.ofW (cc := b_T_init) (maxL := 2) (ret := none) (by decide) rfl ?_
  intro p e s m args below meth c s₁ B hml hv
  obtain ⟨rfl, hsz, hP, hK, hD0, hE⟩ := hv
  have hx := B.exec
  have hb := B.bytes
  have hr := B.returns
  have hts0 := atoms_spec (ws := Cond.code y_T_init b_T_init 2 none :: wal) B.pre
  have hts : ∀ w ∈ wal, w.before _ s = true := fun w h => hts0 w (List.mem_cons_of_mem _ h)
  have hown : s.vm.findClass rc_T = some m.cls := findClass_of_methodNamed B.named
  have hlocks := B.notSynchronized
  have hin : meth.name = "<init>" := (name_of_methodNamed B.named B.method).1
  subst hsz
  have hD := hD0.self (sz := s.heap.size)
  generalize hAe : va_A ([(h, .inr (6, [.null, .null, .null, .null, .null, .null, .int 0, .int 0, .int 0, .int 0, .int 0]))]) s.heap.size = A at hD ⊢
  have hA : ∀ q : Nat, s.heap.size ≤ q → A q := fun q h => by rw [← hAe]; exact Or.inr h
  have hS : va_S A s.heap s.heap [] := va_S.rf
  have hl := lv_entry ([.ref h, .int 780]) (n := 2) (Nat.le_of_ble_eq_true rfl)
  rw [lg_entry_eq]
  generalize (lg_sl ([.ref h, .int 780]) ++ List.replicate (2 - (lg_sl ([.ref h, .int 780])).length) Slot.unset).toArray = ls at hl ⊢
  have hl : lv_has ls 2 [(0, .ref h), (1, .int 780)] := hl
  refine lv_aload_n hx hb d_T_init_0 rfl (lv_at hl 0 rfl) ?_
  refine W.objInit hx hb hown (hts _ k_61) (hts _ k_24) (hts _ k_25) rfl (by rw [hml]; exact hl.1) rfl d_T_init_1 (Nat.le_of_ble_eq_true rfl) (Nat.le_of_ble_eq_true rfl) ?_
  refine W.eq (g2 := F0 m 4 ls []) rfl ?_
  refine lv_aload_n hx hb d_T_init_4 rfl (lv_at hl 0 rfl) ?_
  refine lv_bipush (v := 12) hx hb d_T_init_5 (by decide) ?_
  refine va_newa (atype := .int) (ty := .int) (N' := 12) (a0 := (12, .inl (fun _ => 0))) hx hb (hts _ k_96) rfl hK hP hD hS hA (fun cA => rfl) (by decide) (by decide) (by decide) (by decide) (by decide) d_T_init_7 (fun q1 cA2 H hK hP hD hS => ?_)
  have hP : va_P D wcl [(h, .inr (6, [.null, .null, .null, .null, .null, .null, .int 0, .int 0, .int 0, .int 0, .int 0])), (q1, .inl (cA2, 12, .inl (fun _ => 0)))] H := hP
  have hD : va_D A [(h, .inr (6, [.null, .null, .null, .null, .null, .null, .int 0, .int 0, .int 0, .int 0, .int 0])), (q1, .inl (cA2, 12, .inl (fun _ => 0)))] := hD
  have hK : va_K D wcl [(cA2, .int)] s := hK
  refine W.widen (k := 1) (n := 12) (by decide) (by decide) ?_
  refine va_putF (D := D) (ci := 6) (v := .ref q1) (ty := .array .int) (C := rc_T) (T := ft_T) (N := 11) hx hb hts in_T ty_T tk_T nm_T hown hK hP hD hS 0 rfl rfl 5 (by decide) (hts _ k_67) (fun _ h9 => h9) rfl hin rfl (by decide +kernel) rfl rfl (Nat.le_of_ble_eq_true rfl) d_T_init_9 (fun H locs hP hD hS => ?_)
  have hP : va_P D wcl [(h, .inr (6, [.null, .null, .null, .null, .null, .ref q1, .int 0, .int 0, .int 0, .int 0, .int 0])), (q1, .inl (cA2, 12, .inl (fun _ => 0)))] H := hP
  have hD : va_D A [(h, .inr (6, [.null, .null, .null, .null, .null, .ref q1, .int 0, .int 0, .int 0, .int 0, .int 0])), (q1, .inl (cA2, 12, .inl (fun _ => 0)))] := hD
  refine lv_aload_n hx hb d_T_init_12 rfl (lv_at hl 0 rfl) ?_
  refine lv_iload_n hx hb d_T_init_13 rfl (lv_at hl 1 rfl) ?_
  refine va_newa (atype := .char) (ty := .char) (N' := 780) (a0 := (780, .inl (fun _ => 0))) hx hb (hts _ k_42) rfl hK hP hD hS hA (fun cA => rfl) (by decide) (by decide) (by decide) (by decide) (by decide) d_T_init_14 (fun q3 cA4 H hK hP hD hS => ?_)
  have hP : va_P D wcl [(h, .inr (6, [.null, .null, .null, .null, .null, .ref q1, .int 0, .int 0, .int 0, .int 0, .int 0])), (q1, .inl (cA2, 12, .inl (fun _ => 0))), (q3, .inl (cA4, 780, .inl (fun _ => 0)))] H := hP
  have hD : va_D A [(h, .inr (6, [.null, .null, .null, .null, .null, .ref q1, .int 0, .int 0, .int 0, .int 0, .int 0])), (q1, .inl (cA2, 12, .inl (fun _ => 0))), (q3, .inl (cA4, 780, .inl (fun _ => 0)))] := hD
  have hK : va_K D wcl [(cA2, .int), (cA4, .char)] s := hK
  refine W.widen (k := 2) (n := 792) (by decide) (by decide) ?_
  refine va_putF (D := D) (ci := 6) (v := .ref q3) (ty := .array .char) (C := rc_T) (T := ft_T) (N := 11) hx hb hts in_T ty_T tk_T nm_T hown hK hP hD hS 0 rfl rfl 0 (by decide) (hts _ k_62) (fun _ h9 => h9) rfl hin rfl (by decide +kernel) rfl rfl (Nat.le_of_ble_eq_true rfl) d_T_init_16 (fun H locs hP hD hS => ?_)
  have hP : va_P D wcl [(h, .inr (6, [.ref q3, .null, .null, .null, .null, .ref q1, .int 0, .int 0, .int 0, .int 0, .int 0])), (q1, .inl (cA2, 12, .inl (fun _ => 0))), (q3, .inl (cA4, 780, .inl (fun _ => 0)))] H := hP
  have hD : va_D A [(h, .inr (6, [.ref q3, .null, .null, .null, .null, .ref q1, .int 0, .int 0, .int 0, .int 0, .int 0])), (q1, .inl (cA2, 12, .inl (fun _ => 0))), (q3, .inl (cA4, 780, .inl (fun _ => 0)))] := hD
  refine lv_aload_n hx hb d_T_init_19 rfl (lv_at hl 0 rfl) ?_
  refine lv_iload_n hx hb d_T_init_20 rfl (lv_at hl 1 rfl) ?_
  refine va_newa (atype := .int) (ty := .int) (N' := 780) (a0 := (780, .inl (fun _ => 0))) hx hb (hts _ k_96) rfl hK hP hD hS hA (fun cA => rfl) (by decide) (by decide) (by decide) (by decide) (by decide) d_T_init_21 (fun q5 cA6 H hK hP hD hS => ?_)
  have hP : va_P D wcl [(h, .inr (6, [.ref q3, .null, .null, .null, .null, .ref q1, .int 0, .int 0, .int 0, .int 0, .int 0])), (q1, .inl (cA2, 12, .inl (fun _ => 0))), (q3, .inl (cA4, 780, .inl (fun _ => 0))), (q5, .inl (cA6, 780, .inl (fun _ => 0)))] H := hP
  have hD : va_D A [(h, .inr (6, [.ref q3, .null, .null, .null, .null, .ref q1, .int 0, .int 0, .int 0, .int 0, .int 0])), (q1, .inl (cA2, 12, .inl (fun _ => 0))), (q3, .inl (cA4, 780, .inl (fun _ => 0))), (q5, .inl (cA6, 780, .inl (fun _ => 0)))] := hD
  have hK : va_K D wcl [(cA2, .int), (cA4, .char), (cA6, .int)] s := hK
  refine W.widen (k := 3) (n := 1572) (by decide) (by decide) ?_
  refine va_putF (D := D) (ci := 6) (v := .ref q5) (ty := .array .int) (C := rc_T) (T := ft_T) (N := 11) hx hb hts in_T ty_T tk_T nm_T hown hK hP hD hS 0 rfl rfl 1 (by decide) (hts _ k_63) (fun _ h9 => h9) rfl hin rfl (by decide +kernel) rfl rfl (Nat.le_of_ble_eq_true rfl) d_T_init_23 (fun H locs hP hD hS => ?_)
  have hP : va_P D wcl [(h, .inr (6, [.ref q3, .ref q5, .null, .null, .null, .ref q1, .int 0, .int 0, .int 0, .int 0, .int 0])), (q1, .inl (cA2, 12, .inl (fun _ => 0))), (q3, .inl (cA4, 780, .inl (fun _ => 0))), (q5, .inl (cA6, 780, .inl (fun _ => 0)))] H := hP
  have hD : va_D A [(h, .inr (6, [.ref q3, .ref q5, .null, .null, .null, .ref q1, .int 0, .int 0, .int 0, .int 0, .int 0])), (q1, .inl (cA2, 12, .inl (fun _ => 0))), (q3, .inl (cA4, 780, .inl (fun _ => 0))), (q5, .inl (cA6, 780, .inl (fun _ => 0)))] := hD
  refine lv_aload_n hx hb d_T_init_26 rfl (lv_at hl 0 rfl) ?_
  refine lv_iload_n hx hb d_T_init_27 rfl (lv_at hl 1 rfl) ?_
  refine va_newa (atype := .int) (ty := .int) (N' := 780) (a0 := (780, .inl (fun _ => 0))) hx hb (hts _ k_96) rfl hK hP hD hS hA (fun cA => rfl) (by decide) (by decide) (by decide) (by decide) (by decide) d_T_init_28 (fun q7 cA8 H hK hP hD hS => ?_)
  have hP : va_P D wcl [(h, .inr (6, [.ref q3, .ref q5, .null, .null, .null, .ref q1, .int 0, .int 0, .int 0, .int 0, .int 0])), (q1, .inl (cA2, 12, .inl (fun _ => 0))), (q3, .inl (cA4, 780, .inl (fun _ => 0))), (q5, .inl (cA6, 780, .inl (fun _ => 0))), (q7, .inl (cA8, 780, .inl (fun _ => 0)))] H := hP
  have hD : va_D A [(h, .inr (6, [.ref q3, .ref q5, .null, .null, .null, .ref q1, .int 0, .int 0, .int 0, .int 0, .int 0])), (q1, .inl (cA2, 12, .inl (fun _ => 0))), (q3, .inl (cA4, 780, .inl (fun _ => 0))), (q5, .inl (cA6, 780, .inl (fun _ => 0))), (q7, .inl (cA8, 780, .inl (fun _ => 0)))] := hD
  have hK : va_K D wcl [(cA2, .int), (cA4, .char), (cA6, .int), (cA8, .int)] s := hK
  refine W.widen (k := 4) (n := 2352) (by decide) (by decide) ?_
  refine va_putF (D := D) (ci := 6) (v := .ref q7) (ty := .array .int) (C := rc_T) (T := ft_T) (N := 11) hx hb hts in_T ty_T tk_T nm_T hown hK hP hD hS 0 rfl rfl 2 (by decide) (hts _ k_64) (fun _ h9 => h9) rfl hin rfl (by decide +kernel) rfl rfl (Nat.le_of_ble_eq_true rfl) d_T_init_30 (fun H locs hP hD hS => ?_)
  have hP : va_P D wcl [(h, .inr (6, [.ref q3, .ref q5, .ref q7, .null, .null, .ref q1, .int 0, .int 0, .int 0, .int 0, .int 0])), (q1, .inl (cA2, 12, .inl (fun _ => 0))), (q3, .inl (cA4, 780, .inl (fun _ => 0))), (q5, .inl (cA6, 780, .inl (fun _ => 0))), (q7, .inl (cA8, 780, .inl (fun _ => 0)))] H := hP
  have hD : va_D A [(h, .inr (6, [.ref q3, .ref q5, .ref q7, .null, .null, .ref q1, .int 0, .int 0, .int 0, .int 0, .int 0])), (q1, .inl (cA2, 12, .inl (fun _ => 0))), (q3, .inl (cA4, 780, .inl (fun _ => 0))), (q5, .inl (cA6, 780, .inl (fun _ => 0))), (q7, .inl (cA8, 780, .inl (fun _ => 0)))] := hD
  refine lv_aload_n hx hb d_T_init_33 rfl (lv_at hl 0 rfl) ?_
  refine lv_iload_n hx hb d_T_init_34 rfl (lv_at hl 1 rfl) ?_
  refine va_newa (atype := .int) (ty := .int) (N' := 780) (a0 := (780, .inl (fun _ => 0))) hx hb (hts _ k_96) rfl hK hP hD hS hA (fun cA => rfl) (by decide) (by decide) (by decide) (by decide) (by decide) d_T_init_35 (fun q9 cA10 H hK hP hD hS => ?_)
  have hP : va_P D wcl [(h, .inr (6, [.ref q3, .ref q5, .ref q7, .null, .null, .ref q1, .int 0, .int 0, .int 0, .int 0, .int 0])), (q1, .inl (cA2, 12, .inl (fun _ => 0))), (q3, .inl (cA4, 780, .inl (fun _ => 0))), (q5, .inl (cA6, 780, .inl (fun _ => 0))), (q7, .inl (cA8, 780, .inl (fun _ => 0))), (q9, .inl (cA10, 780, .inl (fun _ => 0)))] H := hP
  have hD : va_D A [(h, .inr (6, [.ref q3, .ref q5, .ref q7, .null, .null, .ref q1, .int 0, .int 0, .int 0, .int 0, .int 0])), (q1, .inl (cA2, 12, .inl (fun _ => 0))), (q3, .inl (cA4, 780, .inl (fun _ => 0))), (q5, .inl (cA6, 780, .inl (fun _ => 0))), (q7, .inl (cA8, 780, .inl (fun _ => 0))), (q9, .inl (cA10, 780, .inl (fun _ => 0)))] := hD
  have hK : va_K D wcl [(cA2, .int), (cA4, .char), (cA6, .int), (cA8, .int), (cA10, .int)] s := hK
  refine W.widen (k := 5) (n := 3132) (by decide) (by decide) ?_
  refine va_putF (D := D) (ci := 6) (v := .ref q9) (ty := .array .int) (C := rc_T) (T := ft_T) (N := 11) hx hb hts in_T ty_T tk_T nm_T hown hK hP hD hS 0 rfl rfl 3 (by decide) (hts _ k_65) (fun _ h9 => h9) rfl hin rfl (by decide +kernel) rfl rfl (Nat.le_of_ble_eq_true rfl) d_T_init_37 (fun H locs hP hD hS => ?_)
  have hP : va_P D wcl [(h, .inr (6, [.ref q3, .ref q5, .ref q7, .ref q9, .null, .ref q1, .int 0, .int 0, .int 0, .int 0, .int 0])), (q1, .inl (cA2, 12, .inl (fun _ => 0))), (q3, .inl (cA4, 780, .inl (fun _ => 0))), (q5, .inl (cA6, 780, .inl (fun _ => 0))), (q7, .inl (cA8, 780, .inl (fun _ => 0))), (q9, .inl (cA10, 780, .inl (fun _ => 0)))] H := hP
  have hD : va_D A [(h, .inr (6, [.ref q3, .ref q5, .ref q7, .ref q9, .null, .ref q1, .int 0, .int 0, .int 0, .int 0, .int 0])), (q1, .inl (cA2, 12, .inl (fun _ => 0))), (q3, .inl (cA4, 780, .inl (fun _ => 0))), (q5, .inl (cA6, 780, .inl (fun _ => 0))), (q7, .inl (cA8, 780, .inl (fun _ => 0))), (q9, .inl (cA10, 780, .inl (fun _ => 0)))] := hD
  refine lv_aload_n hx hb d_T_init_40 rfl (lv_at hl 0 rfl) ?_
  refine lv_iload_n hx hb d_T_init_41 rfl (lv_at hl 1 rfl) ?_
  refine va_newa (atype := .boolean) (ty := .boolean) (N' := 780) (a0 := (780, .inl (fun _ => 0))) hx hb (hts _ k_97) rfl hK hP hD hS hA (fun cA => rfl) (by decide) (by decide) (by decide) (by decide) (by decide) d_T_init_42 (fun q11 cA12 H hK hP hD hS => ?_)
  have hP : va_P D wcl [(h, .inr (6, [.ref q3, .ref q5, .ref q7, .ref q9, .null, .ref q1, .int 0, .int 0, .int 0, .int 0, .int 0])), (q1, .inl (cA2, 12, .inl (fun _ => 0))), (q3, .inl (cA4, 780, .inl (fun _ => 0))), (q5, .inl (cA6, 780, .inl (fun _ => 0))), (q7, .inl (cA8, 780, .inl (fun _ => 0))), (q9, .inl (cA10, 780, .inl (fun _ => 0))), (q11, .inl (cA12, 780, .inl (fun _ => 0)))] H := hP
  have hD : va_D A [(h, .inr (6, [.ref q3, .ref q5, .ref q7, .ref q9, .null, .ref q1, .int 0, .int 0, .int 0, .int 0, .int 0])), (q1, .inl (cA2, 12, .inl (fun _ => 0))), (q3, .inl (cA4, 780, .inl (fun _ => 0))), (q5, .inl (cA6, 780, .inl (fun _ => 0))), (q7, .inl (cA8, 780, .inl (fun _ => 0))), (q9, .inl (cA10, 780, .inl (fun _ => 0))), (q11, .inl (cA12, 780, .inl (fun _ => 0)))] := hD
  have hK : va_K D wcl [(cA2, .int), (cA4, .char), (cA6, .int), (cA8, .int), (cA10, .int), (cA12, .boolean)] s := hK
  refine W.widen (k := 6) (n := 3912) (by decide) (by decide) ?_
  refine va_putF (D := D) (ci := 6) (v := .ref q11) (ty := .array .boolean) (C := rc_T) (T := ft_T) (N := 11) hx hb hts in_T ty_T tk_T nm_T hown hK hP hD hS 0 rfl rfl 4 (by decide) (hts _ k_66) (fun _ h9 => h9) rfl hin rfl (by decide +kernel) rfl rfl (Nat.le_of_ble_eq_true rfl) d_T_init_44 (fun H locs hP hD hS => ?_)
  have hP : va_P D wcl [(h, .inr (6, [.ref q3, .ref q5, .ref q7, .ref q9, .ref q11, .ref q1, .int 0, .int 0, .int 0, .int 0, .int 0])), (q1, .inl (cA2, 12, .inl (fun _ => 0))), (q3, .inl (cA4, 780, .inl (fun _ => 0))), (q5, .inl (cA6, 780, .inl (fun _ => 0))), (q7, .inl (cA8, 780, .inl (fun _ => 0))), (q9, .inl (cA10, 780, .inl (fun _ => 0))), (q11, .inl (cA12, 780, .inl (fun _ => 0)))] H := hP
  have hD : va_D A [(h, .inr (6, [.ref q3, .ref q5, .ref q7, .ref q9, .ref q11, .ref q1, .int 0, .int 0, .int 0, .int 0, .int 0])), (q1, .inl (cA2, 12, .inl (fun _ => 0))), (q3, .inl (cA4, 780, .inl (fun _ => 0))), (q5, .inl (cA6, 780, .inl (fun _ => 0))), (q7, .inl (cA8, 780, .inl (fun _ => 0))), (q9, .inl (cA10, 780, .inl (fun _ => 0))), (q11, .inl (cA12, 780, .inl (fun _ => 0)))] := hD
  have hP9 := hP.sub (ws' := [(h, .inr (6, [.ref q3, .ref q5, .ref q7, .ref q9, .ref q11, .ref q1, .int 0, .int 0, .int 0, .int 0, .int 0])), (q3, .inl (cA4, 780, .inl (fun _ => 0))), (q5, .inl (cA6, 780, .inl (fun _ => 0))), (q7, .inl (cA8, 780, .inl (fun _ => 0))), (q9, .inl (cA10, 780, .inl (fun _ => 0))), (q11, .inl (cA12, 780, .inl (fun _ => 0))), (q1, .inl (cA2, 12, .inl (fun _ => 0)))]) [0, 2, 3, 4, 5, 6, 1] rfl
  have hD9 := hD.sub (ws' := [(h, .inr (6, [.ref q3, .ref q5, .ref q7, .ref q9, .ref q11, .ref q1, .int 0, .int 0, .int 0, .int 0, .int 0])), (q3, .inl (cA4, 780, .inl (fun _ => 0))), (q5, .inl (cA6, 780, .inl (fun _ => 0))), (q7, .inl (cA8, 780, .inl (fun _ => 0))), (q9, .inl (cA10, 780, .inl (fun _ => 0))), (q11, .inl (cA12, 780, .inl (fun _ => 0))), (q1, .inl (cA2, 12, .inl (fun _ => 0)))]) [0, 2, 3, 4, 5, 6, 1] (by decide) rfl
  have hK9 := hK.sub (tys' := [(cA4, .char), (cA6, .int), (cA8, .int), (cA10, .int), (cA12, .boolean), (cA2, .int)]) [1, 2, 3, 4, 5, 0] rfl
  exact W.vret hx hb hr (fun t9 ht hW => ⟨⟨(q3, q5, q7, q9, q11, q1, cA4, cA6, cA8, cA10, cA12, cA2), rfl, trivial, ⟨by rw [ht]; exact hP9, va_K.moved hW.alike hK9, hD9⟩⟩, hS.F ht⟩) hS.2.2 d_T_init_47

set_option maxHeartbeats 4000000 in
set_option maxRecDepth 100000 in
/-- Terms.size() -/
theorem c_T_size (l : Launch) (D : va_G) (sz : Nat) (h : Nat) (as_ : Nat) (at_ : Nat) (ap_ : Nat) (ai_ : Nat) (ar_ : Nat) (ao_ : Nat) (x1 : Int32) (x2 : Int32) (x3 : Int32) (x4 : Int32) (x5 : Int32) : Met l y_T_size (Cond.code y_T_size b_T_size 1 (some .int) :: wal) ({ frames := 10, cells := 0, slots := 0, locals := 120 }) (va_Pc [.ref h] (pr D sz [(h, .inr (6, [.ref as_, .ref at_, .ref ap_, .ref ai_, .ref ar_, .ref ao_, .int x1, .int x2, .int x3, .int x4, .int x5]))] [] (fun _ => True))) (va_Qi (S := Unit) (fun r u => r = x1) (fun u t9 => po D (va_A ([(h, .inr (6, [.ref as_, .ref at_, .ref ap_, .ref ai_, .ref ar_, .ref ao_, .int x1, .int x2, .int x3, .int x4, .int x5]))]) sz) ((fun u => [(h, .inr (6, [.ref as_, .ref at_, .ref ap_, .ref ai_, .ref ar_, .ref ao_, .int x1, .int x2, .int x3, .int x4, .int x5]))]) u) ((fun u => []) u) t9) (va_A ([(h, .inr (6, [.ref as_, .ref at_, .ref ap_, .ref ai_, .ref ar_, .ref ao_, .int x1, .int x2, .int x3, .int x4, .int x5]))]) sz)) 0 0 (va_A ([(h, .inr (6, [.ref as_, .ref at_, .ref ap_, .ref ai_, .ref ar_, .ref ao_, .int x1, .int x2, .int x3, .int x4, .int x5]))]) sz) := by
  refine Met.ofW (cc := b_T_size) (maxL := 1) (ret := (some .int)) (by decide) rfl ?_
  intro p e s m args below meth c s₁ B hml hv
  obtain ⟨rfl, hsz, hP, hK, hD0, hE⟩ := hv
  have hx := B.exec
  have hb := B.bytes
  have hr := B.returns
  have hts0 := atoms_spec (ws := Cond.code y_T_size b_T_size 1 (some .int) :: wal) B.pre
  have hts : ∀ w ∈ wal, w.before _ s = true := fun w h => hts0 w (List.mem_cons_of_mem _ h)
  have hown : s.vm.findClass rc_T = some m.cls := findClass_of_methodNamed B.named
  have hlocks := B.notSynchronized
  subst hsz
  have hD := hD0.self (sz := s.heap.size)
  generalize hAe : va_A ([(h, .inr (6, [.ref as_, .ref at_, .ref ap_, .ref ai_, .ref ar_, .ref ao_, .int x1, .int x2, .int x3, .int x4, .int x5]))]) s.heap.size = A at hD ⊢
  have hA : ∀ q : Nat, s.heap.size ≤ q → A q := fun q h => by rw [← hAe]; exact Or.inr h
  have hS : va_S A s.heap s.heap [] := va_S.rf
  have hl := lv_entry ([.ref h]) (n := 1) (Nat.le_of_ble_eq_true rfl)
  rw [lg_entry_eq]
  generalize (lg_sl ([.ref h]) ++ List.replicate (1 - (lg_sl ([.ref h])).length) Slot.unset).toArray = ls at hl ⊢
  have hl : lv_has ls 1 [(0, .ref h)] := hl
  refine lv_aload_n hx hb d_T_size_0 rfl (lv_at hl 0 rfl) ?_
  refine va_get (D := D) (ci := 6) (v := .int x1) (C := rc_T) (T := ft_T) (N := 11) hx hb hts in_T hown hK hP 0 rfl rfl 6 (by decide) (hts _ k_68) (fun _ h9 => h9) rfl d_T_size_1 ?_
  have hP9 := hP.sub (ws' := [(h, .inr (6, [.ref as_, .ref at_, .ref ap_, .ref ai_, .ref ar_, .ref ao_, .int x1, .int x2, .int x3, .int x4, .int x5]))]) [0] rfl
  have hD9 := hD.sub (ws' := [(h, .inr (6, [.ref as_, .ref at_, .ref ap_, .ref ai_, .ref ar_, .ref ao_, .int x1, .int x2, .int x3, .int x4, .int x5]))]) [0] (by decide) rfl
  have hK9 := hK.sub (tys' := []) [] rfl
  exact W.iret (v := x1) hx hb hr (fun t9 ht hW => ⟨⟨x1, (), rfl, rfl, ⟨by rw [ht]; exact hP9, va_K.moved hW.alike hK9, hD9⟩⟩, hS.F ht⟩) hS.2.2 d_T_size_4

set_option maxHeartbeats 4000000 in
set_option maxRecDepth 100000 in
/-- Terms.clear() -/
theorem c_T_clear (l : Launch) (D : va_G) (sz : Nat) (h : Nat) (as_ : Nat) (at_ : Nat) (ap_ : Nat) (ai_ : Nat) (ar_ : Nat) (ao_ : Nat) (x1 : Int32) (x2 : Int32) (x3 : Int32) (x4 : Int32) (x5 : Int32) : Met l y_T_clear (Cond.code y_T_clear b_T_clear 1 none :: wal) ({ frames := 10, cells := 0, slots := 0, locals := 120 }) (va_Pc [.ref h] (pr D sz [(h, .inr (6, [.ref as_, .ref at_, .ref ap_, .ref ai_, .ref ar_, .ref ao_, .int x1, .int x2, .int x3, .int x4, .int x5]))] [] (fun _ => True))) (va_Qv (S := Unit) (fun u => True) (fun u t9 => po D (va_A ([(h, .inr (6, [.ref as_, .ref at_, .ref ap_, .ref ai_, .ref ar_, .ref ao_, .int x1, .int x2, .int x3, .int x4, .int x5]))]) sz) ((fun u => [(h, .inr (6, [.ref as_, .ref at_, .ref ap_, .ref ai_, .ref ar_, .ref ao_, .int 0, .int x2, .int x3, .int x4, .int x5]))]) u) ((fun u => []) u) t9) (va_A ([(h, .inr (6, [.ref as_, .ref at_, .ref ap_, .ref ai_, .ref ar_, .ref ao_, .int x1, .int x2, .int x3, .int x4, .int x5]))]) sz)) 0 0 (va_A ([(h, .inr (6, [.ref as_, .ref at_, .ref ap_, .ref ai_, .ref ar_, .ref ao_, .int x1, .int x2, .int x3, .int x4, .int x5]))]) sz) := by
  refine Met.ofW (cc := b_T_clear) (maxL := 1) (ret := none) (by decide) rfl ?_
  intro p e s m args below meth c s₁ B hml hv
  obtain ⟨rfl, hsz, hP, hK, hD0, hE⟩ := hv
  have hx := B.exec
  have hb := B.bytes
  have hr := B.returns
  have hts0 := atoms_spec (ws := Cond.code y_T_clear b_T_clear 1 none :: wal) B.pre
  have hts : ∀ w ∈ wal, w.before _ s = true := fun w h => hts0 w (List.mem_cons_of_mem _ h)
  have hown : s.vm.findClass rc_T = some m.cls := findClass_of_methodNamed B.named
  have hlocks := B.notSynchronized
  subst hsz
  have hD := hD0.self (sz := s.heap.size)
  generalize hAe : va_A ([(h, .inr (6, [.ref as_, .ref at_, .ref ap_, .ref ai_, .ref ar_, .ref ao_, .int x1, .int x2, .int x3, .int x4, .int x5]))]) s.heap.size = A at hD ⊢
  have hA : ∀ q : Nat, s.heap.size ≤ q → A q := fun q h => by rw [← hAe]; exact Or.inr h
  have hS : va_S A s.heap s.heap [] := va_S.rf
  have hl := lv_entry ([.ref h]) (n := 1) (Nat.le_of_ble_eq_true rfl)
  rw [lg_entry_eq]
  generalize (lg_sl ([.ref h]) ++ List.replicate (1 - (lg_sl ([.ref h])).length) Slot.unset).toArray = ls at hl ⊢
  have hl : lv_has ls 1 [(0, .ref h)] := hl
  refine lv_aload_n hx hb d_T_clear_0 rfl (lv_at hl 0 rfl) ?_
  refine lv_iconst (v := 0) hx hb d_T_clear_1 (by decide) ?_
  refine va_put (D := D) (ci := 6) (v := .int 0) (ty := .int) (C := rc_T) (T := ft_T) (N := 11) hx hb hts in_T ty_T tk_T nm_T hown hK hP hD hS 0 rfl rfl 6 (by decide) (hts _ k_68) (fun _ h9 => h9) rfl (by decide +kernel) rfl rfl (Nat.le_of_ble_eq_true rfl) d_T_clear_2 (fun H locs hP hD hS => ?_)
  have hP : va_P D wcl [(h, .inr (6, [.ref as_, .ref at_, .ref ap_, .ref ai_, .ref ar_, .ref ao_, .int 0, .int x2, .int x3, .int x4, .int x5]))] H := hP
  have hD : va_D A [(h, .inr (6, [.ref as_, .ref at_, .ref ap_, .ref ai_, .ref ar_, .ref ao_, .int 0, .int x2, .int x3, .int x4, .int x5]))] := hD
  have hP9 := hP.sub (ws' := [(h, .inr (6, [.ref as_, .ref at_, .ref ap_, .ref ai_, .ref ar_, .ref ao_, .int 0, .int x2, .int x3, .int x4, .int x5]))]) [0] rfl
  have hD9 := hD.sub (ws' := [(h, .inr (6, [.ref as_, .ref at_, .ref ap_, .ref ai_, .ref ar_, .ref ao_, .int 0, .int x2, .int x3, .int x4, .int x5]))]) [0] (by decide) rfl
  have hK9 := hK.sub (tys' := []) [] rfl
  exact W.vret hx hb hr (fun t9 ht hW => ⟨⟨(), rfl, trivial, ⟨by rw [ht]; exact hP9, va_K.moved hW.alike hK9, hD9⟩⟩, hS.F ht⟩) hS.2.2 d_T_clear_5

set_option maxHeartbeats 4000000 in
set_option maxRecDepth 100000 in
/-- Terms.begin(k) -/
theorem c_T_begin (l : Launch) (D : va_G) (sz : Nat) (h : Nat) (as_ : Nat) (at_ : Nat) (ap_ : Nat) (ai_ : Nat) (ar_ : Nat) (ao_ : Nat) (x1 : Int32) (x2 : Int32) (x3 : Int32) (x4 : Int32) (x5 : Int32) (k : Int32) : Met l y_T_begin (Cond.code y_T_begin b_T_begin 2 (some .int) :: wal) ({ frames := 10, cells := 0, slots := 0, locals := 120 }) (va_Pc [.ref h, .int k] (pr D sz [(h, .inr (6, [.ref as_, .ref at_, .ref ap_, .ref ai_, .ref ar_, .ref ao_, .int x1, .int x2, .int x3, .int x4, .int x5]))] [] (fun _ => True))) (va_Qi (S := Unit) (fun r u => r = x1) (fun u t9 => po D (va_A ([(h, .inr (6, [.ref as_, .ref at_, .ref ap_, .ref ai_, .ref ar_, .ref ao_, .int x1, .int x2, .int x3, .int x4, .int x5]))]) sz) ((fun u => [(h, .inr (6, [.ref as_, .ref at_, .ref ap_, .ref ai_, .ref ar_, .ref ao_, .int x1, .int x1, .int 0, .int k, .int (-1)]))]) u) ((fun u => []) u) t9) (va_A ([(h, .inr (6, [.ref as_, .ref at_, .ref ap_, .ref ai_, .ref ar_, .ref ao_, .int x1, .int x2, .int x3, .int x4, .int x5]))]) sz)) 0 0 (va_A ([(h, .inr (6, [.ref as_, .ref at_, .ref ap_, .ref ai_, .ref ar_, .ref ao_, .int x1, .int x2, .int x3, .int x4, .int x5]))]) sz) := by
  refine Met.ofW (cc := b_T_begin) (maxL := 2) (ret := (some .int)) (by decide) rfl ?_
  intro p e s m args below meth c s₁ B hml hv
  obtain ⟨rfl, hsz, hP, hK, hD0, hE⟩ := hv
  have hx := B.exec
  have hb := B.bytes
  have hr := B.returns
  have hts0 := atoms_spec (ws := Cond.code y_T_begin b_T_begin 2 (some .int) :: wal) B.pre
  have hts : ∀ w ∈ wal, w.before _ s = true := fun w h => hts0 w (List.mem_cons_of_mem _ h)
  have hown : s.vm.findClass rc_T = some m.cls := findClass_of_methodNamed B.named
  have hlocks := B.notSynchronized
  subst hsz
  have hD := hD0.self (sz := s.heap.size)
  generalize hAe : va_A ([(h, .inr (6, [.ref as_, .ref at_, .ref ap_, .ref ai_, .ref ar_, .ref ao_, .int x1, .int x2, .int x3, .int x4, .int x5]))]) s.heap.size = A at hD ⊢
  have hA : ∀ q : Nat, s.heap.size ≤ q → A q := fun q h => by rw [← hAe]; exact Or.inr h
  have hS : va_S A s.heap s.heap [] := va_S.rf
  have hl := lv_entry ([.ref h, .int k]) (n := 2) (Nat.le_of_ble_eq_true rfl)
  rw [lg_entry_eq]
  generalize (lg_sl ([.ref h, .int k]) ++ List.replicate (2 - (lg_sl ([.ref h, .int k])).length) Slot.unset).toArray = ls at hl ⊢
  have hl : lv_has ls 2 [(0, .ref h), (1, .int k)] := hl
  refine lv_aload_n hx hb d_T_begin_0 rfl (lv_at hl 0 rfl) ?_
  refine lv_aload_n hx hb d_T_begin_1 rfl (lv_at hl 0 rfl) ?_
  refine va_get (D := D) (ci := 6) (v := .int x1) (C := rc_T) (T := ft_T) (N := 11) hx hb hts in_T hown hK hP 0 rfl rfl 6 (by decide) (hts _ k_68) (fun _ h9 => h9) rfl d_T_begin_2 ?_
  refine va_put (D := D) (ci := 6) (v := .int x1) (ty := .int) (C := rc_T) (T := ft_T) (N := 11) hx hb hts in_T ty_T tk_T nm_T hown hK hP hD hS 0 rfl rfl 7 (by decide) (hts _ k_69) (fun _ h9 => h9) rfl (by decide +kernel) rfl rfl (Nat.le_of_ble_eq_true rfl) d_T_begin_5 (fun H locs hP hD hS => ?_)
  have hP : va_P D wcl [(h, .inr (6, [.ref as_, .ref at_, .ref ap_, .ref ai_, .ref ar_, .ref ao_, .int x1, .int x1, .int x3, .int x4, .int x5]))] H := hP
  have hD : va_D A [(h, .inr (6, [.ref as_, .ref at_, .ref ap_, .ref ai_, .ref ar_, .ref ao_, .int x1, .int x1, .int x3, .int x4, .int x5]))] := hD
  refine lv_aload_n hx hb d_T_begin_8 rfl (lv_at hl 0 rfl) ?_
  refine lv_iconst (v := 0) hx hb d_T_begin_9 (by decide) ?_
  refine va_put (D := D) (ci := 6) (v := .int 0) (ty := .int) (C := rc_T) (T := ft_T) (N := 11) hx hb hts in_T ty_T tk_T nm_T hown hK hP hD hS 0 rfl rfl 8 (by decide) (hts _ k_70) (fun _ h9 => h9) rfl (by decide +kernel) rfl rfl (Nat.le_of_ble_eq_true rfl) d_T_begin_10 (fun H locs hP hD hS => ?_)
  have hP : va_P D wcl [(h, .inr (6, [.ref as_, .ref at_, .ref ap_, .ref ai_, .ref ar_, .ref ao_, .int x1, .int x1, .int 0, .int x4, .int x5]))] H := hP
  have hD : va_D A [(h, .inr (6, [.ref as_, .ref at_, .ref ap_, .ref ai_, .ref ar_, .ref ao_, .int x1, .int x1, .int 0, .int x4, .int x5]))] := hD
  refine lv_aload_n hx hb d_T_begin_13 rfl (lv_at hl 0 rfl) ?_
  refine lv_iload_n hx hb d_T_begin_14 rfl (lv_at hl 1 rfl) ?_
  refine va_put (D := D) (ci := 6) (v := .int k) (ty := .int) (C := rc_T) (T := ft_T) (N := 11) hx hb hts in_T ty_T tk_T nm_T hown hK hP hD hS 0 rfl rfl 9 (by decide) (hts _ k_71) (fun _ h9 => h9) rfl (by decide +kernel) rfl rfl (Nat.le_of_ble_eq_true rfl) d_T_begin_15 (fun H locs hP hD hS => ?_)
  have hP : va_P D wcl [(h, .inr (6, [.ref as_, .ref at_, .ref ap_, .ref ai_, .ref ar_, .ref ao_, .int x1, .int x1, .int 0, .int k, .int x5]))] H := hP
  have hD : va_D A [(h, .inr (6, [.ref as_, .ref at_, .ref ap_, .ref ai_, .ref ar_, .ref ao_, .int x1, .int x1, .int 0, .int k, .int x5]))] := hD
  refine lv_aload_n hx hb d_T_begin_18 rfl (lv_at hl 0 rfl) ?_
  refine lv_iconst (v := -1) hx hb d_T_begin_19 (by decide) ?_
  refine va_put (D := D) (ci := 6) (v := .int (-1)) (ty := .int) (C := rc_T) (T := ft_T) (N := 11) hx hb hts in_T ty_T tk_T nm_T hown hK hP hD hS 0 rfl rfl 10 (by decide) (hts _ k_72) (fun _ h9 => h9) rfl (by decide +kernel) rfl rfl (Nat.le_of_ble_eq_true rfl) d_T_begin_20 (fun H locs hP hD hS => ?_)
  have hP : va_P D wcl [(h, .inr (6, [.ref as_, .ref at_, .ref ap_, .ref ai_, .ref ar_, .ref ao_, .int x1, .int x1, .int 0, .int k, .int (-1)]))] H := hP
  have hD : va_D A [(h, .inr (6, [.ref as_, .ref at_, .ref ap_, .ref ai_, .ref ar_, .ref ao_, .int x1, .int x1, .int 0, .int k, .int (-1)]))] := hD
  refine lv_aload_n hx hb d_T_begin_23 rfl (lv_at hl 0 rfl) ?_
  refine va_get (D := D) (ci := 6) (v := .int x1) (C := rc_T) (T := ft_T) (N := 11) hx hb hts in_T hown hK hP 0 rfl rfl 7 (by decide) (hts _ k_69) (fun _ h9 => h9) rfl d_T_begin_24 ?_
  have hP9 := hP.sub (ws' := [(h, .inr (6, [.ref as_, .ref at_, .ref ap_, .ref ai_, .ref ar_, .ref ao_, .int x1, .int x1, .int 0, .int k, .int (-1)]))]) [0] rfl
  have hD9 := hD.sub (ws' := [(h, .inr (6, [.ref as_, .ref at_, .ref ap_, .ref ai_, .ref ar_, .ref ao_, .int x1, .int x1, .int 0, .int k, .int (-1)]))]) [0] (by decide) rfl
  have hK9 := hK.sub (tys' := []) [] rfl
  exact W.iret (v := x1) hx hb hr (fun t9 ht hW => ⟨⟨x1, (), rfl, rfl, ⟨by rw [ht]; exact hP9, va_K.moved hW.alike hK9, hD9⟩⟩, hS.F ht⟩) hS.2.2 d_T_begin_27

set_option maxHeartbeats 4000000 in
set_option maxRecDepth 100000 in
/-- Terms.read of an empty stretch: it is no term -/
theorem c_T_read0 (l : Launch) (D : va_G) (sz : Nat) (h : Nat) (as_ : Nat) (at_ : Nat) (ap_ : Nat) (ai_ : Nat) (ar_ : Nat) (ao_ : Nat) (x1 : Int32) (x2 : Int32) (x3 : Int32) (x4 : Int32) (x5 : Int32) (dd : Nat) (k : Int32) (kd : Int32) : Met l y_T_read (Cond.code y_T_read b_T_read 6 (some .boolean) :: wal) ({ frames := 11, cells := 0, slots := 0, locals := 180 }) (va_Pc [.ref h, .ref dd, .int k, .int k, .int kd] (pr D sz [(h, .inr (6, [.ref as_, .ref at_, .ref ap_, .ref ai_, .ref ar_, .ref ao_, .int x1, .int x2, .int x3, .int x4, .int x5]))] [] (fun _ => True))) (va_Qi (S := Unit) (fun r u => r = 0) (fun u t9 => po D (va_A ([(h, .inr (6, [.ref as_, .ref at_, .ref ap_, .ref ai_, .ref ar_, .ref ao_, .int x1, .int x2, .int x3, .int x4, .int x5]))]) sz) ((fun u => [(h, .inr (6, [.ref as_, .ref at_, .ref ap_, .ref ai_, .ref ar_, .ref ao_, .int x1, .int x1, .int 0, .int 8, .int (-1)]))]) u) ((fun u => []) u) t9) (va_A ([(h, .inr (6, [.ref as_, .ref at_, .ref ap_, .ref ai_, .ref ar_, .ref ao_, .int x1, .int x2, .int x3, .int x4, .int x5]))]) sz)) 0 0 (va_A ([(h, .inr (6, [.ref as_, .ref at_, .ref ap_, .ref ai_, .ref ar_, .ref ao_, .int x1, .int x2, .int x3, .int x4, .int x5]))]) sz) := by
  refine Met.ofW (cc := b_T_read) (maxL := 6) (ret := (some .boolean)) (by decide) rfl ?_
  intro p e s m args below meth c s₁ B hml hv
  obtain ⟨rfl, hsz, hP, hK, hD0, hE⟩ := hv
  have hx := B.exec
  have hb := B.bytes
  have hr := B.returns
  have hts0 := atoms_spec (ws := Cond.code y_T_read b_T_read 6 (some .boolean) :: wal) B.pre
  have hts : ∀ w ∈ wal, w.before _ s = true := fun w h => hts0 w (List.mem_cons_of_mem _ h)
  have hown : s.vm.findClass rc_T = some m.cls := findClass_of_methodNamed B.named
  have hlocks := B.notSynchronized
  subst hsz
  have hD := hD0.self (sz := s.heap.size)
  generalize hAe : va_A ([(h, .inr (6, [.ref as_, .ref at_, .ref ap_, .ref ai_, .ref ar_, .ref ao_, .int x1, .int x2, .int x3, .int x4, .int x5]))]) s.heap.size = A at hD ⊢
  have hA : ∀ q : Nat, s.heap.size ≤ q → A q := fun q h => by rw [← hAe]; exact Or.inr h
  have hS : va_S A s.heap s.heap [] := va_S.rf
  have hl := lv_entry ([.ref h, .ref dd, .int k, .int k, .int kd]) (n := 6) (Nat.le_of_ble_eq_true rfl)
  rw [lg_entry_eq]
  generalize (lg_sl ([.ref h, .ref dd, .int k, .int k, .int kd]) ++ List.replicate (6 - (lg_sl ([.ref h, .ref dd, .int k, .int k, .int kd])).length) Slot.unset).toArray = ls at hl ⊢
  have hl : lv_has ls 6 [(0, .ref h), (1, .ref dd), (2, .int k), (3, .int k), (4, .int kd)] := hl
  refine lv_aload_n hx hb d_T_read_0 rfl (lv_at hl 0 rfl) ?_
  refine lv_bipush (v := 8) hx hb d_T_read_1 (by decide) ?_
  refine cl_i (wc := [(h, .inr (6, [.ref as_, .ref at_, .ref ap_, .ref ai_, .ref ar_, .ref ao_, .int x1, .int x2, .int x3, .int x4, .int x5]))]) (wr := []) hP hD hK hS hA [0] [] rfl rfl (by decide) (by decide) (va_runV (As := [.int 8]) (rest := []) ⟨hx, hb, hml, hown, hts⟩ (c_T_begin l D s.heap.size h as_ at_ ap_ ai_ ar_ ao_ x1 x2 x3 x4 x5 8) (cw_V hts 1 k_300 k_5 k_297 k_298 k_299 (by decide +kernel) ⟨Nat.le_of_ble_eq_true rfl, Nat.le_of_ble_eq_true rfl⟩) (pr_V hP hD hK [0] [] (by decide) rfl rfl (fun U hU hW => trivial) (fun U g mk a h => h) (q0 := 0) (ci := 6) rfl rfl) rfl rfl hl.1 rfl (lv_room (Nat.le_of_ble_eq_true rfl)) d_T_read_3 ⟨by decide, by decide⟩) (fun r2 u H locs h1 hP hD hK hS => ?_)
  have hP : va_P D wcl [(h, .inr (6, [.ref as_, .ref at_, .ref ap_, .ref ai_, .ref ar_, .ref ao_, .int x1, .int x1, .int 0, .int 8, .int (-1)]))] H := hP
  have hD : va_D A [(h, .inr (6, [.ref as_, .ref at_, .ref ap_, .ref ai_, .ref ar_, .ref ao_, .int x1, .int x1, .int 0, .int 8, .int (-1)]))] := hD
  have hK : va_K D wcl [] s := hK
  have h1 : r2 = x1 := h1
  refine lv_pop hx hb d_T_read_6 rfl ?_
  refine lv_iload_n hx hb d_T_read_7 rfl (lv_at hl 2 rfl) ?_
  refine lv_istore hx hb d_T_read_8 hl (by decide) rfl (fun ls hl => ?_)
  have hl : lv_has ls 6 [(5, .int k), (0, .ref h), (1, .ref dd), (2, .int k), (3, .int k), (4, .int kd)] := hl
  refine lv_iload hx hb d_T_read_10 (lv_at hl 0 rfl) ?_
  refine lv_iload_n hx hb d_T_read_12 rfl (lv_at hl 4 rfl) ?_
  refine lv_icmp_ge (tgt := 39) hx hb d_T_read_13 (by decide) (fun _ => ?_) (fun h9 => absurd (Int32.le_refl _) h9)
  refine lv_aload_n hx hb d_T_read_39 rfl (lv_at hl 1 rfl) ?_
  refine va_get (D := D) (ci := 6) (v := .int 0) (C := rc_T) (T := ft_T) (N := 11) hx hb hts in_T hown hK hP 0 rfl rfl 8 (by decide) (hts _ k_70) (fun _ h9 => h9) rfl d_T_read_40 ?_
  refine lv_if_ne (tgt := 61) hx hb d_T_read_43 (by decide) (fun h9 => absurd (by decide) h9) (fun _ => ?_)
  refine lv_aload_n hx hb d_T_read_46 rfl (lv_at hl 1 rfl) ?_
  refine va_get (D := D) (ci := 6) (v := .int x1) (C := rc_T) (T := ft_T) (N := 11) hx hb hts in_T hown hK hP 0 rfl rfl 6 (by decide) (hts _ k_68) (fun _ h9 => h9) rfl d_T_read_47 ?_
  refine lv_aload_n hx hb d_T_read_50 rfl (lv_at hl 1 rfl) ?_
  refine va_get (D := D) (ci := 6) (v := .int x1) (C := rc_T) (T := ft_T) (N := 11) hx hb hts in_T hown hK hP 0 rfl rfl 7 (by decide) (hts _ k_69) (fun _ h9 => h9) rfl d_T_read_51 ?_
  refine lv_icmp_le (tgt := 61) hx hb d_T_read_54 (by decide) (fun _ => ?_) (fun h9 => absurd (Int32.le_refl _) h9)
  refine lv_iconst (v := 0) hx hb d_T_read_61 (by decide) ?_
  have hP9 := hP.sub (ws' := [(h, .inr (6, [.ref as_, .ref at_, .ref ap_, .ref ai_, .ref ar_, .ref ao_, .int x1, .int x1, .int 0, .int 8, .int (-1)]))]) [0] rfl
  have hD9 := hD.sub (ws' := [(h, .inr (6, [.ref as_, .ref at_, .ref ap_, .ref ai_, .ref ar_, .ref ao_, .int x1, .int x1, .int 0, .int 8, .int (-1)]))]) [0] (by decide) rfl
  have hK9 := hK.sub (tys' := []) [] rfl
  exact W.zret (v := 0) hx hb hr (by decide) (fun t9 ht hW => ⟨⟨0, (), rfl, rfl, ⟨by rw [ht]; exact hP9, va_K.moved hW.alike hK9, hD9⟩⟩, hS.F ht⟩) hS.2.2 d_T_read_62
