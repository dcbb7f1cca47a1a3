set_option maxHeartbeats 4000000 in
set_option maxRecDepth 100000 in
/-- MacroForge(): a fresh one -/
theorem c_F_init0 (l : Launch) (D : va_G) (sz : Nat) (h : Nat) : Met l y_F_init (Cond.code y_F_init b_F_init 1 none :: wal) ({ frames := 14, cells := 162, slots := 10377, locals := 360 }) (va_Pc [.ref h] (pr D sz [(h, .inr (7, [.null, .null, .null]))] [] (cx_W))) (va_Qv (S := Nat × Nat × Nat × Nat × ClassId × Nat × ClassId × (Nat → Option Nat) × Nat × Nat × Nat × Nat × Nat × Nat × Nat × Nat × Nat × Nat × Nat × Nat × Nat × Nat × Nat × Nat × Nat × Nat × Nat × Nat × Nat) (fun u => u.2.2.2.2.2.2.2.1 0 = some u.2.2.2.2.2.2.2.2.1) (fun u t9 => po D (va_A ([(h, .inr (7, [.null, .null, .null]))]) sz) ((fun u => [(h, .inr (7, [.ref u.1, .ref u.2.1, .ref u.2.2.1])), (u.1, .inr (0, [.ref u.2.2.2.1, .int 0, .int 0])), (u.2.2.2.1, .inl (u.2.2.2.2.1, 60, .inl (fun _ => 0))), (u.2.1, .inr (5, [.ref u.2.2.2.2.2.1, .int 0])), (u.2.2.2.2.2.1, .inl (u.2.2.2.2.2.2.1, 13, .inr (.inr (.inr (.inr u.2.2.2.2.2.2.2.1))))), (u.2.2.2.2.2.2.2.2.1, .inr (4, [.ref u.2.2.2.2.2.2.2.2.2.1, .ref u.2.2.2.2.2.2.2.2.2.2.1, .int 0])), (u.2.2.2.2.2.2.2.2.2.1, .inr (6, [.ref u.2.2.2.2.2.2.2.2.2.2.2.1, .ref u.2.2.2.2.2.2.2.2.2.2.2.2.1, .ref u.2.2.2.2.2.2.2.2.2.2.2.2.2.1, .ref u.2.2.2.2.2.2.2.2.2.2.2.2.2.2.1, .ref u.2.2.2.2.2.2.2.2.2.2.2.2.2.2.2.1, .ref u.2.2.2.2.2.2.2.2.2.2.2.2.2.2.2.2.1, .int 0, .int 0, .int 0, .int 0, .int 0])), (u.2.2.1, .inr (1, [.ref u.2.2.2.2.2.2.2.2.2.2.2.2.2.2.2.2.2.1, .ref u.2.2.2.2.2.2.2.2.2.2.2.2.2.2.2.2.2.2.1, .ref u.2.2.2.2.2.2.2.2.2.2.2.2.2.2.2.2.2.2.2.1, .ref u.2.2.2.2.2.2.2.2.2.2.2.2.2.2.2.2.2.2.2.2.1, .ref u.2.2.2.2.2.2.2.2.2.2.2.2.2.2.2.2.2.2.2.2.2.1, .null, .int 0, .int 0, .int 0])), (u.2.2.2.2.2.2.2.2.2.2.2.2.2.2.2.2.2.1, .inr (6, [.ref u.2.2.2.2.2.2.2.2.2.2.2.2.2.2.2.2.2.2.2.2.2.2.2.1, .ref u.2.2.2.2.2.2.2.2.2.2.2.2.2.2.2.2.2.2.2.2.2.2.2.2.1, .ref u.2.2.2.2.2.2.2.2.2.2.2.2.2.2.2.2.2.2.2.2.2.2.2.2.2.1, .ref u.2.2.2.2.2.2.2.2.2.2.2.2.2.2.2.2.2.2.2.2.2.2.2.2.2.2.1, .ref u.2.2.2.2.2.2.2.2.2.2.2.2.2.2.2.2.2.2.2.2.2.2.2.2.2.2.2.1, .ref u.2.2.2.2.2.2.2.2.2.2.2.2.2.2.2.2.2.2.2.2.2.2.2.2.2.2.2.2, .int 0, .int 0, .int 0, .int 0, .int 0])), (u.2.2.2.2.2.2.2.2.2.2.2.2.2.2.2.2.2.2.2.1, .inr (3, [.ref u.2.2.2.2.2.2.2.2.2.2.2.2.2.2.2.2.2.2.2.2.2.2.1, .int 0, .int 0]))]) u) ((fun u => [(u.2.2.2.2.1, .char), (u.2.2.2.2.2.2.1, .object rc_R)]) u) t9) (va_A ([(h, .inr (7, [.null, .null, .null]))]) sz)) 162 10377 (va_A ([(h, .inr (7, [.null, .null, .null]))]) sz) := by
  refine Met.ofW (cc := b_F_init) (maxL := 1) (ret := none) (by decide) rfl ?_
  intro p e s m args below meth c s₁ B hml hv
  obtain ⟨rfl, hsz, hP, hK, hD0, hE⟩ := hv
  have hx := B.exec
  have hb := B.bytes
  have hr := B.returns
  have hts0 := atoms_spec (ws := Cond.code y_F_init b_F_init 1 none :: wal) B.pre
  have hts : ∀ w ∈ wal, w.before _ s = true := fun w h => hts0 w (List.mem_cons_of_mem _ h)
  have hown : s.vm.findClass rc_F = some m.cls := findClass_of_methodNamed B.named
  have hlocks := B.notSynchronized
  have hin : meth.name = "<init>" := (name_of_methodNamed B.named B.method).1
  subst hsz
  have hD := hD0.self (sz := s.heap.size)
  generalize hAe : va_A ([(h, .inr (7, [.null, .null, .null]))]) s.heap.size = A at hD ⊢
  have hA : ∀ q : Nat, s.heap.size ≤ q → A q := fun q h => by rw [← hAe]; exact Or.inr h
  have hS : va_S A s.heap s.heap [] := va_S.rf
  have hl := lv_entry ([.ref h]) (n := 1) (Nat.le_of_ble_eq_true rfl)
  rw [lg_entry_eq]
  generalize (lg_sl ([.ref h]) ++ List.replicate (1 - (lg_sl ([.ref h])).length) Slot.unset).toArray = ls at hl ⊢
  have hl : lv_has ls 1 [(0, .ref h)] := hl
  refine lv_aload_n hx hb d_F_init_0 rfl (lv_at hl 0 rfl) ?_
  refine W.objInit hx hb hown (hts _ k_23) (hts _ k_24) (hts _ k_25) rfl (by rw [hml]; exact hl.1) rfl d_F_init_1 (Nat.le_of_ble_eq_true rfl) (Nat.le_of_ble_eq_true rfl) ?_
  refine W.eq (g2 := F0 m 4 ls []) rfl ?_
  refine lv_aload_n hx hb d_F_init_4 rfl (lv_at hl 0 rfl) ?_
  refine va_new (ci := 0) (fs := [.null, .int 0, .int 0]) (C := rc_D) (T := ft_D) (N := 3) hx hb hts in_D ty_D tk_D hown (hts _ k_26) (hts _ k_27) (hts _ k_2) hK hP hD hS hA rfl (fun j hj => by revert j; decide) (by decide) (by decide) d_F_init_5 (fun q1 H hP hD hS => ?_)
  have hP : va_P D wcl [(h, .inr (7, [.null, .null, .null])), (q1, .inr (0, [.null, .int 0, .int 0]))] H := hP
  have hD : va_D A [(h, .inr (7, [.null, .null, .null])), (q1, .inr (0, [.null, .int 0, .int 0]))] := hD
  refine W.widen (k := 1) (n := 3) (by decide) (by decide) ?_
  refine lv_dup hx hb d_F_init_8 rfl ?_
  refine cl_v (wc := [(q1, .inr (0, [.null, .int 0, .int 0]))]) (wr := [(h, .inr (7, [.null, .null, .null]))]) hP hD hK hS hA [1] [0] rfl rfl (by decide) (by decide) (va_runIN (As := []) (rest := [.ref q1, .ref h]) ⟨hx, hb, hml, hown, hts⟩ (c_D_init l D H.size q1) (cw_IN hts 0 k_30 k_2 (hE.1 _ k_28 rfl) k_29 rfl (by decide +kernel) ⟨Nat.le_of_ble_eq_true rfl, Nat.le_of_ble_eq_true rfl⟩) (pr_S hP hD hK [1] [] (by decide) rfl rfl (fun U hU hW => trivial) (fun U g mk a h => h)) rfl rfl hl.1 rfl (lv_room (Nat.le_of_ble_eq_true rfl)) d_F_init_9 ⟨by decide, by decide⟩) (fun u H locs h2 hP hD hK hS => ?_)
  obtain ⟨da, cC⟩ := u
  have hP : va_P D wcl [(h, .inr (7, [.null, .null, .null])), (q1, .inr (0, [.ref da, .int 0, .int 0])), (da, .inl (cC, 60, .inl (fun _ => 0)))] H := hP
  have hD : va_D A [(h, .inr (7, [.null, .null, .null])), (q1, .inr (0, [.ref da, .int 0, .int 0])), (da, .inl (cC, 60, .inl (fun _ => 0)))] := hD
  have hK : va_K D wcl [(cC, .char)] s := hK
  refine W.widen (k := 2) (n := 63) (by decide) (by decide) ?_
  refine va_putF (D := D) (ci := 7) (v := .ref q1) (ty := .object "MacroForge$Draft") (C := rc_F) (T := ft_F) (N := 3) hx hb hts in_F ty_F tk_F nm_F hown hK hP hD hS 0 rfl rfl 0 (by decide) (hts _ k_182) (fun _ h9 => h9) rfl hin rfl (by decide +kernel) rfl rfl (Nat.le_of_ble_eq_true rfl) d_F_init_12 (fun H locs hP hD hS => ?_)
  have hP : va_P D wcl [(h, .inr (7, [.ref q1, .null, .null])), (q1, .inr (0, [.ref da, .int 0, .int 0])), (da, .inl (cC, 60, .inl (fun _ => 0)))] H := hP
  have hD : va_D A [(h, .inr (7, [.ref q1, .null, .null])), (q1, .inr (0, [.ref da, .int 0, .int 0])), (da, .inl (cC, 60, .inl (fun _ => 0)))] := hD
  refine lv_aload_n hx hb d_F_init_15 rfl (lv_at hl 0 rfl) ?_
  refine va_new (ci := 5) (fs := [.null, .int 0]) (C := rc_B) (T := ft_B) (N := 2) hx hb hts in_B ty_B tk_B hown (hts _ k_43) (hts _ k_44) (hts _ k_3) hK hP hD hS hA rfl (fun j hj => by revert j; decide) (by decide) (by decide) d_F_init_16 (fun q3 H hP hD hS => ?_)
  have hP : va_P D wcl [(h, .inr (7, [.ref q1, .null, .null])), (q1, .inr (0, [.ref da, .int 0, .int 0])), (da, .inl (cC, 60, .inl (fun _ => 0))), (q3, .inr (5, [.null, .int 0]))] H := hP
  have hD : va_D A [(h, .inr (7, [.ref q1, .null, .null])), (q1, .inr (0, [.ref da, .int 0, .int 0])), (da, .inl (cC, 60, .inl (fun _ => 0))), (q3, .inr (5, [.null, .int 0]))] := hD
  refine W.widen (k := 3) (n := 65) (by decide) (by decide) ?_
  refine lv_dup hx hb d_F_init_19 rfl ?_
  refine cl_v (wc := [(q3, .inr (5, [.null, .int 0]))]) (wr := [(h, .inr (7, [.ref q1, .null, .null])), (q1, .inr (0, [.ref da, .int 0, .int 0])), (da, .inl (cC, 60, .inl (fun _ => 0)))]) hP hD hK hS hA [3] [0, 1, 2] rfl rfl (by decide) (by decide) (va_runI (As := []) (rest := [.ref q3, .ref h]) ⟨hx, hb, hml, hown, hts⟩ (c_B_init0 l D H.size q3) (cw_I hts 0 k_47 k_3 k_45 k_46 rfl (by decide +kernel) ⟨Nat.le_of_ble_eq_true rfl, Nat.le_of_ble_eq_true rfl⟩) (pr_S hP hD hK [3] [] (by decide) rfl rfl (fun U hU hW => hE.warm hW) (fun U g mk a h => h.blind g mk a)) rfl rfl hl.1 rfl (lv_room (Nat.le_of_ble_eq_true rfl)) d_F_init_20 ⟨by decide, by decide⟩) (fun u H locs h4 hP hD hK hS => ?_)
  obtain ⟨ba, cb, bf, r0, tt, kn, as_, at_, ap_, ai_, ar_, ao_⟩ := u
  have hP : va_P D wcl [(h, .inr (7, [.ref q1, .null, .null])), (q1, .inr (0, [.ref da, .int 0, .int 0])), (da, .inl (cC, 60, .inl (fun _ => 0))), (q3, .inr (5, [.ref ba, .int 0])), (ba, .inl (cb, 13, .inr (.inr (.inr (.inr bf))))), (r0, .inr (4, [.ref tt, .ref kn, .int 0])), (tt, .inr (6, [.ref as_, .ref at_, .ref ap_, .ref ai_, .ref ar_, .ref ao_, .int 0, .int 0, .int 0, .int 0, .int 0]))] H := hP
  have hD : va_D A [(h, .inr (7, [.ref q1, .null, .null])), (q1, .inr (0, [.ref da, .int 0, .int 0])), (da, .inl (cC, 60, .inl (fun _ => 0))), (q3, .inr (5, [.ref ba, .int 0])), (ba, .inl (cb, 13, .inr (.inr (.inr (.inr bf))))), (r0, .inr (4, [.ref tt, .ref kn, .int 0])), (tt, .inr (6, [.ref as_, .ref at_, .ref ap_, .ref ai_, .ref ar_, .ref ao_, .int 0, .int 0, .int 0, .int 0, .int 0]))] := hD
  have hK : va_K D wcl [(cC, .char), (cb, .object rc_R)] s := hK
  refine W.widen (k := 121) (n := 4654) (by decide) (by decide) ?_
  have h4 : bf 0 = some r0 := h4
  refine va_putF (D := D) (ci := 7) (v := .ref q3) (ty := .object "MacroForge$RuleBook") (C := rc_F) (T := ft_F) (N := 3) hx hb hts in_F ty_F tk_F nm_F hown hK hP hD hS 0 rfl rfl 1 (by decide) (hts _ k_183) (fun _ h9 => h9) rfl hin rfl (by decide +kernel) rfl rfl (Nat.le_of_ble_eq_true rfl) d_F_init_23 (fun H locs hP hD hS => ?_)
  have hP : va_P D wcl [(h, .inr (7, [.ref q1, .ref q3, .null])), (q1, .inr (0, [.ref da, .int 0, .int 0])), (da, .inl (cC, 60, .inl (fun _ => 0))), (q3, .inr (5, [.ref ba, .int 0])), (ba, .inl (cb, 13, .inr (.inr (.inr (.inr bf))))), (r0, .inr (4, [.ref tt, .ref kn, .int 0])), (tt, .inr (6, [.ref as_, .ref at_, .ref ap_, .ref ai_, .ref ar_, .ref ao_, .int 0, .int 0, .int 0, .int 0, .int 0]))] H := hP
  have hD : va_D A [(h, .inr (7, [.ref q1, .ref q3, .null])), (q1, .inr (0, [.ref da, .int 0, .int 0])), (da, .inl (cC, 60, .inl (fun _ => 0))), (q3, .inr (5, [.ref ba, .int 0])), (ba, .inl (cb, 13, .inr (.inr (.inr (.inr bf))))), (r0, .inr (4, [.ref tt, .ref kn, .int 0])), (tt, .inr (6, [.ref as_, .ref at_, .ref ap_, .ref ai_, .ref ar_, .ref ao_, .int 0, .int 0, .int 0, .int 0, .int 0]))] := hD
  refine lv_aload_n hx hb d_F_init_26 rfl (lv_at hl 0 rfl) ?_
  refine va_new (ci := 1) (fs := [.null, .null, .null, .null, .null, .null, .int 0, .int 0, .int 0]) (C := rc_E) (T := ft_E) (N := 9) hx hb hts in_E ty_E tk_E hown (hts _ k_115) (hts _ k_116) (hts _ k_6) hK hP hD hS hA rfl (fun j hj => by revert j; decide) (by decide) (by decide) d_F_init_27 (fun q5 H hP hD hS => ?_)
  have hP : va_P D wcl [(h, .inr (7, [.ref q1, .ref q3, .null])), (q1, .inr (0, [.ref da, .int 0, .int 0])), (da, .inl (cC, 60, .inl (fun _ => 0))), (q3, .inr (5, [.ref ba, .int 0])), (ba, .inl (cb, 13, .inr (.inr (.inr (.inr bf))))), (r0, .inr (4, [.ref tt, .ref kn, .int 0])), (tt, .inr (6, [.ref as_, .ref at_, .ref ap_, .ref ai_, .ref ar_, .ref ao_, .int 0, .int 0, .int 0, .int 0, .int 0])), (q5, .inr (1, [.null, .null, .null, .null, .null, .null, .int 0, .int 0, .int 0]))] H := hP
  have hD : va_D A [(h, .inr (7, [.ref q1, .ref q3, .null])), (q1, .inr (0, [.ref da, .int 0, .int 0])), (da, .inl (cC, 60, .inl (fun _ => 0))), (q3, .inr (5, [.ref ba, .int 0])), (ba, .inl (cb, 13, .inr (.inr (.inr (.inr bf))))), (r0, .inr (4, [.ref tt, .ref kn, .int 0])), (tt, .inr (6, [.ref as_, .ref at_, .ref ap_, .ref ai_, .ref ar_, .ref ao_, .int 0, .int 0, .int 0, .int 0, .int 0])), (q5, .inr (1, [.null, .null, .null, .null, .null, .null, .int 0, .int 0, .int 0]))] := hD
  refine W.widen (k := 122) (n := 4663) (by decide) (by decide) ?_
  refine lv_dup hx hb d_F_init_30 rfl ?_
  refine cl_v (wc := [(q5, .inr (1, [.null, .null, .null, .null, .null, .null, .int 0, .int 0, .int 0]))]) (wr := [(h, .inr (7, [.ref q1, .ref q3, .null])), (q1, .inr (0, [.ref da, .int 0, .int 0])), (da, .inl (cC, 60, .inl (fun _ => 0))), (q3, .inr (5, [.ref ba, .int 0])), (ba, .inl (cb, 13, .inr (.inr (.inr (.inr bf))))), (r0, .inr (4, [.ref tt, .ref kn, .int 0])), (tt, .inr (6, [.ref as_, .ref at_, .ref ap_, .ref ai_, .ref ar_, .ref ao_, .int 0, .int 0, .int 0, .int 0, .int 0]))]) hP hD hK hS hA [7] [0, 1, 2, 3, 4, 5, 6] rfl rfl (by decide) (by decide) (va_runIN (As := []) (rest := [.ref q5, .ref h]) ⟨hx, hb, hml, hown, hts⟩ (c_E_init0 l D H.size q5) (cw_IN hts 0 k_119 k_6 (hE.1 _ k_117 rfl) k_118 rfl (by decide +kernel) ⟨Nat.le_of_ble_eq_true rfl, Nat.le_of_ble_eq_true rfl⟩) (pr_S hP hD hK [7] [] (by decide) rfl rfl (fun U hU hW => hE.warm hW) (fun U g mk a h => h.blind g mk a)) rfl rfl hl.1 rfl (lv_room (Nat.le_of_ble_eq_true rfl)) d_F_init_31 ⟨by decide, by decide⟩) (fun u H locs h6 hP hD hK hS => ?_)
  obtain ⟨et, em, er, el, es, ma, as_2, at_2, ap_2, ai_2, ar_2, ao_2⟩ := u
  have hP : va_P D wcl [(h, .inr (7, [.ref q1, .ref q3, .null])), (q1, .inr (0, [.ref da, .int 0, .int 0])), (da, .inl (cC, 60, .inl (fun _ => 0))), (q3, .inr (5, [.ref ba, .int 0])), (ba, .inl (cb, 13, .inr (.inr (.inr (.inr bf))))), (r0, .inr (4, [.ref tt, .ref kn, .int 0])), (tt, .inr (6, [.ref as_, .ref at_, .ref ap_, .ref ai_, .ref ar_, .ref ao_, .int 0, .int 0, .int 0, .int 0, .int 0])), (q5, .inr (1, [.ref et, .ref em, .ref er, .ref el, .ref es, .null, .int 0, .int 0, .int 0])), (et, .inr (6, [.ref as_2, .ref at_2, .ref ap_2, .ref ai_2, .ref ar_2, .ref ao_2, .int 0, .int 0, .int 0, .int 0, .int 0])), (er, .inr (3, [.ref ma, .int 0, .int 0]))] H := hP
  have hD : va_D A [(h, .inr (7, [.ref q1, .ref q3, .null])), (q1, .inr (0, [.ref da, .int 0, .int 0])), (da, .inl (cC, 60, .inl (fun _ => 0))), (q3, .inr (5, [.ref ba, .int 0])), (ba, .inl (cb, 13, .inr (.inr (.inr (.inr bf))))), (r0, .inr (4, [.ref tt, .ref kn, .int 0])), (tt, .inr (6, [.ref as_, .ref at_, .ref ap_, .ref ai_, .ref ar_, .ref ao_, .int 0, .int 0, .int 0, .int 0, .int 0])), (q5, .inr (1, [.ref et, .ref em, .ref er, .ref el, .ref es, .null, .int 0, .int 0, .int 0])), (et, .inr (6, [.ref as_2, .ref at_2, .ref ap_2, .ref ai_2, .ref ar_2, .ref ao_2, .int 0, .int 0, .int 0, .int 0, .int 0])), (er, .inr (3, [.ref ma, .int 0, .int 0]))] := hD
  have hK : va_K D wcl [(cC, .char), (cb, .object rc_R)] s := hK
  refine W.widen (k := 162) (n := 10377) (by decide) (by decide) ?_
  refine va_putF (D := D) (ci := 7) (v := .ref q5) (ty := .object "MacroForge$Expansion") (C := rc_F) (T := ft_F) (N := 3) hx hb hts in_F ty_F tk_F nm_F hown hK hP hD hS 0 rfl rfl 2 (by decide) (hts _ k_184) (fun _ h9 => h9) rfl hin rfl (by decide +kernel) rfl rfl (Nat.le_of_ble_eq_true rfl) d_F_init_34 (fun H locs hP hD hS => ?_)
  have hP : va_P D wcl [(h, .inr (7, [.ref q1, .ref q3, .ref q5])), (q1, .inr (0, [.ref da, .int 0, .int 0])), (da, .inl (cC, 60, .inl (fun _ => 0))), (q3, .inr (5, [.ref ba, .int 0])), (ba, .inl (cb, 13, .inr (.inr (.inr (.inr bf))))), (r0, .inr (4, [.ref tt, .ref kn, .int 0])), (tt, .inr (6, [.ref as_, .ref at_, .ref ap_, .ref ai_, .ref ar_, .ref ao_, .int 0, .int 0, .int 0, .int 0, .int 0])), (q5, .inr (1, [.ref et, .ref em, .ref er, .ref el, .ref es, .null, .int 0, .int 0, .int 0])), (et, .inr (6, [.ref as_2, .ref at_2, .ref ap_2, .ref ai_2, .ref ar_2, .ref ao_2, .int 0, .int 0, .int 0, .int 0, .int 0])), (er, .inr (3, [.ref ma, .int 0, .int 0]))] H := hP
  have hD : va_D A [(h, .inr (7, [.ref q1, .ref q3, .ref q5])), (q1, .inr (0, [.ref da, .int 0, .int 0])), (da, .inl (cC, 60, .inl (fun _ => 0))), (q3, .inr (5, [.ref ba, .int 0])), (ba, .inl (cb, 13, .inr (.inr (.inr (.inr bf))))), (r0, .inr (4, [.ref tt, .ref kn, .int 0])), (tt, .inr (6, [.ref as_, .ref at_, .ref ap_, .ref ai_, .ref ar_, .ref ao_, .int 0, .int 0, .int 0, .int 0, .int 0])), (q5, .inr (1, [.ref et, .ref em, .ref er, .ref el, .ref es, .null, .int 0, .int 0, .int 0])), (et, .inr (6, [.ref as_2, .ref at_2, .ref ap_2, .ref ai_2, .ref ar_2, .ref ao_2, .int 0, .int 0, .int 0, .int 0, .int 0])), (er, .inr (3, [.ref ma, .int 0, .int 0]))] := hD
  have hP9 := hP.sub (ws' := [(h, .inr (7, [.ref q1, .ref q3, .ref q5])), (q1, .inr (0, [.ref da, .int 0, .int 0])), (da, .inl (cC, 60, .inl (fun _ => 0))), (q3, .inr (5, [.ref ba, .int 0])), (ba, .inl (cb, 13, .inr (.inr (.inr (.inr bf))))), (r0, .inr (4, [.ref tt, .ref kn, .int 0])), (tt, .inr (6, [.ref as_, .ref at_, .ref ap_, .ref ai_, .ref ar_, .ref ao_, .int 0, .int 0, .int 0, .int 0, .int 0])), (q5, .inr (1, [.ref et, .ref em, .ref er, .ref el, .ref es, .null, .int 0, .int 0, .int 0])), (et, .inr (6, [.ref as_2, .ref at_2, .ref ap_2, .ref ai_2, .ref ar_2, .ref ao_2, .int 0, .int 0, .int 0, .int 0, .int 0])), (er, .inr (3, [.ref ma, .int 0, .int 0]))]) [0, 1, 2, 3, 4, 5, 6, 7, 8, 9] rfl
  have hD9 := hD.sub (ws' := [(h, .inr (7, [.ref q1, .ref q3, .ref q5])), (q1, .inr (0, [.ref da, .int 0, .int 0])), (da, .inl (cC, 60, .inl (fun _ => 0))), (q3, .inr (5, [.ref ba, .int 0])), (ba, .inl (cb, 13, .inr (.inr (.inr (.inr bf))))), (r0, .inr (4, [.ref tt, .ref kn, .int 0])), (tt, .inr (6, [.ref as_, .ref at_, .ref ap_, .ref ai_, .ref ar_, .ref ao_, .int 0, .int 0, .int 0, .int 0, .int 0])), (q5, .inr (1, [.ref et, .ref em, .ref er, .ref el, .ref es, .null, .int 0, .int 0, .int 0])), (et, .inr (6, [.ref as_2, .ref at_2, .ref ap_2, .ref ai_2, .ref ar_2, .ref ao_2, .int 0, .int 0, .int 0, .int 0, .int 0])), (er, .inr (3, [.ref ma, .int 0, .int 0]))]) [0, 1, 2, 3, 4, 5, 6, 7, 8, 9] (by decide) rfl
  have hK9 := hK.sub (tys' := [(cC, .char), (cb, .object rc_R)]) [0, 1] rfl
  exact W.vret hx hb hr (fun t9 ht hW => ⟨⟨(q1, q3, q5, da, cC, ba, cb, bf, r0, tt, kn, as_, at_, ap_, ai_, ar_, ao_, et, em, er, el, es, ma, as_2, at_2, ap_2, ai_2, ar_2, ao_2), rfl, h4, ⟨by rw [ht]; exact hP9, va_K.moved hW.alike hK9, hD9⟩⟩, hS.F ht⟩) hS.2.2 d_F_init_37

set_option maxHeartbeats 4000000 in
set_option maxRecDepth 100000 in
/-- MacroForge.type(k) -/
theorem c_F_type (l : Launch) (D : va_G) (sz : Nat) (h : Nat) (dd : Nat) (bb : Nat) (ee : Nat) (da : Nat) (cC : ClassId) (sg : Nat → Int32) (n : Nat) (t : Nat) (k : Int32) (hn : n ≤ t) (ht0 : t ≤ 60) : Met l y_F_type (Cond.code y_F_type b_F_type 2 (some .boolean) :: wal) ({ frames := 11, cells := 0, slots := 0, locals := 180 }) (va_Pc [.ref h, .int k] (pr D sz [(h, .inr (7, [.ref dd, .ref bb, .ref ee])), (dd, .inr (0, [.ref da, .int (nI n), .int (nI t)])), (da, .inl (cC, 60, .inl sg))] [(cC, .char)] (fun _ => True))) (va_Qi (S := Nat × Nat × (Nat → Int32)) (fun r u => (r = 0 ∧ (k < 32 ∨ 126 < k ∨ t = 60) ∧ u.1 = n ∧ u.2.1 = t ∧ u.2.2 = sg) ∨ (r = 1 ∧ ¬ k < 32 ∧ ¬ 126 < k ∧ t < 60 ∧ u.2.1 = t + 1 ∧ ((k = 32 ∧ u.1 = n ∧ u.2.2 = sg) ∨ (¬ k = 32 ∧ u.1 = n + 1 ∧ u.2.2 = upd sg n (vp_nar .char k))))) (fun u t9 => po D (va_A ([(h, .inr (7, [.ref dd, .ref bb, .ref ee])), (dd, .inr (0, [.ref da, .int (nI n), .int (nI t)])), (da, .inl (cC, 60, .inl sg))]) sz) ((fun u => [(h, .inr (7, [.ref dd, .ref bb, .ref ee])), (dd, .inr (0, [.ref da, .int (nI u.1), .int (nI u.2.1)])), (da, .inl (cC, 60, .inl u.2.2))]) u) ((fun u => [(cC, .char)]) u) t9) (va_A ([(h, .inr (7, [.ref dd, .ref bb, .ref ee])), (dd, .inr (0, [.ref da, .int (nI n), .int (nI t)])), (da, .inl (cC, 60, .inl sg))]) sz)) 0 0 (va_A ([(h, .inr (7, [.ref dd, .ref bb, .ref ee])), (dd, .inr (0, [.ref da, .int (nI n), .int (nI t)])), (da, .inl (cC, 60, .inl sg))]) sz) := by
  refine Met.ofW (cc := b_F_type) (maxL := 2) (ret := (some .boolean)) (by decide) rfl ?_
  intro p e s m args below meth c s₁ B hml hv
  obtain ⟨rfl, hsz, hP, hK, hD0, hE⟩ := hv
  have hx := B.exec
  have hb := B.bytes
  have hr := B.returns
  have hts0 := atoms_spec (ws := Cond.code y_F_type b_F_type 2 (some .boolean) :: wal) B.pre
  have hts : ∀ w ∈ wal, w.before _ s = true := fun w h => hts0 w (List.mem_cons_of_mem _ h)
  have hown : s.vm.findClass rc_F = some m.cls := findClass_of_methodNamed B.named
  have hlocks := B.notSynchronized
  subst hsz
  have hD := hD0.self (sz := s.heap.size)
  generalize hAe : va_A ([(h, .inr (7, [.ref dd, .ref bb, .ref ee])), (dd, .inr (0, [.ref da, .int (nI n), .int (nI t)])), (da, .inl (cC, 60, .inl sg))]) s.heap.size = A at hD ⊢
  have hA : ∀ q : Nat, s.heap.size ≤ q → A q := fun q h => by rw [← hAe]; exact Or.inr h
  have hS : va_S A s.heap s.heap [] := va_S.rf
  have hl := lv_entry ([.ref h, .int k]) (n := 2) (Nat.le_of_ble_eq_true rfl)
  rw [lg_entry_eq]
  generalize (lg_sl ([.ref h, .int k]) ++ List.replicate (2 - (lg_sl ([.ref h, .int k])).length) Slot.unset).toArray = ls at hl ⊢
  have hl : lv_has ls 2 [(0, .ref h), (1, .int k)] := hl
  refine lv_aload_n hx hb d_F_type_0 rfl (lv_at hl 0 rfl) ?_
  refine va_get (D := D) (ci := 7) (v := .ref dd) (C := rc_F) (T := ft_F) (N := 3) hx hb hts in_F hown hK hP 0 rfl rfl 0 (by decide) (hts _ k_182) (fun _ h9 => h9) rfl d_F_type_1 ?_
  refine lv_iload_n hx hb d_F_type_4 rfl (lv_at hl 1 rfl) ?_
  refine cl_i (wc := [(dd, .inr (0, [.ref da, .int (nI n), .int (nI t)])), (da, .inl (cC, 60, .inl sg))]) (wr := [(h, .inr (7, [.ref dd, .ref bb, .ref ee]))]) hP hD hK hS hA [1, 2] [0] rfl rfl (by decide) (by decide) (va_runV (As := [.int k]) (rest := []) ⟨hx, hb, hml, hown, hts⟩ (c_D_put l D s.heap.size dd da cC sg n t k hn ht0) (cw_V hts 1 k_199 k_2 k_196 k_197 k_198 (by decide +kernel) ⟨Nat.le_of_ble_eq_true rfl, Nat.le_of_ble_eq_true rfl⟩) (pr_V hP hD hK [1, 2] [0] (by decide) rfl rfl (fun U hU hW => trivial) (fun U g mk a h => h) (q0 := 1) (ci := 0) rfl rfl) rfl rfl hl.1 rfl (lv_room (Nat.le_of_ble_eq_true rfl)) d_F_type_5 ⟨by decide, by decide⟩) (fun r2 u H locs h1 hP hD hK hS => ?_)
  obtain ⟨n2, t2, g2⟩ := u
  have hP : va_P D wcl [(h, .inr (7, [.ref dd, .ref bb, .ref ee])), (dd, .inr (0, [.ref da, .int (nI n2), .int (nI t2)])), (da, .inl (cC, 60, .inl g2))] H := hP
  have hD : va_D A [(h, .inr (7, [.ref dd, .ref bb, .ref ee])), (dd, .inr (0, [.ref da, .int (nI n2), .int (nI t2)])), (da, .inl (cC, 60, .inl g2))] := hD
  have hK : va_K D wcl [(cC, .char), (cC, .char)] s := hK
  have h1 : (r2 = 0 ∧ (k < 32 ∨ 126 < k ∨ t = 60) ∧ n2 = n ∧ t2 = t ∧ g2 = sg) ∨ (r2 = 1 ∧ ¬ k < 32 ∧ ¬ 126 < k ∧ t < 60 ∧ t2 = t + 1 ∧ ((k = 32 ∧ n2 = n ∧ g2 = sg) ∨ (¬ k = 32 ∧ n2 = n + 1 ∧ g2 = upd sg n (vp_nar .char k)))) := h1
  have hz : narrow .boolean (.int r2) = .int r2 := by rcases h1 with h9 | h9 <;> rw [h9.1] <;> rfl
  have hP9 := hP.sub (ws' := [(h, .inr (7, [.ref dd, .ref bb, .ref ee])), (dd, .inr (0, [.ref da, .int (nI n2), .int (nI t2)])), (da, .inl (cC, 60, .inl g2))]) [0, 1, 2] rfl
  have hD9 := hD.sub (ws' := [(h, .inr (7, [.ref dd, .ref bb, .ref ee])), (dd, .inr (0, [.ref da, .int (nI n2), .int (nI t2)])), (da, .inl (cC, 60, .inl g2))]) [0, 1, 2] (by decide) rfl
  have hK9 := hK.sub (tys' := [(cC, .char)]) [0] rfl
  exact W.zret (v := r2) hx hb hr (hz) (fun t9 ht hW => ⟨⟨r2, (n2, t2, g2), rfl, h1, ⟨by rw [ht]; exact hP9, va_K.moved hW.alike hK9, hD9⟩⟩, hS.F ht⟩) hS.2.2 d_F_type_8

set_option maxHeartbeats 4000000 in
set_option maxRecDepth 100000 in
/-- MacroForge.rules() -/
theorem c_F_rules (l : Launch) (D : va_G) (sz : Nat) (h : Nat) (dd : Nat) (bb : Nat) (ee : Nat) (ba : Nat) (z : Int32) : Met l y_F_rules (Cond.code y_F_rules b_F_rules 1 (some .int) :: wal) ({ frames := 11, cells := 0, slots := 0, locals := 180 }) (va_Pc [.ref h] (pr D sz [(h, .inr (7, [.ref dd, .ref bb, .ref ee])), (bb, .inr (5, [.ref ba, .int z]))] [] (fun _ => True))) (va_Qi (S := Unit) (fun r u => r = z) (fun u t9 => po D (va_A ([(h, .inr (7, [.ref dd, .ref bb, .ref ee])), (bb, .inr (5, [.ref ba, .int z]))]) sz) ((fun u => [(h, .inr (7, [.ref dd, .ref bb, .ref ee])), (bb, .inr (5, [.ref ba, .int z]))]) u) ((fun u => []) u) t9) (va_A ([(h, .inr (7, [.ref dd, .ref bb, .ref ee])), (bb, .inr (5, [.ref ba, .int z]))]) sz)) 0 0 (va_A ([(h, .inr (7, [.ref dd, .ref bb, .ref ee])), (bb, .inr (5, [.ref ba, .int z]))]) sz) := by
  refine Met.ofW (cc := b_F_rules) (maxL := 1) (ret := (some .int)) (by decide) rfl ?_
  intro p e s m args below meth c s₁ B hml hv
  obtain ⟨rfl, hsz, hP, hK, hD0, hE⟩ := hv
  have hx := B.exec
  have hb := B.bytes
  have hr := B.returns
  have hts0 := atoms_spec (ws := Cond.code y_F_rules b_F_rules 1 (some .int) :: wal) B.pre
  have hts : ∀ w ∈ wal, w.before _ s = true := fun w h => hts0 w (List.mem_cons_of_mem _ h)
  have hown : s.vm.findClass rc_F = some m.cls := findClass_of_methodNamed B.named
  have hlocks := B.notSynchronized
  subst hsz
  have hD := hD0.self (sz := s.heap.size)
  generalize hAe : va_A ([(h, .inr (7, [.ref dd, .ref bb, .ref ee])), (bb, .inr (5, [.ref ba, .int z]))]) s.heap.size = A at hD ⊢
  have hA : ∀ q : Nat, s.heap.size ≤ q → A q := fun q h => by rw [← hAe]; exact Or.inr h
  have hS : va_S A s.heap s.heap [] := va_S.rf
  have hl := lv_entry ([.ref h]) (n := 1) (Nat.le_of_ble_eq_true rfl)
  rw [lg_entry_eq]
  generalize (lg_sl ([.ref h]) ++ List.replicate (1 - (lg_sl ([.ref h])).length) Slot.unset).toArray = ls at hl ⊢
  have hl : lv_has ls 1 [(0, .ref h)] := hl
  refine lv_aload_n hx hb d_F_rules_0 rfl (lv_at hl 0 rfl) ?_
  refine va_get (D := D) (ci := 7) (v := .ref bb) (C := rc_F) (T := ft_F) (N := 3) hx hb hts in_F hown hK hP 0 rfl rfl 1 (by decide) (hts _ k_183) (fun _ h9 => h9) rfl d_F_rules_1 ?_
  refine cl_i (wc := [(bb, .inr (5, [.ref ba, .int z]))]) (wr := [(h, .inr (7, [.ref dd, .ref bb, .ref ee]))]) hP hD hK hS hA [1] [0] rfl rfl (by decide) (by decide) (va_runV (As := []) (rest := []) ⟨hx, hb, hml, hown, hts⟩ (c_B_size l D s.heap.size bb ba z) (cw_V hts 0 k_223 k_3 k_220 k_221 k_222 (by decide +kernel) ⟨Nat.le_of_ble_eq_true rfl, Nat.le_of_ble_eq_true rfl⟩) (pr_V hP hD hK [1] [] (by decide) rfl rfl (fun U hU hW => trivial) (fun U g mk a h => h) (q0 := 1) (ci := 5) rfl rfl) rfl rfl hl.1 rfl (lv_room (Nat.le_of_ble_eq_true rfl)) d_F_rules_4 ⟨by decide, by decide⟩) (fun r2 u H locs h1 hP hD hK hS => ?_)
  have hP : va_P D wcl [(h, .inr (7, [.ref dd, .ref bb, .ref ee])), (bb, .inr (5, [.ref ba, .int z]))] H := hP
  have hD : va_D A [(h, .inr (7, [.ref dd, .ref bb, .ref ee])), (bb, .inr (5, [.ref ba, .int z]))] := hD
  have hK : va_K D wcl [] s := hK
  have h1 : r2 = z := h1
  have hP9 := hP.sub (ws' := [(h, .inr (7, [.ref dd, .ref bb, .ref ee])), (bb, .inr (5, [.ref ba, .int z]))]) [0, 1] rfl
  have hD9 := hD.sub (ws' := [(h, .inr (7, [.ref dd, .ref bb, .ref ee])), (bb, .inr (5, [.ref ba, .int z]))]) [0, 1] (by decide) rfl
  have hK9 := hK.sub (tys' := []) [] rfl
  exact W.iret (v := r2) hx hb hr (fun t9 ht hW => ⟨⟨r2, (), rfl, h1, ⟨by rw [ht]; exact hP9, va_K.moved hW.alike hK9, hD9⟩⟩, hS.F ht⟩) hS.2.2 d_F_rules_7

set_option maxHeartbeats 4000000 in
set_option maxRecDepth 100000 in
/-- MacroForge.forget(k), no rule being there -/
theorem c_F_forget0 (l : Launch) (D : va_G) (sz : Nat) (h : Nat) (dd : Nat) (bb : Nat) (ee : Nat) (ba : Nat) (k : Int32) : Met l y_F_forget (Cond.code y_F_forget b_F_forget 2 (some .int) :: wal) ({ frames := 11, cells := 0, slots := 0, locals := 180 }) (va_Pc [.ref h, .int k] (pr D sz [(h, .inr (7, [.ref dd, .ref bb, .ref ee])), (bb, .inr (5, [.ref ba, .int 0]))] [] (fun _ => True))) (va_Qi (S := Unit) (fun r u => r = 0) (fun u t9 => po D (va_A ([(h, .inr (7, [.ref dd, .ref bb, .ref ee])), (bb, .inr (5, [.ref ba, .int 0]))]) sz) ((fun u => [(h, .inr (7, [.ref dd, .ref bb, .ref ee])), (bb, .inr (5, [.ref ba, .int 0]))]) u) ((fun u => []) u) t9) (va_A ([(h, .inr (7, [.ref dd, .ref bb, .ref ee])), (bb, .inr (5, [.ref ba, .int 0]))]) sz)) 0 0 (va_A ([(h, .inr (7, [.ref dd, .ref bb, .ref ee])), (bb, .inr (5, [.ref ba, .int 0]))]) sz) := by
  refine Met.ofW (cc := b_F_forget) (maxL := 2) (ret := (some .int)) (by decide) rfl ?_
  intro p e s m args below meth c s₁ B hml hv
  obtain ⟨rfl, hsz, hP, hK, hD0, hE⟩ := hv
  have hx := B.exec
  have hb := B.bytes
  have hr := B.returns
  have hts0 := atoms_spec (ws := Cond.code y_F_forget b_F_forget 2 (some .int) :: wal) B.pre
  have hts : ∀ w ∈ wal, w.before _ s = true := fun w h => hts0 w (List.mem_cons_of_mem _ h)
  have hown : s.vm.findClass rc_F = some m.cls := findClass_of_methodNamed B.named
  have hlocks := B.notSynchronized
  subst hsz
  have hD := hD0.self (sz := s.heap.size)
  generalize hAe : va_A ([(h, .inr (7, [.ref dd, .ref bb, .ref ee])), (bb, .inr (5, [.ref ba, .int 0]))]) s.heap.size = A at hD ⊢
  have hA : ∀ q : Nat, s.heap.size ≤ q → A q := fun q h => by rw [← hAe]; exact Or.inr h
  have hS : va_S A s.heap s.heap [] := va_S.rf
  have hl := lv_entry ([.ref h, .int k]) (n := 2) (Nat.le_of_ble_eq_true rfl)
  rw [lg_entry_eq]
  generalize (lg_sl ([.ref h, .int k]) ++ List.replicate (2 - (lg_sl ([.ref h, .int k])).length) Slot.unset).toArray = ls at hl ⊢
  have hl : lv_has ls 2 [(0, .ref h), (1, .int k)] := hl
  refine lv_aload_n hx hb d_F_forget_0 rfl (lv_at hl 0 rfl) ?_
  refine va_get (D := D) (ci := 7) (v := .ref bb) (C := rc_F) (T := ft_F) (N := 3) hx hb hts in_F hown hK hP 0 rfl rfl 1 (by decide) (hts _ k_183) (fun _ h9 => h9) rfl d_F_forget_1 ?_
  refine lv_iload_n hx hb d_F_forget_4 rfl (lv_at hl 1 rfl) ?_
  refine cl_i (wc := [(bb, .inr (5, [.ref ba, .int 0]))]) (wr := [(h, .inr (7, [.ref dd, .ref bb, .ref ee]))]) hP hD hK hS hA [1] [0] rfl rfl (by decide) (by decide) (va_runV (As := [.int k]) (rest := []) ⟨hx, hb, hml, hown, hts⟩ (c_B_drop0 l D s.heap.size bb ba k) (cw_V hts 1 k_207 k_3 k_204 k_205 k_206 (by decide +kernel) ⟨Nat.le_of_ble_eq_true rfl, Nat.le_of_ble_eq_true rfl⟩) (pr_V hP hD hK [1] [] (by decide) rfl rfl (fun U hU hW => trivial) (fun U g mk a h => h) (q0 := 1) (ci := 5) rfl rfl) rfl rfl hl.1 rfl (lv_room (Nat.le_of_ble_eq_true rfl)) d_F_forget_5 ⟨by decide, by decide⟩) (fun r2 u H locs h1 hP hD hK hS => ?_)
  have hP : va_P D wcl [(h, .inr (7, [.ref dd, .ref bb, .ref ee])), (bb, .inr (5, [.ref ba, .int 0]))] H := hP
  have hD : va_D A [(h, .inr (7, [.ref dd, .ref bb, .ref ee])), (bb, .inr (5, [.ref ba, .int 0]))] := hD
  have hK : va_K D wcl [] s := hK
  have h1 : r2 = 0 := h1
  have hP9 := hP.sub (ws' := [(h, .inr (7, [.ref dd, .ref bb, .ref ee])), (bb, .inr (5, [.ref ba, .int 0]))]) [0, 1] rfl
  have hD9 := hD.sub (ws' := [(h, .inr (7, [.ref dd, .ref bb, .ref ee])), (bb, .inr (5, [.ref ba, .int 0]))]) [0, 1] (by decide) rfl
  have hK9 := hK.sub (tys' := []) [] rfl
  exact W.iret (v := r2) hx hb hr (fun t9 ht hW => ⟨⟨r2, (), rfl, h1, ⟨by rw [ht]; exact hP9, va_K.moved hW.alike hK9, hD9⟩⟩, hS.F ht⟩) hS.2.2 d_F_forget_8

set_option maxHeartbeats 4000000 in
set_option maxRecDepth 100000 in
/-- MacroForge.replaced() of a fresh one -/
theorem c_F_replaced0 (l : Launch) (D : va_G) (sz : Nat) (h : Nat) (dd : Nat) (bb : Nat) (ee : Nat) (et : Nat) (em : Nat) (er : Nat) (el : Nat) (es : Nat) : Met l y_F_replaced (Cond.code y_F_replaced b_F_replaced 1 (some .int) :: wal) ({ frames := 11, cells := 0, slots := 0, locals := 180 }) (va_Pc [.ref h] (pr D sz [(h, .inr (7, [.ref dd, .ref bb, .ref ee])), (ee, .inr (1, [.ref et, .ref em, .ref er, .ref el, .ref es, .null, .int 0, .int 0, .int 0]))] [] (fun _ => True))) (va_Qi (S := Unit) (fun r u => r = 0) (fun u t9 => po D (va_A ([(h, .inr (7, [.ref dd, .ref bb, .ref ee])), (ee, .inr (1, [.ref et, .ref em, .ref er, .ref el, .ref es, .null, .int 0, .int 0, .int 0]))]) sz) ((fun u => [(h, .inr (7, [.ref dd, .ref bb, .ref ee])), (ee, .inr (1, [.ref et, .ref em, .ref er, .ref el, .ref es, .null, .int 0, .int 0, .int 0]))]) u) ((fun u => []) u) t9) (va_A ([(h, .inr (7, [.ref dd, .ref bb, .ref ee])), (ee, .inr (1, [.ref et, .ref em, .ref er, .ref el, .ref es, .null, .int 0, .int 0, .int 0]))]) sz)) 0 0 (va_A ([(h, .inr (7, [.ref dd, .ref bb, .ref ee])), (ee, .inr (1, [.ref et, .ref em, .ref er, .ref el, .ref es, .null, .int 0, .int 0, .int 0]))]) sz) := by
  refine Met.ofW (cc := b_F_replaced) (maxL := 1) (ret := (some .int)) (by decide) rfl ?_
  intro p e s m args below meth c s₁ B hml hv
  obtain ⟨rfl, hsz, hP, hK, hD0, hE⟩ := hv
  have hx := B.exec
  have hb := B.bytes
  have hr := B.returns
  have hts0 := atoms_spec (ws := Cond.code y_F_replaced b_F_replaced 1 (some .int) :: wal) B.pre
  have hts : ∀ w ∈ wal, w.before _ s = true := fun w h => hts0 w (List.mem_cons_of_mem _ h)
  have hown : s.vm.findClass rc_F = some m.cls := findClass_of_methodNamed B.named
  have hlocks := B.notSynchronized
  subst hsz
  have hD := hD0.self (sz := s.heap.size)
  generalize hAe : va_A ([(h, .inr (7, [.ref dd, .ref bb, .ref ee])), (ee, .inr (1, [.ref et, .ref em, .ref er, .ref el, .ref es, .null, .int 0, .int 0, .int 0]))]) s.heap.size = A at hD ⊢
  have hA : ∀ q : Nat, s.heap.size ≤ q → A q := fun q h => by rw [← hAe]; exact Or.inr h
  have hS : va_S A s.heap s.heap [] := va_S.rf
  have hl := lv_entry ([.ref h]) (n := 1) (Nat.le_of_ble_eq_true rfl)
  rw [lg_entry_eq]
  generalize (lg_sl ([.ref h]) ++ List.replicate (1 - (lg_sl ([.ref h])).length) Slot.unset).toArray = ls at hl ⊢
  have hl : lv_has ls 1 [(0, .ref h)] := hl
  refine lv_aload_n hx hb d_F_replaced_0 rfl (lv_at hl 0 rfl) ?_
  refine va_get (D := D) (ci := 7) (v := .ref ee) (C := rc_F) (T := ft_F) (N := 3) hx hb hts in_F hown hK hP 0 rfl rfl 2 (by decide) (hts _ k_184) (fun _ h9 => h9) rfl d_F_replaced_1 ?_
  refine cl_i (wc := [(ee, .inr (1, [.ref et, .ref em, .ref er, .ref el, .ref es, .null, .int 0, .int 0, .int 0]))]) (wr := [(h, .inr (7, [.ref dd, .ref bb, .ref ee]))]) hP hD hK hS hA [1] [0] rfl rfl (by decide) (by decide) (va_runV (As := []) (rest := []) ⟨hx, hb, hml, hown, hts⟩ (c_E_made0 l D s.heap.size ee et em er el es) (cw_V hts 0 k_231 k_6 k_228 k_229 k_230 (by decide +kernel) ⟨Nat.le_of_ble_eq_true rfl, Nat.le_of_ble_eq_true rfl⟩) (pr_V hP hD hK [1] [] (by decide) rfl rfl (fun U hU hW => trivial) (fun U g mk a h => h) (q0 := 1) (ci := 1) rfl rfl) rfl rfl hl.1 rfl (lv_room (Nat.le_of_ble_eq_true rfl)) d_F_replaced_4 ⟨by decide, by decide⟩) (fun r2 u H locs h1 hP hD hK hS => ?_)
  have hP : va_P D wcl [(h, .inr (7, [.ref dd, .ref bb, .ref ee])), (ee, .inr (1, [.ref et, .ref em, .ref er, .ref el, .ref es, .null, .int 0, .int 0, .int 0]))] H := hP
  have hD : va_D A [(h, .inr (7, [.ref dd, .ref bb, .ref ee])), (ee, .inr (1, [.ref et, .ref em, .ref er, .ref el, .ref es, .null, .int 0, .int 0, .int 0]))] := hD
  have hK : va_K D wcl [] s := hK
  have h1 : r2 = 0 := h1
  have hP9 := hP.sub (ws' := [(h, .inr (7, [.ref dd, .ref bb, .ref ee])), (ee, .inr (1, [.ref et, .ref em, .ref er, .ref el, .ref es, .null, .int 0, .int 0, .int 0]))]) [0, 1] rfl
  have hD9 := hD.sub (ws' := [(h, .inr (7, [.ref dd, .ref bb, .ref ee])), (ee, .inr (1, [.ref et, .ref em, .ref er, .ref el, .ref es, .null, .int 0, .int 0, .int 0]))]) [0, 1] (by decide) rfl
  have hK9 := hK.sub (tys' := []) [] rfl
  exact W.iret (v := r2) hx hb hr (fun t9 ht hW => ⟨⟨r2, (), rfl, h1, ⟨by rw [ht]; exact hP9, va_K.moved hW.alike hK9, hD9⟩⟩, hS.F ht⟩) hS.2.2 d_F_replaced_7

set_option maxHeartbeats 4000000 in
set_option maxRecDepth 100000 in
/-- MacroForge.mark(k) of a fresh one -/
theorem c_F_mark0 (l : Launch) (D : va_G) (sz : Nat) (h : Nat) (dd : Nat) (bb : Nat) (ee : Nat) (et : Nat) (em : Nat) (er : Nat) (el : Nat) (es : Nat) (ma : Nat) (k : Int32) : Met l y_F_mark (Cond.code y_F_mark b_F_mark 2 (some .int) :: wal) ({ frames := 11, cells := 0, slots := 0, locals := 180 }) (va_Pc [.ref h, .int k] (pr D sz [(h, .inr (7, [.ref dd, .ref bb, .ref ee])), (ee, .inr (1, [.ref et, .ref em, .ref er, .ref el, .ref es, .null, .int 0, .int 0, .int 0])), (er, .inr (3, [.ref ma, .int 0, .int 0]))] [] (fun _ => True))) (va_Qi (S := Unit) (fun r u => r = -99) (fun u t9 => po D (va_A ([(h, .inr (7, [.ref dd, .ref bb, .ref ee])), (ee, .inr (1, [.ref et, .ref em, .ref er, .ref el, .ref es, .null, .int 0, .int 0, .int 0])), (er, .inr (3, [.ref ma, .int 0, .int 0]))]) sz) ((fun u => [(h, .inr (7, [.ref dd, .ref bb, .ref ee])), (ee, .inr (1, [.ref et, .ref em, .ref er, .ref el, .ref es, .null, .int 0, .int 0, .int 0])), (er, .inr (3, [.ref ma, .int 0, .int 0]))]) u) ((fun u => []) u) t9) (va_A ([(h, .inr (7, [.ref dd, .ref bb, .ref ee])), (ee, .inr (1, [.ref et, .ref em, .ref er, .ref el, .ref es, .null, .int 0, .int 0, .int 0])), (er, .inr (3, [.ref ma, .int 0, .int 0]))]) sz)) 0 0 (va_A ([(h, .inr (7, [.ref dd, .ref bb, .ref ee])), (ee, .inr (1, [.ref et, .ref em, .ref er, .ref el, .ref es, .null, .int 0, .int 0, .int 0])), (er, .inr (3, [.ref ma, .int 0, .int 0]))]) sz) := by
  refine Met.ofW (cc := b_F_mark) (maxL := 2) (ret := (some .int)) (by decide) rfl ?_
  intro p e s m args below meth c s₁ B hml hv
  obtain ⟨rfl, hsz, hP, hK, hD0, hE⟩ := hv
  have hx := B.exec
  have hb := B.bytes
  have hr := B.returns
  have hts0 := atoms_spec (ws := Cond.code y_F_mark b_F_mark 2 (some .int) :: wal) B.pre
  have hts : ∀ w ∈ wal, w.before _ s = true := fun w h => hts0 w (List.mem_cons_of_mem _ h)
  have hown : s.vm.findClass rc_F = some m.cls := findClass_of_methodNamed B.named
  have hlocks := B.notSynchronized
  subst hsz
  have hD := hD0.self (sz := s.heap.size)
  generalize hAe : va_A ([(h, .inr (7, [.ref dd, .ref bb, .ref ee])), (ee, .inr (1, [.ref et, .ref em, .ref er, .ref el, .ref es, .null, .int 0, .int 0, .int 0])), (er, .inr (3, [.ref ma, .int 0, .int 0]))]) s.heap.size = A at hD ⊢
  have hA : ∀ q : Nat, s.heap.size ≤ q → A q := fun q h => by rw [← hAe]; exact Or.inr h
  have hS : va_S A s.heap s.heap [] := va_S.rf
  have hl := lv_entry ([.ref h, .int k]) (n := 2) (Nat.le_of_ble_eq_true rfl)
  rw [lg_entry_eq]
  generalize (lg_sl ([.ref h, .int k]) ++ List.replicate (2 - (lg_sl ([.ref h, .int k])).length) Slot.unset).toArray = ls at hl ⊢
  have hl : lv_has ls 2 [(0, .ref h), (1, .int k)] := hl
  refine lv_aload_n hx hb d_F_mark_0 rfl (lv_at hl 0 rfl) ?_
  refine va_get (D := D) (ci := 7) (v := .ref ee) (C := rc_F) (T := ft_F) (N := 3) hx hb hts in_F hown hK hP 0 rfl rfl 2 (by decide) (hts _ k_184) (fun _ h9 => h9) rfl d_F_mark_1 ?_
  refine cl_r (ra := er) (wc := [(ee, .inr (1, [.ref et, .ref em, .ref er, .ref el, .ref es, .null, .int 0, .int 0, .int 0]))]) (wr := [(h, .inr (7, [.ref dd, .ref bb, .ref ee])), (er, .inr (3, [.ref ma, .int 0, .int 0]))]) hP hD hK hS hA [1] [0, 2] rfl rfl (by decide) (by decide) (va_runV (As := []) (rest := []) ⟨hx, hb, hml, hown, hts⟩ (c_E_result0 l D s.heap.size ee et em er el es) (cw_V hts 0 k_239 k_6 k_236 k_237 k_238 (by decide +kernel) ⟨Nat.le_of_ble_eq_true rfl, Nat.le_of_ble_eq_true rfl⟩) (pr_V hP hD hK [1] [] (by decide) rfl rfl (fun U hU hW => trivial) (fun U g mk a h => h) (q0 := 1) (ci := 1) rfl rfl) rfl rfl hl.1 rfl (lv_room (Nat.le_of_ble_eq_true rfl)) d_F_mark_4 ⟨by decide, by decide⟩) (fun u H locs h1 hP hD hK hS => ?_)
  have hP : va_P D wcl [(h, .inr (7, [.ref dd, .ref bb, .ref ee])), (er, .inr (3, [.ref ma, .int 0, .int 0])), (ee, .inr (1, [.ref et, .ref em, .ref er, .ref el, .ref es, .null, .int 0, .int 0, .int 0]))] H := hP
  have hD : va_D A [(h, .inr (7, [.ref dd, .ref bb, .ref ee])), (er, .inr (3, [.ref ma, .int 0, .int 0])), (ee, .inr (1, [.ref et, .ref em, .ref er, .ref el, .ref es, .null, .int 0, .int 0, .int 0]))] := hD
  have hK : va_K D wcl [] s := hK
  refine lv_iload_n hx hb d_F_mark_7 rfl (lv_at hl 1 rfl) ?_
  refine cl_i (wc := [(er, .inr (3, [.ref ma, .int 0, .int 0]))]) (wr := [(h, .inr (7, [.ref dd, .ref bb, .ref ee])), (ee, .inr (1, [.ref et, .ref em, .ref er, .ref el, .ref es, .null, .int 0, .int 0, .int 0]))]) hP hD hK hS hA [1] [0, 2] rfl rfl (by decide) (by decide) (va_runV (As := [.int k]) (rest := []) ⟨hx, hb, hml, hown, hts⟩ (c_S_at0 l D H.size er ma 0 k) (cw_V hts 1 k_243 k_8 k_240 k_241 k_242 (by decide +kernel) ⟨Nat.le_of_ble_eq_true rfl, Nat.le_of_ble_eq_true rfl⟩) (pr_V hP hD hK [1] [] (by decide) rfl rfl (fun U hU hW => trivial) (fun U g mk a h => h) (q0 := 1) (ci := 3) rfl rfl) rfl rfl hl.1 rfl (lv_room (Nat.le_of_ble_eq_true rfl)) d_F_mark_8 ⟨by decide, by decide⟩) (fun r3 u H locs h2 hP hD hK hS => ?_)
  have hP : va_P D wcl [(h, .inr (7, [.ref dd, .ref bb, .ref ee])), (ee, .inr (1, [.ref et, .ref em, .ref er, .ref el, .ref es, .null, .int 0, .int 0, .int 0])), (er, .inr (3, [.ref ma, .int 0, .int 0]))] H := hP
  have hD : va_D A [(h, .inr (7, [.ref dd, .ref bb, .ref ee])), (ee, .inr (1, [.ref et, .ref em, .ref er, .ref el, .ref es, .null, .int 0, .int 0, .int 0])), (er, .inr (3, [.ref ma, .int 0, .int 0]))] := hD
  have hK : va_K D wcl [] s := hK
  have h2 : r3 = -99 := h2
  have hP9 := hP.sub (ws' := [(h, .inr (7, [.ref dd, .ref bb, .ref ee])), (ee, .inr (1, [.ref et, .ref em, .ref er, .ref el, .ref es, .null, .int 0, .int 0, .int 0])), (er, .inr (3, [.ref ma, .int 0, .int 0]))]) [0, 1, 2] rfl
  have hD9 := hD.sub (ws' := [(h, .inr (7, [.ref dd, .ref bb, .ref ee])), (ee, .inr (1, [.ref et, .ref em, .ref er, .ref el, .ref es, .null, .int 0, .int 0, .int 0])), (er, .inr (3, [.ref ma, .int 0, .int 0]))]) [0, 1, 2] (by decide) rfl
  have hK9 := hK.sub (tys' := []) [] rfl
  exact W.iret (v := r3) hx hb hr (fun t9 ht hW => ⟨⟨r3, (), rfl, h2, ⟨by rw [ht]; exact hP9, va_K.moved hW.alike hK9, hD9⟩⟩, hS.F ht⟩) hS.2.2 d_F_mark_11

set_option maxHeartbeats 4000000 in
set_option maxRecDepth 100000 in
/-- MacroForge.depth() of a fresh one -/
theorem c_F_depth0 (l : Launch) (D : va_G) (sz : Nat) (h : Nat) (dd : Nat) (bb : Nat) (ee : Nat) (et : Nat) (em : Nat) (er : Nat) (el : Nat) (es : Nat) (ma : Nat) : Met l y_F_depth (Cond.code y_F_depth b_F_depth 1 (some .int) :: wal) ({ frames := 11, cells := 0, slots := 0, locals := 180 }) (va_Pc [.ref h] (pr D sz [(h, .inr (7, [.ref dd, .ref bb, .ref ee])), (ee, .inr (1, [.ref et, .ref em, .ref er, .ref el, .ref es, .null, .int 0, .int 0, .int 0])), (er, .inr (3, [.ref ma, .int 0, .int 0]))] [] (fun _ => True))) (va_Qi (S := Unit) (fun r u => r = 0) (fun u t9 => po D (va_A ([(h, .inr (7, [.ref dd, .ref bb, .ref ee])), (ee, .inr (1, [.ref et, .ref em, .ref er, .ref el, .ref es, .null, .int 0, .int 0, .int 0])), (er, .inr (3, [.ref ma, .int 0, .int 0]))]) sz) ((fun u => [(h, .inr (7, [.ref dd, .ref bb, .ref ee])), (ee, .inr (1, [.ref et, .ref em, .ref er, .ref el, .ref es, .null, .int 0, .int 0, .int 0])), (er, .inr (3, [.ref ma, .int 0, .int 0]))]) u) ((fun u => []) u) t9) (va_A ([(h, .inr (7, [.ref dd, .ref bb, .ref ee])), (ee, .inr (1, [.ref et, .ref em, .ref er, .ref el, .ref es, .null, .int 0, .int 0, .int 0])), (er, .inr (3, [.ref ma, .int 0, .int 0]))]) sz)) 0 0 (va_A ([(h, .inr (7, [.ref dd, .ref bb, .ref ee])), (ee, .inr (1, [.ref et, .ref em, .ref er, .ref el, .ref es, .null, .int 0, .int 0, .int 0])), (er, .inr (3, [.ref ma, .int 0, .int 0]))]) sz) := by
  refine Met.ofW (cc := b_F_depth) (maxL := 1) (ret := (some .int)) (by decide) rfl ?_
  intro p e s m args below meth c s₁ B hml hv
  obtain ⟨rfl, hsz, hP, hK, hD0, hE⟩ := hv
  have hx := B.exec
  have hb := B.bytes
  have hr := B.returns
  have hts0 := atoms_spec (ws := Cond.code y_F_depth b_F_depth 1 (some .int) :: wal) B.pre
  have hts : ∀ w ∈ wal, w.before _ s = true := fun w h => hts0 w (List.mem_cons_of_mem _ h)
  have hown : s.vm.findClass rc_F = some m.cls := findClass_of_methodNamed B.named
  have hlocks := B.notSynchronized
  subst hsz
  have hD := hD0.self (sz := s.heap.size)
  generalize hAe : va_A ([(h, .inr (7, [.ref dd, .ref bb, .ref ee])), (ee, .inr (1, [.ref et, .ref em, .ref er, .ref el, .ref es, .null, .int 0, .int 0, .int 0])), (er, .inr (3, [.ref ma, .int 0, .int 0]))]) s.heap.size = A at hD ⊢
  have hA : ∀ q : Nat, s.heap.size ≤ q → A q := fun q h => by rw [← hAe]; exact Or.inr h
  have hS : va_S A s.heap s.heap [] := va_S.rf
  have hl := lv_entry ([.ref h]) (n := 1) (Nat.le_of_ble_eq_true rfl)
  rw [lg_entry_eq]
  generalize (lg_sl ([.ref h]) ++ List.replicate (1 - (lg_sl ([.ref h])).length) Slot.unset).toArray = ls at hl ⊢
  have hl : lv_has ls 1 [(0, .ref h)] := hl
  refine lv_aload_n hx hb d_F_depth_0 rfl (lv_at hl 0 rfl) ?_
  refine va_get (D := D) (ci := 7) (v := .ref ee) (C := rc_F) (T := ft_F) (N := 3) hx hb hts in_F hown hK hP 0 rfl rfl 2 (by decide) (hts _ k_184) (fun _ h9 => h9) rfl d_F_depth_1 ?_
  refine cl_r (ra := er) (wc := [(ee, .inr (1, [.ref et, .ref em, .ref er, .ref el, .ref es, .null, .int 0, .int 0, .int 0]))]) (wr := [(h, .inr (7, [.ref dd, .ref bb, .ref ee])), (er, .inr (3, [.ref ma, .int 0, .int 0]))]) hP hD hK hS hA [1] [0, 2] rfl rfl (by decide) (by decide) (va_runV (As := []) (rest := []) ⟨hx, hb, hml, hown, hts⟩ (c_E_result0 l D s.heap.size ee et em er el es) (cw_V hts 0 k_239 k_6 k_236 k_237 k_238 (by decide +kernel) ⟨Nat.le_of_ble_eq_true rfl, Nat.le_of_ble_eq_true rfl⟩) (pr_V hP hD hK [1] [] (by decide) rfl rfl (fun U hU hW => trivial) (fun U g mk a h => h) (q0 := 1) (ci := 1) rfl rfl) rfl rfl hl.1 rfl (lv_room (Nat.le_of_ble_eq_true rfl)) d_F_depth_4 ⟨by decide, by decide⟩) (fun u H locs h1 hP hD hK hS => ?_)
  have hP : va_P D wcl [(h, .inr (7, [.ref dd, .ref bb, .ref ee])), (er, .inr (3, [.ref ma, .int 0, .int 0])), (ee, .inr (1, [.ref et, .ref em, .ref er, .ref el, .ref es, .null, .int 0, .int 0, .int 0]))] H := hP
  have hD : va_D A [(h, .inr (7, [.ref dd, .ref bb, .ref ee])), (er, .inr (3, [.ref ma, .int 0, .int 0])), (ee, .inr (1, [.ref et, .ref em, .ref er, .ref el, .ref es, .null, .int 0, .int 0, .int 0]))] := hD
  have hK : va_K D wcl [] s := hK
  refine cl_i (wc := [(er, .inr (3, [.ref ma, .int 0, .int 0]))]) (wr := [(h, .inr (7, [.ref dd, .ref bb, .ref ee])), (ee, .inr (1, [.ref et, .ref em, .ref er, .ref el, .ref es, .null, .int 0, .int 0, .int 0]))]) hP hD hK hS hA [1] [0, 2] rfl rfl (by decide) (by decide) (va_runV (As := []) (rest := []) ⟨hx, hb, hml, hown, hts⟩ (c_S_deepest0 l D H.size er ma 0) (cw_V hts 0 k_251 k_8 k_248 k_249 k_250 (by decide +kernel) ⟨Nat.le_of_ble_eq_true rfl, Nat.le_of_ble_eq_true rfl⟩) (pr_V hP hD hK [1] [] (by decide) rfl rfl (fun U hU hW => trivial) (fun U g mk a h => h) (q0 := 1) (ci := 3) rfl rfl) rfl rfl hl.1 rfl (lv_room (Nat.le_of_ble_eq_true rfl)) d_F_depth_7 ⟨by decide, by decide⟩) (fun r3 u H locs h2 hP hD hK hS => ?_)
  have hP : va_P D wcl [(h, .inr (7, [.ref dd, .ref bb, .ref ee])), (ee, .inr (1, [.ref et, .ref em, .ref er, .ref el, .ref es, .null, .int 0, .int 0, .int 0])), (er, .inr (3, [.ref ma, .int 0, .int 0]))] H := hP
  have hD : va_D A [(h, .inr (7, [.ref dd, .ref bb, .ref ee])), (ee, .inr (1, [.ref et, .ref em, .ref er, .ref el, .ref es, .null, .int 0, .int 0, .int 0])), (er, .inr (3, [.ref ma, .int 0, .int 0]))] := hD
  have hK : va_K D wcl [] s := hK
  have h2 : r3 = 0 := h2
  have hP9 := hP.sub (ws' := [(h, .inr (7, [.ref dd, .ref bb, .ref ee])), (ee, .inr (1, [.ref et, .ref em, .ref er, .ref el, .ref es, .null, .int 0, .int 0, .int 0])), (er, .inr (3, [.ref ma, .int 0, .int 0]))]) [0, 1, 2] rfl
  have hD9 := hD.sub (ws' := [(h, .inr (7, [.ref dd, .ref bb, .ref ee])), (ee, .inr (1, [.ref et, .ref em, .ref er, .ref el, .ref es, .null, .int 0, .int 0, .int 0])), (er, .inr (3, [.ref ma, .int 0, .int 0]))]) [0, 1, 2] (by decide) rfl
  have hK9 := hK.sub (tys' := []) [] rfl
  exact W.iret (v := r3) hx hb hr (fun t9 ht hW => ⟨⟨r3, (), rfl, h2, ⟨by rw [ht]; exact hP9, va_K.moved hW.alike hK9, hD9⟩⟩, hS.F ht⟩) hS.2.2 d_F_depth_10

set_option maxHeartbeats 4000000 in
set_option maxRecDepth 100000 in
/-- MacroForge.rule() of an empty draft, no rule being there: IllegalArgumentException -/
theorem x_F_rule0 (l : Launch) (htr : l.stackTraces = false) (D : va_G) (sz : Nat) (h : Nat) (dd : Nat) (bb : Nat) (ee : Nat) (da : Nat) (dy : Int32) (ba : Nat) (cb : ClassId) (bf : Nat → Option Nat) (r0 : Nat) (tt : Nat) (kn : Nat) (as_ : Nat) (at_ : Nat) (ap_ : Nat) (ai_ : Nat) (ar_ : Nat) (ao_ : Nat) (hf : bf 0 = some r0) : ex_Met l y_F_rule (Cond.code y_F_rule b_F_rule 2 (some .int) :: wal) ({ frames := 15, cells := 1, slots := 6, locals := 420 }) (va_Pc [.ref h] (pr D sz [(h, .inr (7, [.ref dd, .ref bb, .ref ee])), (dd, .inr (0, [.ref da, .int 0, .int dy])), (bb, .inr (5, [.ref ba, .int 0])), (ba, .inl (cb, 13, .inr (.inr (.inr (.inr bf))))), (r0, .inr (4, [.ref tt, .ref kn, .int 0])), (tt, .inr (6, [.ref as_, .ref at_, .ref ap_, .ref ai_, .ref ar_, .ref ao_, .int 0, .int 0, .int 0, .int 0, .int 0]))] [(cb, .object rc_R)] (fun U => cx (va_A ([(h, .inr (7, [.ref dd, .ref bb, .ref ee])), (dd, .inr (0, [.ref da, .int 0, .int dy])), (bb, .inr (5, [.ref ba, .int 0])), (ba, .inl (cb, 13, .inr (.inr (.inr (.inr bf))))), (r0, .inr (4, [.ref tt, .ref kn, .int 0])), (tt, .inr (6, [.ref as_, .ref at_, .ref ap_, .ref ai_, .ref ar_, .ref ao_, .int 0, .int 0, .int 0, .int 0, .int 0]))]) sz) U U.heap))) (px iaN D (va_A ([(h, .inr (7, [.ref dd, .ref bb, .ref ee])), (dd, .inr (0, [.ref da, .int 0, .int dy])), (bb, .inr (5, [.ref ba, .int 0])), (ba, .inl (cb, 13, .inr (.inr (.inr (.inr bf))))), (r0, .inr (4, [.ref tt, .ref kn, .int 0])), (tt, .inr (6, [.ref as_, .ref at_, .ref ap_, .ref ai_, .ref ar_, .ref ao_, .int 0, .int 0, .int 0, .int 0, .int 0]))]) sz) [(h, .inr (7, [.ref dd, .ref bb, .ref ee])), (dd, .inr (0, [.ref da, .int 0, .int 0])), (bb, .inr (5, [.ref ba, .int 0])), (ba, .inl (cb, 13, .inr (.inr (.inr (.inr bf))))), (r0, .inr (4, [.ref tt, .ref kn, .int 0])), (tt, .inr (6, [.ref as_, .ref at_, .ref ap_, .ref ai_, .ref ar_, .ref ao_, .int 0, .int 0, .int 0, .int 0, .int 0]))] [(cb, .object rc_R)]) 1 6 (va_A ([(h, .inr (7, [.ref dd, .ref bb, .ref ee])), (dd, .inr (0, [.ref da, .int 0, .int dy])), (bb, .inr (5, [.ref ba, .int 0])), (ba, .inl (cb, 13, .inr (.inr (.inr (.inr bf))))), (r0, .inr (4, [.ref tt, .ref kn, .int 0])), (tt, .inr (6, [.ref as_, .ref at_, .ref ap_, .ref ai_, .ref ar_, .ref ao_, .int 0, .int 0, .int 0, .int 0, .int 0]))]) sz) := by
  refine ex_ofW0 (cc := b_F_rule) (maxL := 2) (ret := (some .int)) (by decide) rfl ?_
  intro p e s m args below meth c s₁ B hml hno hv
  obtain ⟨rfl, hsz, hP, hK, hD0, hE⟩ := hv
  have hx := B.exec
  have hb := B.bytes
  have hr := B.returns
  have hts0 := atoms_spec (ws := Cond.code y_F_rule b_F_rule 2 (some .int) :: wal) B.pre
  have hts : ∀ w ∈ wal, w.before _ s = true := fun w h => hts0 w (List.mem_cons_of_mem _ h)
  have hown : s.vm.findClass rc_F = some m.cls := findClass_of_methodNamed B.named
  have hlocks := B.notSynchronized
  subst hsz
  have hD := hD0.self (sz := s.heap.size)
  generalize hAe : va_A ([(h, .inr (7, [.ref dd, .ref bb, .ref ee])), (dd, .inr (0, [.ref da, .int 0, .int dy])), (bb, .inr (5, [.ref ba, .int 0])), (ba, .inl (cb, 13, .inr (.inr (.inr (.inr bf))))), (r0, .inr (4, [.ref tt, .ref kn, .int 0])), (tt, .inr (6, [.ref as_, .ref at_, .ref ap_, .ref ai_, .ref ar_, .ref ao_, .int 0, .int 0, .int 0, .int 0, .int 0]))]) s.heap.size = A at hD hE ⊢
  have hA : ∀ q : Nat, s.heap.size ≤ q → A q := fun q h => by rw [← hAe]; exact Or.inr h
  have hS : va_S A s.heap s.heap [] := va_S.rf
  have hl := lv_entry ([.ref h]) (n := 2) (Nat.le_of_ble_eq_true rfl)
  rw [lg_entry_eq]
  generalize (lg_sl ([.ref h]) ++ List.replicate (2 - (lg_sl ([.ref h])).length) Slot.unset).toArray = ls at hl ⊢
  have hl : lv_has ls 2 [(0, .ref h)] := hl
  refine lv_aload_n hx hb d_F_rule_0 rfl (lv_at hl 0 rfl) ?_
  refine va_get (D := D) (ci := 7) (v := .ref bb) (C := rc_F) (T := ft_F) (N := 3) hx hb hts in_F hown hK hP 0 rfl rfl 1 (by decide) (hts _ k_183) (fun _ h9 => h9) rfl d_F_rule_1 ?_
  refine lv_aload_n hx hb d_F_rule_4 rfl (lv_at hl 0 rfl) ?_
  refine va_get (D := D) (ci := 7) (v := .ref dd) (C := rc_F) (T := ft_F) (N := 3) hx hb hts in_F hown hK hP 0 rfl rfl 0 (by decide) (hts _ k_182) (fun _ h9 => h9) rfl d_F_rule_5 ?_
  refine cl_i (wc := [(bb, .inr (5, [.ref ba, .int 0])), (ba, .inl (cb, 13, .inr (.inr (.inr (.inr bf))))), (r0, .inr (4, [.ref tt, .ref kn, .int 0])), (tt, .inr (6, [.ref as_, .ref at_, .ref ap_, .ref ai_, .ref ar_, .ref ao_, .int 0, .int 0, .int 0, .int 0, .int 0])), (dd, .inr (0, [.ref da, .int 0, .int dy]))]) (wr := [(h, .inr (7, [.ref dd, .ref bb, .ref ee]))]) hP hD hK hS hA [2, 3, 4, 5, 1] [0] rfl rfl (by decide) (by decide) (va_runV (As := [.ref dd]) (rest := []) ⟨hx, hb, hml, hown, hts⟩ (c_B_read0 l D s.heap.size bb ba cb bf r0 tt kn 0 as_ at_ ap_ ai_ ar_ ao_ 0 0 0 0 0 dd da dy hf) (cw_V hts 1 k_267 k_3 k_264 k_265 k_266 (by decide +kernel) ⟨Nat.le_of_ble_eq_true rfl, Nat.le_of_ble_eq_true rfl⟩) (pr_V hP hD hK [2, 3, 4, 5, 1] [0] (by decide) rfl rfl (fun U hU hW => trivial) (fun U g mk a h => h) (q0 := 2) (ci := 5) rfl rfl) rfl rfl hl.1 rfl (lv_room (Nat.le_of_ble_eq_true rfl)) d_F_rule_8 ⟨by decide, by decide⟩) (fun r2 u H locs h1 hP hD hK hS => ?_)
  have hP : va_P D wcl [(h, .inr (7, [.ref dd, .ref bb, .ref ee])), (bb, .inr (5, [.ref ba, .int 0])), (ba, .inl (cb, 13, .inr (.inr (.inr (.inr bf))))), (r0, .inr (4, [.ref tt, .ref kn, .int 0])), (tt, .inr (6, [.ref as_, .ref at_, .ref ap_, .ref ai_, .ref ar_, .ref ao_, .int 0, .int 0, .int 0, .int 0, .int 0])), (dd, .inr (0, [.ref da, .int 0, .int dy]))] H := hP
  have hD : va_D A [(h, .inr (7, [.ref dd, .ref bb, .ref ee])), (bb, .inr (5, [.ref ba, .int 0])), (ba, .inl (cb, 13, .inr (.inr (.inr (.inr bf))))), (r0, .inr (4, [.ref tt, .ref kn, .int 0])), (tt, .inr (6, [.ref as_, .ref at_, .ref ap_, .ref ai_, .ref ar_, .ref ao_, .int 0, .int 0, .int 0, .int 0, .int 0])), (dd, .inr (0, [.ref da, .int 0, .int dy]))] := hD
  have hK : va_K D wcl [(cb, .object rc_R), (cb, .object rc_R)] s := hK
  have h1 : r2 = 0 := h1
  refine lv_istore_n hx hb d_F_rule_11 rfl hl (by decide) rfl (fun ls hl => ?_)
  have hl : lv_has ls 2 [(1, .int r2), (0, .ref h)] := hl
  refine lv_aload_n hx hb d_F_rule_12 rfl (lv_at hl 1 rfl) ?_
  refine va_get (D := D) (ci := 7) (v := .ref dd) (C := rc_F) (T := ft_F) (N := 3) hx hb hts in_F hown hK hP 0 rfl rfl 0 (by decide) (hts _ k_182) (fun _ h9 => h9) rfl d_F_rule_13 ?_
  refine cl_v (wc := [(dd, .inr (0, [.ref da, .int 0, .int dy]))]) (wr := [(h, .inr (7, [.ref dd, .ref bb, .ref ee])), (bb, .inr (5, [.ref ba, .int 0])), (ba, .inl (cb, 13, .inr (.inr (.inr (.inr bf))))), (r0, .inr (4, [.ref tt, .ref kn, .int 0])), (tt, .inr (6, [.ref as_, .ref at_, .ref ap_, .ref ai_, .ref ar_, .ref ao_, .int 0, .int 0, .int 0, .int 0, .int 0]))]) hP hD hK hS hA [5] [0, 1, 2, 3, 4] rfl rfl (by decide) (by decide) (va_runV (As := []) (rest := []) ⟨hx, hb, hml, hown, hts⟩ (c_D_clear l D H.size dd da 0 dy) (cw_V hts 0 k_367 k_2 k_364 k_365 k_366 (by decide +kernel) ⟨Nat.le_of_ble_eq_true rfl, Nat.le_of_ble_eq_true rfl⟩) (pr_V hP hD hK [5] [] (by decide) rfl rfl (fun U hU hW => trivial) (fun U g mk a h => h) (q0 := 5) (ci := 0) rfl rfl) rfl rfl hl.1 rfl (lv_room (Nat.le_of_ble_eq_true rfl)) d_F_rule_16 ⟨by decide, by decide⟩) (fun u H locs h3 hP hD hK hS => ?_)
  have hP : va_P D wcl [(h, .inr (7, [.ref dd, .ref bb, .ref ee])), (bb, .inr (5, [.ref ba, .int 0])), (ba, .inl (cb, 13, .inr (.inr (.inr (.inr bf))))), (r0, .inr (4, [.ref tt, .ref kn, .int 0])), (tt, .inr (6, [.ref as_, .ref at_, .ref ap_, .ref ai_, .ref ar_, .ref ao_, .int 0, .int 0, .int 0, .int 0, .int 0])), (dd, .inr (0, [.ref da, .int 0, .int 0]))] H := hP
  have hD : va_D A [(h, .inr (7, [.ref dd, .ref bb, .ref ee])), (bb, .inr (5, [.ref ba, .int 0])), (ba, .inl (cb, 13, .inr (.inr (.inr (.inr bf))))), (r0, .inr (4, [.ref tt, .ref kn, .int 0])), (tt, .inr (6, [.ref as_, .ref at_, .ref ap_, .ref ai_, .ref ar_, .ref ao_, .int 0, .int 0, .int 0, .int 0, .int 0])), (dd, .inr (0, [.ref da, .int 0, .int 0]))] := hD
  have hK : va_K D wcl [(cb, .object rc_R), (cb, .object rc_R)] s := hK
  refine lv_iload_n hx hb d_F_rule_19 rfl (lv_at hl 0 rfl) ?_
  refine lv_if_ne (tgt := 33) hx hb d_F_rule_20 (by decide) (fun h9 => absurd (h1) h9) (fun _ => ?_)
  have hP9 := hP.sub (ws' := [(h, .inr (7, [.ref dd, .ref bb, .ref ee])), (dd, .inr (0, [.ref da, .int 0, .int 0])), (bb, .inr (5, [.ref ba, .int 0])), (ba, .inl (cb, 13, .inr (.inr (.inr (.inr bf))))), (r0, .inr (4, [.ref tt, .ref kn, .int 0])), (tt, .inr (6, [.ref as_, .ref at_, .ref ap_, .ref ai_, .ref ar_, .ref ao_, .int 0, .int 0, .int 0, .int 0, .int 0]))]) [0, 5, 1, 2, 3, 4] rfl
  have hD9 := hD.sub (ws' := [(h, .inr (7, [.ref dd, .ref bb, .ref ee])), (dd, .inr (0, [.ref da, .int 0, .int 0])), (bb, .inr (5, [.ref ba, .int 0])), (ba, .inl (cb, 13, .inr (.inr (.inr (.inr bf))))), (r0, .inr (4, [.ref tt, .ref kn, .int 0])), (tt, .inr (6, [.ref as_, .ref at_, .ref ap_, .ref ai_, .ref ar_, .ref ao_, .int 0, .int 0, .int 0, .int 0, .int 0]))]) [0, 5, 1, 2, 3, 4] (by decide) rfl
  have hK9 := hK.sub (tys' := [(cb, .object rc_R)]) [0] rfl
  obtain ⟨sq, hsq⟩ := hE.1.2.1 rc_F 43 "the draft is no rule" k_409
  exact ex_throwNew (xN := iaN) (up := upN) (ic := 45) (inew := 41) (istr := 43) hx hb htr hown (by decide +kernel) (by decide +kernel) (fun U hU hW w9 hw => cx_say hts hE hS hU hW (List.all_eq_true.mp ca_rule1 w9 hw)) hsq (by rw [hml]; exact hl.1) d_F_rule_23 d_F_rule_26 d_F_rule_27 d_F_rule_29 d_F_rule_32 (fun x9 hx9 => hno x9 hx9 _) hlocks (by decide) (by decide) (by decide) (by decide) hS.2.2 (fun t9 ce o1 z1 e1 n1 a1 v1 w1 => px_of hP9 hK9 hD9 hS o1 z1 e1 n1 a1 v1 w1)

set_option maxHeartbeats 4000000 in
set_option maxRecDepth 100000 in
/-- MacroForge.expand(k) of an empty draft: IllegalArgumentException -/
theorem x_F_expand0 (l : Launch) (htr : l.stackTraces = false) (D : va_G) (sz : Nat) (h : Nat) (dd : Nat) (bb : Nat) (ee : Nat) (da : Nat) (dy : Int32) (et : Nat) (em : Nat) (er : Nat) (el : Nat) (es : Nat) (as_2 : Nat) (at_2 : Nat) (ap_2 : Nat) (ai_2 : Nat) (ar_2 : Nat) (ao_2 : Nat) (k : Int32) : ex_Met l y_F_expand (Cond.code y_F_expand b_F_expand 3 (some .int) :: wal) ({ frames := 15, cells := 1, slots := 6, locals := 420 }) (va_Pc [.ref h, .int k] (pr D sz [(h, .inr (7, [.ref dd, .ref bb, .ref ee])), (dd, .inr (0, [.ref da, .int 0, .int dy])), (ee, .inr (1, [.ref et, .ref em, .ref er, .ref el, .ref es, .null, .int 0, .int 0, .int 0])), (et, .inr (6, [.ref as_2, .ref at_2, .ref ap_2, .ref ai_2, .ref ar_2, .ref ao_2, .int 0, .int 0, .int 0, .int 0, .int 0]))] [] (fun U => cx (va_A ([(h, .inr (7, [.ref dd, .ref bb, .ref ee])), (dd, .inr (0, [.ref da, .int 0, .int dy])), (ee, .inr (1, [.ref et, .ref em, .ref er, .ref el, .ref es, .null, .int 0, .int 0, .int 0])), (et, .inr (6, [.ref as_2, .ref at_2, .ref ap_2, .ref ai_2, .ref ar_2, .ref ao_2, .int 0, .int 0, .int 0, .int 0, .int 0]))]) sz) U U.heap))) (px iaN D (va_A ([(h, .inr (7, [.ref dd, .ref bb, .ref ee])), (dd, .inr (0, [.ref da, .int 0, .int dy])), (ee, .inr (1, [.ref et, .ref em, .ref er, .ref el, .ref es, .null, .int 0, .int 0, .int 0])), (et, .inr (6, [.ref as_2, .ref at_2, .ref ap_2, .ref ai_2, .ref ar_2, .ref ao_2, .int 0, .int 0, .int 0, .int 0, .int 0]))]) sz) [(h, .inr (7, [.ref dd, .ref bb, .ref ee])), (dd, .inr (0, [.ref da, .int 0, .int 0])), (ee, .inr (1, [.ref et, .ref em, .ref er, .ref el, .ref es, .null, .int 0, .int 0, .int 0])), (et, .inr (6, [.ref as_2, .ref at_2, .ref ap_2, .ref ai_2, .ref ar_2, .ref ao_2, .int 0, .int 0, .int 0, .int 8, .int (-1)]))] []) 1 6 (va_A ([(h, .inr (7, [.ref dd, .ref bb, .ref ee])), (dd, .inr (0, [.ref da, .int 0, .int dy])), (ee, .inr (1, [.ref et, .ref em, .ref er, .ref el, .ref es, .null, .int 0, .int 0, .int 0])), (et, .inr (6, [.ref as_2, .ref at_2, .ref ap_2, .ref ai_2, .ref ar_2, .ref ao_2, .int 0, .int 0, .int 0, .int 0, .int 0]))]) sz) := by
  refine ex_ofW0 (cc := b_F_expand) (maxL := 3) (ret := (some .int)) (by decide) rfl ?_
  intro p e s m args below meth c s₁ B hml hno hv
  obtain ⟨rfl, hsz, hP, hK, hD0, hE⟩ := hv
  have hx := B.exec
  have hb := B.bytes
  have hr := B.returns
  have hts0 := atoms_spec (ws := Cond.code y_F_expand b_F_expand 3 (some .int) :: wal) B.pre
  have hts : ∀ w ∈ wal, w.before _ s = true := fun w h => hts0 w (List.mem_cons_of_mem _ h)
  have hown : s.vm.findClass rc_F = some m.cls := findClass_of_methodNamed B.named
  have hlocks := B.notSynchronized
  subst hsz
  have hD := hD0.self (sz := s.heap.size)
  generalize hAe : va_A ([(h, .inr (7, [.ref dd, .ref bb, .ref ee])), (dd, .inr (0, [.ref da, .int 0, .int dy])), (ee, .inr (1, [.ref et, .ref em, .ref er, .ref el, .ref es, .null, .int 0, .int 0, .int 0])), (et, .inr (6, [.ref as_2, .ref at_2, .ref ap_2, .ref ai_2, .ref ar_2, .ref ao_2, .int 0, .int 0, .int 0, .int 0, .int 0]))]) s.heap.size = A at hD hE ⊢
  have hA : ∀ q : Nat, s.heap.size ≤ q → A q := fun q h => by rw [← hAe]; exact Or.inr h
  have hS : va_S A s.heap s.heap [] := va_S.rf
  have hl := lv_entry ([.ref h, .int k]) (n := 3) (Nat.le_of_ble_eq_true rfl)
  rw [lg_entry_eq]
  generalize (lg_sl ([.ref h, .int k]) ++ List.replicate (3 - (lg_sl ([.ref h, .int k])).length) Slot.unset).toArray = ls at hl ⊢
  have hl : lv_has ls 3 [(0, .ref h), (1, .int k)] := hl
  refine lv_aload_n hx hb d_F_expand_0 rfl (lv_at hl 0 rfl) ?_
  refine va_get (D := D) (ci := 7) (v := .ref ee) (C := rc_F) (T := ft_F) (N := 3) hx hb hts in_F hown hK hP 0 rfl rfl 2 (by decide) (hts _ k_184) (fun _ h9 => h9) rfl d_F_expand_1 ?_
  refine lv_aload_n hx hb d_F_expand_4 rfl (lv_at hl 0 rfl) ?_
  refine va_get (D := D) (ci := 7) (v := .ref dd) (C := rc_F) (T := ft_F) (N := 3) hx hb hts in_F hown hK hP 0 rfl rfl 0 (by decide) (hts _ k_182) (fun _ h9 => h9) rfl d_F_expand_5 ?_
  refine cl_i (wc := [(ee, .inr (1, [.ref et, .ref em, .ref er, .ref el, .ref es, .null, .int 0, .int 0, .int 0])), (et, .inr (6, [.ref as_2, .ref at_2, .ref ap_2, .ref ai_2, .ref ar_2, .ref ao_2, .int 0, .int 0, .int 0, .int 0, .int 0])), (dd, .inr (0, [.ref da, .int 0, .int dy]))]) (wr := [(h, .inr (7, [.ref dd, .ref bb, .ref ee]))]) hP hD hK hS hA [2, 3, 1] [0] rfl rfl (by decide) (by decide) (va_runV (As := [.ref dd]) (rest := []) ⟨hx, hb, hml, hown, hts⟩ (c_E_read0 l D s.heap.size ee et em er el es as_2 at_2 ap_2 ai_2 ar_2 ao_2 0 0 0 0 0 dd da dy) (cw_V hts 1 k_471 k_6 k_468 k_469 k_470 (by decide +kernel) ⟨Nat.le_of_ble_eq_true rfl, Nat.le_of_ble_eq_true rfl⟩) (pr_V hP hD hK [2, 3, 1] [] (by decide) rfl rfl (fun U hU hW => trivial) (fun U g mk a h => h) (q0 := 2) (ci := 1) rfl rfl) rfl rfl hl.1 rfl (lv_room (Nat.le_of_ble_eq_true rfl)) d_F_expand_8 ⟨by decide, by decide⟩) (fun r2 u H locs h1 hP hD hK hS => ?_)
  have hP : va_P D wcl [(h, .inr (7, [.ref dd, .ref bb, .ref ee])), (ee, .inr (1, [.ref et, .ref em, .ref er, .ref el, .ref es, .null, .int 0, .int 0, .int 0])), (et, .inr (6, [.ref as_2, .ref at_2, .ref ap_2, .ref ai_2, .ref ar_2, .ref ao_2, .int 0, .int 0, .int 0, .int 8, .int (-1)])), (dd, .inr (0, [.ref da, .int 0, .int dy]))] H := hP
  have hD : va_D A [(h, .inr (7, [.ref dd, .ref bb, .ref ee])), (ee, .inr (1, [.ref et, .ref em, .ref er, .ref el, .ref es, .null, .int 0, .int 0, .int 0])), (et, .inr (6, [.ref as_2, .ref at_2, .ref ap_2, .ref ai_2, .ref ar_2, .ref ao_2, .int 0, .int 0, .int 0, .int 8, .int (-1)])), (dd, .inr (0, [.ref da, .int 0, .int dy]))] := hD
  have hK : va_K D wcl [] s := hK
  have h1 : r2 = 0 := h1
  refine lv_istore_n hx hb d_F_expand_11 rfl hl (by decide) rfl (fun ls hl => ?_)
  have hl : lv_has ls 3 [(2, .int r2), (0, .ref h), (1, .int k)] := hl
  refine lv_aload_n hx hb d_F_expand_12 rfl (lv_at hl 1 rfl) ?_
  refine va_get (D := D) (ci := 7) (v := .ref dd) (C := rc_F) (T := ft_F) (N := 3) hx hb hts in_F hown hK hP 0 rfl rfl 0 (by decide) (hts _ k_182) (fun _ h9 => h9) rfl d_F_expand_13 ?_
  refine cl_v (wc := [(dd, .inr (0, [.ref da, .int 0, .int dy]))]) (wr := [(h, .inr (7, [.ref dd, .ref bb, .ref ee])), (ee, .inr (1, [.ref et, .ref em, .ref er, .ref el, .ref es, .null, .int 0, .int 0, .int 0])), (et, .inr (6, [.ref as_2, .ref at_2, .ref ap_2, .ref ai_2, .ref ar_2, .ref ao_2, .int 0, .int 0, .int 0, .int 8, .int (-1)]))]) hP hD hK hS hA [3] [0, 1, 2] rfl rfl (by decide) (by decide) (va_runV (As := []) (rest := []) ⟨hx, hb, hml, hown, hts⟩ (c_D_clear l D H.size dd da 0 dy) (cw_V hts 0 k_367 k_2 k_364 k_365 k_366 (by decide +kernel) ⟨Nat.le_of_ble_eq_true rfl, Nat.le_of_ble_eq_true rfl⟩) (pr_V hP hD hK [3] [] (by decide) rfl rfl (fun U hU hW => trivial) (fun U g mk a h => h) (q0 := 3) (ci := 0) rfl rfl) rfl rfl hl.1 rfl (lv_room (Nat.le_of_ble_eq_true rfl)) d_F_expand_16 ⟨by decide, by decide⟩) (fun u H locs h3 hP hD hK hS => ?_)
  have hP : va_P D wcl [(h, .inr (7, [.ref dd, .ref bb, .ref ee])), (ee, .inr (1, [.ref et, .ref em, .ref er, .ref el, .ref es, .null, .int 0, .int 0, .int 0])), (et, .inr (6, [.ref as_2, .ref at_2, .ref ap_2, .ref ai_2, .ref ar_2, .ref ao_2, .int 0, .int 0, .int 0, .int 8, .int (-1)])), (dd, .inr (0, [.ref da, .int 0, .int 0]))] H := hP
  have hD : va_D A [(h, .inr (7, [.ref dd, .ref bb, .ref ee])), (ee, .inr (1, [.ref et, .ref em, .ref er, .ref el, .ref es, .null, .int 0, .int 0, .int 0])), (et, .inr (6, [.ref as_2, .ref at_2, .ref ap_2, .ref ai_2, .ref ar_2, .ref ao_2, .int 0, .int 0, .int 0, .int 8, .int (-1)])), (dd, .inr (0, [.ref da, .int 0, .int 0]))] := hD
  have hK : va_K D wcl [] s := hK
  refine lv_iload_n hx hb d_F_expand_19 rfl (lv_at hl 0 rfl) ?_
  refine lv_if_eq (tgt := 33) hx hb d_F_expand_20 (by decide) (fun _ => ?_) (fun h9 => absurd (h1) h9)
  have hP9 := hP.sub (ws' := [(h, .inr (7, [.ref dd, .ref bb, .ref ee])), (dd, .inr (0, [.ref da, .int 0, .int 0])), (ee, .inr (1, [.ref et, .ref em, .ref er, .ref el, .ref es, .null, .int 0, .int 0, .int 0])), (et, .inr (6, [.ref as_2, .ref at_2, .ref ap_2, .ref ai_2, .ref ar_2, .ref ao_2, .int 0, .int 0, .int 0, .int 8, .int (-1)]))]) [0, 3, 1, 2] rfl
  have hD9 := hD.sub (ws' := [(h, .inr (7, [.ref dd, .ref bb, .ref ee])), (dd, .inr (0, [.ref da, .int 0, .int 0])), (ee, .inr (1, [.ref et, .ref em, .ref er, .ref el, .ref es, .null, .int 0, .int 0, .int 0])), (et, .inr (6, [.ref as_2, .ref at_2, .ref ap_2, .ref ai_2, .ref ar_2, .ref ao_2, .int 0, .int 0, .int 0, .int 8, .int (-1)]))]) [0, 3, 1, 2] (by decide) rfl
  have hK9 := hK.sub (tys' := []) [] rfl
  obtain ⟨sq, hsq⟩ := hE.1.2.1 rc_F 69 "the draft is no term, or the fuel is not 0 .. 12" k_475
  exact ex_throwNew (xN := iaN) (up := upN) (ic := 45) (inew := 41) (istr := 69) hx hb htr hown (by decide +kernel) (by decide +kernel) (fun U hU hW w9 hw => cx_say hts hE hS hU hW (List.all_eq_true.mp ca_rule1 w9 hw)) hsq (by rw [hml]; exact hl.1) d_F_expand_33 d_F_expand_36 d_F_expand_37 d_F_expand_39 d_F_expand_42 (fun x9 hx9 => hno x9 hx9 _) hlocks (by decide) (by decide) (by decide) (by decide) hS.2.2 (fun t9 ce o1 z1 e1 n1 a1 v1 w1 => px_of hP9 hK9 hD9 hS o1 z1 e1 n1 a1 v1 w1)
