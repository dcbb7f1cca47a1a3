set_option maxHeartbeats 4000000 in
set_option maxRecDepth 100000 in
/-- Rule(): its own empty terms, its kinds -/
theorem c_R_init (l : Launch) (D : va_G) (sz : Nat) (h : Nat) : Met l y_R_init (Cond.code y_R_init b_R_init 1 none :: wal) ({ frames := 11, cells := 8, slots := 349, locals := 180 }) (va_Pc [.ref h] (pr D sz [(h, .inr (4, [.null, .null, .int 0]))] [] (fun _ => True))) (va_Qv (S := Nat × Nat × ClassId × Nat × Nat × Nat × Nat × Nat × Nat × ClassId × ClassId × ClassId × ClassId × ClassId × ClassId) (fun u => True) (fun u t9 => po D (va_A ([(h, .inr (4, [.null, .null, .int 0]))]) sz) ((fun u => [(h, .inr (4, [.ref u.1, .ref u.2.1, .int 0])), (u.1, .inr (6, [.ref u.2.2.2.1, .ref u.2.2.2.2.1, .ref u.2.2.2.2.2.1, .ref u.2.2.2.2.2.2.1, .ref u.2.2.2.2.2.2.2.1, .ref u.2.2.2.2.2.2.2.2.1, .int 0, .int 0, .int 0, .int 0, .int 0])), (u.2.2.2.1, .inl (u.2.2.2.2.2.2.2.2.2.1, 60, .inl (fun _ => 0))), (u.2.2.2.2.1, .inl (u.2.2.2.2.2.2.2.2.2.2.1, 60, .inl (fun _ => 0))), (u.2.2.2.2.2.1, .inl (u.2.2.2.2.2.2.2.2.2.2.2.1, 60, .inl (fun _ => 0))), (u.2.2.2.2.2.2.1, .inl (u.2.2.2.2.2.2.2.2.2.2.2.2.1, 60, .inl (fun _ => 0))), (u.2.2.2.2.2.2.2.1, .inl (u.2.2.2.2.2.2.2.2.2.2.2.2.2.1, 60, .inl (fun _ => 0))), (u.2.2.2.2.2.2.2.2.1, .inl (u.2.2.2.2.2.2.2.2.2.2.2.2.2.2, 12, .inl (fun _ => 0))), (u.2.1, .inl (u.2.2.1, 26, .inl (fun _ => 0)))]) u) ((fun u => [(u.2.2.2.2.2.2.2.2.2.1, .char), (u.2.2.2.2.2.2.2.2.2.2.1, .int), (u.2.2.2.2.2.2.2.2.2.2.2.1, .int), (u.2.2.2.2.2.2.2.2.2.2.2.2.1, .int), (u.2.2.2.2.2.2.2.2.2.2.2.2.2.1, .boolean), (u.2.2.2.2.2.2.2.2.2.2.2.2.2.2, .int), (u.2.2.1, .int)]) u) t9) (va_A ([(h, .inr (4, [.null, .null, .int 0]))]) sz)) 8 349 (va_A ([(h, .inr (4, [.null, .null, .int 0]))]) sz) := by
  refine Met.ofW (cc := b_R_init) (maxL := 1) (ret := none) (by decide) rfl ?_
  intro p e s m args below meth c s₁ B hml hv
  obtain ⟨rfl, hsz, hP, hK, hD0, hE⟩ := hv
  have hx := B.exec
  have hb := B.bytes
  have hr := B.returns
  have hts0 := atoms_spec (ws := Cond.code y_R_init b_R_init 1 none :: wal) B.pre
  have hts : ∀ w ∈ wal, w.before _ s = true := fun w h => hts0 w (List.mem_cons_of_mem _ h)
  have hown : s.vm.findClass rc_R = some m.cls := findClass_of_methodNamed B.named
  have hlocks := B.notSynchronized
  have hin : meth.name = "<init>" := (name_of_methodNamed B.named B.method).1
  subst hsz
  have hD := hD0.self (sz := s.heap.size)
  generalize hAe : va_A ([(h, .inr (4, [.null, .null, .int 0]))]) s.heap.size = A at hD ⊢
  have hA : ∀ q : Nat, s.heap.size ≤ q → A q := fun q h => by rw [← hAe]; exact Or.inr h
  have hS : va_S A s.heap s.heap [] := va_S.rf
  have hl := lv_entry ([.ref h]) (n := 1) (Nat.le_of_ble_eq_true rfl)
  rw [lg_entry_eq]
  generalize (lg_sl ([.ref h]) ++ List.replicate (1 - (lg_sl ([.ref h])).length) Slot.unset).toArray = ls at hl ⊢
  have hl : lv_has ls 1 [(0, .ref h)] := hl
  refine lv_aload_n hx hb d_R_init_0 rfl (lv_at hl 0 rfl) ?_
  refine W.objInit hx hb hown (hts _ k_55) (hts _ k_24) (hts _ k_25) rfl (by rw [hml]; exact hl.1) rfl d_R_init_1 (Nat.le_of_ble_eq_true rfl) (Nat.le_of_ble_eq_true rfl) ?_
  refine W.eq (g2 := F0 m 4 ls []) rfl ?_
  refine lv_aload_n hx hb d_R_init_4 rfl (lv_at hl 0 rfl) ?_
  refine va_new (ci := 6) (fs := [.null, .null, .null, .null, .null, .null, .int 0, .int 0, .int 0, .int 0, .int 0]) (C := rc_T) (T := ft_T) (N := 11) hx hb hts in_T ty_T tk_T hown (hts _ k_56) (hts _ k_57) (hts _ k_5) hK hP hD hS hA rfl (fun j hj => by revert j; decide) (by decide) (by decide) d_R_init_5 (fun q1 H hP hD hS => ?_)
  have hP : va_P D wcl [(h, .inr (4, [.null, .null, .int 0])), (q1, .inr (6, [.null, .null, .null, .null, .null, .null, .int 0, .int 0, .int 0, .int 0, .int 0]))] H := hP
  have hD : va_D A [(h, .inr (4, [.null, .null, .int 0])), (q1, .inr (6, [.null, .null, .null, .null, .null, .null, .int 0, .int 0, .int 0, .int 0, .int 0]))] := hD
  refine W.widen (k := 1) (n := 11) (by decide) (by decide) ?_
  refine lv_dup hx hb d_R_init_8 rfl ?_
  refine lv_bipush (v := 60) hx hb d_R_init_9 (by decide) ?_
  refine cl_v (wc := [(q1, .inr (6, [.null, .null, .null, .null, .null, .null, .int 0, .int 0, .int 0, .int 0, .int 0]))]) (wr := [(h, .inr (4, [.null, .null, .int 0]))]) hP hD hK hS hA [1] [0] rfl rfl (by decide) (by decide) (va_runI (As := [.int 60]) (rest := [.ref q1, .ref h]) ⟨hx, hb, hml, hown, hts⟩ (c_T_init60 l D H.size q1) (cw_I hts 1 k_60 k_5 k_58 k_59 rfl (by decide +kernel) ⟨Nat.le_of_ble_eq_true rfl, Nat.le_of_ble_eq_true rfl⟩) (pr_S hP hD hK [1] [] (by decide) rfl rfl (fun U hU hW => trivial) (fun U g mk a h => h)) rfl rfl hl.1 rfl (lv_room (Nat.le_of_ble_eq_true rfl)) d_R_init_11 ⟨by decide, by decide⟩) (fun u H locs h2 hP hD hK hS => ?_)
  obtain ⟨as_, at_, ap_, ai_, ar_, ao_, cs_, ct_, cp_, ci_, cr_, co_⟩ := u
  have hP : va_P D wcl [(h, .inr (4, [.null, .null, .int 0])), (q1, .inr (6, [.ref as_, .ref at_, .ref ap_, .ref ai_, .ref ar_, .ref ao_, .int 0, .int 0, .int 0, .int 0, .int 0])), (as_, .inl (cs_, 60, .inl (fun _ => 0))), (at_, .inl (ct_, 60, .inl (fun _ => 0))), (ap_, .inl (cp_, 60, .inl (fun _ => 0))), (ai_, .inl (ci_, 60, .inl (fun _ => 0))), (ar_, .inl (cr_, 60, .inl (fun _ => 0))), (ao_, .inl (co_, 12, .inl (fun _ => 0)))] H := hP
  have hD : va_D A [(h, .inr (4, [.null, .null, .int 0])), (q1, .inr (6, [.ref as_, .ref at_, .ref ap_, .ref ai_, .ref ar_, .ref ao_, .int 0, .int 0, .int 0, .int 0, .int 0])), (as_, .inl (cs_, 60, .inl (fun _ => 0))), (at_, .inl (ct_, 60, .inl (fun _ => 0))), (ap_, .inl (cp_, 60, .inl (fun _ => 0))), (ai_, .inl (ci_, 60, .inl (fun _ => 0))), (ar_, .inl (cr_, 60, .inl (fun _ => 0))), (ao_, .inl (co_, 12, .inl (fun _ => 0)))] := hD
  have hK : va_K D wcl [(cs_, .char), (ct_, .int), (cp_, .int), (ci_, .int), (cr_, .boolean), (co_, .int)] s := hK
  refine W.widen (k := 7) (n := 323) (by decide) (by decide) ?_
  refine va_putF (D := D) (ci := 4) (v := .ref q1) (ty := .object "MacroForge$Terms") (C := rc_R) (T := ft_R) (N := 3) hx hb hts in_R ty_R tk_R nm_R hown hK hP hD hS 0 rfl rfl 0 (by decide) (hts _ k_98) (fun _ h9 => h9) rfl hin rfl (by decide +kernel) rfl rfl (Nat.le_of_ble_eq_true rfl) d_R_init_14 (fun H locs hP hD hS => ?_)
  have hP : va_P D wcl [(h, .inr (4, [.ref q1, .null, .int 0])), (q1, .inr (6, [.ref as_, .ref at_, .ref ap_, .ref ai_, .ref ar_, .ref ao_, .int 0, .int 0, .int 0, .int 0, .int 0])), (as_, .inl (cs_, 60, .inl (fun _ => 0))), (at_, .inl (ct_, 60, .inl (fun _ => 0))), (ap_, .inl (cp_, 60, .inl (fun _ => 0))), (ai_, .inl (ci_, 60, .inl (fun _ => 0))), (ar_, .inl (cr_, 60, .inl (fun _ => 0))), (ao_, .inl (co_, 12, .inl (fun _ => 0)))] H := hP
  have hD : va_D A [(h, .inr (4, [.ref q1, .null, .int 0])), (q1, .inr (6, [.ref as_, .ref at_, .ref ap_, .ref ai_, .ref ar_, .ref ao_, .int 0, .int 0, .int 0, .int 0, .int 0])), (as_, .inl (cs_, 60, .inl (fun _ => 0))), (at_, .inl (ct_, 60, .inl (fun _ => 0))), (ap_, .inl (cp_, 60, .inl (fun _ => 0))), (ai_, .inl (ci_, 60, .inl (fun _ => 0))), (ar_, .inl (cr_, 60, .inl (fun _ => 0))), (ao_, .inl (co_, 12, .inl (fun _ => 0)))] := hD
  refine lv_aload_n hx hb d_R_init_17 rfl (lv_at hl 0 rfl) ?_
  refine lv_bipush (v := 26) hx hb d_R_init_18 (by decide) ?_
  refine va_newa (atype := .int) (ty := .int) (N' := 26) (a0 := (26, .inl (fun _ => 0))) hx hb (hts _ k_96) rfl hK hP hD hS hA (fun cA => rfl) (by decide) (by decide) (by decide) (by decide) (by decide) d_R_init_20 (fun q3 cA4 H hK hP hD hS => ?_)
  have hP : va_P D wcl [(h, .inr (4, [.ref q1, .null, .int 0])), (q1, .inr (6, [.ref as_, .ref at_, .ref ap_, .ref ai_, .ref ar_, .ref ao_, .int 0, .int 0, .int 0, .int 0, .int 0])), (as_, .inl (cs_, 60, .inl (fun _ => 0))), (at_, .inl (ct_, 60, .inl (fun _ => 0))), (ap_, .inl (cp_, 60, .inl (fun _ => 0))), (ai_, .inl (ci_, 60, .inl (fun _ => 0))), (ar_, .inl (cr_, 60, .inl (fun _ => 0))), (ao_, .inl (co_, 12, .inl (fun _ => 0))), (q3, .inl (cA4, 26, .inl (fun _ => 0)))] H := hP
  have hD : va_D A [(h, .inr (4, [.ref q1, .null, .int 0])), (q1, .inr (6, [.ref as_, .ref at_, .ref ap_, .ref ai_, .ref ar_, .ref ao_, .int 0, .int 0, .int 0, .int 0, .int 0])), (as_, .inl (cs_, 60, .inl (fun _ => 0))), (at_, .inl (ct_, 60, .inl (fun _ => 0))), (ap_, .inl (cp_, 60, .inl (fun _ => 0))), (ai_, .inl (ci_, 60, .inl (fun _ => 0))), (ar_, .inl (cr_, 60, .inl (fun _ => 0))), (ao_, .inl (co_, 12, .inl (fun _ => 0))), (q3, .inl (cA4, 26, .inl (fun _ => 0)))] := hD
  have hK : va_K D wcl [(cs_, .char), (ct_, .int), (cp_, .int), (ci_, .int), (cr_, .boolean), (co_, .int), (cA4, .int)] s := hK
  refine W.widen (k := 8) (n := 349) (by decide) (by decide) ?_
  refine va_putF (D := D) (ci := 4) (v := .ref q3) (ty := .array .int) (C := rc_R) (T := ft_R) (N := 3) hx hb hts in_R ty_R tk_R nm_R hown hK hP hD hS 0 rfl rfl 1 (by decide) (hts _ k_99) (fun _ h9 => h9) rfl hin rfl (by decide +kernel) rfl rfl (Nat.le_of_ble_eq_true rfl) d_R_init_22 (fun H locs hP hD hS => ?_)
  have hP : va_P D wcl [(h, .inr (4, [.ref q1, .ref q3, .int 0])), (q1, .inr (6, [.ref as_, .ref at_, .ref ap_, .ref ai_, .ref ar_, .ref ao_, .int 0, .int 0, .int 0, .int 0, .int 0])), (as_, .inl (cs_, 60, .inl (fun _ => 0))), (at_, .inl (ct_, 60, .inl (fun _ => 0))), (ap_, .inl (cp_, 60, .inl (fun _ => 0))), (ai_, .inl (ci_, 60, .inl (fun _ => 0))), (ar_, .inl (cr_, 60, .inl (fun _ => 0))), (ao_, .inl (co_, 12, .inl (fun _ => 0))), (q3, .inl (cA4, 26, .inl (fun _ => 0)))] H := hP
  have hD : va_D A [(h, .inr (4, [.ref q1, .ref q3, .int 0])), (q1, .inr (6, [.ref as_, .ref at_, .ref ap_, .ref ai_, .ref ar_, .ref ao_, .int 0, .int 0, .int 0, .int 0, .int 0])), (as_, .inl (cs_, 60, .inl (fun _ => 0))), (at_, .inl (ct_, 60, .inl (fun _ => 0))), (ap_, .inl (cp_, 60, .inl (fun _ => 0))), (ai_, .inl (ci_, 60, .inl (fun _ => 0))), (ar_, .inl (cr_, 60, .inl (fun _ => 0))), (ao_, .inl (co_, 12, .inl (fun _ => 0))), (q3, .inl (cA4, 26, .inl (fun _ => 0)))] := hD
  have hP9 := hP.sub (ws' := [(h, .inr (4, [.ref q1, .ref q3, .int 0])), (q1, .inr (6, [.ref as_, .ref at_, .ref ap_, .ref ai_, .ref ar_, .ref ao_, .int 0, .int 0, .int 0, .int 0, .int 0])), (as_, .inl (cs_, 60, .inl (fun _ => 0))), (at_, .inl (ct_, 60, .inl (fun _ => 0))), (ap_, .inl (cp_, 60, .inl (fun _ => 0))), (ai_, .inl (ci_, 60, .inl (fun _ => 0))), (ar_, .inl (cr_, 60, .inl (fun _ => 0))), (ao_, .inl (co_, 12, .inl (fun _ => 0))), (q3, .inl (cA4, 26, .inl (fun _ => 0)))]) [0, 1, 2, 3, 4, 5, 6, 7, 8] rfl
  have hD9 := hD.sub (ws' := [(h, .inr (4, [.ref q1, .ref q3, .int 0])), (q1, .inr (6, [.ref as_, .ref at_, .ref ap_, .ref ai_, .ref ar_, .ref ao_, .int 0, .int 0, .int 0, .int 0, .int 0])), (as_, .inl (cs_, 60, .inl (fun _ => 0))), (at_, .inl (ct_, 60, .inl (fun _ => 0))), (ap_, .inl (cp_, 60, .inl (fun _ => 0))), (ai_, .inl (ci_, 60, .inl (fun _ => 0))), (ar_, .inl (cr_, 60, .inl (fun _ => 0))), (ao_, .inl (co_, 12, .inl (fun _ => 0))), (q3, .inl (cA4, 26, .inl (fun _ => 0)))]) [0, 1, 2, 3, 4, 5, 6, 7, 8] (by decide) rfl
  have hK9 := hK.sub (tys' := [(cs_, .char), (ct_, .int), (cp_, .int), (ci_, .int), (cr_, .boolean), (co_, .int), (cA4, .int)]) [0, 1, 2, 3, 4, 5, 6] rfl
  exact W.vret hx hb hr (fun t9 ht hW => ⟨⟨(q1, q3, cA4, as_, at_, ap_, ai_, ar_, ao_, cs_, ct_, cp_, ci_, cr_, co_), rfl, trivial, ⟨by rw [ht]; exact hP9, va_K.moved hW.alike hK9, hD9⟩⟩, hS.F ht⟩) hS.2.2 d_R_init_25

set_option maxHeartbeats 4000000 in
set_option maxRecDepth 100000 in
/-- Rule.hasMacro of an empty draft: no -/
theorem c_R_hasMacro0 (l : Launch) (D : va_G) (sz : Nat) (dd : Nat) (da : Nat) (dy : Int32) : Met l y_R_hasMacro (Cond.code y_R_hasMacro b_R_hasMacro 1 (some .boolean) :: wal) ({ frames := 11, cells := 0, slots := 0, locals := 180 }) (va_Pc [.ref dd] (pr D sz [(dd, .inr (0, [.ref da, .int 0, .int dy]))] [] (fun _ => True))) (va_Qi (S := Unit) (fun r u => r = 0) (fun u t9 => po D (va_A ([(dd, .inr (0, [.ref da, .int 0, .int dy]))]) sz) ((fun u => [(dd, .inr (0, [.ref da, .int 0, .int dy]))]) u) ((fun u => []) u) t9) (va_A ([(dd, .inr (0, [.ref da, .int 0, .int dy]))]) sz)) 0 0 (va_A ([(dd, .inr (0, [.ref da, .int 0, .int dy]))]) sz) := by
  refine Met.ofW (cc := b_R_hasMacro) (maxL := 1) (ret := (some .boolean)) (by decide) rfl ?_
  intro p e s m args below meth c s₁ B hml hv
  obtain ⟨rfl, hsz, hP, hK, hD0, hE⟩ := hv
  have hx := B.exec
  have hb := B.bytes
  have hr := B.returns
  have hts0 := atoms_spec (ws := Cond.code y_R_hasMacro b_R_hasMacro 1 (some .boolean) :: wal) B.pre
  have hts : ∀ w ∈ wal, w.before _ s = true := fun w h => hts0 w (List.mem_cons_of_mem _ h)
  have hown : s.vm.findClass rc_R = some m.cls := findClass_of_methodNamed B.named
  have hlocks := B.notSynchronized
  subst hsz
  have hD := hD0.self (sz := s.heap.size)
  generalize hAe : va_A ([(dd, .inr (0, [.ref da, .int 0, .int dy]))]) s.heap.size = A at hD ⊢
  have hA : ∀ q : Nat, s.heap.size ≤ q → A q := fun q h => by rw [← hAe]; exact Or.inr h
  have hS : va_S A s.heap s.heap [] := va_S.rf
  have hl := lv_entry ([.ref dd]) (n := 1) (Nat.le_of_ble_eq_true rfl)
  rw [lg_entry_eq]
  generalize (lg_sl ([.ref dd]) ++ List.replicate (1 - (lg_sl ([.ref dd])).length) Slot.unset).toArray = ls at hl ⊢
  have hl : lv_has ls 1 [(0, .ref dd)] := hl
  refine lv_aload_n hx hb d_R_hasMacro_0 rfl (lv_at hl 0 rfl) ?_
  refine lv_iconst (v := 0) hx hb d_R_hasMacro_1 (by decide) ?_
  refine cl_i (wc := [(dd, .inr (0, [.ref da, .int 0, .int dy]))]) (wr := []) hP hD hK hS hA [0] [] rfl rfl (by decide) (by decide) (va_runV (As := [.int 0]) (rest := []) ⟨hx, hb, hml, hown, hts⟩ (c_D_at0 l D s.heap.size dd da dy 0) (cw_V hts 1 k_286 k_2 k_283 k_284 k_285 (by decide +kernel) ⟨Nat.le_of_ble_eq_true rfl, Nat.le_of_ble_eq_true rfl⟩) (pr_V hP hD hK [0] [] (by decide) rfl rfl (fun U hU hW => trivial) (fun U g mk a h => h) (q0 := 0) (ci := 0) rfl rfl) rfl rfl hl.1 rfl (lv_room (Nat.le_of_ble_eq_true rfl)) d_R_hasMacro_2 ⟨by decide, by decide⟩) (fun r2 u H locs h1 hP hD hK hS => ?_)
  have hP : va_P D wcl [(dd, .inr (0, [.ref da, .int 0, .int dy]))] H := hP
  have hD : va_D A [(dd, .inr (0, [.ref da, .int 0, .int dy]))] := hD
  have hK : va_K D wcl [] s := hK
  have h1 : r2 = 32 := h1
  subst h1
  refine lv_bipush (v := 40) hx hb d_R_hasMacro_5 (by decide) ?_
  refine lv_icmp_ne (tgt := 35) hx hb d_R_hasMacro_7 (by decide) (fun _ => ?_) (fun h9 => absurd h9 (by decide))
  refine lv_iconst (v := 0) hx hb d_R_hasMacro_35 (by decide) ?_
  have hP9 := hP.sub (ws' := [(dd, .inr (0, [.ref da, .int 0, .int dy]))]) [0] rfl
  have hD9 := hD.sub (ws' := [(dd, .inr (0, [.ref da, .int 0, .int dy]))]) [0] (by decide) rfl
  have hK9 := hK.sub (tys' := []) [] rfl
  exact W.zret (v := 0) hx hb hr (by decide) (fun t9 ht hW => ⟨⟨0, (), rfl, rfl, ⟨by rw [ht]; exact hP9, va_K.moved hW.alike hK9, hD9⟩⟩, hS.F ht⟩) hS.2.2 d_R_hasMacro_36

set_option maxHeartbeats 4000000 in
set_option maxRecDepth 100000 in
/-- Rule.read of an empty draft: no rule -/
theorem c_R_read0 (l : Launch) (D : va_G) (sz : Nat) (h : Nat) (tt : Nat) (kn : Nat) (tm : Int32) (as_ : Nat) (at_ : Nat) (ap_ : Nat) (ai_ : Nat) (ar_ : Nat) (ao_ : Nat) (x1 : Int32) (x2 : Int32) (x3 : Int32) (x4 : Int32) (x5 : Int32) (dd : Nat) (da : Nat) (dy : Int32) : Met l y_R_read (Cond.code y_R_read b_R_read 3 (some .boolean) :: wal) ({ frames := 12, cells := 0, slots := 0, locals := 240 }) (va_Pc [.ref h, .ref dd] (pr D sz [(h, .inr (4, [.ref tt, .ref kn, .int tm])), (tt, .inr (6, [.ref as_, .ref at_, .ref ap_, .ref ai_, .ref ar_, .ref ao_, .int x1, .int x2, .int x3, .int x4, .int x5])), (dd, .inr (0, [.ref da, .int 0, .int dy]))] [] (fun _ => True))) (va_Qi (S := Unit) (fun r u => r = 0) (fun u t9 => po D (va_A ([(h, .inr (4, [.ref tt, .ref kn, .int tm])), (tt, .inr (6, [.ref as_, .ref at_, .ref ap_, .ref ai_, .ref ar_, .ref ao_, .int x1, .int x2, .int x3, .int x4, .int x5])), (dd, .inr (0, [.ref da, .int 0, .int dy]))]) sz) ((fun u => [(h, .inr (4, [.ref tt, .ref kn, .int tm])), (tt, .inr (6, [.ref as_, .ref at_, .ref ap_, .ref ai_, .ref ar_, .ref ao_, .int 0, .int x2, .int x3, .int x4, .int x5])), (dd, .inr (0, [.ref da, .int 0, .int dy]))]) u) ((fun u => []) u) t9) (va_A ([(h, .inr (4, [.ref tt, .ref kn, .int tm])), (tt, .inr (6, [.ref as_, .ref at_, .ref ap_, .ref ai_, .ref ar_, .ref ao_, .int x1, .int x2, .int x3, .int x4, .int x5])), (dd, .inr (0, [.ref da, .int 0, .int dy]))]) sz)) 0 0 (va_A ([(h, .inr (4, [.ref tt, .ref kn, .int tm])), (tt, .inr (6, [.ref as_, .ref at_, .ref ap_, .ref ai_, .ref ar_, .ref ao_, .int x1, .int x2, .int x3, .int x4, .int x5])), (dd, .inr (0, [.ref da, .int 0, .int dy]))]) sz) := by
  refine Met.ofW (cc := b_R_read) (maxL := 3) (ret := (some .boolean)) (by decide) rfl ?_
  intro p e s m args below meth c s₁ B hml hv
  obtain ⟨rfl, hsz, hP, hK, hD0, hE⟩ := hv
  have hx := B.exec
  have hb := B.bytes
  have hr := B.returns
  have hts0 := atoms_spec (ws := Cond.code y_R_read b_R_read 3 (some .boolean) :: wal) B.pre
  have hts : ∀ w ∈ wal, w.before _ s = true := fun w h => hts0 w (List.mem_cons_of_mem _ h)
  have hown : s.vm.findClass rc_R = some m.cls := findClass_of_methodNamed B.named
  have hlocks := B.notSynchronized
  subst hsz
  have hD := hD0.self (sz := s.heap.size)
  generalize hAe : va_A ([(h, .inr (4, [.ref tt, .ref kn, .int tm])), (tt, .inr (6, [.ref as_, .ref at_, .ref ap_, .ref ai_, .ref ar_, .ref ao_, .int x1, .int x2, .int x3, .int x4, .int x5])), (dd, .inr (0, [.ref da, .int 0, .int dy]))]) s.heap.size = A at hD ⊢
  have hA : ∀ q : Nat, s.heap.size ≤ q → A q := fun q h => by rw [← hAe]; exact Or.inr h
  have hS : va_S A s.heap s.heap [] := va_S.rf
  have hl := lv_entry ([.ref h, .ref dd]) (n := 3) (Nat.le_of_ble_eq_true rfl)
  rw [lg_entry_eq]
  generalize (lg_sl ([.ref h, .ref dd]) ++ List.replicate (3 - (lg_sl ([.ref h, .ref dd])).length) Slot.unset).toArray = ls at hl ⊢
  have hl : lv_has ls 3 [(0, .ref h), (1, .ref dd)] := hl
  refine lv_aload_n hx hb d_R_read_0 rfl (lv_at hl 1 rfl) ?_
  refine lv_bipush (v := 61) hx hb d_R_read_1 (by decide) ?_
  refine cl_i (wc := [(dd, .inr (0, [.ref da, .int 0, .int dy]))]) (wr := [(h, .inr (4, [.ref tt, .ref kn, .int tm])), (tt, .inr (6, [.ref as_, .ref at_, .ref ap_, .ref ai_, .ref ar_, .ref ao_, .int x1, .int x2, .int x3, .int x4, .int x5]))]) hP hD hK hS hA [2] [0, 1] rfl rfl (by decide) (by decide) (va_runV (As := [.int 61]) (rest := []) ⟨hx, hb, hml, hown, hts⟩ (c_D_find0 l D s.heap.size dd da dy 61) (cw_V hts 1 k_275 k_2 k_272 k_273 k_274 (by decide +kernel) ⟨Nat.le_of_ble_eq_true rfl, Nat.le_of_ble_eq_true rfl⟩) (pr_V hP hD hK [2] [] (by decide) rfl rfl (fun U hU hW => trivial) (fun U g mk a h => h) (q0 := 2) (ci := 0) rfl rfl) rfl rfl hl.1 rfl (lv_room (Nat.le_of_ble_eq_true rfl)) d_R_read_3 ⟨by decide, by decide⟩) (fun r2 u H locs h1 hP hD hK hS => ?_)
  have hP : va_P D wcl [(h, .inr (4, [.ref tt, .ref kn, .int tm])), (tt, .inr (6, [.ref as_, .ref at_, .ref ap_, .ref ai_, .ref ar_, .ref ao_, .int x1, .int x2, .int x3, .int x4, .int x5])), (dd, .inr (0, [.ref da, .int 0, .int dy]))] H := hP
  have hD : va_D A [(h, .inr (4, [.ref tt, .ref kn, .int tm])), (tt, .inr (6, [.ref as_, .ref at_, .ref ap_, .ref ai_, .ref ar_, .ref ao_, .int x1, .int x2, .int x3, .int x4, .int x5])), (dd, .inr (0, [.ref da, .int 0, .int dy]))] := hD
  have hK : va_K D wcl [] s := hK
  have h1 : r2 = 0 := h1
  refine lv_istore_n hx hb d_R_read_6 rfl hl (by decide) rfl (fun ls hl => ?_)
  have hl : lv_has ls 3 [(2, .int r2), (0, .ref h), (1, .ref dd)] := hl
  refine lv_aload_n hx hb d_R_read_7 rfl (lv_at hl 1 rfl) ?_
  refine va_get (D := D) (ci := 4) (v := .ref tt) (C := rc_R) (T := ft_R) (N := 3) hx hb hts in_R hown hK hP 0 rfl rfl 0 (by decide) (hts _ k_98) (fun _ h9 => h9) rfl d_R_read_8 ?_
  refine cl_v (wc := [(tt, .inr (6, [.ref as_, .ref at_, .ref ap_, .ref ai_, .ref ar_, .ref ao_, .int x1, .int x2, .int x3, .int x4, .int x5]))]) (wr := [(h, .inr (4, [.ref tt, .ref kn, .int tm])), (dd, .inr (0, [.ref da, .int 0, .int dy]))]) hP hD hK hS hA [1] [0, 2] rfl rfl (by decide) (by decide) (va_runV (As := []) (rest := []) ⟨hx, hb, hml, hown, hts⟩ (c_T_clear l D H.size tt as_ at_ ap_ ai_ ar_ ao_ x1 x2 x3 x4 x5) (cw_V hts 0 k_279 k_5 k_276 k_277 k_278 (by decide +kernel) ⟨Nat.le_of_ble_eq_true rfl, Nat.le_of_ble_eq_true rfl⟩) (pr_V hP hD hK [1] [] (by decide) rfl rfl (fun U hU hW => trivial) (fun U g mk a h => h) (q0 := 1) (ci := 6) rfl rfl) rfl rfl hl.1 rfl (lv_room (Nat.le_of_ble_eq_true rfl)) d_R_read_11 ⟨by decide, by decide⟩) (fun u H locs h3 hP hD hK hS => ?_)
  have hP : va_P D wcl [(h, .inr (4, [.ref tt, .ref kn, .int tm])), (dd, .inr (0, [.ref da, .int 0, .int dy])), (tt, .inr (6, [.ref as_, .ref at_, .ref ap_, .ref ai_, .ref ar_, .ref ao_, .int 0, .int x2, .int x3, .int x4, .int x5]))] H := hP
  have hD : va_D A [(h, .inr (4, [.ref tt, .ref kn, .int tm])), (dd, .inr (0, [.ref da, .int 0, .int dy])), (tt, .inr (6, [.ref as_, .ref at_, .ref ap_, .ref ai_, .ref ar_, .ref ao_, .int 0, .int x2, .int x3, .int x4, .int x5]))] := hD
  have hK : va_K D wcl [] s := hK
  refine lv_aload_n hx hb d_R_read_14 rfl (lv_at hl 2 rfl) ?_
  refine cl_i (wc := [(dd, .inr (0, [.ref da, .int 0, .int dy]))]) (wr := [(h, .inr (4, [.ref tt, .ref kn, .int tm])), (tt, .inr (6, [.ref as_, .ref at_, .ref ap_, .ref ai_, .ref ar_, .ref ao_, .int 0, .int x2, .int x3, .int x4, .int x5]))]) hP hD hK hS hA [1] [0, 2] rfl rfl (by decide) (by decide) (va_runS (As := [.ref dd]) (rest := []) ⟨hx, hb, hml, hown, hts⟩ (c_R_hasMacro0 l D H.size dd da dy) (cw_S hts 1 k_282 k_4 k_280 k_281 (by decide +kernel) ⟨Nat.le_of_ble_eq_true rfl, Nat.le_of_ble_eq_true rfl⟩) (pr_S hP hD hK [1] [] (by decide) rfl rfl (fun U hU hW => trivial) (fun U g mk a h => h)) rfl rfl hl.1 rfl (lv_room (Nat.le_of_ble_eq_true rfl)) d_R_read_15 ⟨by decide, by decide⟩) (fun r5 u H locs h4 hP hD hK hS => ?_)
  have hP : va_P D wcl [(h, .inr (4, [.ref tt, .ref kn, .int tm])), (tt, .inr (6, [.ref as_, .ref at_, .ref ap_, .ref ai_, .ref ar_, .ref ao_, .int 0, .int x2, .int x3, .int x4, .int x5])), (dd, .inr (0, [.ref da, .int 0, .int dy]))] H := hP
  have hD : va_D A [(h, .inr (4, [.ref tt, .ref kn, .int tm])), (tt, .inr (6, [.ref as_, .ref at_, .ref ap_, .ref ai_, .ref ar_, .ref ao_, .int 0, .int x2, .int x3, .int x4, .int x5])), (dd, .inr (0, [.ref da, .int 0, .int dy]))] := hD
  have hK : va_K D wcl [] s := hK
  have h4 : r5 = 0 := h4
  refine lv_if_eq (tgt := 50) hx hb d_R_read_18 (by decide) (fun _ => ?_) (fun h9 => absurd (h4) h9)
  refine lv_iconst (v := 0) hx hb d_R_read_50 (by decide) ?_
  have hP9 := hP.sub (ws' := [(h, .inr (4, [.ref tt, .ref kn, .int tm])), (tt, .inr (6, [.ref as_, .ref at_, .ref ap_, .ref ai_, .ref ar_, .ref ao_, .int 0, .int x2, .int x3, .int x4, .int x5])), (dd, .inr (0, [.ref da, .int 0, .int dy]))]) [0, 1, 2] rfl
  have hD9 := hD.sub (ws' := [(h, .inr (4, [.ref tt, .ref kn, .int tm])), (tt, .inr (6, [.ref as_, .ref at_, .ref ap_, .ref ai_, .ref ar_, .ref ao_, .int 0, .int x2, .int x3, .int x4, .int x5])), (dd, .inr (0, [.ref da, .int 0, .int dy]))]) [0, 1, 2] (by decide) rfl
  have hK9 := hK.sub (tys' := []) [] rfl
  exact W.zret (v := 0) hx hb hr (by decide) (fun t9 ht hW => ⟨⟨0, (), rfl, rfl, ⟨by rw [ht]; exact hP9, va_K.moved hW.alike hK9, hD9⟩⟩, hS.F ht⟩) hS.2.2 d_R_read_51
