set_option maxHeartbeats 4000000 in
set_option maxRecDepth 100000 in
theorem a_addVariable (l : Launch) (D : va_G) (sz : Nat) (g : Nat) (ad : Nat → Nat) (ca : Nat → ClassId) (F : Nat) (gs : OS) (a1 : Int32) (r0 : Int32) (gf : OS) (hok : rf_addVariable F gs a1 = some (r0, gf)) : Met l y_O_addVariable (Cond.code y_O_addVariable b_O_addVariable 3 (some .boolean) :: wal) ({ frames := 11, cells := 0, slots := 0, locals := 180 }) (va_Pc [.ref g, .int a1] (pr D sz (MO g ad ca gs) (MT ca) (fun _ => True))) (va_Qi (S := Unit) (fun r u => r0 = r) (fun u t9 => po D (va_A (MO g ad ca gs) sz) ((fun u => (MO g ad ca gf)) u) ((fun u => []) u) t9) (va_A (MO g ad ca gs) sz)) 0 0 (va_A (MO g ad ca gs) sz) := by
  refine Met.ofW (cc := b_O_addVariable) (maxL := 3) (ret := (some .boolean)) (by decide) rfl ?_
  intro p e s m args below meth c s₁ B hml hv
  obtain ⟨rfl, hsz, hP, hK, hD0, hE⟩ := hv
  have hx := B.exec
  have hb := B.bytes
  have hr := B.returns
  have hts0 := atoms_spec (ws := Cond.code y_O_addVariable b_O_addVariable 3 (some .boolean) :: wal) B.pre
  have hts : ∀ w ∈ wal, w.before _ s = true := fun w h => hts0 w (List.mem_cons_of_mem _ h)
  have hown : s.vm.findClass rc_O = some m.cls := findClass_of_methodNamed B.named
  have hlocks := B.notSynchronized
  subst hsz
  have hD := hD0.self (sz := s.heap.size)
  generalize hAe : va_A (MO g ad ca gs) s.heap.size = A at hD ⊢
  have hA : ∀ q : Nat, s.heap.size ≤ q → A q := fun q h => by rw [← hAe]; exact Or.inr h
  have hS : va_S A s.heap s.heap [] := va_S.rf
  have hl := lv_entry ([.ref g, .int a1]) (n := 3) (Nat.le_of_ble_eq_true rfl)
  rw [lg_entry_eq]
  generalize (lg_sl ([.ref g, .int a1]) ++ List.replicate (3 - (lg_sl ([.ref g, .int a1])).length) Slot.unset).toArray = ls at hl ⊢
  have hl : lv_has ls 3 [(0, .ref g), (1, .int a1)] := hl
  refine lv_iconst (v := 1) hx hb d_O_addVariable_0 (by decide) ?_
  refine lv_aload_n hx hb d_O_addVariable_1 rfl (lv_at hl 0 rfl) ?_
  refine va_get (D := D) (ci := 8) (v := .ref (ad 4)) (C := rc_O) (T := ft_O) (N := 42) hx hb hts in_O hown hK hP 0 rfl rfl 4 (by decide) (hts _ k_659) (fun _ h9 => h9) rfl d_O_addVariable_2 ?_
  refine lv_iload_n hx hb d_O_addVariable_5 rfl (lv_at hl 1 rfl) ?_
  have hi1 := (gd_ok hok).1
  replace hok := (gd_ok hok).2
  refine va_iald hx hb hK hP 2 1 rfl rfl (hi1) d_O_addVariable_6 ?_
  replace hok := bd_ok hok
  obtain ⟨r2, gs3, hc4, hok⟩ := hok
  refine cl_i (wc := (MO g ad ca gs)) (wr := []) hP hD hK hS hA [0, 1, 2, 3, 4, 5, 6, 7, 8, 9, 10, 11, 12, 13, 14, 15, 16, 17, 18, 19, 20] [] rfl rfl (by decide) (by decide) (va_runS (As := [.int ((gs.2 4) a1.toNatClampNeg)]) (rest := [.int 1]) ⟨hx, hb, hml, hown, hts⟩ (a_letterOf l D s.heap.size g ad ca F gs ((gs.2 4) a1.toNatClampNeg) r2 gs3 hc4) (cw_S hts 1 k_830 k_9 k_828 k_829 (by decide +kernel) ⟨Nat.le_of_ble_eq_true rfl, Nat.le_of_ble_eq_true rfl⟩) (pr_S hP hD hK [0, 1, 2, 3, 4, 5, 6, 7, 8, 9, 10, 11, 12, 13, 14, 15, 16, 17, 18, 19, 20] [0, 1, 2, 3, 4, 5, 6, 7, 8, 9, 10, 11, 12, 13, 14, 15, 16, 17, 18, 19] (by decide) rfl rfl (fun U hU hW => trivial) (fun U g mk a h => h)) rfl rfl hl.1 rfl (lv_room (Nat.le_of_ble_eq_true rfl)) d_O_addVariable_7 ⟨by decide, by decide⟩) (fun v6 u H locs h5 hP hD hK hS => ?_)
  have hP : va_P D wcl (MO g ad ca gs3) H := hP
  have hD : va_D A (MO g ad ca gs3) := hD
  have hK : va_K D wcl (MT ca) s := hK
  have h5 : r2 = v6 := h5
  subst h5
  refine lv_ishl hx hb d_O_addVariable_10 ?_
  refine lv_istore_n hx hb d_O_addVariable_11 rfl hl (by decide) rfl (fun ls hl => ?_)
  have hl : lv_has ls 3 [(2, .int ((1 : Int32) <<< (r2 &&& 31))), (0, .ref g), (1, .int a1)] := hl
  refine lv_aload_n hx hb d_O_addVariable_12 rfl (lv_at hl 1 rfl) ?_
  refine va_get (D := D) (ci := 8) (v := .int (gs3.1 18)) (C := rc_O) (T := ft_O) (N := 42) hx hb hts in_O hown hK hP 0 rfl rfl 18 (by decide) (hts _ k_673) (fun _ h9 => h9) rfl d_O_addVariable_13 ?_
  refine lv_iload_n hx hb d_O_addVariable_16 rfl (lv_at hl 0 rfl) ?_
  refine lv_iand hx hb d_O_addVariable_17 ?_
  refine lv_if_eq (tgt := 23) hx hb d_O_addVariable_18 (by decide) (fun h7 => ?_) (fun h7 => ?_)
  · replace hok := ci_t h7 hok
    refine lv_aload_n hx hb d_O_addVariable_23 rfl (lv_at hl 1 rfl) ?_
    refine lv_dup hx hb d_O_addVariable_24 rfl ?_
    refine va_get (D := D) (ci := 8) (v := .int (gs3.1 18)) (C := rc_O) (T := ft_O) (N := 42) hx hb hts in_O hown hK hP 0 rfl rfl 18 (by decide) (hts _ k_673) (fun _ h9 => h9) rfl d_O_addVariable_25 ?_
    refine lv_iload_n hx hb d_O_addVariable_28 rfl (lv_at hl 0 rfl) ?_
    refine lv_ior hx hb d_O_addVariable_29 ?_
    refine va_put (D := D) (ci := 8) (v := .int ((gs3.1 18) ||| ((1 : Int32) <<< (r2 &&& 31)))) (ty := .int) (C := rc_O) (T := ft_O) (N := 42) hx hb hts in_O ty_O tk_O nm_O hown hK hP hD hS 0 rfl rfl 18 (by decide) (hts _ k_673) (fun _ h9 => h9) rfl (by decide +kernel) rfl rfl (Nat.le_of_ble_eq_true rfl) d_O_addVariable_30 (fun H locs hP hD hS => ?_)
    have hP : va_P D wcl (MO g ad ca (sI gs3 18 ((gs3.1 18) ||| ((1 : Int32) <<< (r2 &&& 31))))) H := hP
    have hD : va_D A (MO g ad ca (sI gs3 18 ((gs3.1 18) ||| ((1 : Int32) <<< (r2 &&& 31))))) := hD
    refine lv_aload_n hx hb d_O_addVariable_33 rfl (lv_at hl 1 rfl) ?_
    refine lv_iload_n hx hb d_O_addVariable_34 rfl (lv_at hl 2 rfl) ?_
    replace hok := bd_ok hok
    obtain ⟨r8, gs9, hc10, hok⟩ := hok
    refine cl_v (wc := (MO g ad ca (sI gs3 18 ((gs3.1 18) ||| ((1 : Int32) <<< (r2 &&& 31)))))) (wr := []) hP hD hK hS hA [0, 1, 2, 3, 4, 5, 6, 7, 8, 9, 10, 11, 12, 13, 14, 15, 16, 17, 18, 19, 20] [] rfl rfl (by decide) (by decide) (va_runV (As := [.int a1]) (rest := []) ⟨hx, hb, hml, hown, hts⟩ (a_setItem l D H.size g ad ca F (sI gs3 18 ((gs3.1 18) ||| ((1 : Int32) <<< (r2 &&& 31)))) a1 r8 gs9 hc10) (cw_V hts 1 k_834 k_9 k_831 k_833 sel_O_setItem (by decide +kernel) ⟨Nat.le_of_ble_eq_true rfl, Nat.le_of_ble_eq_true rfl⟩) (pr_V hP hD hK [0, 1, 2, 3, 4, 5, 6, 7, 8, 9, 10, 11, 12, 13, 14, 15, 16, 17, 18, 19, 20] [0, 1, 2, 3, 4, 5, 6, 7, 8, 9, 10, 11, 12, 13, 14, 15, 16, 17, 18, 19] (by decide) rfl rfl (fun U hU hW => trivial) (fun U g mk a h => h) (q0 := 0) (ci := 8) rfl rfl) rfl rfl hl.1 rfl (lv_room (Nat.le_of_ble_eq_true rfl)) d_O_addVariable_35 ⟨by decide, by decide⟩) (fun u H locs h11 hP hD hK hS => ?_)
    have hP : va_P D wcl (MO g ad ca gs9) H := hP
    have hD : va_D A (MO g ad ca gs9) := hD
    have hK : va_K D wcl (MT ca) s := hK
    refine lv_iconst (v := 1) hx hb d_O_addVariable_38 (by decide) ?_
    obtain ⟨e8, e9⟩ := rt_ok hok
    rw [e9] at hP hD
    have hK9 := hK.sub (tys' := []) [] rfl
    exact W.zret (v := 1) hx hb hr (rfl) (fun t9 ht hW => ⟨⟨1, (), rfl, e8, ⟨by rw [ht]; exact hP, va_K.moved hW.alike hK9, hD⟩⟩, hS.F ht⟩) hS.2.2 d_O_addVariable_39
  · replace hok := ci_f h7 hok
    refine lv_iconst (v := 0) hx hb d_O_addVariable_21 (by decide) ?_
    obtain ⟨e8, e9⟩ := rt_ok hok
    rw [e9] at hP hD
    have hK9 := hK.sub (tys' := []) [] rfl
    exact W.zret (v := 0) hx hb hr (rfl) (fun t9 ht hW => ⟨⟨0, (), rfl, e8, ⟨by rw [ht]; exact hP, va_K.moved hW.alike hK9, hD⟩⟩, hS.F ht⟩) hS.2.2 d_O_addVariable_22

set_option maxHeartbeats 4000000 in
set_option maxRecDepth 100000 in
theorem a_closeRow (l : Launch) (D : va_G) (sz : Nat) (g : Nat) (ad : Nat → Nat) (ca : Nat → ClassId) (F : Nat) (gs : OS) (r0 : Int32) (gf : OS) (hok : rf_closeRow F gs = some (r0, gf)) : Met l y_O_closeRow (Cond.code y_O_closeRow b_O_closeRow 1 none :: wal) ({ frames := 11, cells := 0, slots := 0, locals := 180 }) (va_Pc [.ref g] (pr D sz (MO g ad ca gs) (MT ca) (fun _ => True))) (va_Qv (S := Unit) (fun u => True) (fun u t9 => po D (va_A (MO g ad ca gs) sz) ((fun u => (MO g ad ca gf)) u) ((fun u => []) u) t9) (va_A (MO g ad ca gs) sz)) 0 0 (va_A (MO g ad ca gs) sz) := by
  refine Met.ofW (cc := b_O_closeRow) (maxL := 1) (ret := none) (by decide) rfl ?_
  intro p e s m args below meth c s₁ B hml hv
  obtain ⟨rfl, hsz, hP, hK, hD0, hE⟩ := hv
  have hx := B.exec
  have hb := B.bytes
  have hr := B.returns
  have hts0 := atoms_spec (ws := Cond.code y_O_closeRow b_O_closeRow 1 none :: wal) B.pre
  have hts : ∀ w ∈ wal, w.before _ s = true := fun w h => hts0 w (List.mem_cons_of_mem _ h)
  have hown : s.vm.findClass rc_O = some m.cls := findClass_of_methodNamed B.named
  have hlocks := B.notSynchronized
  subst hsz
  have hD := hD0.self (sz := s.heap.size)
  generalize hAe : va_A (MO g ad ca gs) s.heap.size = A at hD ⊢
  have hA : ∀ q : Nat, s.heap.size ≤ q → A q := fun q h => by rw [← hAe]; exact Or.inr h
  have hS : va_S A s.heap s.heap [] := va_S.rf
  have hl := lv_entry ([.ref g]) (n := 1) (Nat.le_of_ble_eq_true rfl)
  rw [lg_entry_eq]
  generalize (lg_sl ([.ref g]) ++ List.replicate (1 - (lg_sl ([.ref g])).length) Slot.unset).toArray = ls at hl ⊢
  have hl : lv_has ls 1 [(0, .ref g)] := hl
  have j37 : ∀ (gs : OS)  (H : Heap) (locs : List Loc) (ls : Array Slot), rf_closeRow_37 F gs = some (r0, gf) → va_P D wcl (MO g ad ca gs) H → va_D A (MO g ad ca gs) → va_S A s.heap H locs → lv_has ls 1 [(0, .ref g)] → W p l e (headSpec (Cond.code y_O_closeRow b_O_closeRow 1 none :: wal) ({ frames := 11, cells := 0, slots := 0, locals := 180 })).room s m ([.ref g] : List Value).toArray below meth c H locs 0 0 (MQ below (va_Qv (S := Unit) (fun u => True) (fun u t9 => po D (A) ((fun u => (MO g ad ca gf)) u) ((fun u => []) u) t9) (A)) ([.ref g] : List Value).toArray s 0 0 A) (F0 m 37 ls []) := by
    intro gs  H locs ls hok hP hD hS hl
    rw [rf_closeRow_37] at hok
    refine lv_aload_n hx hb d_O_closeRow_37 rfl (lv_at hl 0 rfl) ?_
    refine lv_dup hx hb d_O_closeRow_38 rfl ?_
    refine va_get (D := D) (ci := 8) (v := .int (gs.1 36)) (C := rc_O) (T := ft_O) (N := 42) hx hb hts in_O hown hK hP 0 rfl rfl 36 (by decide) (hts _ k_691) (fun _ h9 => h9) rfl d_O_closeRow_39 ?_
    refine lv_iconst (v := 1) hx hb d_O_closeRow_42 (by decide) ?_
    refine lv_iadd hx hb d_O_closeRow_43 ?_
    refine va_put (D := D) (ci := 8) (v := .int ((gs.1 36) + 1)) (ty := .int) (C := rc_O) (T := ft_O) (N := 42) hx hb hts in_O ty_O tk_O nm_O hown hK hP hD hS 0 rfl rfl 36 (by decide) (hts _ k_691) (fun _ h9 => h9) rfl (by decide +kernel) rfl rfl (Nat.le_of_ble_eq_true rfl) d_O_closeRow_44 (fun H locs hP hD hS => ?_)
    have hP : va_P D wcl (MO g ad ca (sI gs 36 ((gs.1 36) + 1))) H := hP
    have hD : va_D A (MO g ad ca (sI gs 36 ((gs.1 36) + 1))) := hD
    obtain ⟨e8, e9⟩ := rt_ok hok
    rw [e9] at hP hD
    have hK9 := hK.sub (tys' := []) [] rfl
    exact W.vret hx hb hr (fun t9 ht hW => ⟨⟨(), rfl, trivial, ⟨by rw [ht]; exact hP, va_K.moved hW.alike hK9, hD⟩⟩, hS.F ht⟩) hS.2.2 d_O_closeRow_47
  refine lv_aload_n hx hb d_O_closeRow_0 rfl (lv_at hl 0 rfl) ?_
  refine lv_iconst (v := 2) hx hb d_O_closeRow_1 (by decide) ?_
  replace hok := bd_ok hok
  obtain ⟨r1, gs2, hc3, hok⟩ := hok
  refine cl_v (wc := (MO g ad ca gs)) (wr := []) hP hD hK hS hA [0, 1, 2, 3, 4, 5, 6, 7, 8, 9, 10, 11, 12, 13, 14, 15, 16, 17, 18, 19, 20] [] rfl rfl (by decide) (by decide) (va_runV (As := [.int 2]) (rest := []) ⟨hx, hb, hml, hown, hts⟩ (a_put l D s.heap.size g ad ca F gs 2 r1 gs2 hc3) (cw_V hts 1 k_900 k_9 k_897 k_899 sel_O_put (by decide +kernel) ⟨Nat.le_of_ble_eq_true rfl, Nat.le_of_ble_eq_true rfl⟩) (pr_V hP hD hK [0, 1, 2, 3, 4, 5, 6, 7, 8, 9, 10, 11, 12, 13, 14, 15, 16, 17, 18, 19, 20] [0, 1, 2, 3, 4, 5, 6, 7, 8, 9, 10, 11, 12, 13, 14, 15, 16, 17, 18, 19] (by decide) rfl rfl (fun U hU hW => trivial) (fun U g mk a h => h) (q0 := 0) (ci := 8) rfl rfl) rfl rfl hl.1 rfl (lv_room (Nat.le_of_ble_eq_true rfl)) d_O_closeRow_2 ⟨by decide, by decide⟩) (fun u H locs h4 hP hD hK hS => ?_)
  have hP : va_P D wcl (MO g ad ca gs2) H := hP
  have hD : va_D A (MO g ad ca gs2) := hD
  have hK : va_K D wcl (MT ca) s := hK
  refine lv_aload_n hx hb d_O_closeRow_5 rfl (lv_at hl 0 rfl) ?_
  refine lv_dup hx hb d_O_closeRow_6 rfl ?_
  refine va_get (D := D) (ci := 8) (v := .int (gs2.1 32)) (C := rc_O) (T := ft_O) (N := 42) hx hb hts in_O hown hK hP 0 rfl rfl 32 (by decide) (hts _ k_687) (fun _ h9 => h9) rfl d_O_closeRow_7 ?_
  refine lv_iconst (v := 1) hx hb d_O_closeRow_10 (by decide) ?_
  refine lv_isub hx hb d_O_closeRow_11 ?_
  refine va_put (D := D) (ci := 8) (v := .int ((gs2.1 32) - 1)) (ty := .int) (C := rc_O) (T := ft_O) (N := 42) hx hb hts in_O ty_O tk_O nm_O hown hK hP hD hS 0 rfl rfl 32 (by decide) (hts _ k_687) (fun _ h9 => h9) rfl (by decide +kernel) rfl rfl (Nat.le_of_ble_eq_true rfl) d_O_closeRow_12 (fun H locs hP hD hS => ?_)
  have hP : va_P D wcl (MO g ad ca (sI gs2 32 ((gs2.1 32) - 1))) H := hP
  have hD : va_D A (MO g ad ca (sI gs2 32 ((gs2.1 32) - 1))) := hD
  refine lv_aload_n hx hb d_O_closeRow_15 rfl (lv_at hl 0 rfl) ?_
  refine va_get (D := D) (ci := 8) (v := .ref (ad 33)) (C := rc_O) (T := ft_O) (N := 42) hx hb hts in_O hown hK hP 0 rfl rfl 33 (by decide) (hts _ k_688) (fun _ h9 => h9) rfl d_O_closeRow_16 ?_
  refine lv_aload_n hx hb d_O_closeRow_19 rfl (lv_at hl 0 rfl) ?_
  refine va_get (D := D) (ci := 8) (v := .int ((gs2.1 32) - 1)) (C := rc_O) (T := ft_O) (N := 42) hx hb hts in_O hown hK hP 0 rfl rfl 32 (by decide) (hts _ k_687) (fun _ h9 => h9) rfl d_O_closeRow_20 ?_
  have hi6 := (gd_ok hok).1
  replace hok := (gd_ok hok).2
  refine va_zald hx hb hK hP 18 17 rfl rfl (hi6) d_O_closeRow_23 ?_
  refine lv_if_eq (tgt := 37) hx hb d_O_closeRow_24 (by decide) (fun h7 => ?_) (fun h7 => ?_)
  · replace hok := ci_t h7 hok
    exact j37 (sI gs2 32 ((gs2.1 32) - 1)) H locs ls hok hP hD hS hl
  · replace hok := ci_f h7 hok
    refine lv_aload_n hx hb d_O_closeRow_27 rfl (lv_at hl 0 rfl) ?_
    refine lv_dup hx hb d_O_closeRow_28 rfl ?_
    refine va_get (D := D) (ci := 8) (v := .int (gs2.1 34)) (C := rc_O) (T := ft_O) (N := 42) hx hb hts in_O hown hK hP 0 rfl rfl 34 (by decide) (hts _ k_689) (fun _ h9 => h9) rfl d_O_closeRow_29 ?_
    refine lv_iconst (v := 1) hx hb d_O_closeRow_32 (by decide) ?_
    refine lv_isub hx hb d_O_closeRow_33 ?_
    refine va_put (D := D) (ci := 8) (v := .int ((gs2.1 34) - 1)) (ty := .int) (C := rc_O) (T := ft_O) (N := 42) hx hb hts in_O ty_O tk_O nm_O hown hK hP hD hS 0 rfl rfl 34 (by decide) (hts _ k_689) (fun _ h9 => h9) rfl (by decide +kernel) rfl rfl (Nat.le_of_ble_eq_true rfl) d_O_closeRow_34 (fun H locs hP hD hS => ?_)
    have hP : va_P D wcl (MO g ad ca (sI (sI gs2 32 ((gs2.1 32) - 1)) 34 ((gs2.1 34) - 1))) H := hP
    have hD : va_D A (MO g ad ca (sI (sI gs2 32 ((gs2.1 32) - 1)) 34 ((gs2.1 34) - 1))) := hD
    exact j37 (sI (sI gs2 32 ((gs2.1 32) - 1)) 34 ((gs2.1 34) - 1)) H locs ls hok hP hD hS hl

set_option maxHeartbeats 4000000 in
set_option maxRecDepth 100000 in
theorem a_copies (l : Launch) (D : va_G) (sz : Nat) (g : Nat) (ad : Nat → Nat) (ca : Nat → ClassId) (F : Nat) (gs : OS) (a1 : Int32) (a2 : Int32) (a3 : Int32) (r0 : Int32) (gf : OS) (hok : rf_copies F gs a1 a2 a3 = some (r0, gf)) : Met l y_O_copies (Cond.code y_O_copies b_O_copies 8 (some .int) :: wal) ({ frames := 11, cells := 0, slots := 0, locals := 180 }) (va_Pc [.ref g, .int a1, .int a2, .int a3] (pr D sz (MO g ad ca gs) (MT ca) (fun _ => True))) (va_Qi (S := Unit) (fun r u => r0 = r) (fun u t9 => po D (va_A (MO g ad ca gs) sz) ((fun u => (MO g ad ca gf)) u) ((fun u => []) u) t9) (va_A (MO g ad ca gs) sz)) 0 0 (va_A (MO g ad ca gs) sz) := by
  refine Met.ofW (cc := b_O_copies) (maxL := 8) (ret := (some .int)) (by decide) rfl ?_
  intro p e s m args below meth c s₁ B hml hv
  obtain ⟨rfl, hsz, hP, hK, hD0, hE⟩ := hv
  have hx := B.exec
  have hb := B.bytes
  have hr := B.returns
  have hts0 := atoms_spec (ws := Cond.code y_O_copies b_O_copies 8 (some .int) :: wal) B.pre
  have hts : ∀ w ∈ wal, w.before _ s = true := fun w h => hts0 w (List.mem_cons_of_mem _ h)
  have hown : s.vm.findClass rc_O = some m.cls := findClass_of_methodNamed B.named
  have hlocks := B.notSynchronized
  subst hsz
  have hD := hD0.self (sz := s.heap.size)
  generalize hAe : va_A (MO g ad ca gs) s.heap.size = A at hD ⊢
  have hA : ∀ q : Nat, s.heap.size ≤ q → A q := fun q h => by rw [← hAe]; exact Or.inr h
  have hS : va_S A s.heap s.heap [] := va_S.rf
  have hl := lv_entry ([.ref g, .int a1, .int a2, .int a3]) (n := 8) (Nat.le_of_ble_eq_true rfl)
  rw [lg_entry_eq]
  generalize (lg_sl ([.ref g, .int a1, .int a2, .int a3]) ++ List.replicate (8 - (lg_sl ([.ref g, .int a1, .int a2, .int a3])).length) Slot.unset).toArray = ls at hl ⊢
  have hl : lv_has ls 8 [(0, .ref g), (1, .int a1), (2, .int a2), (3, .int a3)] := hl
  have j7 : ∀ (d7 : Nat) (gs : OS) (x1 : Int32) (x3 : Int32) (x4 : Int32) (x5 : Int32) (H : Heap) (locs : List Loc) (ls : Array Slot), rf_copies_7 F d7 gs x1 x3 x4 x5 = some (r0, gf) → va_P D wcl (MO g ad ca gs) H → va_D A (MO g ad ca gs) → va_S A s.heap H locs → lv_has ls 8 [(0, .ref g), (1, .int x1), (3, .int x3), (4, .int x4), (5, .int x5)] → W p l e (headSpec (Cond.code y_O_copies b_O_copies 8 (some .int) :: wal) ({ frames := 11, cells := 0, slots := 0, locals := 180 })).room s m ([.ref g, .int a1, .int a2, .int a3] : List Value).toArray below meth c H locs 0 0 (MQ below (va_Qi (S := Unit) (fun r u => r0 = r) (fun u t9 => po D (A) ((fun u => (MO g ad ca gf)) u) ((fun u => []) u) t9) (A)) ([.ref g, .int a1, .int a2, .int a3] : List Value).toArray s 0 0 A) (F0 m 7 ls []) := by
    intro d7
    induction d7 with
    | zero =>
      intro gs x1 x3 x4 x5 H locs ls hok
      have h9 : (none : RO) = some (r0, gf) := hok
      cases h9
    | succ d7 ih7 =>
      have j84 : ∀ (gs : OS) (x1 : Int32) (x3 : Int32) (x4 : Int32) (x5 : Int32) (H : Heap) (locs : List Loc) (ls : Array Slot), rf_copies_84 F (rf_copies_7 F d7) gs x1 x3 x4 x5 = some (r0, gf) → va_P D wcl (MO g ad ca gs) H → va_D A (MO g ad ca gs) → va_S A s.heap H locs → lv_has ls 8 [(0, .ref g), (1, .int x1), (3, .int x3), (4, .int x4), (5, .int x5)] → W p l e (headSpec (Cond.code y_O_copies b_O_copies 8 (some .int) :: wal) ({ frames := 11, cells := 0, slots := 0, locals := 180 })).room s m ([.ref g, .int a1, .int a2, .int a3] : List Value).toArray below meth c H locs 0 0 (MQ below (va_Qi (S := Unit) (fun r u => r0 = r) (fun u t9 => po D (A) ((fun u => (MO g ad ca gf)) u) ((fun u => []) u) t9) (A)) ([.ref g, .int a1, .int a2, .int a3] : List Value).toArray s 0 0 A) (F0 m 84 ls []) := by
        intro gs x1 x3 x4 x5 H locs ls hok hP hD hS hl
        rw [rf_copies_84] at hok
        refine lv_iinc (k := 4) (v := (x5 + 1)) hx hb d_O_copies_84 hl rfl (by rfl) (by decide) rfl (fun ls hl => ?_)
        have hl : lv_has ls 8 [(5, .int (x5 + 1)), (0, .ref g), (1, .int x1), (3, .int x3), (4, .int x4)] := hl
        refine lv_goto (tgt := 7) hx hb d_O_copies_87 (by decide) ?_
        exact ih7 gs x1 x3 x4 (x5 + 1) H locs ls hok hP hD hS (lv_sub hl [1, 2, 3, 4, 0] rfl)
      have j82 : ∀ (gs : OS) (x1 : Int32) (x3 : Int32) (x5 : Int32) (y0 : Int32) (H : Heap) (locs : List Loc) (ls : Array Slot), rf_copies_82 F (rf_copies_7 F d7) gs x1 x3 x5 y0 = some (r0, gf) → va_P D wcl (MO g ad ca gs) H → va_D A (MO g ad ca gs) → va_S A s.heap H locs → lv_has ls 8 [(0, .ref g), (1, .int x1), (3, .int x3), (5, .int x5)] → W p l e (headSpec (Cond.code y_O_copies b_O_copies 8 (some .int) :: wal) ({ frames := 11, cells := 0, slots := 0, locals := 180 })).room s m ([.ref g, .int a1, .int a2, .int a3] : List Value).toArray below meth c H locs 0 0 (MQ below (va_Qi (S := Unit) (fun r u => r0 = r) (fun u t9 => po D (A) ((fun u => (MO g ad ca gf)) u) ((fun u => []) u) t9) (A)) ([.ref g, .int a1, .int a2, .int a3] : List Value).toArray s 0 0 A) (F0 m 82 ls [.int y0]) := by
        intro gs x1 x3 x5 y0 H locs ls hok hP hD hS hl
        rw [rf_copies_82] at hok
        refine lv_istore hx hb d_O_copies_82 hl (by decide) rfl (fun ls hl => ?_)
        have hl : lv_has ls 8 [(4, .int y0), (0, .ref g), (1, .int x1), (3, .int x3), (5, .int x5)] := hl
        exact j84 gs x1 x3 y0 x5 H locs ls hok hP hD hS (lv_sub hl [1, 2, 3, 0, 4] rfl)
      have j76 : ∀ (gs : OS) (x1 : Int32) (x3 : Int32) (x5 : Int32) (x7 : Int32) (H : Heap) (locs : List Loc) (ls : Array Slot), rf_copies_76 F (rf_copies_7 F d7) gs x1 x3 x5 x7 = some (r0, gf) → va_P D wcl (MO g ad ca gs) H → va_D A (MO g ad ca gs) → va_S A s.heap H locs → lv_has ls 8 [(0, .ref g), (1, .int x1), (3, .int x3), (5, .int x5), (7, .int x7)] → W p l e (headSpec (Cond.code y_O_copies b_O_copies 8 (some .int) :: wal) ({ frames := 11, cells := 0, slots := 0, locals := 180 })).room s m ([.ref g, .int a1, .int a2, .int a3] : List Value).toArray below meth c H locs 0 0 (MQ below (va_Qi (S := Unit) (fun r u => r0 = r) (fun u t9 => po D (A) ((fun u => (MO g ad ca gf)) u) ((fun u => []) u) t9) (A)) ([.ref g, .int a1, .int a2, .int a3] : List Value).toArray s 0 0 A) (F0 m 76 ls []) := by
        intro gs x1 x3 x5 x7 H locs ls hok hP hD hS hl
        rw [rf_copies_76] at hok
        refine lv_iload hx hb d_O_copies_76 (lv_at hl 4 rfl) ?_
        refine lv_goto (tgt := 82) hx hb d_O_copies_78 (by decide) ?_
        exact j82 gs x1 x3 x5 x7 H locs ls hok hP hD hS (lv_sub hl [0, 1, 2, 3] rfl)
      intro gs x1 x3 x4 x5 H locs ls hok hP hD hS hl
      rw [rf_copies_7] at hok
      refine lv_iload hx hb d_O_copies_7 (lv_at hl 4 rfl) ?_
      refine lv_iload_n hx hb d_O_copies_9 rfl (lv_at hl 2 rfl) ?_
      refine lv_icmp_ge (tgt := 90) hx hb d_O_copies_10 (by decide) (fun h1 => ?_) (fun h1 => ?_)
      · replace hok := ci_t h1 hok
        refine lv_iload hx hb d_O_copies_90 (lv_at hl 3 rfl) ?_
        obtain ⟨e8, e9⟩ := rt_ok hok
        rw [e9] at hP hD
        have hK9 := hK.sub (tys' := []) [] rfl
        exact W.iret (v := x4) hx hb hr (fun t9 ht hW => ⟨⟨x4, (), rfl, e8, ⟨by rw [ht]; exact hP, va_K.moved hW.alike hK9, hD⟩⟩, hS.F ht⟩) hS.2.2 d_O_copies_92
      · replace hok := ci_f h1 hok
        refine lv_aload_n hx hb d_O_copies_13 rfl (lv_at hl 0 rfl) ?_
        refine va_get (D := D) (ci := 8) (v := .ref (ad 10)) (C := rc_O) (T := ft_O) (N := 42) hx hb hts in_O hown hK hP 0 rfl rfl 10 (by decide) (hts _ k_665) (fun _ h9 => h9) rfl d_O_copies_14 ?_
        refine lv_iload hx hb d_O_copies_17 (lv_at hl 4 rfl) ?_
        have hi2 := (gd_ok hok).1
        replace hok := (gd_ok hok).2
        refine va_iald hx hb hK hP 7 6 rfl rfl (hi2) d_O_copies_19 ?_
        refine lv_istore hx hb d_O_copies_20 hl (by decide) rfl (fun ls hl => ?_)
        have hl : lv_has ls 8 [(6, .int ((gs.2 10) x5.toNatClampNeg)), (0, .ref g), (1, .int x1), (3, .int x3), (4, .int x4), (5, .int x5)] := hl
        refine lv_iload hx hb d_O_copies_22 (lv_at hl 0 rfl) ?_
        replace hok := bd_ok hok
        obtain ⟨r3, gs4, hc5, hok⟩ := hok
        refine cl_i (wc := (MO g ad ca gs)) (wr := []) hP hD hK hS hA [0, 1, 2, 3, 4, 5, 6, 7, 8, 9, 10, 11, 12, 13, 14, 15, 16, 17, 18, 19, 20] [] rfl rfl (by decide) (by decide) (va_runS (As := [.int ((gs.2 10) x5.toNatClampNeg)]) (rest := []) ⟨hx, hb, hml, hown, hts⟩ (a_isName l D H.size g ad ca F gs ((gs.2 10) x5.toNatClampNeg) r3 gs4 hc5) (cw_S hts 1 k_811 k_9 k_809 k_810 (by decide +kernel) ⟨Nat.le_of_ble_eq_true rfl, Nat.le_of_ble_eq_true rfl⟩) (pr_S hP hD hK [0, 1, 2, 3, 4, 5, 6, 7, 8, 9, 10, 11, 12, 13, 14, 15, 16, 17, 18, 19, 20] [0, 1, 2, 3, 4, 5, 6, 7, 8, 9, 10, 11, 12, 13, 14, 15, 16, 17, 18, 19] (by decide) rfl rfl (fun U hU hW => trivial) (fun U g mk a h => h)) rfl rfl hl.1 rfl (lv_room (Nat.le_of_ble_eq_true rfl)) d_O_copies_24 ⟨by decide, by decide⟩) (fun v7 u H locs h6 hP hD hK hS => ?_)
        have hP : va_P D wcl (MO g ad ca gs4) H := hP
        have hD : va_D A (MO g ad ca gs4) := hD
        have hK : va_K D wcl (MT ca) s := hK
        have h6 : r3 = v7 := h6
        subst h6
        refine lv_if_eq (tgt := 84) hx hb d_O_copies_27 (by decide) (fun h8 => ?_) (fun h8 => ?_)
        · replace hok := ci_t h8 hok
          exact j84 gs4 x1 x3 x4 x5 H locs ls hok hP hD hS (lv_sub hl [1, 2, 3, 4, 5] rfl)
        · replace hok := ci_f h8 hok
          refine lv_aload_n hx hb d_O_copies_30 rfl (lv_at hl 1 rfl) ?_
          refine va_get (D := D) (ci := 8) (v := .ref (ad 12)) (C := rc_O) (T := ft_O) (N := 42) hx hb hts in_O hown hK hP 0 rfl rfl 12 (by decide) (hts _ k_667) (fun _ h9 => h9) rfl d_O_copies_31 ?_
          refine lv_iload_n hx hb d_O_copies_34 rfl (lv_at hl 2 rfl) ?_
          have hi9 := (gd_ok hok).1
          replace hok := (gd_ok hok).2
          refine va_iald hx hb hK hP 9 8 rfl rfl (hi9) d_O_copies_35 ?_
          refine lv_iload hx hb d_O_copies_36 (lv_at hl 0 rfl) ?_
          replace hok := bd_ok hok
          obtain ⟨r10, gs11, hc12, hok⟩ := hok
          refine cl_i (wc := (MO g ad ca gs4)) (wr := []) hP hD hK hS hA [0, 1, 2, 3, 4, 5, 6, 7, 8, 9, 10, 11, 12, 13, 14, 15, 16, 17, 18, 19, 20] [] rfl rfl (by decide) (by decide) (va_runS (As := [.int ((gs.2 10) x5.toNatClampNeg)]) (rest := [.int ((gs4.2 12) x1.toNatClampNeg)]) ⟨hx, hb, hml, hown, hts⟩ (a_letterOf l D H.size g ad ca F gs4 ((gs.2 10) x5.toNatClampNeg) r10 gs11 hc12) (cw_S hts 1 k_830 k_9 k_828 k_829 (by decide +kernel) ⟨Nat.le_of_ble_eq_true rfl, Nat.le_of_ble_eq_true rfl⟩) (pr_S hP hD hK [0, 1, 2, 3, 4, 5, 6, 7, 8, 9, 10, 11, 12, 13, 14, 15, 16, 17, 18, 19, 20] [0, 1, 2, 3, 4, 5, 6, 7, 8, 9, 10, 11, 12, 13, 14, 15, 16, 17, 18, 19] (by decide) rfl rfl (fun U hU hW => trivial) (fun U g mk a h => h)) rfl rfl hl.1 rfl (lv_room (Nat.le_of_ble_eq_true rfl)) d_O_copies_38 ⟨by decide, by decide⟩) (fun v14 u H locs h13 hP hD hK hS => ?_)
          have hP : va_P D wcl (MO g ad ca gs11) H := hP
          have hD : va_D A (MO g ad ca gs11) := hD
          have hK : va_K D wcl (MT ca) s := hK
          have h13 : r10 = v14 := h13
          subst h13
          refine lv_ishr hx hb d_O_copies_41 ?_
          refine lv_iconst (v := 1) hx hb d_O_copies_42 (by decide) ?_
          refine lv_iand hx hb d_O_copies_43 ?_
          refine lv_if_ne (tgt := 50) hx hb d_O_copies_44 (by decide) (fun h15 => ?_) (fun h15 => ?_)
          · replace hok := ci_f h15 hok
            refine lv_aload_n hx hb d_O_copies_50 rfl (lv_at hl 1 rfl) ?_
            refine va_get (D := D) (ci := 8) (v := .ref (ad 30)) (C := rc_O) (T := ft_O) (N := 42) hx hb hts in_O hown hK hP 0 rfl rfl 30 (by decide) (hts _ k_685) (fun _ h9 => h9) rfl d_O_copies_51 ?_
            refine lv_iload hx hb d_O_copies_54 (lv_at hl 0 rfl) ?_
            replace hok := bd_ok hok
            obtain ⟨r16, gs17, hc18, hok⟩ := hok
            refine cl_i (wc := (MO g ad ca gs11)) (wr := []) hP hD hK hS hA [0, 1, 2, 3, 4, 5, 6, 7, 8, 9, 10, 11, 12, 13, 14, 15, 16, 17, 18, 19, 20] [] rfl rfl (by decide) (by decide) (va_runS (As := [.int ((gs.2 10) x5.toNatClampNeg)]) (rest := [.ref (ad 30)]) ⟨hx, hb, hml, hown, hts⟩ (a_letterOf l D H.size g ad ca F gs11 ((gs.2 10) x5.toNatClampNeg) r16 gs17 hc18) (cw_S hts 1 k_830 k_9 k_828 k_829 (by decide +kernel) ⟨Nat.le_of_ble_eq_true rfl, Nat.le_of_ble_eq_true rfl⟩) (pr_S hP hD hK [0, 1, 2, 3, 4, 5, 6, 7, 8, 9, 10, 11, 12, 13, 14, 15, 16, 17, 18, 19, 20] [0, 1, 2, 3, 4, 5, 6, 7, 8, 9, 10, 11, 12, 13, 14, 15, 16, 17, 18, 19] (by decide) rfl rfl (fun U hU hW => trivial) (fun U g mk a h => h)) rfl rfl hl.1 rfl (lv_room (Nat.le_of_ble_eq_true rfl)) d_O_copies_56 ⟨by decide, by decide⟩) (fun v20 u H locs h19 hP hD hK hS => ?_)
            have hP : va_P D wcl (MO g ad ca gs17) H := hP
            have hD : va_D A (MO g ad ca gs17) := hD
            have hK : va_K D wcl (MT ca) s := hK
            have h19 : r16 = v20 := h19
            subst h19
            have hi21 := (gd_ok hok).1
            replace hok := (gd_ok hok).2
            refine va_iald hx hb hK hP 16 15 rfl rfl (hi21) d_O_copies_59 ?_
            refine lv_istore hx hb d_O_copies_60 hl (by decide) rfl (fun ls hl => ?_)
            have hl : lv_has ls 8 [(7, .int ((gs17.2 30) r16.toNatClampNeg)), (6, .int ((gs.2 10) x5.toNatClampNeg)), (0, .ref g), (1, .int x1), (3, .int x3), (4, .int x4), (5, .int x5)] := hl
            refine lv_iload hx hb d_O_copies_62 (lv_at hl 5 rfl) ?_
            refine lv_bipush (v := -2) hx hb d_O_copies_64 (by decide) ?_
            refine lv_icmp_eq (tgt := 76) hx hb d_O_copies_66 (by decide) (fun h22 => ?_) (fun h22 => ?_)
            · replace hok := ci_t h22 hok
              exact j76 gs17 x1 x3 x5 ((gs17.2 30) r16.toNatClampNeg) H locs ls hok hP hD hS (lv_sub hl [2, 3, 4, 6, 0] rfl)
            · replace hok := ci_f h22 hok
              refine lv_iload hx hb d_O_copies_69 (lv_at hl 5 rfl) ?_
              refine lv_iload hx hb d_O_copies_71 (lv_at hl 0 rfl) ?_
              refine lv_icmp_ne (tgt := 81) hx hb d_O_copies_73 (by decide) (fun h23 => ?_) (fun h23 => ?_)
              · replace hok := ci_f h23 hok
                refine lv_iconst (v := -1) hx hb d_O_copies_81 (by decide) ?_
                exact j82 gs17 x1 x3 x5 (-1) H locs ls hok hP hD hS (lv_sub hl [2, 3, 4, 6] rfl)
              · replace hok := ci_t h23 hok
                exact j76 gs17 x1 x3 x5 ((gs17.2 30) r16.toNatClampNeg) H locs ls hok hP hD hS (lv_sub hl [2, 3, 4, 6, 0] rfl)
          · replace hok := ci_t h15 hok
            refine lv_goto (tgt := 84) hx hb d_O_copies_47 (by decide) ?_
            exact j84 gs11 x1 x3 x4 x5 H locs ls hok hP hD hS (lv_sub hl [1, 2, 3, 4, 5] rfl)
  refine lv_bipush (v := -2) hx hb d_O_copies_0 (by decide) ?_
  refine lv_istore hx hb d_O_copies_2 hl (by decide) rfl (fun ls hl => ?_)
  have hl : lv_has ls 8 [(4, .int (-2)), (0, .ref g), (1, .int a1), (2, .int a2), (3, .int a3)] := hl
  refine lv_iload_n hx hb d_O_copies_4 rfl (lv_at hl 3 rfl) ?_
  refine lv_istore hx hb d_O_copies_5 hl (by decide) rfl (fun ls hl => ?_)
  have hl : lv_has ls 8 [(5, .int a2), (4, .int (-2)), (0, .ref g), (1, .int a1), (2, .int a2), (3, .int a3)] := hl
  exact j7 F gs a1 a3 (-2) a2 s.heap [] ls hok hP hD hS (lv_sub hl [2, 3, 5, 1, 0] rfl)

set_option maxHeartbeats 4000000 in
set_option maxRecDepth 100000 in
theorem a_emitTerm (l : Launch) (D : va_G) (sz : Nat) (g : Nat) (ad : Nat → Nat) (ca : Nat → ClassId) (F : Nat) (gs : OS) (a1 : Int32) (r0 : Int32) (gf : OS) (hok : rf_emitTerm F gs a1 = some (r0, gf)) : Met l y_O_emitTerm (Cond.code y_O_emitTerm b_O_emitTerm 4 none :: wal) ({ frames := 11, cells := 0, slots := 0, locals := 180 }) (va_Pc [.ref g, .int a1] (pr D sz (MO g ad ca gs) (MT ca) (fun _ => True))) (va_Qv (S := Unit) (fun u => True) (fun u t9 => po D (va_A (MO g ad ca gs) sz) ((fun u => (MO g ad ca gf)) u) ((fun u => []) u) t9) (va_A (MO g ad ca gs) sz)) 0 0 (va_A (MO g ad ca gs) sz) := by
  refine Met.ofW (cc := b_O_emitTerm) (maxL := 4) (ret := none) (by decide) rfl ?_
  intro p e s m args below meth c s₁ B hml hv
  obtain ⟨rfl, hsz, hP, hK, hD0, hE⟩ := hv
  have hx := B.exec
  have hb := B.bytes
  have hr := B.returns
  have hts0 := atoms_spec (ws := Cond.code y_O_emitTerm b_O_emitTerm 4 none :: wal) B.pre
  have hts : ∀ w ∈ wal, w.before _ s = true := fun w h => hts0 w (List.mem_cons_of_mem _ h)
  have hown : s.vm.findClass rc_O = some m.cls := findClass_of_methodNamed B.named
  have hlocks := B.notSynchronized
  subst hsz
  have hD := hD0.self (sz := s.heap.size)
  generalize hAe : va_A (MO g ad ca gs) s.heap.size = A at hD ⊢
  have hA : ∀ q : Nat, s.heap.size ≤ q → A q := fun q h => by rw [← hAe]; exact Or.inr h
  have hS : va_S A s.heap s.heap [] := va_S.rf
  have hl := lv_entry ([.ref g, .int a1]) (n := 4) (Nat.le_of_ble_eq_true rfl)
  rw [lg_entry_eq]
  generalize (lg_sl ([.ref g, .int a1]) ++ List.replicate (4 - (lg_sl ([.ref g, .int a1])).length) Slot.unset).toArray = ls at hl ⊢
  have hl : lv_has ls 4 [(0, .ref g), (1, .int a1)] := hl
  have j36 : ∀ (gs : OS)  (H : Heap) (locs : List Loc) (ls : Array Slot), rf_emitTerm_36 F gs = some (r0, gf) → va_P D wcl (MO g ad ca gs) H → va_D A (MO g ad ca gs) → va_S A s.heap H locs → lv_has ls 4 [(0, .ref g)] → W p l e (headSpec (Cond.code y_O_emitTerm b_O_emitTerm 4 none :: wal) ({ frames := 11, cells := 0, slots := 0, locals := 180 })).room s m ([.ref g, .int a1] : List Value).toArray below meth c H locs 0 0 (MQ below (va_Qv (S := Unit) (fun u => True) (fun u t9 => po D (A) ((fun u => (MO g ad ca gf)) u) ((fun u => []) u) t9) (A)) ([.ref g, .int a1] : List Value).toArray s 0 0 A) (F0 m 36 ls []) := by
    intro gs  H locs ls hok hP hD hS hl
    rw [rf_emitTerm_36] at hok
    obtain ⟨e8, e9⟩ := rt_ok hok
    rw [e9] at hP hD
    have hK9 := hK.sub (tys' := []) [] rfl
    exact W.vret hx hb hr (fun t9 ht hW => ⟨⟨(), rfl, trivial, ⟨by rw [ht]; exact hP, va_K.moved hW.alike hK9, hD⟩⟩, hS.F ht⟩) hS.2.2 d_O_emitTerm_36
  have j8 : ∀ (d8 : Nat) (gs : OS) (x2 : Int32) (x3 : Int32) (H : Heap) (locs : List Loc) (ls : Array Slot), rf_emitTerm_8 F d8 gs x2 x3 = some (r0, gf) → va_P D wcl (MO g ad ca gs) H → va_D A (MO g ad ca gs) → va_S A s.heap H locs → lv_has ls 4 [(0, .ref g), (2, .int x2), (3, .int x3)] → W p l e (headSpec (Cond.code y_O_emitTerm b_O_emitTerm 4 none :: wal) ({ frames := 11, cells := 0, slots := 0, locals := 180 })).room s m ([.ref g, .int a1] : List Value).toArray below meth c H locs 0 0 (MQ below (va_Qv (S := Unit) (fun u => True) (fun u t9 => po D (A) ((fun u => (MO g ad ca gf)) u) ((fun u => []) u) t9) (A)) ([.ref g, .int a1] : List Value).toArray s 0 0 A) (F0 m 8 ls []) := by
    intro d8
    induction d8 with
    | zero =>
      intro gs x2 x3 H locs ls hok
      have h9 : (none : RO) = some (r0, gf) := hok
      cases h9
    | succ d8 ih8 =>
      intro gs x2 x3 H locs ls hok hP hD hS hl
      rw [rf_emitTerm_8] at hok
      refine lv_iload_n hx hb d_O_emitTerm_8 rfl (lv_at hl 2 rfl) ?_
      refine lv_iload_n hx hb d_O_emitTerm_9 rfl (lv_at hl 1 rfl) ?_
      refine lv_icmp_ge (tgt := 36) hx hb d_O_emitTerm_10 (by decide) (fun h1 => ?_) (fun h1 => ?_)
      · replace hok := ci_t h1 hok
        exact j36 gs H locs ls hok hP hD hS (lv_sub hl [0] rfl)
      · replace hok := ci_f h1 hok
        refine lv_aload_n hx hb d_O_emitTerm_13 rfl (lv_at hl 0 rfl) ?_
        refine va_get (D := D) (ci := 8) (v := .int (gs.1 28)) (C := rc_O) (T := ft_O) (N := 42) hx hb hts in_O hown hK hP 0 rfl rfl 28 (by decide) (hts _ k_683) (fun _ h9 => h9) rfl d_O_emitTerm_14 ?_
        refine lv_if_ne (tgt := 36) hx hb d_O_emitTerm_17 (by decide) (fun h2 => ?_) (fun h2 => ?_)
        · replace hok := ci_f h2 hok
          exact j36 gs H locs ls hok hP hD hS (lv_sub hl [0] rfl)
        · replace hok := ci_t h2 hok
          refine lv_aload_n hx hb d_O_emitTerm_20 rfl (lv_at hl 0 rfl) ?_
          refine lv_aload_n hx hb d_O_emitTerm_21 rfl (lv_at hl 0 rfl) ?_
          refine va_get (D := D) (ci := 8) (v := .ref (ad 22)) (C := rc_O) (T := ft_O) (N := 42) hx hb hts in_O hown hK hP 0 rfl rfl 22 (by decide) (hts _ k_677) (fun _ h9 => h9) rfl d_O_emitTerm_22 ?_
          refine lv_iload_n hx hb d_O_emitTerm_25 rfl (lv_at hl 2 rfl) ?_
          have hi3 := (gd_ok hok).1
          replace hok := (gd_ok hok).2
          refine va_iald hx hb hK hP 13 12 rfl rfl (hi3) d_O_emitTerm_26 ?_
          replace hok := bd_ok hok
          obtain ⟨r4, gs5, hc6, hok⟩ := hok
          refine cl_v (wc := (MO g ad ca gs)) (wr := []) hP hD hK hS hA [0, 1, 2, 3, 4, 5, 6, 7, 8, 9, 10, 11, 12, 13, 14, 15, 16, 17, 18, 19, 20] [] rfl rfl (by decide) (by decide) (va_runV (As := [.int ((gs.2 22) x3.toNatClampNeg)]) (rest := []) ⟨hx, hb, hml, hown, hts⟩ (a_emit l D H.size g ad ca F gs ((gs.2 22) x3.toNatClampNeg) r4 gs5 hc6) (cw_V hts 1 k_952 k_9 k_949 k_951 sel_O_emit (by decide +kernel) ⟨Nat.le_of_ble_eq_true rfl, Nat.le_of_ble_eq_true rfl⟩) (pr_V hP hD hK [0, 1, 2, 3, 4, 5, 6, 7, 8, 9, 10, 11, 12, 13, 14, 15, 16, 17, 18, 19, 20] [0, 1, 2, 3, 4, 5, 6, 7, 8, 9, 10, 11, 12, 13, 14, 15, 16, 17, 18, 19] (by decide) rfl rfl (fun U hU hW => trivial) (fun U g mk a h => h) (q0 := 0) (ci := 8) rfl rfl) rfl rfl hl.1 rfl (lv_room (Nat.le_of_ble_eq_true rfl)) d_O_emitTerm_27 ⟨by decide, by decide⟩) (fun u H locs h7 hP hD hK hS => ?_)
          have hP : va_P D wcl (MO g ad ca gs5) H := hP
          have hD : va_D A (MO g ad ca gs5) := hD
          have hK : va_K D wcl (MT ca) s := hK
          refine lv_iinc (k := 2) (v := (x3 + 1)) hx hb d_O_emitTerm_30 hl rfl (by rfl) (by decide) rfl (fun ls hl => ?_)
          have hl : lv_has ls 4 [(3, .int (x3 + 1)), (0, .ref g), (2, .int x2)] := hl
          refine lv_goto (tgt := 8) hx hb d_O_emitTerm_33 (by decide) ?_
          exact ih8 gs5 x2 (x3 + 1) H locs ls hok hP hD hS (lv_sub hl [1, 2, 0] rfl)
  refine lv_aload_n hx hb d_O_emitTerm_0 rfl (lv_at hl 0 rfl) ?_
  refine lv_iload_n hx hb d_O_emitTerm_1 rfl (lv_at hl 1 rfl) ?_
  replace hok := bd_ok hok
  obtain ⟨r9, gs10, hc11, hok⟩ := hok
  refine cl_i (wc := (MO g ad ca gs)) (wr := []) hP hD hK hS hA [0, 1, 2, 3, 4, 5, 6, 7, 8, 9, 10, 11, 12, 13, 14, 15, 16, 17, 18, 19, 20] [] rfl rfl (by decide) (by decide) (va_runV (As := [.int a1]) (rest := []) ⟨hx, hb, hml, hown, hts⟩ (a_skip l D s.heap.size g ad ca F gs a1 r9 gs10 hc11) (cw_V hts 1 k_912 k_9 k_909 k_911 sel_O_skip (by decide +kernel) ⟨Nat.le_of_ble_eq_true rfl, Nat.le_of_ble_eq_true rfl⟩) (pr_V hP hD hK [0, 1, 2, 3, 4, 5, 6, 7, 8, 9, 10, 11, 12, 13, 14, 15, 16, 17, 18, 19, 20] [0, 1, 2, 3, 4, 5, 6, 7, 8, 9, 10, 11, 12, 13, 14, 15, 16, 17, 18, 19] (by decide) rfl rfl (fun U hU hW => trivial) (fun U g mk a h => h) (q0 := 0) (ci := 8) rfl rfl) rfl rfl hl.1 rfl (lv_room (Nat.le_of_ble_eq_true rfl)) d_O_emitTerm_2 ⟨by decide, by decide⟩) (fun v13 u H locs h12 hP hD hK hS => ?_)
  have hP : va_P D wcl (MO g ad ca gs10) H := hP
  have hD : va_D A (MO g ad ca gs10) := hD
  have hK : va_K D wcl (MT ca) s := hK
  have h12 : r9 = v13 := h12
  subst h12
  refine lv_istore_n hx hb d_O_emitTerm_5 rfl hl (by decide) rfl (fun ls hl => ?_)
  have hl : lv_has ls 4 [(2, .int r9), (0, .ref g), (1, .int a1)] := hl
  refine lv_iload_n hx hb d_O_emitTerm_6 rfl (lv_at hl 2 rfl) ?_
  refine lv_istore_n hx hb d_O_emitTerm_7 rfl hl (by decide) rfl (fun ls hl => ?_)
  have hl : lv_has ls 4 [(3, .int a1), (2, .int r9), (0, .ref g), (1, .int a1)] := hl
  exact j8 F gs10 r9 a1 H locs ls hok hP hD hS (lv_sub hl [2, 1, 0] rfl)

set_option maxHeartbeats 4000000 in
set_option maxRecDepth 100000 in
theorem a_expandForm (l : Launch) (D : va_G) (sz : Nat) (g : Nat) (ad : Nat → Nat) (ca : Nat → ClassId) (F : Nat) (gs : OS) (r0 : Int32) (gf : OS) (hok : rf_expandForm F gs = some (r0, gf)) : Met l y_O_expandForm (Cond.code y_O_expandForm b_O_expandForm 7 none :: wal) ({ frames := 11, cells := 0, slots := 0, locals := 180 }) (va_Pc [.ref g] (pr D sz (MO g ad ca gs) (MT ca) (fun _ => True))) (va_Qv (S := Unit) (fun u => True) (fun u t9 => po D (va_A (MO g ad ca gs) sz) ((fun u => (MO g ad ca gf)) u) ((fun u => []) u) t9) (va_A (MO g ad ca gs) sz)) 0 0 (va_A (MO g ad ca gs) sz) := by
  refine Met.ofW (cc := b_O_expandForm) (maxL := 7) (ret := none) (by decide) rfl ?_
  intro p e s m args below meth c s₁ B hml hv
  obtain ⟨rfl, hsz, hP, hK, hD0, hE⟩ := hv
  have hx := B.exec
  have hb := B.bytes
  have hr := B.returns
  have hts0 := atoms_spec (ws := Cond.code y_O_expandForm b_O_expandForm 7 none :: wal) B.pre
  have hts : ∀ w ∈ wal, w.before _ s = true := fun w h => hts0 w (List.mem_cons_of_mem _ h)
  have hown : s.vm.findClass rc_O = some m.cls := findClass_of_methodNamed B.named
  have hlocks := B.notSynchronized
  subst hsz
  have hD := hD0.self (sz := s.heap.size)
  generalize hAe : va_A (MO g ad ca gs) s.heap.size = A at hD ⊢
  have hA : ∀ q : Nat, s.heap.size ≤ q → A q := fun q h => by rw [← hAe]; exact Or.inr h
  have hS : va_S A s.heap s.heap [] := va_S.rf
  have hl := lv_entry ([.ref g]) (n := 7) (Nat.le_of_ble_eq_true rfl)
  rw [lg_entry_eq]
  generalize (lg_sl ([.ref g]) ++ List.replicate (7 - (lg_sl ([.ref g])).length) Slot.unset).toArray = ls at hl ⊢
  have hl : lv_has ls 7 [(0, .ref g)] := hl
  have j286 : ∀ (gs : OS) (y0 : Int32) (H : Heap) (locs : List Loc) (ls : Array Slot), rf_expandForm_286 F gs y0 = some (r0, gf) → va_P D wcl (MO g ad ca gs) H → va_D A (MO g ad ca gs) → va_S A s.heap H locs → lv_has ls 7 [(0, .ref g)] → W p l e (headSpec (Cond.code y_O_expandForm b_O_expandForm 7 none :: wal) ({ frames := 11, cells := 0, slots := 0, locals := 180 })).room s m ([.ref g] : List Value).toArray below meth c H locs 0 0 (MQ below (va_Qv (S := Unit) (fun u => True) (fun u t9 => po D (A) ((fun u => (MO g ad ca gf)) u) ((fun u => []) u) t9) (A)) ([.ref g] : List Value).toArray s 0 0 A) (F0 m 286 ls [.int y0, .ref g]) := by
    intro gs y0 H locs ls hok hP hD hS hl
    rw [rf_expandForm_286] at hok
    refine va_put (D := D) (ci := 8) (v := .int y0) (ty := .int) (C := rc_O) (T := ft_O) (N := 42) hx hb hts in_O ty_O tk_O nm_O hown hK hP hD hS 0 rfl rfl 36 (by decide) (hts _ k_691) (fun _ h9 => h9) rfl (by decide +kernel) rfl rfl (Nat.le_of_ble_eq_true rfl) d_O_expandForm_286 (fun H locs hP hD hS => ?_)
    have hP : va_P D wcl (MO g ad ca (sI gs 36 y0)) H := hP
    have hD : va_D A (MO g ad ca (sI gs 36 y0)) := hD
    obtain ⟨e8, e9⟩ := rt_ok hok
    rw [e9] at hP hD
    have hK9 := hK.sub (tys' := []) [] rfl
    exact W.vret hx hb hr (fun t9 ht hW => ⟨⟨(), rfl, trivial, ⟨by rw [ht]; exact hP, va_K.moved hW.alike hK9, hD⟩⟩, hS.F ht⟩) hS.2.2 d_O_expandForm_289
  have j265 : ∀ (gs : OS) (x1 : Int32) (H : Heap) (locs : List Loc) (ls : Array Slot), rf_expandForm_265 F gs x1 = some (r0, gf) → va_P D wcl (MO g ad ca gs) H → va_D A (MO g ad ca gs) → va_S A s.heap H locs → lv_has ls 7 [(0, .ref g), (1, .int x1)] → W p l e (headSpec (Cond.code y_O_expandForm b_O_expandForm 7 none :: wal) ({ frames := 11, cells := 0, slots := 0, locals := 180 })).room s m ([.ref g] : List Value).toArray below meth c H locs 0 0 (MQ below (va_Qv (S := Unit) (fun u => True) (fun u t9 => po D (A) ((fun u => (MO g ad ca gf)) u) ((fun u => []) u) t9) (A)) ([.ref g] : List Value).toArray s 0 0 A) (F0 m 265 ls []) := by
    intro gs x1 H locs ls hok hP hD hS hl
    rw [rf_expandForm_265] at hok
    refine lv_aload_n hx hb d_O_expandForm_265 rfl (lv_at hl 0 rfl) ?_
    refine lv_iload_n hx hb d_O_expandForm_266 rfl (lv_at hl 1 rfl) ?_
    refine lv_iconst (v := 3) hx hb d_O_expandForm_267 (by decide) ?_
    refine lv_icmp_ne (tgt := 280) hx hb d_O_expandForm_268 (by decide) (fun h1 => ?_) (fun h1 => ?_)
    · replace hok := ci_f h1 hok
      refine lv_aload_n hx hb d_O_expandForm_280 rfl (lv_at hl 0 rfl) ?_
      refine va_get (D := D) (ci := 8) (v := .int (gs.1 36)) (C := rc_O) (T := ft_O) (N := 42) hx hb hts in_O hown hK hP 0 rfl rfl 36 (by decide) (hts _ k_691) (fun _ h9 => h9) rfl d_O_expandForm_281 ?_
      refine lv_iconst (v := 2) hx hb d_O_expandForm_284 (by decide) ?_
      refine lv_iadd hx hb d_O_expandForm_285 ?_
      exact j286 gs ((gs.1 36) + 2) H locs ls hok hP hD hS (lv_sub hl [0] rfl)
    · replace hok := ci_t h1 hok
      refine lv_aload_n hx hb d_O_expandForm_271 rfl (lv_at hl 0 rfl) ?_
      refine va_get (D := D) (ci := 8) (v := .int (gs.1 36)) (C := rc_O) (T := ft_O) (N := 42) hx hb hts in_O hown hK hP 0 rfl rfl 36 (by decide) (hts _ k_691) (fun _ h9 => h9) rfl d_O_expandForm_272 ?_
      refine lv_iconst (v := 3) hx hb d_O_expandForm_275 (by decide) ?_
      refine lv_iadd hx hb d_O_expandForm_276 ?_
      refine lv_goto (tgt := 286) hx hb d_O_expandForm_277 (by decide) ?_
      exact j286 gs ((gs.1 36) + 3) H locs ls hok hP hD hS (lv_sub hl [0] rfl)
  have j227 : ∀ (gs : OS) (x1 : Int32) (y0 : Int32) (H : Heap) (locs : List Loc) (ls : Array Slot), rf_expandForm_227 F gs x1 y0 = some (r0, gf) → va_P D wcl (MO g ad ca gs) H → va_D A (MO g ad ca gs) → va_S A s.heap H locs → lv_has ls 7 [(0, .ref g), (1, .int x1)] → W p l e (headSpec (Cond.code y_O_expandForm b_O_expandForm 7 none :: wal) ({ frames := 11, cells := 0, slots := 0, locals := 180 })).room s m ([.ref g] : List Value).toArray below meth c H locs 0 0 (MQ below (va_Qv (S := Unit) (fun u => True) (fun u t9 => po D (A) ((fun u => (MO g ad ca gf)) u) ((fun u => []) u) t9) (A)) ([.ref g] : List Value).toArray s 0 0 A) (F0 m 227 ls [.int y0, .ref g]) := by
    intro gs x1 y0 H locs ls hok hP hD hS hl
    rw [rf_expandForm_227] at hok
    replace hok := bd_ok hok
    obtain ⟨r2, gs3, hc4, hok⟩ := hok
    refine cl_v (wc := (MO g ad ca gs)) (wr := []) hP hD hK hS hA [0, 1, 2, 3, 4, 5, 6, 7, 8, 9, 10, 11, 12, 13, 14, 15, 16, 17, 18, 19, 20] [] rfl rfl (by decide) (by decide) (va_runV (As := [.int y0]) (rest := []) ⟨hx, hb, hml, hown, hts⟩ (a_openRow l D H.size g ad ca F gs y0 r2 gs3 hc4) (cw_V hts 1 k_916 k_9 k_913 k_915 sel_O_openRow (by decide +kernel) ⟨Nat.le_of_ble_eq_true rfl, Nat.le_of_ble_eq_true rfl⟩) (pr_V hP hD hK [0, 1, 2, 3, 4, 5, 6, 7, 8, 9, 10, 11, 12, 13, 14, 15, 16, 17, 18, 19, 20] [0, 1, 2, 3, 4, 5, 6, 7, 8, 9, 10, 11, 12, 13, 14, 15, 16, 17, 18, 19] (by decide) rfl rfl (fun U hU hW => trivial) (fun U g mk a h => h) (q0 := 0) (ci := 8) rfl rfl) rfl rfl hl.1 rfl (lv_room (Nat.le_of_ble_eq_true rfl)) d_O_expandForm_227 ⟨by decide, by decide⟩) (fun u H locs h5 hP hD hK hS => ?_)
    have hP : va_P D wcl (MO g ad ca gs3) H := hP
    have hD : va_D A (MO g ad ca gs3) := hD
    have hK : va_K D wcl (MT ca) s := hK
    refine lv_iload_n hx hb d_O_expandForm_230 rfl (lv_at hl 1 rfl) ?_
    refine lv_iconst (v := 3) hx hb d_O_expandForm_231 (by decide) ?_
    refine lv_icmp_ne (tgt := 265) hx hb d_O_expandForm_232 (by decide) (fun h7 => ?_) (fun h7 => ?_)
    · replace hok := ci_f h7 hok
      exact j265 gs3 x1 H locs ls hok hP hD hS hl
    · replace hok := ci_t h7 hok
      refine lv_aload_n hx hb d_O_expandForm_235 rfl (lv_at hl 0 rfl) ?_
      refine va_get (D := D) (ci := 8) (v := .ref (ad 35)) (C := rc_O) (T := ft_O) (N := 42) hx hb hts in_O hown hK hP 0 rfl rfl 35 (by decide) (hts _ k_690) (fun _ h9 => h9) rfl d_O_expandForm_236 ?_
      refine lv_aload_n hx hb d_O_expandForm_239 rfl (lv_at hl 0 rfl) ?_
      refine va_get (D := D) (ci := 8) (v := .int (gs3.1 34)) (C := rc_O) (T := ft_O) (N := 42) hx hb hts in_O hown hK hP 0 rfl rfl 34 (by decide) (hts _ k_689) (fun _ h9 => h9) rfl d_O_expandForm_240 ?_
      refine lv_aload_n hx hb d_O_expandForm_243 rfl (lv_at hl 0 rfl) ?_
      refine va_get (D := D) (ci := 8) (v := .ref (ad 22)) (C := rc_O) (T := ft_O) (N := 42) hx hb hts in_O hown hK hP 0 rfl rfl 22 (by decide) (hts _ k_677) (fun _ h9 => h9) rfl d_O_expandForm_244 ?_
      refine lv_aload_n hx hb d_O_expandForm_247 rfl (lv_at hl 0 rfl) ?_
      refine va_get (D := D) (ci := 8) (v := .int (gs3.1 36)) (C := rc_O) (T := ft_O) (N := 42) hx hb hts in_O hown hK hP 0 rfl rfl 36 (by decide) (hts _ k_691) (fun _ h9 => h9) rfl d_O_expandForm_248 ?_
      refine lv_iconst (v := 2) hx hb d_O_expandForm_251 (by decide) ?_
      refine lv_iadd hx hb d_O_expandForm_252 ?_
      have hi8 := (gd_ok hok).1
      replace hok := (gd_ok hok).2
      refine va_iald hx hb hK hP 13 12 rfl rfl (hi8) d_O_expandForm_253 ?_
      have hi9 := (gd_ok hok).1
      replace hok := (gd_ok hok).2
      refine va_iast hx hb hK hP hD hS 19 18 rfl rfl hi9 d_O_expandForm_254 (fun H locs hP hD hS => ?_)
      have hP : va_P D wcl (MO g ad ca (sA gs3 35 (upd (gs3.2 35) (gs3.1 34).toNatClampNeg ((gs3.2 22) ((gs3.1 36) + 2).toNatClampNeg)))) H := hP
      have hD : va_D A (MO g ad ca (sA gs3 35 (upd (gs3.2 35) (gs3.1 34).toNatClampNeg ((gs3.2 22) ((gs3.1 36) + 2).toNatClampNeg)))) := hD
      refine lv_aload_n hx hb d_O_expandForm_255 rfl (lv_at hl 0 rfl) ?_
      refine lv_dup hx hb d_O_expandForm_256 rfl ?_
      refine va_get (D := D) (ci := 8) (v := .int (gs3.1 34)) (C := rc_O) (T := ft_O) (N := 42) hx hb hts in_O hown hK hP 0 rfl rfl 34 (by decide) (hts _ k_689) (fun _ h9 => h9) rfl d_O_expandForm_257 ?_
      refine lv_iconst (v := 1) hx hb d_O_expandForm_260 (by decide) ?_
      refine lv_iadd hx hb d_O_expandForm_261 ?_
      refine va_put (D := D) (ci := 8) (v := .int ((gs3.1 34) + 1)) (ty := .int) (C := rc_O) (T := ft_O) (N := 42) hx hb hts in_O ty_O tk_O nm_O hown hK hP hD hS 0 rfl rfl 34 (by decide) (hts _ k_689) (fun _ h9 => h9) rfl (by decide +kernel) rfl rfl (Nat.le_of_ble_eq_true rfl) d_O_expandForm_262 (fun H locs hP hD hS => ?_)
      have hP : va_P D wcl (MO g ad ca (sA (sI gs3 34 ((gs3.1 34) + 1)) 35 (upd (gs3.2 35) (gs3.1 34).toNatClampNeg ((gs3.2 22) ((gs3.1 36) + 2).toNatClampNeg)))) H := hP
      have hD : va_D A (MO g ad ca (sA (sI gs3 34 ((gs3.1 34) + 1)) 35 (upd (gs3.2 35) (gs3.1 34).toNatClampNeg ((gs3.2 22) ((gs3.1 36) + 2).toNatClampNeg)))) := hD
      exact j265 (sA (sI gs3 34 ((gs3.1 34) + 1)) 35 (upd (gs3.2 35) (gs3.1 34).toNatClampNeg ((gs3.2 22) ((gs3.1 36) + 2).toNatClampNeg))) x1 H locs ls hok hP hD hS hl
  have j142 : ∀ (d142 : Nat) (gs : OS) (x3 : Int32) (x5 : Int32) (H : Heap) (locs : List Loc) (ls : Array Slot), rf_expandForm_142 F d142 gs x3 x5 = some (r0, gf) → va_P D wcl (MO g ad ca gs) H → va_D A (MO g ad ca gs) → va_S A s.heap H locs → lv_has ls 7 [(0, .ref g), (3, .int x3), (5, .int x5)] → W p l e (headSpec (Cond.code y_O_expandForm b_O_expandForm 7 none :: wal) ({ frames := 11, cells := 0, slots := 0, locals := 180 })).room s m ([.ref g] : List Value).toArray below meth c H locs 0 0 (MQ below (va_Qv (S := Unit) (fun u => True) (fun u t9 => po D (A) ((fun u => (MO g ad ca gf)) u) ((fun u => []) u) t9) (A)) ([.ref g] : List Value).toArray s 0 0 A) (F0 m 142 ls []) := by
    intro d142
    induction d142 with
    | zero =>
      intro gs x3 x5 H locs ls hok
      have h9 : (none : RO) = some (r0, gf) := hok
      cases h9
    | succ d142 ih142 =>
      have j194 : ∀ (gs : OS) (x3 : Int32) (x5 : Int32) (y0 : Int32) (H : Heap) (locs : List Loc) (ls : Array Slot), rf_expandForm_194 F (rf_expandForm_142 F d142) gs x3 x5 y0 = some (r0, gf) → va_P D wcl (MO g ad ca gs) H → va_D A (MO g ad ca gs) → va_S A s.heap H locs → lv_has ls 7 [(0, .ref g), (3, .int x3), (5, .int x5)] → W p l e (headSpec (Cond.code y_O_expandForm b_O_expandForm 7 none :: wal) ({ frames := 11, cells := 0, slots := 0, locals := 180 })).room s m ([.ref g] : List Value).toArray below meth c H locs 0 0 (MQ below (va_Qv (S := Unit) (fun u => True) (fun u t9 => po D (A) ((fun u => (MO g ad ca gf)) u) ((fun u => []) u) t9) (A)) ([.ref g] : List Value).toArray s 0 0 A) (F0 m 194 ls [.int y0, .ref g]) := by
        intro gs x3 x5 y0 H locs ls hok hP hD hS hl
        rw [rf_expandForm_194] at hok
        replace hok := bd_ok hok
        obtain ⟨r10, gs11, hc12, hok⟩ := hok
        refine cl_v (wc := (MO g ad ca gs)) (wr := []) hP hD hK hS hA [0, 1, 2, 3, 4, 5, 6, 7, 8, 9, 10, 11, 12, 13, 14, 15, 16, 17, 18, 19, 20] [] rfl rfl (by decide) (by decide) (va_runV (As := [.int y0]) (rest := []) ⟨hx, hb, hml, hown, hts⟩ (a_put l D H.size g ad ca F gs y0 r10 gs11 hc12) (cw_V hts 1 k_900 k_9 k_897 k_899 sel_O_put (by decide +kernel) ⟨Nat.le_of_ble_eq_true rfl, Nat.le_of_ble_eq_true rfl⟩) (pr_V hP hD hK [0, 1, 2, 3, 4, 5, 6, 7, 8, 9, 10, 11, 12, 13, 14, 15, 16, 17, 18, 19, 20] [0, 1, 2, 3, 4, 5, 6, 7, 8, 9, 10, 11, 12, 13, 14, 15, 16, 17, 18, 19] (by decide) rfl rfl (fun U hU hW => trivial) (fun U g mk a h => h) (q0 := 0) (ci := 8) rfl rfl) rfl rfl hl.1 rfl (lv_room (Nat.le_of_ble_eq_true rfl)) d_O_expandForm_194 ⟨by decide, by decide⟩) (fun u H locs h13 hP hD hK hS => ?_)
        have hP : va_P D wcl (MO g ad ca gs11) H := hP
        have hD : va_D A (MO g ad ca gs11) := hD
        have hK : va_K D wcl (MT ca) s := hK
        refine lv_iinc (k := 2) (v := (x5 + 1)) hx hb d_O_expandForm_197 hl rfl (by rfl) (by decide) rfl (fun ls hl => ?_)
        have hl : lv_has ls 7 [(5, .int (x5 + 1)), (0, .ref g), (3, .int x3)] := hl
        refine lv_goto (tgt := 142) hx hb d_O_expandForm_200 (by decide) ?_
        exact ih142 gs11 x3 (x5 + 1) H locs ls hok hP hD hS (lv_sub hl [1, 2, 0] rfl)
      intro gs x3 x5 H locs ls hok hP hD hS hl
      rw [rf_expandForm_142] at hok
      refine lv_iload hx hb d_O_expandForm_142 (lv_at hl 2 rfl) ?_
      refine lv_iload_n hx hb d_O_expandForm_144 rfl (lv_at hl 1 rfl) ?_
      refine lv_icmp_ge (tgt := 203) hx hb d_O_expandForm_145 (by decide) (fun h15 => ?_) (fun h15 => ?_)
      · replace hok := ci_t h15 hok
        refine lv_aload_n hx hb d_O_expandForm_203 rfl (lv_at hl 0 rfl) ?_
        refine lv_iconst (v := 2) hx hb d_O_expandForm_204 (by decide) ?_
        replace hok := bd_ok hok
        obtain ⟨r16, gs17, hc18, hok⟩ := hok
        refine cl_v (wc := (MO g ad ca gs)) (wr := []) hP hD hK hS hA [0, 1, 2, 3, 4, 5, 6, 7, 8, 9, 10, 11, 12, 13, 14, 15, 16, 17, 18, 19, 20] [] rfl rfl (by decide) (by decide) (va_runV (As := [.int 2]) (rest := []) ⟨hx, hb, hml, hown, hts⟩ (a_put l D H.size g ad ca F gs 2 r16 gs17 hc18) (cw_V hts 1 k_900 k_9 k_897 k_899 sel_O_put (by decide +kernel) ⟨Nat.le_of_ble_eq_true rfl, Nat.le_of_ble_eq_true rfl⟩) (pr_V hP hD hK [0, 1, 2, 3, 4, 5, 6, 7, 8, 9, 10, 11, 12, 13, 14, 15, 16, 17, 18, 19, 20] [0, 1, 2, 3, 4, 5, 6, 7, 8, 9, 10, 11, 12, 13, 14, 15, 16, 17, 18, 19] (by decide) rfl rfl (fun U hU hW => trivial) (fun U g mk a h => h) (q0 := 0) (ci := 8) rfl rfl) rfl rfl hl.1 rfl (lv_room (Nat.le_of_ble_eq_true rfl)) d_O_expandForm_205 ⟨by decide, by decide⟩) (fun u H locs h19 hP hD hK hS => ?_)
        have hP : va_P D wcl (MO g ad ca gs17) H := hP
        have hD : va_D A (MO g ad ca gs17) := hD
        have hK : va_K D wcl (MT ca) s := hK
        refine lv_aload_n hx hb d_O_expandForm_208 rfl (lv_at hl 0 rfl) ?_
        refine lv_iload_n hx hb d_O_expandForm_209 rfl (lv_at hl 1 rfl) ?_
        refine lv_iconst (v := 1) hx hb d_O_expandForm_210 (by decide) ?_
        refine lv_iadd hx hb d_O_expandForm_211 ?_
        refine va_put (D := D) (ci := 8) (v := .int (x3 + 1)) (ty := .int) (C := rc_O) (T := ft_O) (N := 42) hx hb hts in_O ty_O tk_O nm_O hown hK hP hD hS 0 rfl rfl 36 (by decide) (hts _ k_691) (fun _ h9 => h9) rfl (by decide +kernel) rfl rfl (Nat.le_of_ble_eq_true rfl) d_O_expandForm_212 (fun H locs hP hD hS => ?_)
        have hP : va_P D wcl (MO g ad ca (sI gs17 36 (x3 + 1))) H := hP
        have hD : va_D A (MO g ad ca (sI gs17 36 (x3 + 1))) := hD
        obtain ⟨e8, e9⟩ := rt_ok hok
        rw [e9] at hP hD
        have hK9 := hK.sub (tys' := []) [] rfl
        exact W.vret hx hb hr (fun t9 ht hW => ⟨⟨(), rfl, trivial, ⟨by rw [ht]; exact hP, va_K.moved hW.alike hK9, hD⟩⟩, hS.F ht⟩) hS.2.2 d_O_expandForm_215
      · replace hok := ci_f h15 hok
        refine lv_aload_n hx hb d_O_expandForm_148 rfl (lv_at hl 0 rfl) ?_
        refine va_get (D := D) (ci := 8) (v := .ref (ad 22)) (C := rc_O) (T := ft_O) (N := 42) hx hb hts in_O hown hK hP 0 rfl rfl 22 (by decide) (hts _ k_677) (fun _ h9 => h9) rfl d_O_expandForm_149 ?_
        refine lv_iload hx hb d_O_expandForm_152 (lv_at hl 2 rfl) ?_
        have hi21 := (gd_ok hok).1
        replace hok := (gd_ok hok).2
        refine va_iald hx hb hK hP 13 12 rfl rfl (hi21) d_O_expandForm_154 ?_
        refine lv_istore hx hb d_O_expandForm_155 hl (by decide) rfl (fun ls hl => ?_)
        have hl : lv_has ls 7 [(6, .int ((gs.2 22) x5.toNatClampNeg)), (0, .ref g), (3, .int x3), (5, .int x5)] := hl
        refine lv_aload_n hx hb d_O_expandForm_157 rfl (lv_at hl 1 rfl) ?_
        refine lv_iload hx hb d_O_expandForm_158 (lv_at hl 0 rfl) ?_
        replace hok := bd_ok hok
        obtain ⟨r22, gs23, hc24, hok⟩ := hok
        refine cl_i (wc := (MO g ad ca gs)) (wr := []) hP hD hK hS hA [0, 1, 2, 3, 4, 5, 6, 7, 8, 9, 10, 11, 12, 13, 14, 15, 16, 17, 18, 19, 20] [] rfl rfl (by decide) (by decide) (va_runS (As := [.int ((gs.2 22) x5.toNatClampNeg)]) (rest := [.ref g]) ⟨hx, hb, hml, hown, hts⟩ (a_isName l D H.size g ad ca F gs ((gs.2 22) x5.toNatClampNeg) r22 gs23 hc24) (cw_S hts 1 k_811 k_9 k_809 k_810 (by decide +kernel) ⟨Nat.le_of_ble_eq_true rfl, Nat.le_of_ble_eq_true rfl⟩) (pr_S hP hD hK [0, 1, 2, 3, 4, 5, 6, 7, 8, 9, 10, 11, 12, 13, 14, 15, 16, 17, 18, 19, 20] [0, 1, 2, 3, 4, 5, 6, 7, 8, 9, 10, 11, 12, 13, 14, 15, 16, 17, 18, 19] (by decide) rfl rfl (fun U hU hW => trivial) (fun U g mk a h => h)) rfl rfl hl.1 rfl (lv_room (Nat.le_of_ble_eq_true rfl)) d_O_expandForm_160 ⟨by decide, by decide⟩) (fun v26 u H locs h25 hP hD hK hS => ?_)
        have hP : va_P D wcl (MO g ad ca gs23) H := hP
        have hD : va_D A (MO g ad ca gs23) := hD
        have hK : va_K D wcl (MT ca) s := hK
        have h25 : r22 = v26 := h25
        subst h25
        refine lv_if_eq (tgt := 177) hx hb d_O_expandForm_163 (by decide) (fun h27 => ?_) (fun h27 => ?_)
        · replace hok := ci_t h27 hok
          refine lv_iload hx hb d_O_expandForm_177 (lv_at hl 0 rfl) ?_
          replace hok := bd_ok hok
          obtain ⟨r28, gs29, hc30, hok⟩ := hok
          refine cl_i (wc := (MO g ad ca gs23)) (wr := []) hP hD hK hS hA [0, 1, 2, 3, 4, 5, 6, 7, 8, 9, 10, 11, 12, 13, 14, 15, 16, 17, 18, 19, 20] [] rfl rfl (by decide) (by decide) (va_runS (As := [.int ((gs.2 22) x5.toNatClampNeg)]) (rest := [.ref g]) ⟨hx, hb, hml, hown, hts⟩ (a_isKeyword l D H.size g ad ca F gs23 ((gs.2 22) x5.toNatClampNeg) r28 gs29 hc30) (cw_S hts 1 k_848 k_9 k_846 k_847 (by decide +kernel) ⟨Nat.le_of_ble_eq_true rfl, Nat.le_of_ble_eq_true rfl⟩) (pr_S hP hD hK [0, 1, 2, 3, 4, 5, 6, 7, 8, 9, 10, 11, 12, 13, 14, 15, 16, 17, 18, 19, 20] [0, 1, 2, 3, 4, 5, 6, 7, 8, 9, 10, 11, 12, 13, 14, 15, 16, 17, 18, 19] (by decide) rfl rfl (fun U hU hW => trivial) (fun U g mk a h => h)) rfl rfl hl.1 rfl (lv_room (Nat.le_of_ble_eq_true rfl)) d_O_expandForm_179 ⟨by decide, by decide⟩) (fun v32 u H locs h31 hP hD hK hS => ?_)
          have hP : va_P D wcl (MO g ad ca gs29) H := hP
          have hD : va_D A (MO g ad ca gs29) := hD
          have hK : va_K D wcl (MT ca) s := hK
          have h31 : r28 = v32 := h31
          subst h31
          refine lv_if_eq (tgt := 192) hx hb d_O_expandForm_182 (by decide) (fun h33 => ?_) (fun h33 => ?_)
          · replace hok := ci_t h33 hok
            refine lv_iload hx hb d_O_expandForm_192 (lv_at hl 0 rfl) ?_
            exact j194 gs29 x3 x5 ((gs.2 22) x5.toNatClampNeg) H locs ls hok hP hD hS (lv_sub hl [1, 2, 3] rfl)
          · replace hok := ci_f h33 hok
            refine lv_iconst (v := 2) hx hb d_O_expandForm_185 (by decide) ?_
            refine lv_iload hx hb d_O_expandForm_186 (lv_at hl 0 rfl) ?_
            refine lv_isub hx hb d_O_expandForm_188 ?_
            refine lv_goto (tgt := 194) hx hb d_O_expandForm_189 (by decide) ?_
            exact j194 gs29 x3 x5 (2 - ((gs.2 22) x5.toNatClampNeg)) H locs ls hok hP hD hS (lv_sub hl [1, 2, 3] rfl)
        · replace hok := ci_f h27 hok
          refine lv_bipush (v := 100) hx hb d_O_expandForm_166 (by decide) ?_
          refine lv_iload hx hb d_O_expandForm_168 (lv_at hl 0 rfl) ?_
          replace hok := bd_ok hok
          obtain ⟨r34, gs35, hc36, hok⟩ := hok
          refine cl_i (wc := (MO g ad ca gs23)) (wr := []) hP hD hK hS hA [0, 1, 2, 3, 4, 5, 6, 7, 8, 9, 10, 11, 12, 13, 14, 15, 16, 17, 18, 19, 20] [] rfl rfl (by decide) (by decide) (va_runS (As := [.int ((gs.2 22) x5.toNatClampNeg)]) (rest := [.int 100, .ref g]) ⟨hx, hb, hml, hown, hts⟩ (a_letterOf l D H.size g ad ca F gs23 ((gs.2 22) x5.toNatClampNeg) r34 gs35 hc36) (cw_S hts 1 k_830 k_9 k_828 k_829 (by decide +kernel) ⟨Nat.le_of_ble_eq_true rfl, Nat.le_of_ble_eq_true rfl⟩) (pr_S hP hD hK [0, 1, 2, 3, 4, 5, 6, 7, 8, 9, 10, 11, 12, 13, 14, 15, 16, 17, 18, 19, 20] [0, 1, 2, 3, 4, 5, 6, 7, 8, 9, 10, 11, 12, 13, 14, 15, 16, 17, 18, 19] (by decide) rfl rfl (fun U hU hW => trivial) (fun U g mk a h => h)) rfl rfl hl.1 rfl (lv_room (Nat.le_of_ble_eq_true rfl)) d_O_expandForm_170 ⟨by decide, by decide⟩) (fun v38 u H locs h37 hP hD hK hS => ?_)
          have hP : va_P D wcl (MO g ad ca gs35) H := hP
          have hD : va_D A (MO g ad ca gs35) := hD
          have hK : va_K D wcl (MT ca) s := hK
          have h37 : r34 = v38 := h37
          subst h37
          refine lv_iadd hx hb d_O_expandForm_173 ?_
          refine lv_goto (tgt := 194) hx hb d_O_expandForm_174 (by decide) ?_
          exact j194 gs35 x3 x5 (100 + r34) H locs ls hok hP hD hS (lv_sub hl [1, 2, 3] rfl)
  have j106 : ∀ (gs : OS) (x1 : Int32) (x3 : Int32) (y0 : Int32) (H : Heap) (locs : List Loc) (ls : Array Slot), rf_expandForm_106 F gs x1 x3 y0 = some (r0, gf) → va_P D wcl (MO g ad ca gs) H → va_D A (MO g ad ca gs) → va_S A s.heap H locs → lv_has ls 7 [(0, .ref g), (1, .int x1), (3, .int x3)] → W p l e (headSpec (Cond.code y_O_expandForm b_O_expandForm 7 none :: wal) ({ frames := 11, cells := 0, slots := 0, locals := 180 })).room s m ([.ref g] : List Value).toArray below meth c H locs 0 0 (MQ below (va_Qv (S := Unit) (fun u => True) (fun u t9 => po D (A) ((fun u => (MO g ad ca gf)) u) ((fun u => []) u) t9) (A)) ([.ref g] : List Value).toArray s 0 0 A) (F0 m 106 ls [.int y0]) := by
    intro gs x1 x3 y0 H locs ls hok hP hD hS hl
    rw [rf_expandForm_106] at hok
    refine lv_istore hx hb d_O_expandForm_106 hl (by decide) rfl (fun ls hl => ?_)
    have hl : lv_has ls 7 [(4, .int y0), (0, .ref g), (1, .int x1), (3, .int x3)] := hl
    refine lv_iload hx hb d_O_expandForm_108 (lv_at hl 0 rfl) ?_
    refine lv_if_ne (tgt := 119) hx hb d_O_expandForm_110 (by decide) (fun h39 => ?_) (fun h39 => ?_)
    · replace hok := ci_f h39 hok
      refine lv_aload_n hx hb d_O_expandForm_119 rfl (lv_at hl 1 rfl) ?_
      refine lv_iconst (v := 1) hx hb d_O_expandForm_120 (by decide) ?_
      replace hok := bd_ok hok
      obtain ⟨r40, gs41, hc42, hok⟩ := hok
      refine cl_v (wc := (MO g ad ca gs)) (wr := []) hP hD hK hS hA [0, 1, 2, 3, 4, 5, 6, 7, 8, 9, 10, 11, 12, 13, 14, 15, 16, 17, 18, 19, 20] [] rfl rfl (by decide) (by decide) (va_runV (As := [.int 1]) (rest := []) ⟨hx, hb, hml, hown, hts⟩ (a_put l D H.size g ad ca F gs 1 r40 gs41 hc42) (cw_V hts 1 k_900 k_9 k_897 k_899 sel_O_put (by decide +kernel) ⟨Nat.le_of_ble_eq_true rfl, Nat.le_of_ble_eq_true rfl⟩) (pr_V hP hD hK [0, 1, 2, 3, 4, 5, 6, 7, 8, 9, 10, 11, 12, 13, 14, 15, 16, 17, 18, 19, 20] [0, 1, 2, 3, 4, 5, 6, 7, 8, 9, 10, 11, 12, 13, 14, 15, 16, 17, 18, 19] (by decide) rfl rfl (fun U hU hW => trivial) (fun U g mk a h => h) (q0 := 0) (ci := 8) rfl rfl) rfl rfl hl.1 rfl (lv_room (Nat.le_of_ble_eq_true rfl)) d_O_expandForm_121 ⟨by decide, by decide⟩) (fun u H locs h43 hP hD hK hS => ?_)
      have hP : va_P D wcl (MO g ad ca gs41) H := hP
      have hD : va_D A (MO g ad ca gs41) := hD
      have hK : va_K D wcl (MT ca) s := hK
      refine lv_aload_n hx hb d_O_expandForm_124 rfl (lv_at hl 1 rfl) ?_
      refine lv_iload_n hx hb d_O_expandForm_125 rfl (lv_at hl 2 rfl) ?_
      replace hok := bd_ok hok
      obtain ⟨r45, gs46, hc47, hok⟩ := hok
      refine cl_v (wc := (MO g ad ca gs41)) (wr := []) hP hD hK hS hA [0, 1, 2, 3, 4, 5, 6, 7, 8, 9, 10, 11, 12, 13, 14, 15, 16, 17, 18, 19, 20] [] rfl rfl (by decide) (by decide) (va_runV (As := [.int x1]) (rest := []) ⟨hx, hb, hml, hown, hts⟩ (a_put l D H.size g ad ca F gs41 x1 r45 gs46 hc47) (cw_V hts 1 k_900 k_9 k_897 k_899 sel_O_put (by decide +kernel) ⟨Nat.le_of_ble_eq_true rfl, Nat.le_of_ble_eq_true rfl⟩) (pr_V hP hD hK [0, 1, 2, 3, 4, 5, 6, 7, 8, 9, 10, 11, 12, 13, 14, 15, 16, 17, 18, 19, 20] [0, 1, 2, 3, 4, 5, 6, 7, 8, 9, 10, 11, 12, 13, 14, 15, 16, 17, 18, 19] (by decide) rfl rfl (fun U hU hW => trivial) (fun U g mk a h => h) (q0 := 0) (ci := 8) rfl rfl) rfl rfl hl.1 rfl (lv_room (Nat.le_of_ble_eq_true rfl)) d_O_expandForm_126 ⟨by decide, by decide⟩) (fun u H locs h48 hP hD hK hS => ?_)
      have hP : va_P D wcl (MO g ad ca gs46) H := hP
      have hD : va_D A (MO g ad ca gs46) := hD
      have hK : va_K D wcl (MT ca) s := hK
      refine lv_iload_n hx hb d_O_expandForm_129 rfl (lv_at hl 2 rfl) ?_
      refine lv_iconst (v := 5) hx hb d_O_expandForm_130 (by decide) ?_
      refine lv_icmp_ne (tgt := 216) hx hb d_O_expandForm_131 (by decide) (fun h50 => ?_) (fun h50 => ?_)
      · replace hok := ci_f h50 hok
        refine lv_aload_n hx hb d_O_expandForm_216 rfl (lv_at hl 1 rfl) ?_
        refine lv_iload_n hx hb d_O_expandForm_217 rfl (lv_at hl 2 rfl) ?_
        refine lv_iconst (v := 3) hx hb d_O_expandForm_218 (by decide) ?_
        refine lv_icmp_ne (tgt := 226) hx hb d_O_expandForm_219 (by decide) (fun h51 => ?_) (fun h51 => ?_)
        · replace hok := ci_f h51 hok
          refine lv_iconst (v := 0) hx hb d_O_expandForm_226 (by decide) ?_
          exact j227 gs46 x1 0 H locs ls hok hP hD hS (lv_sub hl [1, 2] rfl)
        · replace hok := ci_t h51 hok
          refine lv_iconst (v := 1) hx hb d_O_expandForm_222 (by decide) ?_
          refine lv_goto (tgt := 227) hx hb d_O_expandForm_223 (by decide) ?_
          exact j227 gs46 x1 1 H locs ls hok hP hD hS (lv_sub hl [1, 2] rfl)
      · replace hok := ci_t h50 hok
        refine lv_aload_n hx hb d_O_expandForm_134 rfl (lv_at hl 1 rfl) ?_
        refine va_get (D := D) (ci := 8) (v := .int (gs46.1 36)) (C := rc_O) (T := ft_O) (N := 42) hx hb hts in_O hown hK hP 0 rfl rfl 36 (by decide) (hts _ k_691) (fun _ h9 => h9) rfl d_O_expandForm_135 ?_
        refine lv_iconst (v := 2) hx hb d_O_expandForm_138 (by decide) ?_
        refine lv_iadd hx hb d_O_expandForm_139 ?_
        refine lv_istore hx hb d_O_expandForm_140 hl (by decide) rfl (fun ls hl => ?_)
        have hl : lv_has ls 7 [(5, .int ((gs46.1 36) + 2)), (4, .int y0), (0, .ref g), (1, .int x1), (3, .int x3)] := hl
        exact j142 F gs46 x3 ((gs46.1 36) + 2) H locs ls hok hP hD hS (lv_sub hl [2, 4, 0] rfl)
    · replace hok := ci_t h39 hok
      refine lv_aload_n hx hb d_O_expandForm_113 rfl (lv_at hl 1 rfl) ?_
      refine lv_iconst (v := 2) hx hb d_O_expandForm_114 (by decide) ?_
      refine va_put (D := D) (ci := 8) (v := .int 2) (ty := .int) (C := rc_O) (T := ft_O) (N := 42) hx hb hts in_O ty_O tk_O nm_O hown hK hP hD hS 0 rfl rfl 40 (by decide) (hts _ k_695) (fun _ h9 => h9) rfl (by decide +kernel) rfl rfl (Nat.le_of_ble_eq_true rfl) d_O_expandForm_115 (fun H locs hP hD hS => ?_)
      have hP : va_P D wcl (MO g ad ca (sI gs 40 2)) H := hP
      have hD : va_D A (MO g ad ca (sI gs 40 2)) := hD
      obtain ⟨e8, e9⟩ := rt_ok hok
      rw [e9] at hP hD
      have hK9 := hK.sub (tys' := []) [] rfl
      exact W.vret hx hb hr (fun t9 ht hW => ⟨⟨(), rfl, trivial, ⟨by rw [ht]; exact hP, va_K.moved hW.alike hK9, hD⟩⟩, hS.F ht⟩) hS.2.2 d_O_expandForm_118
  have j74 : ∀ (gs : OS) (x1 : Int32) (x3 : Int32) (H : Heap) (locs : List Loc) (ls : Array Slot), rf_expandForm_74 F gs x1 x3 = some (r0, gf) → va_P D wcl (MO g ad ca gs) H → va_D A (MO g ad ca gs) → va_S A s.heap H locs → lv_has ls 7 [(0, .ref g), (1, .int x1), (3, .int x3)] → W p l e (headSpec (Cond.code y_O_expandForm b_O_expandForm 7 none :: wal) ({ frames := 11, cells := 0, slots := 0, locals := 180 })).room s m ([.ref g] : List Value).toArray below meth c H locs 0 0 (MQ below (va_Qv (S := Unit) (fun u => True) (fun u t9 => po D (A) ((fun u => (MO g ad ca gf)) u) ((fun u => []) u) t9) (A)) ([.ref g] : List Value).toArray s 0 0 A) (F0 m 74 ls []) := by
    intro gs x1 x3 H locs ls hok hP hD hS hl
    rw [rf_expandForm_74] at hok
    refine lv_iconst (v := 0) hx hb d_O_expandForm_74 (by decide) ?_
    refine lv_goto (tgt := 106) hx hb d_O_expandForm_75 (by decide) ?_
    exact j106 gs x1 x3 0 H locs ls hok hP hD hS hl
  have j21 : ∀ (d21 : Nat) (gs : OS) (x1 : Int32) (x2 : Int32) (x3 : Int32) (H : Heap) (locs : List Loc) (ls : Array Slot), rf_expandForm_21 F d21 gs x1 x2 x3 = some (r0, gf) → va_P D wcl (MO g ad ca gs) H → va_D A (MO g ad ca gs) → va_S A s.heap H locs → lv_has ls 7 [(0, .ref g), (1, .int x1), (2, .int x2), (3, .int x3)] → W p l e (headSpec (Cond.code y_O_expandForm b_O_expandForm 7 none :: wal) ({ frames := 11, cells := 0, slots := 0, locals := 180 })).room s m ([.ref g] : List Value).toArray below meth c H locs 0 0 (MQ below (va_Qv (S := Unit) (fun u => True) (fun u t9 => po D (A) ((fun u => (MO g ad ca gf)) u) ((fun u => []) u) t9) (A)) ([.ref g] : List Value).toArray s 0 0 A) (F0 m 21 ls []) := by
    intro d21
    induction d21 with
    | zero =>
      intro gs x1 x2 x3 H locs ls hok
      have h9 : (none : RO) = some (r0, gf) := hok
      cases h9
    | succ d21 ih21 =>
      intro gs x1 x2 x3 H locs ls hok hP hD hS hl
      rw [rf_expandForm_21] at hok
      refine lv_aload_n hx hb d_O_expandForm_21 rfl (lv_at hl 0 rfl) ?_
      refine va_get (D := D) (ci := 8) (v := .ref (ad 22)) (C := rc_O) (T := ft_O) (N := 42) hx hb hts in_O hown hK hP 0 rfl rfl 22 (by decide) (hts _ k_677) (fun _ h9 => h9) rfl d_O_expandForm_22 ?_
      refine lv_iload_n hx hb d_O_expandForm_25 rfl (lv_at hl 3 rfl) ?_
      have hi52 := (gd_ok hok).1
      replace hok := (gd_ok hok).2
      refine va_iald hx hb hK hP 13 12 rfl rfl (hi52) d_O_expandForm_26 ?_
      refine lv_iconst (v := 2) hx hb d_O_expandForm_27 (by decide) ?_
      refine lv_icmp_eq (tgt := 43) hx hb d_O_expandForm_28 (by decide) (fun h53 => ?_) (fun h53 => ?_)
      · replace hok := ci_t h53 hok
        refine lv_iload_n hx hb d_O_expandForm_43 rfl (lv_at hl 1 rfl) ?_
        refine lv_iconst (v := 3) hx hb d_O_expandForm_44 (by decide) ?_
        refine lv_icmp_ne (tgt := 78) hx hb d_O_expandForm_45 (by decide) (fun h54 => ?_) (fun h54 => ?_)
        · replace hok := ci_f h54 hok
          refine lv_iload_n hx hb d_O_expandForm_78 rfl (lv_at hl 1 rfl) ?_
          refine lv_iconst (v := 4) hx hb d_O_expandForm_79 (by decide) ?_
          refine lv_icmp_ne (tgt := 96) hx hb d_O_expandForm_80 (by decide) (fun h55 => ?_) (fun h55 => ?_)
          · replace hok := ci_f h55 hok
            refine lv_iload_n hx hb d_O_expandForm_96 rfl (lv_at hl 2 rfl) ?_
            refine lv_iconst (v := 1) hx hb d_O_expandForm_97 (by decide) ?_
            refine lv_icmp_ne (tgt := 105) hx hb d_O_expandForm_98 (by decide) (fun h56 => ?_) (fun h56 => ?_)
            · replace hok := ci_f h56 hok
              refine lv_iconst (v := 0) hx hb d_O_expandForm_105 (by decide) ?_
              exact j106 gs x1 x3 0 H locs ls hok hP hD hS (lv_sub hl [0, 1, 3] rfl)
            · replace hok := ci_t h56 hok
              refine lv_iconst (v := 1) hx hb d_O_expandForm_101 (by decide) ?_
              refine lv_goto (tgt := 106) hx hb d_O_expandForm_102 (by decide) ?_
              exact j106 gs x1 x3 1 H locs ls hok hP hD hS (lv_sub hl [0, 1, 3] rfl)
          · replace hok := ci_t h55 hok
            refine lv_iload_n hx hb d_O_expandForm_83 rfl (lv_at hl 2 rfl) ?_
            refine lv_iconst (v := 3) hx hb d_O_expandForm_84 (by decide) ?_
            refine lv_icmp_ne (tgt := 92) hx hb d_O_expandForm_85 (by decide) (fun h57 => ?_) (fun h57 => ?_)
            · replace hok := ci_f h57 hok
              refine lv_iconst (v := 0) hx hb d_O_expandForm_92 (by decide) ?_
              refine lv_goto (tgt := 106) hx hb d_O_expandForm_93 (by decide) ?_
              exact j106 gs x1 x3 0 H locs ls hok hP hD hS (lv_sub hl [0, 1, 3] rfl)
            · replace hok := ci_t h57 hok
              refine lv_iconst (v := 1) hx hb d_O_expandForm_88 (by decide) ?_
              refine lv_goto (tgt := 106) hx hb d_O_expandForm_89 (by decide) ?_
              exact j106 gs x1 x3 1 H locs ls hok hP hD hS (lv_sub hl [0, 1, 3] rfl)
        · replace hok := ci_t h54 hok
          refine lv_iload_n hx hb d_O_expandForm_48 rfl (lv_at hl 2 rfl) ?_
          refine lv_iconst (v := 2) hx hb d_O_expandForm_49 (by decide) ?_
          refine lv_icmp_ne (tgt := 74) hx hb d_O_expandForm_50 (by decide) (fun h58 => ?_) (fun h58 => ?_)
          · replace hok := ci_f h58 hok
            exact j74 gs x1 x3 H locs ls hok hP hD hS (lv_sub hl [0, 1, 3] rfl)
          · replace hok := ci_t h58 hok
            refine lv_aload_n hx hb d_O_expandForm_53 rfl (lv_at hl 0 rfl) ?_
            refine va_get (D := D) (ci := 8) (v := .ref (ad 22)) (C := rc_O) (T := ft_O) (N := 42) hx hb hts in_O hown hK hP 0 rfl rfl 22 (by decide) (hts _ k_677) (fun _ h9 => h9) rfl d_O_expandForm_54 ?_
            refine lv_aload_n hx hb d_O_expandForm_57 rfl (lv_at hl 0 rfl) ?_
            refine va_get (D := D) (ci := 8) (v := .int (gs.1 36)) (C := rc_O) (T := ft_O) (N := 42) hx hb hts in_O hown hK hP 0 rfl rfl 36 (by decide) (hts _ k_691) (fun _ h9 => h9) rfl d_O_expandForm_58 ?_
            refine lv_iconst (v := 2) hx hb d_O_expandForm_61 (by decide) ?_
            refine lv_iadd hx hb d_O_expandForm_62 ?_
            have hi59 := (gd_ok hok).1
            replace hok := (gd_ok hok).2
            refine va_iald hx hb hK hP 13 12 rfl rfl (hi59) d_O_expandForm_63 ?_
            replace hok := bd_ok hok
            obtain ⟨r60, gs61, hc62, hok⟩ := hok
            refine cl_i (wc := (MO g ad ca gs)) (wr := []) hP hD hK hS hA [0, 1, 2, 3, 4, 5, 6, 7, 8, 9, 10, 11, 12, 13, 14, 15, 16, 17, 18, 19, 20] [] rfl rfl (by decide) (by decide) (va_runS (As := [.int ((gs.2 22) ((gs.1 36) + 2).toNatClampNeg)]) (rest := []) ⟨hx, hb, hml, hown, hts⟩ (a_isName l D H.size g ad ca F gs ((gs.2 22) ((gs.1 36) + 2).toNatClampNeg) r60 gs61 hc62) (cw_S hts 1 k_811 k_9 k_809 k_810 (by decide +kernel) ⟨Nat.le_of_ble_eq_true rfl, Nat.le_of_ble_eq_true rfl⟩) (pr_S hP hD hK [0, 1, 2, 3, 4, 5, 6, 7, 8, 9, 10, 11, 12, 13, 14, 15, 16, 17, 18, 19, 20] [0, 1, 2, 3, 4, 5, 6, 7, 8, 9, 10, 11, 12, 13, 14, 15, 16, 17, 18, 19] (by decide) rfl rfl (fun U hU hW => trivial) (fun U g mk a h => h)) rfl rfl hl.1 rfl (lv_room (Nat.le_of_ble_eq_true rfl)) d_O_expandForm_64 ⟨by decide, by decide⟩) (fun v64 u H locs h63 hP hD hK hS => ?_)
            have hP : va_P D wcl (MO g ad ca gs61) H := hP
            have hD : va_D A (MO g ad ca gs61) := hD
            have hK : va_K D wcl (MT ca) s := hK
            have h63 : r60 = v64 := h63
            subst h63
            refine lv_if_eq (tgt := 74) hx hb d_O_expandForm_67 (by decide) (fun h65 => ?_) (fun h65 => ?_)
            · replace hok := ci_t h65 hok
              exact j74 gs61 x1 x3 H locs ls hok hP hD hS (lv_sub hl [0, 1, 3] rfl)
            · replace hok := ci_f h65 hok
              refine lv_iconst (v := 1) hx hb d_O_expandForm_70 (by decide) ?_
              refine lv_goto (tgt := 106) hx hb d_O_expandForm_71 (by decide) ?_
              exact j106 gs61 x1 x3 1 H locs ls hok hP hD hS (lv_sub hl [0, 1, 3] rfl)
      · replace hok := ci_f h53 hok
        refine lv_aload_n hx hb d_O_expandForm_31 rfl (lv_at hl 0 rfl) ?_
        refine lv_iload_n hx hb d_O_expandForm_32 rfl (lv_at hl 3 rfl) ?_
        replace hok := bd_ok hok
        obtain ⟨r66, gs67, hc68, hok⟩ := hok
        refine cl_i (wc := (MO g ad ca gs)) (wr := []) hP hD hK hS hA [0, 1, 2, 3, 4, 5, 6, 7, 8, 9, 10, 11, 12, 13, 14, 15, 16, 17, 18, 19, 20] [] rfl rfl (by decide) (by decide) (va_runV (As := [.int x3]) (rest := []) ⟨hx, hb, hml, hown, hts⟩ (a_skip l D H.size g ad ca F gs x3 r66 gs67 hc68) (cw_V hts 1 k_912 k_9 k_909 k_911 sel_O_skip (by decide +kernel) ⟨Nat.le_of_ble_eq_true rfl, Nat.le_of_ble_eq_true rfl⟩) (pr_V hP hD hK [0, 1, 2, 3, 4, 5, 6, 7, 8, 9, 10, 11, 12, 13, 14, 15, 16, 17, 18, 19, 20] [0, 1, 2, 3, 4, 5, 6, 7, 8, 9, 10, 11, 12, 13, 14, 15, 16, 17, 18, 19] (by decide) rfl rfl (fun U hU hW => trivial) (fun U g mk a h => h) (q0 := 0) (ci := 8) rfl rfl) rfl rfl hl.1 rfl (lv_room (Nat.le_of_ble_eq_true rfl)) d_O_expandForm_33 ⟨by decide, by decide⟩) (fun v70 u H locs h69 hP hD hK hS => ?_)
        have hP : va_P D wcl (MO g ad ca gs67) H := hP
        have hD : va_D A (MO g ad ca gs67) := hD
        have hK : va_K D wcl (MT ca) s := hK
        have h69 : r66 = v70 := h69
        subst h69
        refine lv_istore_n hx hb d_O_expandForm_36 rfl hl (by decide) rfl (fun ls hl => ?_)
        have hl : lv_has ls 7 [(3, .int r66), (0, .ref g), (1, .int x1), (2, .int x2)] := hl
        refine lv_iinc (k := 3) (v := (x2 + 1)) hx hb d_O_expandForm_37 hl rfl (by rfl) (by decide) rfl (fun ls hl => ?_)
        have hl : lv_has ls 7 [(2, .int (x2 + 1)), (3, .int r66), (0, .ref g), (1, .int x1)] := hl
        refine lv_goto (tgt := 21) hx hb d_O_expandForm_40 (by decide) ?_
        exact ih21 gs67 x1 (x2 + 1) r66 H locs ls hok hP hD hS (lv_sub hl [2, 3, 0, 1] rfl)
  refine lv_aload_n hx hb d_O_expandForm_0 rfl (lv_at hl 0 rfl) ?_
  refine va_get (D := D) (ci := 8) (v := .ref (ad 22)) (C := rc_O) (T := ft_O) (N := 42) hx hb hts in_O hown hK hP 0 rfl rfl 22 (by decide) (hts _ k_677) (fun _ h9 => h9) rfl d_O_expandForm_1 ?_
  refine lv_aload_n hx hb d_O_expandForm_4 rfl (lv_at hl 0 rfl) ?_
  refine va_get (D := D) (ci := 8) (v := .int (gs.1 36)) (C := rc_O) (T := ft_O) (N := 42) hx hb hts in_O hown hK hP 0 rfl rfl 36 (by decide) (hts _ k_691) (fun _ h9 => h9) rfl d_O_expandForm_5 ?_
  refine lv_iconst (v := 1) hx hb d_O_expandForm_8 (by decide) ?_
  refine lv_iadd hx hb d_O_expandForm_9 ?_
  have hi71 := (gd_ok hok).1
  replace hok := (gd_ok hok).2
  refine va_iald hx hb hK hP 13 12 rfl rfl (hi71) d_O_expandForm_10 ?_
  refine lv_istore_n hx hb d_O_expandForm_11 rfl hl (by decide) rfl (fun ls hl => ?_)
  have hl : lv_has ls 7 [(1, .int ((gs.2 22) ((gs.1 36) + 1).toNatClampNeg)), (0, .ref g)] := hl
  refine lv_iconst (v := 0) hx hb d_O_expandForm_12 (by decide) ?_
  refine lv_istore_n hx hb d_O_expandForm_13 rfl hl (by decide) rfl (fun ls hl => ?_)
  have hl : lv_has ls 7 [(2, .int 0), (1, .int ((gs.2 22) ((gs.1 36) + 1).toNatClampNeg)), (0, .ref g)] := hl
  refine lv_aload_n hx hb d_O_expandForm_14 rfl (lv_at hl 2 rfl) ?_
  refine va_get (D := D) (ci := 8) (v := .int (gs.1 36)) (C := rc_O) (T := ft_O) (N := 42) hx hb hts in_O hown hK hP 0 rfl rfl 36 (by decide) (hts _ k_691) (fun _ h9 => h9) rfl d_O_expandForm_15 ?_
  refine lv_iconst (v := 2) hx hb d_O_expandForm_18 (by decide) ?_
  refine lv_iadd hx hb d_O_expandForm_19 ?_
  refine lv_istore_n hx hb d_O_expandForm_20 rfl hl (by decide) rfl (fun ls hl => ?_)
  have hl : lv_has ls 7 [(3, .int ((gs.1 36) + 2)), (2, .int 0), (1, .int ((gs.2 22) ((gs.1 36) + 1).toNatClampNeg)), (0, .ref g)] := hl
  exact j21 F gs ((gs.2 22) ((gs.1 36) + 1).toNatClampNeg) 0 ((gs.1 36) + 2) s.heap [] ls hok hP hD hS (lv_sub hl [3, 2, 1, 0] rfl)

set_option maxHeartbeats 4000000 in
set_option maxRecDepth 100000 in
theorem a_expandName (l : Launch) (D : va_G) (sz : Nat) (g : Nat) (ad : Nat → Nat) (ca : Nat → ClassId) (F : Nat) (gs : OS) (a1 : Int32) (r0 : Int32) (gf : OS) (hok : rf_expandName F gs a1 = some (r0, gf)) : Met l y_O_expandName (Cond.code y_O_expandName b_O_expandName 3 none :: wal) ({ frames := 11, cells := 0, slots := 0, locals := 180 }) (va_Pc [.ref g, .int a1] (pr D sz (MO g ad ca gs) (MT ca) (fun _ => True))) (va_Qv (S := Unit) (fun u => True) (fun u t9 => po D (va_A (MO g ad ca gs) sz) ((fun u => (MO g ad ca gf)) u) ((fun u => []) u) t9) (va_A (MO g ad ca gs) sz)) 0 0 (va_A (MO g ad ca gs) sz) := by
  refine Met.ofW (cc := b_O_expandName) (maxL := 3) (ret := none) (by decide) rfl ?_
  intro p e s m args below meth c s₁ B hml hv
  obtain ⟨rfl, hsz, hP, hK, hD0, hE⟩ := hv
  have hx := B.exec
  have hb := B.bytes
  have hr := B.returns
  have hts0 := atoms_spec (ws := Cond.code y_O_expandName b_O_expandName 3 none :: wal) B.pre
  have hts : ∀ w ∈ wal, w.before _ s = true := fun w h => hts0 w (List.mem_cons_of_mem _ h)
  have hown : s.vm.findClass rc_O = some m.cls := findClass_of_methodNamed B.named
  have hlocks := B.notSynchronized
  subst hsz
  have hD := hD0.self (sz := s.heap.size)
  generalize hAe : va_A (MO g ad ca gs) s.heap.size = A at hD ⊢
  have hA : ∀ q : Nat, s.heap.size ≤ q → A q := fun q h => by rw [← hAe]; exact Or.inr h
  have hS : va_S A s.heap s.heap [] := va_S.rf
  have hl := lv_entry ([.ref g, .int a1]) (n := 3) (Nat.le_of_ble_eq_true rfl)
  rw [lg_entry_eq]
  generalize (lg_sl ([.ref g, .int a1]) ++ List.replicate (3 - (lg_sl ([.ref g, .int a1])).length) Slot.unset).toArray = ls at hl ⊢
  have hl : lv_has ls 3 [(0, .ref g), (1, .int a1)] := hl
  have j26 : ∀ (gs : OS) (y0 : Int32) (H : Heap) (locs : List Loc) (ls : Array Slot), rf_expandName_26 F gs y0 = some (r0, gf) → va_P D wcl (MO g ad ca gs) H → va_D A (MO g ad ca gs) → va_S A s.heap H locs → lv_has ls 3 [(0, .ref g)] → W p l e (headSpec (Cond.code y_O_expandName b_O_expandName 3 none :: wal) ({ frames := 11, cells := 0, slots := 0, locals := 180 })).room s m ([.ref g, .int a1] : List Value).toArray below meth c H locs 0 0 (MQ below (va_Qv (S := Unit) (fun u => True) (fun u t9 => po D (A) ((fun u => (MO g ad ca gf)) u) ((fun u => []) u) t9) (A)) ([.ref g, .int a1] : List Value).toArray s 0 0 A) (F0 m 26 ls [.int y0, .ref g]) := by
    intro gs y0 H locs ls hok hP hD hS hl
    rw [rf_expandName_26] at hok
    replace hok := bd_ok hok
    obtain ⟨r1, gs2, hc3, hok⟩ := hok
    refine cl_v (wc := (MO g ad ca gs)) (wr := []) hP hD hK hS hA [0, 1, 2, 3, 4, 5, 6, 7, 8, 9, 10, 11, 12, 13, 14, 15, 16, 17, 18, 19, 20] [] rfl rfl (by decide) (by decide) (va_runV (As := [.int y0]) (rest := []) ⟨hx, hb, hml, hown, hts⟩ (a_put l D H.size g ad ca F gs y0 r1 gs2 hc3) (cw_V hts 1 k_900 k_9 k_897 k_899 sel_O_put (by decide +kernel) ⟨Nat.le_of_ble_eq_true rfl, Nat.le_of_ble_eq_true rfl⟩) (pr_V hP hD hK [0, 1, 2, 3, 4, 5, 6, 7, 8, 9, 10, 11, 12, 13, 14, 15, 16, 17, 18, 19, 20] [0, 1, 2, 3, 4, 5, 6, 7, 8, 9, 10, 11, 12, 13, 14, 15, 16, 17, 18, 19] (by decide) rfl rfl (fun U hU hW => trivial) (fun U g mk a h => h) (q0 := 0) (ci := 8) rfl rfl) rfl rfl hl.1 rfl (lv_room (Nat.le_of_ble_eq_true rfl)) d_O_expandName_26 ⟨by decide, by decide⟩) (fun u H locs h4 hP hD hK hS => ?_)
    have hP : va_P D wcl (MO g ad ca gs2) H := hP
    have hD : va_D A (MO g ad ca gs2) := hD
    have hK : va_K D wcl (MT ca) s := hK
    refine lv_aload_n hx hb d_O_expandName_29 rfl (lv_at hl 0 rfl) ?_
    refine lv_dup hx hb d_O_expandName_30 rfl ?_
    refine va_get (D := D) (ci := 8) (v := .int (gs2.1 36)) (C := rc_O) (T := ft_O) (N := 42) hx hb hts in_O hown hK hP 0 rfl rfl 36 (by decide) (hts _ k_691) (fun _ h9 => h9) rfl d_O_expandName_31 ?_
    refine lv_iconst (v := 1) hx hb d_O_expandName_34 (by decide) ?_
    refine lv_iadd hx hb d_O_expandName_35 ?_
    refine va_put (D := D) (ci := 8) (v := .int ((gs2.1 36) + 1)) (ty := .int) (C := rc_O) (T := ft_O) (N := 42) hx hb hts in_O ty_O tk_O nm_O hown hK hP hD hS 0 rfl rfl 36 (by decide) (hts _ k_691) (fun _ h9 => h9) rfl (by decide +kernel) rfl rfl (Nat.le_of_ble_eq_true rfl) d_O_expandName_36 (fun H locs hP hD hS => ?_)
    have hP : va_P D wcl (MO g ad ca (sI gs2 36 ((gs2.1 36) + 1))) H := hP
    have hD : va_D A (MO g ad ca (sI gs2 36 ((gs2.1 36) + 1))) := hD
    obtain ⟨e8, e9⟩ := rt_ok hok
    rw [e9] at hP hD
    have hK9 := hK.sub (tys' := []) [] rfl
    exact W.vret hx hb hr (fun t9 ht hW => ⟨⟨(), rfl, trivial, ⟨by rw [ht]; exact hP, va_K.moved hW.alike hK9, hD⟩⟩, hS.F ht⟩) hS.2.2 d_O_expandName_39
  refine lv_aload_n hx hb d_O_expandName_0 rfl (lv_at hl 0 rfl) ?_
  refine lv_iload_n hx hb d_O_expandName_1 rfl (lv_at hl 1 rfl) ?_
  replace hok := bd_ok hok
  obtain ⟨r6, gs7, hc8, hok⟩ := hok
  refine cl_i (wc := (MO g ad ca gs)) (wr := []) hP hD hK hS hA [0, 1, 2, 3, 4, 5, 6, 7, 8, 9, 10, 11, 12, 13, 14, 15, 16, 17, 18, 19, 20] [] rfl rfl (by decide) (by decide) (va_runV (As := [.int a1]) (rest := []) ⟨hx, hb, hml, hown, hts⟩ (a_levelOf l D s.heap.size g ad ca F gs a1 r6 gs7 hc8) (cw_V hts 1 k_920 k_9 k_917 k_919 sel_O_levelOf (by decide +kernel) ⟨Nat.le_of_ble_eq_true rfl, Nat.le_of_ble_eq_true rfl⟩) (pr_V hP hD hK [0, 1, 2, 3, 4, 5, 6, 7, 8, 9, 10, 11, 12, 13, 14, 15, 16, 17, 18, 19, 20] [0, 1, 2, 3, 4, 5, 6, 7, 8, 9, 10, 11, 12, 13, 14, 15, 16, 17, 18, 19] (by decide) rfl rfl (fun U hU hW => trivial) (fun U g mk a h => h) (q0 := 0) (ci := 8) rfl rfl) rfl rfl hl.1 rfl (lv_room (Nat.le_of_ble_eq_true rfl)) d_O_expandName_2 ⟨by decide, by decide⟩) (fun v10 u H locs h9 hP hD hK hS => ?_)
  have hP : va_P D wcl (MO g ad ca gs7) H := hP
  have hD : va_D A (MO g ad ca gs7) := hD
  have hK : va_K D wcl (MT ca) s := hK
  have h9 : r6 = v10 := h9
  subst h9
  refine lv_istore_n hx hb d_O_expandName_5 rfl hl (by decide) rfl (fun ls hl => ?_)
  have hl : lv_has ls 3 [(2, .int r6), (0, .ref g), (1, .int a1)] := hl
  refine lv_aload_n hx hb d_O_expandName_6 rfl (lv_at hl 1 rfl) ?_
  refine lv_iload_n hx hb d_O_expandName_7 rfl (lv_at hl 0 rfl) ?_
  refine lv_if_lt (tgt := 19) hx hb d_O_expandName_8 (by decide) (fun h11 => ?_) (fun h11 => ?_)
  · replace hok := ci_t h11 hok
    refine lv_bipush (v := 100) hx hb d_O_expandName_19 (by decide) ?_
    refine lv_iload_n hx hb d_O_expandName_21 rfl (lv_at hl 2 rfl) ?_
    replace hok := bd_ok hok
    obtain ⟨r12, gs13, hc14, hok⟩ := hok
    refine cl_i (wc := (MO g ad ca gs7)) (wr := []) hP hD hK hS hA [0, 1, 2, 3, 4, 5, 6, 7, 8, 9, 10, 11, 12, 13, 14, 15, 16, 17, 18, 19, 20] [] rfl rfl (by decide) (by decide) (va_runS (As := [.int a1]) (rest := [.int 100, .ref g]) ⟨hx, hb, hml, hown, hts⟩ (a_letterOf l D H.size g ad ca F gs7 a1 r12 gs13 hc14) (cw_S hts 1 k_830 k_9 k_828 k_829 (by decide +kernel) ⟨Nat.le_of_ble_eq_true rfl, Nat.le_of_ble_eq_true rfl⟩) (pr_S hP hD hK [0, 1, 2, 3, 4, 5, 6, 7, 8, 9, 10, 11, 12, 13, 14, 15, 16, 17, 18, 19, 20] [0, 1, 2, 3, 4, 5, 6, 7, 8, 9, 10, 11, 12, 13, 14, 15, 16, 17, 18, 19] (by decide) rfl rfl (fun U hU hW => trivial) (fun U g mk a h => h)) rfl rfl hl.1 rfl (lv_room (Nat.le_of_ble_eq_true rfl)) d_O_expandName_22 ⟨by decide, by decide⟩) (fun v16 u H locs h15 hP hD hK hS => ?_)
    have hP : va_P D wcl (MO g ad ca gs13) H := hP
    have hD : va_D A (MO g ad ca gs13) := hD
    have hK : va_K D wcl (MT ca) s := hK
    have h15 : r12 = v16 := h15
    subst h15
    refine lv_iadd hx hb d_O_expandName_25 ?_
    exact j26 gs13 (100 + r12) H locs ls hok hP hD hS (lv_sub hl [1] rfl)
  · replace hok := ci_f h11 hok
    refine lv_sipush (v := 200) hx hb d_O_expandName_11 (by decide) ?_
    refine lv_iload_n hx hb d_O_expandName_14 rfl (lv_at hl 0 rfl) ?_
    refine lv_iadd hx hb d_O_expandName_15 ?_
    refine lv_goto (tgt := 26) hx hb d_O_expandName_16 (by decide) ?_
    exact j26 gs7 (200 + r6) H locs ls hok hP hD hS (lv_sub hl [1] rfl)

set_option maxHeartbeats 4000000 in
set_option maxRecDepth 100000 in
theorem a_forget (l : Launch) (D : va_G) (sz : Nat) (g : Nat) (ad : Nat → Nat) (ca : Nat → ClassId) (F : Nat) (gs : OS) (a1 : Int32) (r0 : Int32) (gf : OS) (hok : rf_forget F gs a1 = some (r0, gf)) : Met l y_O_forget (Cond.code y_O_forget b_O_forget 4 (some .int) :: wal) ({ frames := 11, cells := 0, slots := 0, locals := 180 }) (va_Pc [.ref g, .int a1] (pr D sz (MO g ad ca gs) (MT ca) (fun _ => True))) (va_Qi (S := Unit) (fun r u => r0 = r) (fun u t9 => po D (va_A (MO g ad ca gs) sz) ((fun u => (MO g ad ca gf)) u) ((fun u => []) u) t9) (va_A (MO g ad ca gs) sz)) 0 0 (va_A (MO g ad ca gs) sz) := by
  refine Met.ofW (cc := b_O_forget) (maxL := 4) (ret := (some .int)) (by decide) rfl ?_
  intro p e s m args below meth c s₁ B hml hv
  obtain ⟨rfl, hsz, hP, hK, hD0, hE⟩ := hv
  have hx := B.exec
  have hb := B.bytes
  have hr := B.returns
  have hts0 := atoms_spec (ws := Cond.code y_O_forget b_O_forget 4 (some .int) :: wal) B.pre
  have hts : ∀ w ∈ wal, w.before _ s = true := fun w h => hts0 w (List.mem_cons_of_mem _ h)
  have hown : s.vm.findClass rc_O = some m.cls := findClass_of_methodNamed B.named
  have hlocks := B.notSynchronized
  subst hsz
  have hD := hD0.self (sz := s.heap.size)
  generalize hAe : va_A (MO g ad ca gs) s.heap.size = A at hD ⊢
  have hA : ∀ q : Nat, s.heap.size ≤ q → A q := fun q h => by rw [← hAe]; exact Or.inr h
  have hS : va_S A s.heap s.heap [] := va_S.rf
  have hl := lv_entry ([.ref g, .int a1]) (n := 4) (Nat.le_of_ble_eq_true rfl)
  rw [lg_entry_eq]
  generalize (lg_sl ([.ref g, .int a1]) ++ List.replicate (4 - (lg_sl ([.ref g, .int a1])).length) Slot.unset).toArray = ls at hl ⊢
  have hl : lv_has ls 4 [(0, .ref g), (1, .int a1)] := hl
  have j9 : ∀ (d9 : Nat) (gs : OS) (x1 : Int32) (x2 : Int32) (x3 : Int32) (H : Heap) (locs : List Loc) (ls : Array Slot), rf_forget_9 F d9 gs x1 x2 x3 = some (r0, gf) → va_P D wcl (MO g ad ca gs) H → va_D A (MO g ad ca gs) → va_S A s.heap H locs → lv_has ls 4 [(0, .ref g), (1, .int x1), (2, .int x2), (3, .int x3)] → W p l e (headSpec (Cond.code y_O_forget b_O_forget 4 (some .int) :: wal) ({ frames := 11, cells := 0, slots := 0, locals := 180 })).room s m ([.ref g, .int a1] : List Value).toArray below meth c H locs 0 0 (MQ below (va_Qi (S := Unit) (fun r u => r0 = r) (fun u t9 => po D (A) ((fun u => (MO g ad ca gf)) u) ((fun u => []) u) t9) (A)) ([.ref g, .int a1] : List Value).toArray s 0 0 A) (F0 m 9 ls []) := by
    intro d9
    induction d9 with
    | zero =>
      intro gs x1 x2 x3 H locs ls hok
      have h9 : (none : RO) = some (r0, gf) := hok
      cases h9
    | succ d9 ih9 =>
      have j42 : ∀ (gs : OS) (x1 : Int32) (x2 : Int32) (x3 : Int32) (H : Heap) (locs : List Loc) (ls : Array Slot), rf_forget_42 F (rf_forget_9 F d9) gs x1 x2 x3 = some (r0, gf) → va_P D wcl (MO g ad ca gs) H → va_D A (MO g ad ca gs) → va_S A s.heap H locs → lv_has ls 4 [(0, .ref g), (1, .int x1), (2, .int x2), (3, .int x3)] → W p l e (headSpec (Cond.code y_O_forget b_O_forget 4 (some .int) :: wal) ({ frames := 11, cells := 0, slots := 0, locals := 180 })).room s m ([.ref g, .int a1] : List Value).toArray below meth c H locs 0 0 (MQ below (va_Qi (S := Unit) (fun r u => r0 = r) (fun u t9 => po D (A) ((fun u => (MO g ad ca gf)) u) ((fun u => []) u) t9) (A)) ([.ref g, .int a1] : List Value).toArray s 0 0 A) (F0 m 42 ls []) := by
        intro gs x1 x2 x3 H locs ls hok hP hD hS hl
        rw [rf_forget_42] at hok
        refine lv_iinc (k := 3) (v := (x3 + 1)) hx hb d_O_forget_42 hl rfl (by rfl) (by decide) rfl (fun ls hl => ?_)
        have hl : lv_has ls 4 [(3, .int (x3 + 1)), (0, .ref g), (1, .int x1), (2, .int x2)] := hl
        refine lv_goto (tgt := 9) hx hb d_O_forget_45 (by decide) ?_
        exact ih9 gs x1 x2 (x3 + 1) H locs ls hok hP hD hS (lv_sub hl [1, 2, 3, 0] rfl)
      intro gs x1 x2 x3 H locs ls hok hP hD hS hl
      rw [rf_forget_9] at hok
      refine lv_iload_n hx hb d_O_forget_9 rfl (lv_at hl 3 rfl) ?_
      refine lv_aload_n hx hb d_O_forget_10 rfl (lv_at hl 0 rfl) ?_
      refine va_get (D := D) (ci := 8) (v := .int (gs.1 5)) (C := rc_O) (T := ft_O) (N := 42) hx hb hts in_O hown hK hP 0 rfl rfl 5 (by decide) (hts _ k_660) (fun _ h9 => h9) rfl d_O_forget_11 ?_
      refine lv_icmp_ge (tgt := 48) hx hb d_O_forget_14 (by decide) (fun h1 => ?_) (fun h1 => ?_)
      · replace hok := ci_t h1 hok
        refine lv_aload_n hx hb d_O_forget_48 rfl (lv_at hl 0 rfl) ?_
        refine va_get (D := D) (ci := 8) (v := .int (gs.1 5)) (C := rc_O) (T := ft_O) (N := 42) hx hb hts in_O hown hK hP 0 rfl rfl 5 (by decide) (hts _ k_660) (fun _ h9 => h9) rfl d_O_forget_49 ?_
        refine lv_iload_n hx hb d_O_forget_52 rfl (lv_at hl 2 rfl) ?_
        refine lv_isub hx hb d_O_forget_53 ?_
        refine lv_istore_n hx hb d_O_forget_54 rfl hl (by decide) rfl (fun ls hl => ?_)
        have hl : lv_has ls 4 [(3, .int ((gs.1 5) - x2)), (0, .ref g), (1, .int x1), (2, .int x2)] := hl
        refine lv_aload_n hx hb d_O_forget_55 rfl (lv_at hl 1 rfl) ?_
        refine lv_iload_n hx hb d_O_forget_56 rfl (lv_at hl 3 rfl) ?_
        refine va_put (D := D) (ci := 8) (v := .int x2) (ty := .int) (C := rc_O) (T := ft_O) (N := 42) hx hb hts in_O ty_O tk_O nm_O hown hK hP hD hS 0 rfl rfl 5 (by decide) (hts _ k_660) (fun _ h9 => h9) rfl (by decide +kernel) rfl rfl (Nat.le_of_ble_eq_true rfl) d_O_forget_57 (fun H locs hP hD hS => ?_)
        have hP : va_P D wcl (MO g ad ca (sI gs 5 x2)) H := hP
        have hD : va_D A (MO g ad ca (sI gs 5 x2)) := hD
        refine lv_iload_n hx hb d_O_forget_60 rfl (lv_at hl 0 rfl) ?_
        obtain ⟨e8, e9⟩ := rt_ok hok
        rw [e9] at hP hD
        have hK9 := hK.sub (tys' := []) [] rfl
        exact W.iret (v := ((gs.1 5) - x2)) hx hb hr (fun t9 ht hW => ⟨⟨((gs.1 5) - x2), (), rfl, e8, ⟨by rw [ht]; exact hP, va_K.moved hW.alike hK9, hD⟩⟩, hS.F ht⟩) hS.2.2 d_O_forget_61
      · replace hok := ci_f h1 hok
        refine lv_aload_n hx hb d_O_forget_17 rfl (lv_at hl 0 rfl) ?_
        refine va_get (D := D) (ci := 8) (v := .ref (ad 6)) (C := rc_O) (T := ft_O) (N := 42) hx hb hts in_O hown hK hP 0 rfl rfl 6 (by decide) (hts _ k_661) (fun _ h9 => h9) rfl d_O_forget_18 ?_
        refine lv_iload_n hx hb d_O_forget_21 rfl (lv_at hl 3 rfl) ?_
        have hi2 := (gd_ok hok).1
        replace hok := (gd_ok hok).2
        refine va_iald hx hb hK hP 3 2 rfl rfl (hi2) d_O_forget_22 ?_
        refine lv_iload_n hx hb d_O_forget_23 rfl (lv_at hl 1 rfl) ?_
        refine lv_bipush (v := 97) hx hb d_O_forget_24 (by decide) ?_
        refine lv_isub hx hb d_O_forget_26 ?_
        refine lv_icmp_ne (tgt := 33) hx hb d_O_forget_27 (by decide) (fun h3 => ?_) (fun h3 => ?_)
        · replace hok := ci_f h3 hok
          refine lv_aload_n hx hb d_O_forget_33 rfl (lv_at hl 0 rfl) ?_
          refine lv_iload_n hx hb d_O_forget_34 rfl (lv_at hl 2 rfl) ?_
          refine lv_iload_n hx hb d_O_forget_35 rfl (lv_at hl 3 rfl) ?_
          replace hok := bd_ok hok
          obtain ⟨r4, gs5, hc6, hok⟩ := hok
          refine cl_v (wc := (MO g ad ca gs)) (wr := []) hP hD hK hS hA [0, 1, 2, 3, 4, 5, 6, 7, 8, 9, 10, 11, 12, 13, 14, 15, 16, 17, 18, 19, 20] [] rfl rfl (by decide) (by decide) (va_runV (As := [.int x2, .int x3]) (rest := []) ⟨hx, hb, hml, hown, hts⟩ (a_moveRule l D H.size g ad ca F gs x2 x3 r4 gs5 hc6) (cw_V hts 2 k_876 k_9 k_873 k_875 sel_O_moveRule (by decide +kernel) ⟨Nat.le_of_ble_eq_true rfl, Nat.le_of_ble_eq_true rfl⟩) (pr_V hP hD hK [0, 1, 2, 3, 4, 5, 6, 7, 8, 9, 10, 11, 12, 13, 14, 15, 16, 17, 18, 19, 20] [0, 1, 2, 3, 4, 5, 6, 7, 8, 9, 10, 11, 12, 13, 14, 15, 16, 17, 18, 19] (by decide) rfl rfl (fun U hU hW => trivial) (fun U g mk a h => h) (q0 := 0) (ci := 8) rfl rfl) rfl rfl hl.1 rfl (lv_room (Nat.le_of_ble_eq_true rfl)) d_O_forget_36 ⟨by decide, by decide⟩) (fun u H locs h7 hP hD hK hS => ?_)
          have hP : va_P D wcl (MO g ad ca gs5) H := hP
          have hD : va_D A (MO g ad ca gs5) := hD
          have hK : va_K D wcl (MT ca) s := hK
          refine lv_iinc (k := 2) (v := (x2 + 1)) hx hb d_O_forget_39 hl rfl (by rfl) (by decide) rfl (fun ls hl => ?_)
          have hl : lv_has ls 4 [(2, .int (x2 + 1)), (0, .ref g), (1, .int x1), (3, .int x3)] := hl
          exact j42 gs5 x1 (x2 + 1) x3 H locs ls hok hP hD hS (lv_sub hl [1, 2, 0, 3] rfl)
        · replace hok := ci_t h3 hok
          refine lv_goto (tgt := 42) hx hb d_O_forget_30 (by decide) ?_
          exact j42 gs x1 x2 x3 H locs ls hok hP hD hS hl
  refine lv_aload_n hx hb d_O_forget_0 rfl (lv_at hl 0 rfl) ?_
  refine lv_iconst (v := 0) hx hb d_O_forget_1 (by decide) ?_
  refine va_put (D := D) (ci := 8) (v := .int 0) (ty := .int) (C := rc_O) (T := ft_O) (N := 42) hx hb hts in_O ty_O tk_O nm_O hown hK hP hD hS 0 rfl rfl 0 (by decide) (hts _ k_655) (fun _ h9 => h9) rfl (by decide +kernel) rfl rfl (Nat.le_of_ble_eq_true rfl) d_O_forget_2 (fun H locs hP hD hS => ?_)
  have hP : va_P D wcl (MO g ad ca (sI gs 0 0)) H := hP
  have hD : va_D A (MO g ad ca (sI gs 0 0)) := hD
  refine lv_iconst (v := 0) hx hb d_O_forget_5 (by decide) ?_
  refine lv_istore_n hx hb d_O_forget_6 rfl hl (by decide) rfl (fun ls hl => ?_)
  have hl : lv_has ls 4 [(2, .int 0), (0, .ref g), (1, .int a1)] := hl
  refine lv_iconst (v := 0) hx hb d_O_forget_7 (by decide) ?_
  refine lv_istore_n hx hb d_O_forget_8 rfl hl (by decide) rfl (fun ls hl => ?_)
  have hl : lv_has ls 4 [(3, .int 0), (2, .int 0), (0, .ref g), (1, .int a1)] := hl
  exact j9 F (sI gs 0 0) a1 0 0 H locs ls hok hP hD hS (lv_sub hl [2, 3, 1, 0] rfl)

set_option maxHeartbeats 4000000 in
set_option maxRecDepth 100000 in
theorem a_hasMany (l : Launch) (D : va_G) (sz : Nat) (g : Nat) (ad : Nat → Nat) (ca : Nat → ClassId) (F : Nat) (gs : OS) (a1 : Int32) (a2 : Int32) (r0 : Int32) (gf : OS) (hok : rf_hasMany F gs a1 a2 = some (r0, gf)) : Met l y_O_hasMany (Cond.code y_O_hasMany b_O_hasMany 5 (some .boolean) :: wal) ({ frames := 11, cells := 0, slots := 0, locals := 180 }) (va_Pc [.ref g, .int a1, .int a2] (pr D sz (MO g ad ca gs) (MT ca) (fun _ => True))) (va_Qi (S := Unit) (fun r u => r0 = r) (fun u t9 => po D (va_A (MO g ad ca gs) sz) ((fun u => (MO g ad ca gf)) u) ((fun u => []) u) t9) (va_A (MO g ad ca gs) sz)) 0 0 (va_A (MO g ad ca gs) sz) := by
  refine Met.ofW (cc := b_O_hasMany) (maxL := 5) (ret := (some .boolean)) (by decide) rfl ?_
  intro p e s m args below meth c s₁ B hml hv
  obtain ⟨rfl, hsz, hP, hK, hD0, hE⟩ := hv
  have hx := B.exec
  have hb := B.bytes
  have hr := B.returns
  have hts0 := atoms_spec (ws := Cond.code y_O_hasMany b_O_hasMany 5 (some .boolean) :: wal) B.pre
  have hts : ∀ w ∈ wal, w.before _ s = true := fun w h => hts0 w (List.mem_cons_of_mem _ h)
  have hown : s.vm.findClass rc_O = some m.cls := findClass_of_methodNamed B.named
  have hlocks := B.notSynchronized
  subst hsz
  have hD := hD0.self (sz := s.heap.size)
  generalize hAe : va_A (MO g ad ca gs) s.heap.size = A at hD ⊢
  have hA : ∀ q : Nat, s.heap.size ≤ q → A q := fun q h => by rw [← hAe]; exact Or.inr h
  have hS : va_S A s.heap s.heap [] := va_S.rf
  have hl := lv_entry ([.ref g, .int a1, .int a2]) (n := 5) (Nat.le_of_ble_eq_true rfl)
  rw [lg_entry_eq]
  generalize (lg_sl ([.ref g, .int a1, .int a2]) ++ List.replicate (5 - (lg_sl ([.ref g, .int a1, .int a2])).length) Slot.unset).toArray = ls at hl ⊢
  have hl : lv_has ls 5 [(0, .ref g), (1, .int a1), (2, .int a2)] := hl
  have j5 : ∀ (d5 : Nat) (gs : OS) (x2 : Int32) (x3 : Int32) (x4 : Int32) (H : Heap) (locs : List Loc) (ls : Array Slot), rf_hasMany_5 F d5 gs x2 x3 x4 = some (r0, gf) → va_P D wcl (MO g ad ca gs) H → va_D A (MO g ad ca gs) → va_S A s.heap H locs → lv_has ls 5 [(0, .ref g), (2, .int x2), (3, .int x3), (4, .int x4)] → W p l e (headSpec (Cond.code y_O_hasMany b_O_hasMany 5 (some .boolean) :: wal) ({ frames := 11, cells := 0, slots := 0, locals := 180 })).room s m ([.ref g, .int a1, .int a2] : List Value).toArray below meth c H locs 0 0 (MQ below (va_Qi (S := Unit) (fun r u => r0 = r) (fun u t9 => po D (A) ((fun u => (MO g ad ca gf)) u) ((fun u => []) u) t9) (A)) ([.ref g, .int a1, .int a2] : List Value).toArray s 0 0 A) (F0 m 5 ls []) := by
    intro d5
    induction d5 with
    | zero =>
      intro gs x2 x3 x4 H locs ls hok
      have h9 : (none : RO) = some (r0, gf) := hok
      cases h9
    | succ d5 ih5 =>
      have j54 : ∀ (gs : OS) (x2 : Int32) (x4 : Int32) (y0 : Int32) (H : Heap) (locs : List Loc) (ls : Array Slot), rf_hasMany_54 F (rf_hasMany_5 F d5) gs x2 x4 y0 = some (r0, gf) → va_P D wcl (MO g ad ca gs) H → va_D A (MO g ad ca gs) → va_S A s.heap H locs → lv_has ls 5 [(0, .ref g), (2, .int x2), (4, .int x4)] → W p l e (headSpec (Cond.code y_O_hasMany b_O_hasMany 5 (some .boolean) :: wal) ({ frames := 11, cells := 0, slots := 0, locals := 180 })).room s m ([.ref g, .int a1, .int a2] : List Value).toArray below meth c H locs 0 0 (MQ below (va_Qi (S := Unit) (fun r u => r0 = r) (fun u t9 => po D (A) ((fun u => (MO g ad ca gf)) u) ((fun u => []) u) t9) (A)) ([.ref g, .int a1, .int a2] : List Value).toArray s 0 0 A) (F0 m 54 ls [.int y0]) := by
        intro gs x2 x4 y0 H locs ls hok hP hD hS hl
        rw [rf_hasMany_54] at hok
        refine lv_istore_n hx hb d_O_hasMany_54 rfl hl (by decide) rfl (fun ls hl => ?_)
        have hl : lv_has ls 5 [(3, .int y0), (0, .ref g), (2, .int x2), (4, .int x4)] := hl
        refine lv_iinc (k := 3) (v := (x4 + 1)) hx hb d_O_hasMany_55 hl rfl (by rfl) (by decide) rfl (fun ls hl => ?_)
        have hl : lv_has ls 5 [(4, .int (x4 + 1)), (3, .int y0), (0, .ref g), (2, .int x2)] := hl
        refine lv_goto (tgt := 5) hx hb d_O_hasMany_58 (by decide) ?_
        exact ih5 gs x2 y0 (x4 + 1) H locs ls hok hP hD hS (lv_sub hl [2, 3, 1, 0] rfl)
      have j53 : ∀ (gs : OS) (x2 : Int32) (x4 : Int32) (H : Heap) (locs : List Loc) (ls : Array Slot), rf_hasMany_53 F (rf_hasMany_5 F d5) gs x2 x4 = some (r0, gf) → va_P D wcl (MO g ad ca gs) H → va_D A (MO g ad ca gs) → va_S A s.heap H locs → lv_has ls 5 [(0, .ref g), (2, .int x2), (4, .int x4)] → W p l e (headSpec (Cond.code y_O_hasMany b_O_hasMany 5 (some .boolean) :: wal) ({ frames := 11, cells := 0, slots := 0, locals := 180 })).room s m ([.ref g, .int a1, .int a2] : List Value).toArray below meth c H locs 0 0 (MQ below (va_Qi (S := Unit) (fun r u => r0 = r) (fun u t9 => po D (A) ((fun u => (MO g ad ca gf)) u) ((fun u => []) u) t9) (A)) ([.ref g, .int a1, .int a2] : List Value).toArray s 0 0 A) (F0 m 53 ls []) := by
        intro gs x2 x4 H locs ls hok hP hD hS hl
        rw [rf_hasMany_53] at hok
        refine lv_iconst (v := 0) hx hb d_O_hasMany_53 (by decide) ?_
        exact j54 gs x2 x4 0 H locs ls hok hP hD hS hl
      have j49 : ∀ (gs : OS) (x2 : Int32) (x4 : Int32) (H : Heap) (locs : List Loc) (ls : Array Slot), rf_hasMany_49 F (rf_hasMany_5 F d5) gs x2 x4 = some (r0, gf) → va_P D wcl (MO g ad ca gs) H → va_D A (MO g ad ca gs) → va_S A s.heap H locs → lv_has ls 5 [(0, .ref g), (2, .int x2), (4, .int x4)] → W p l e (headSpec (Cond.code y_O_hasMany b_O_hasMany 5 (some .boolean) :: wal) ({ frames := 11, cells := 0, slots := 0, locals := 180 })).room s m ([.ref g, .int a1, .int a2] : List Value).toArray below meth c H locs 0 0 (MQ below (va_Qi (S := Unit) (fun r u => r0 = r) (fun u t9 => po D (A) ((fun u => (MO g ad ca gf)) u) ((fun u => []) u) t9) (A)) ([.ref g, .int a1, .int a2] : List Value).toArray s 0 0 A) (F0 m 49 ls []) := by
        intro gs x2 x4 H locs ls hok hP hD hS hl
        rw [rf_hasMany_49] at hok
        refine lv_iconst (v := 1) hx hb d_O_hasMany_49 (by decide) ?_
        refine lv_goto (tgt := 54) hx hb d_O_hasMany_50 (by decide) ?_
        exact j54 gs x2 x4 1 H locs ls hok hP hD hS hl
      intro gs x2 x3 x4 H locs ls hok hP hD hS hl
      rw [rf_hasMany_5] at hok
      refine lv_iload hx hb d_O_hasMany_5 (lv_at hl 3 rfl) ?_
      refine lv_iload_n hx hb d_O_hasMany_7 rfl (lv_at hl 1 rfl) ?_
      refine lv_icmp_ge (tgt := 61) hx hb d_O_hasMany_8 (by decide) (fun h1 => ?_) (fun h1 => ?_)
      · replace hok := ci_t h1 hok
        refine lv_iload_n hx hb d_O_hasMany_61 rfl (lv_at hl 2 rfl) ?_
        have hn2 := (gd_ok hok).1
        replace hok := (gd_ok hok).2
        obtain ⟨e8, e9⟩ := rt_ok hok
        rw [e9] at hP hD
        have hK9 := hK.sub (tys' := []) [] rfl
        exact W.zret (v := x3) hx hb hr (nar_ib hn2) (fun t9 ht hW => ⟨⟨x3, (), rfl, e8, ⟨by rw [ht]; exact hP, va_K.moved hW.alike hK9, hD⟩⟩, hS.F ht⟩) hS.2.2 d_O_hasMany_62
      · replace hok := ci_f h1 hok
        refine lv_iload_n hx hb d_O_hasMany_11 rfl (lv_at hl 2 rfl) ?_
        refine lv_if_ne (tgt := 49) hx hb d_O_hasMany_12 (by decide) (fun h3 => ?_) (fun h3 => ?_)
        · replace hok := ci_f h3 hok
          exact j49 gs x2 x4 H locs ls hok hP hD hS (lv_sub hl [0, 1, 3] rfl)
        · replace hok := ci_t h3 hok
          refine lv_aload_n hx hb d_O_hasMany_15 rfl (lv_at hl 0 rfl) ?_
          refine va_get (D := D) (ci := 8) (v := .ref (ad 4)) (C := rc_O) (T := ft_O) (N := 42) hx hb hts in_O hown hK hP 0 rfl rfl 4 (by decide) (hts _ k_659) (fun _ h9 => h9) rfl d_O_hasMany_16 ?_
          refine lv_iload hx hb d_O_hasMany_19 (lv_at hl 3 rfl) ?_
          have hi4 := (gd_ok hok).1
          replace hok := (gd_ok hok).2
          refine va_iald hx hb hK hP 2 1 rfl rfl (hi4) d_O_hasMany_21 ?_
          replace hok := bd_ok hok
          obtain ⟨r5, gs6, hc7, hok⟩ := hok
          refine cl_i (wc := (MO g ad ca gs)) (wr := []) hP hD hK hS hA [0, 1, 2, 3, 4, 5, 6, 7, 8, 9, 10, 11, 12, 13, 14, 15, 16, 17, 18, 19, 20] [] rfl rfl (by decide) (by decide) (va_runS (As := [.int ((gs.2 4) x4.toNatClampNeg)]) (rest := []) ⟨hx, hb, hml, hown, hts⟩ (a_isName l D H.size g ad ca F gs ((gs.2 4) x4.toNatClampNeg) r5 gs6 hc7) (cw_S hts 1 k_811 k_9 k_809 k_810 (by decide +kernel) ⟨Nat.le_of_ble_eq_true rfl, Nat.le_of_ble_eq_true rfl⟩) (pr_S hP hD hK [0, 1, 2, 3, 4, 5, 6, 7, 8, 9, 10, 11, 12, 13, 14, 15, 16, 17, 18, 19, 20] [0, 1, 2, 3, 4, 5, 6, 7, 8, 9, 10, 11, 12, 13, 14, 15, 16, 17, 18, 19] (by decide) rfl rfl (fun U hU hW => trivial) (fun U g mk a h => h)) rfl rfl hl.1 rfl (lv_room (Nat.le_of_ble_eq_true rfl)) d_O_hasMany_22 ⟨by decide, by decide⟩) (fun v9 u H locs h8 hP hD hK hS => ?_)
          have hP : va_P D wcl (MO g ad ca gs6) H := hP
          have hD : va_D A (MO g ad ca gs6) := hD
          have hK : va_K D wcl (MT ca) s := hK
          have h8 : r5 = v9 := h8
          subst h8
          refine lv_if_eq (tgt := 53) hx hb d_O_hasMany_25 (by decide) (fun h10 => ?_) (fun h10 => ?_)
          · replace hok := ci_t h10 hok
            exact j53 gs6 x2 x4 H locs ls hok hP hD hS (lv_sub hl [0, 1, 3] rfl)
          · replace hok := ci_f h10 hok
            refine lv_aload_n hx hb d_O_hasMany_28 rfl (lv_at hl 0 rfl) ?_
            refine va_get (D := D) (ci := 8) (v := .int (gs6.1 19)) (C := rc_O) (T := ft_O) (N := 42) hx hb hts in_O hown hK hP 0 rfl rfl 19 (by decide) (hts _ k_674) (fun _ h9 => h9) rfl d_O_hasMany_29 ?_
            refine lv_aload_n hx hb d_O_hasMany_32 rfl (lv_at hl 0 rfl) ?_
            refine va_get (D := D) (ci := 8) (v := .ref (ad 4)) (C := rc_O) (T := ft_O) (N := 42) hx hb hts in_O hown hK hP 0 rfl rfl 4 (by decide) (hts _ k_659) (fun _ h9 => h9) rfl d_O_hasMany_33 ?_
            refine lv_iload hx hb d_O_hasMany_36 (lv_at hl 3 rfl) ?_
            have hi11 := (gd_ok hok).1
            replace hok := (gd_ok hok).2
            refine va_iald hx hb hK hP 2 1 rfl rfl (hi11) d_O_hasMany_38 ?_
            replace hok := bd_ok hok
            obtain ⟨r12, gs13, hc14, hok⟩ := hok
            refine cl_i (wc := (MO g ad ca gs6)) (wr := []) hP hD hK hS hA [0, 1, 2, 3, 4, 5, 6, 7, 8, 9, 10, 11, 12, 13, 14, 15, 16, 17, 18, 19, 20] [] rfl rfl (by decide) (by decide) (va_runS (As := [.int ((gs6.2 4) x4.toNatClampNeg)]) (rest := [.int (gs6.1 19)]) ⟨hx, hb, hml, hown, hts⟩ (a_letterOf l D H.size g ad ca F gs6 ((gs6.2 4) x4.toNatClampNeg) r12 gs13 hc14) (cw_S hts 1 k_830 k_9 k_828 k_829 (by decide +kernel) ⟨Nat.le_of_ble_eq_true rfl, Nat.le_of_ble_eq_true rfl⟩) (pr_S hP hD hK [0, 1, 2, 3, 4, 5, 6, 7, 8, 9, 10, 11, 12, 13, 14, 15, 16, 17, 18, 19, 20] [0, 1, 2, 3, 4, 5, 6, 7, 8, 9, 10, 11, 12, 13, 14, 15, 16, 17, 18, 19] (by decide) rfl rfl (fun U hU hW => trivial) (fun U g mk a h => h)) rfl rfl hl.1 rfl (lv_room (Nat.le_of_ble_eq_true rfl)) d_O_hasMany_39 ⟨by decide, by decide⟩) (fun v16 u H locs h15 hP hD hK hS => ?_)
            have hP : va_P D wcl (MO g ad ca gs13) H := hP
            have hD : va_D A (MO g ad ca gs13) := hD
            have hK : va_K D wcl (MT ca) s := hK
            have h15 : r12 = v16 := h15
            subst h15
            refine lv_ishr hx hb d_O_hasMany_42 ?_
            refine lv_iconst (v := 1) hx hb d_O_hasMany_43 (by decide) ?_
            refine lv_iand hx hb d_O_hasMany_44 ?_
            refine lv_iconst (v := 1) hx hb d_O_hasMany_45 (by decide) ?_
            refine lv_icmp_ne (tgt := 53) hx hb d_O_hasMany_46 (by decide) (fun h17 => ?_) (fun h17 => ?_)
            · replace hok := ci_f h17 hok
              exact j53 gs13 x2 x4 H locs ls hok hP hD hS (lv_sub hl [0, 1, 3] rfl)
            · replace hok := ci_t h17 hok
              exact j49 gs13 x2 x4 H locs ls hok hP hD hS (lv_sub hl [0, 1, 3] rfl)
  refine lv_iconst (v := 0) hx hb d_O_hasMany_0 (by decide) ?_
  refine lv_istore_n hx hb d_O_hasMany_1 rfl hl (by decide) rfl (fun ls hl => ?_)
  have hl : lv_has ls 5 [(3, .int 0), (0, .ref g), (1, .int a1), (2, .int a2)] := hl
  refine lv_iload_n hx hb d_O_hasMany_2 rfl (lv_at hl 2 rfl) ?_
  refine lv_istore hx hb d_O_hasMany_3 hl (by decide) rfl (fun ls hl => ?_)
  have hl : lv_has ls 5 [(4, .int a1), (3, .int 0), (0, .ref g), (1, .int a1), (2, .int a2)] := hl
  exact j5 F gs a2 0 a1 s.heap [] ls hok hP hD hS (lv_sub hl [2, 4, 1, 0] rfl)

set_option maxHeartbeats 4000000 in
set_option maxRecDepth 100000 in
theorem a_makeMany (l : Launch) (D : va_G) (sz : Nat) (g : Nat) (ad : Nat → Nat) (ca : Nat → ClassId) (F : Nat) (gs : OS) (a1 : Int32) (a2 : Int32) (r0 : Int32) (gf : OS) (hok : rf_makeMany F gs a1 a2 = some (r0, gf)) : Met l y_O_makeMany (Cond.code y_O_makeMany b_O_makeMany 4 none :: wal) ({ frames := 11, cells := 0, slots := 0, locals := 180 }) (va_Pc [.ref g, .int a1, .int a2] (pr D sz (MO g ad ca gs) (MT ca) (fun _ => True))) (va_Qv (S := Unit) (fun u => True) (fun u t9 => po D (va_A (MO g ad ca gs) sz) ((fun u => (MO g ad ca gf)) u) ((fun u => []) u) t9) (va_A (MO g ad ca gs) sz)) 0 0 (va_A (MO g ad ca gs) sz) := by
  refine Met.ofW (cc := b_O_makeMany) (maxL := 4) (ret := none) (by decide) rfl ?_
  intro p e s m args below meth c s₁ B hml hv
  obtain ⟨rfl, hsz, hP, hK, hD0, hE⟩ := hv
  have hx := B.exec
  have hb := B.bytes
  have hr := B.returns
  have hts0 := atoms_spec (ws := Cond.code y_O_makeMany b_O_makeMany 4 none :: wal) B.pre
  have hts : ∀ w ∈ wal, w.before _ s = true := fun w h => hts0 w (List.mem_cons_of_mem _ h)
  have hown : s.vm.findClass rc_O = some m.cls := findClass_of_methodNamed B.named
  have hlocks := B.notSynchronized
  subst hsz
  have hD := hD0.self (sz := s.heap.size)
  generalize hAe : va_A (MO g ad ca gs) s.heap.size = A at hD ⊢
  have hA : ∀ q : Nat, s.heap.size ≤ q → A q := fun q h => by rw [← hAe]; exact Or.inr h
  have hS : va_S A s.heap s.heap [] := va_S.rf
  have hl := lv_entry ([.ref g, .int a1, .int a2]) (n := 4) (Nat.le_of_ble_eq_true rfl)
  rw [lg_entry_eq]
  generalize (lg_sl ([.ref g, .int a1, .int a2]) ++ List.replicate (4 - (lg_sl ([.ref g, .int a1, .int a2])).length) Slot.unset).toArray = ls at hl ⊢
  have hl : lv_has ls 4 [(0, .ref g), (1, .int a1), (2, .int a2)] := hl
  have j2 : ∀ (d2 : Nat) (gs : OS) (x2 : Int32) (x3 : Int32) (H : Heap) (locs : List Loc) (ls : Array Slot), rf_makeMany_2 F d2 gs x2 x3 = some (r0, gf) → va_P D wcl (MO g ad ca gs) H → va_D A (MO g ad ca gs) → va_S A s.heap H locs → lv_has ls 4 [(0, .ref g), (2, .int x2), (3, .int x3)] → W p l e (headSpec (Cond.code y_O_makeMany b_O_makeMany 4 none :: wal) ({ frames := 11, cells := 0, slots := 0, locals := 180 })).room s m ([.ref g, .int a1, .int a2] : List Value).toArray below meth c H locs 0 0 (MQ below (va_Qv (S := Unit) (fun u => True) (fun u t9 => po D (A) ((fun u => (MO g ad ca gf)) u) ((fun u => []) u) t9) (A)) ([.ref g, .int a1, .int a2] : List Value).toArray s 0 0 A) (F0 m 2 ls []) := by
    intro d2
    induction d2 with
    | zero =>
      intro gs x2 x3 H locs ls hok
      have h9 : (none : RO) = some (r0, gf) := hok
      cases h9
    | succ d2 ih2 =>
      have j39 : ∀ (gs : OS) (x2 : Int32) (x3 : Int32) (H : Heap) (locs : List Loc) (ls : Array Slot), rf_makeMany_39 F (rf_makeMany_2 F d2) gs x2 x3 = some (r0, gf) → va_P D wcl (MO g ad ca gs) H → va_D A (MO g ad ca gs) → va_S A s.heap H locs → lv_has ls 4 [(0, .ref g), (2, .int x2), (3, .int x3)] → W p l e (headSpec (Cond.code y_O_makeMany b_O_makeMany 4 none :: wal) ({ frames := 11, cells := 0, slots := 0, locals := 180 })).room s m ([.ref g, .int a1, .int a2] : List Value).toArray below meth c H locs 0 0 (MQ below (va_Qv (S := Unit) (fun u => True) (fun u t9 => po D (A) ((fun u => (MO g ad ca gf)) u) ((fun u => []) u) t9) (A)) ([.ref g, .int a1, .int a2] : List Value).toArray s 0 0 A) (F0 m 39 ls []) := by
        intro gs x2 x3 H locs ls hok hP hD hS hl
        rw [rf_makeMany_39] at hok
        refine lv_iinc (k := 2) (v := (x3 + 1)) hx hb d_O_makeMany_39 hl rfl (by rfl) (by decide) rfl (fun ls hl => ?_)
        have hl : lv_has ls 4 [(3, .int (x3 + 1)), (0, .ref g), (2, .int x2)] := hl
        refine lv_goto (tgt := 2) hx hb d_O_makeMany_42 (by decide) ?_
        exact ih2 gs x2 (x3 + 1) H locs ls hok hP hD hS (lv_sub hl [1, 2, 0] rfl)
      intro gs x2 x3 H locs ls hok hP hD hS hl
      rw [rf_makeMany_2] at hok
      refine lv_iload_n hx hb d_O_makeMany_2 rfl (lv_at hl 2 rfl) ?_
      refine lv_iload_n hx hb d_O_makeMany_3 rfl (lv_at hl 1 rfl) ?_
      refine lv_icmp_ge (tgt := 45) hx hb d_O_makeMany_4 (by decide) (fun h1 => ?_) (fun h1 => ?_)
      · replace hok := ci_t h1 hok
        obtain ⟨e8, e9⟩ := rt_ok hok
        rw [e9] at hP hD
        have hK9 := hK.sub (tys' := []) [] rfl
        exact W.vret hx hb hr (fun t9 ht hW => ⟨⟨(), rfl, trivial, ⟨by rw [ht]; exact hP, va_K.moved hW.alike hK9, hD⟩⟩, hS.F ht⟩) hS.2.2 d_O_makeMany_45
      · replace hok := ci_f h1 hok
        refine lv_aload_n hx hb d_O_makeMany_7 rfl (lv_at hl 0 rfl) ?_
        refine va_get (D := D) (ci := 8) (v := .ref (ad 4)) (C := rc_O) (T := ft_O) (N := 42) hx hb hts in_O hown hK hP 0 rfl rfl 4 (by decide) (hts _ k_659) (fun _ h9 => h9) rfl d_O_makeMany_8 ?_
        refine lv_iload_n hx hb d_O_makeMany_11 rfl (lv_at hl 2 rfl) ?_
        have hi2 := (gd_ok hok).1
        replace hok := (gd_ok hok).2
        refine va_iald hx hb hK hP 2 1 rfl rfl (hi2) d_O_makeMany_12 ?_
        replace hok := bd_ok hok
        obtain ⟨r3, gs4, hc5, hok⟩ := hok
        refine cl_i (wc := (MO g ad ca gs)) (wr := []) hP hD hK hS hA [0, 1, 2, 3, 4, 5, 6, 7, 8, 9, 10, 11, 12, 13, 14, 15, 16, 17, 18, 19, 20] [] rfl rfl (by decide) (by decide) (va_runS (As := [.int ((gs.2 4) x3.toNatClampNeg)]) (rest := []) ⟨hx, hb, hml, hown, hts⟩ (a_isName l D H.size g ad ca F gs ((gs.2 4) x3.toNatClampNeg) r3 gs4 hc5) (cw_S hts 1 k_811 k_9 k_809 k_810 (by decide +kernel) ⟨Nat.le_of_ble_eq_true rfl, Nat.le_of_ble_eq_true rfl⟩) (pr_S hP hD hK [0, 1, 2, 3, 4, 5, 6, 7, 8, 9, 10, 11, 12, 13, 14, 15, 16, 17, 18, 19, 20] [0, 1, 2, 3, 4, 5, 6, 7, 8, 9, 10, 11, 12, 13, 14, 15, 16, 17, 18, 19] (by decide) rfl rfl (fun U hU hW => trivial) (fun U g mk a h => h)) rfl rfl hl.1 rfl (lv_room (Nat.le_of_ble_eq_true rfl)) d_O_makeMany_13 ⟨by decide, by decide⟩) (fun v7 u H locs h6 hP hD hK hS => ?_)
        have hP : va_P D wcl (MO g ad ca gs4) H := hP
        have hD : va_D A (MO g ad ca gs4) := hD
        have hK : va_K D wcl (MT ca) s := hK
        have h6 : r3 = v7 := h6
        subst h6
        refine lv_if_eq (tgt := 39) hx hb d_O_makeMany_16 (by decide) (fun h8 => ?_) (fun h8 => ?_)
        · replace hok := ci_t h8 hok
          exact j39 gs4 x2 x3 H locs ls hok hP hD hS hl
        · replace hok := ci_f h8 hok
          refine lv_aload_n hx hb d_O_makeMany_19 rfl (lv_at hl 0 rfl) ?_
          refine lv_dup hx hb d_O_makeMany_20 rfl ?_
          refine va_get (D := D) (ci := 8) (v := .int (gs4.1 19)) (C := rc_O) (T := ft_O) (N := 42) hx hb hts in_O hown hK hP 0 rfl rfl 19 (by decide) (hts _ k_674) (fun _ h9 => h9) rfl d_O_makeMany_21 ?_
          refine lv_iconst (v := 1) hx hb d_O_makeMany_24 (by decide) ?_
          refine lv_aload_n hx hb d_O_makeMany_25 rfl (lv_at hl 0 rfl) ?_
          refine va_get (D := D) (ci := 8) (v := .ref (ad 4)) (C := rc_O) (T := ft_O) (N := 42) hx hb hts in_O hown hK hP 0 rfl rfl 4 (by decide) (hts _ k_659) (fun _ h9 => h9) rfl d_O_makeMany_26 ?_
          refine lv_iload_n hx hb d_O_makeMany_29 rfl (lv_at hl 2 rfl) ?_
          have hi9 := (gd_ok hok).1
          replace hok := (gd_ok hok).2
          refine va_iald hx hb hK hP 2 1 rfl rfl (hi9) d_O_makeMany_30 ?_
          replace hok := bd_ok hok
          obtain ⟨r10, gs11, hc12, hok⟩ := hok
          refine cl_i (wc := (MO g ad ca gs4)) (wr := []) hP hD hK hS hA [0, 1, 2, 3, 4, 5, 6, 7, 8, 9, 10, 11, 12, 13, 14, 15, 16, 17, 18, 19, 20] [] rfl rfl (by decide) (by decide) (va_runS (As := [.int ((gs4.2 4) x3.toNatClampNeg)]) (rest := [.int 1, .int (gs4.1 19), .ref g]) ⟨hx, hb, hml, hown, hts⟩ (a_letterOf l D H.size g ad ca F gs4 ((gs4.2 4) x3.toNatClampNeg) r10 gs11 hc12) (cw_S hts 1 k_830 k_9 k_828 k_829 (by decide +kernel) ⟨Nat.le_of_ble_eq_true rfl, Nat.le_of_ble_eq_true rfl⟩) (pr_S hP hD hK [0, 1, 2, 3, 4, 5, 6, 7, 8, 9, 10, 11, 12, 13, 14, 15, 16, 17, 18, 19, 20] [0, 1, 2, 3, 4, 5, 6, 7, 8, 9, 10, 11, 12, 13, 14, 15, 16, 17, 18, 19] (by decide) rfl rfl (fun U hU hW => trivial) (fun U g mk a h => h)) rfl rfl hl.1 rfl (lv_room (Nat.le_of_ble_eq_true rfl)) d_O_makeMany_31 ⟨by decide, by decide⟩) (fun v14 u H locs h13 hP hD hK hS => ?_)
          have hP : va_P D wcl (MO g ad ca gs11) H := hP
          have hD : va_D A (MO g ad ca gs11) := hD
          have hK : va_K D wcl (MT ca) s := hK
          have h13 : r10 = v14 := h13
          subst h13
          refine lv_ishl hx hb d_O_makeMany_34 ?_
          refine lv_ior hx hb d_O_makeMany_35 ?_
          refine va_put (D := D) (ci := 8) (v := .int ((gs4.1 19) ||| ((1 : Int32) <<< (r10 &&& 31)))) (ty := .int) (C := rc_O) (T := ft_O) (N := 42) hx hb hts in_O ty_O tk_O nm_O hown hK hP hD hS 0 rfl rfl 19 (by decide) (hts _ k_674) (fun _ h9 => h9) rfl (by decide +kernel) rfl rfl (Nat.le_of_ble_eq_true rfl) d_O_makeMany_36 (fun H locs hP hD hS => ?_)
          have hP : va_P D wcl (MO g ad ca (sI gs11 19 ((gs4.1 19) ||| ((1 : Int32) <<< (r10 &&& 31))))) H := hP
          have hD : va_D A (MO g ad ca (sI gs11 19 ((gs4.1 19) ||| ((1 : Int32) <<< (r10 &&& 31))))) := hD
          exact j39 (sI gs11 19 ((gs4.1 19) ||| ((1 : Int32) <<< (r10 &&& 31)))) x2 x3 H locs ls hok hP hD hS hl
  refine lv_iload_n hx hb d_O_makeMany_0 rfl (lv_at hl 1 rfl) ?_
  refine lv_istore_n hx hb d_O_makeMany_1 rfl hl (by decide) rfl (fun ls hl => ?_)
  have hl : lv_has ls 4 [(3, .int a1), (0, .ref g), (1, .int a1), (2, .int a2)] := hl
  exact j2 F gs a2 a1 s.heap [] ls hok hP hD hS (lv_sub hl [1, 3, 0] rfl)

set_option maxHeartbeats 4000000 in
set_option maxRecDepth 100000 in
theorem a_matchPlain (l : Launch) (D : va_G) (sz : Nat) (g : Nat) (ad : Nat → Nat) (ca : Nat → ClassId) (F : Nat) (gs : OS) (a1 : Int32) (a2 : Int32) (a3 : Int32) (a4 : Int32) (r0 : Int32) (gf : OS) (hok : rf_matchPlain F gs a1 a2 a3 a4 = some (r0, gf)) : Met l y_O_matchPlain (Cond.code y_O_matchPlain b_O_matchPlain 10 none :: wal) ({ frames := 11, cells := 0, slots := 0, locals := 180 }) (va_Pc [.ref g, .int a1, .int a2, .int a3, .int a4] (pr D sz (MO g ad ca gs) (MT ca) (fun _ => True))) (va_Qv (S := Unit) (fun u => True) (fun u t9 => po D (va_A (MO g ad ca gs) sz) ((fun u => (MO g ad ca gf)) u) ((fun u => []) u) t9) (va_A (MO g ad ca gs) sz)) 0 0 (va_A (MO g ad ca gs) sz) := by
  refine Met.ofW (cc := b_O_matchPlain) (maxL := 10) (ret := none) (by decide) rfl ?_
  intro p e s m args below meth c s₁ B hml hv
  obtain ⟨rfl, hsz, hP, hK, hD0, hE⟩ := hv
  have hx := B.exec
  have hb := B.bytes
  have hr := B.returns
  have hts0 := atoms_spec (ws := Cond.code y_O_matchPlain b_O_matchPlain 10 none :: wal) B.pre
  have hts : ∀ w ∈ wal, w.before _ s = true := fun w h => hts0 w (List.mem_cons_of_mem _ h)
  have hown : s.vm.findClass rc_O = some m.cls := findClass_of_methodNamed B.named
  have hlocks := B.notSynchronized
  subst hsz
  have hD := hD0.self (sz := s.heap.size)
  generalize hAe : va_A (MO g ad ca gs) s.heap.size = A at hD ⊢
  have hA : ∀ q : Nat, s.heap.size ≤ q → A q := fun q h => by rw [← hAe]; exact Or.inr h
  have hS : va_S A s.heap s.heap [] := va_S.rf
  have hl := lv_entry ([.ref g, .int a1, .int a2, .int a3, .int a4]) (n := 10) (Nat.le_of_ble_eq_true rfl)
  rw [lg_entry_eq]
  generalize (lg_sl ([.ref g, .int a1, .int a2, .int a3, .int a4]) ++ List.replicate (10 - (lg_sl ([.ref g, .int a1, .int a2, .int a3, .int a4])).length) Slot.unset).toArray = ls at hl ⊢
  have hl : lv_has ls 10 [(0, .ref g), (1, .int a1), (2, .int a2), (3, .int a3), (4, .int a4)] := hl
  have j6 : ∀ (d6 : Nat) (gs : OS) (x2 : Int32) (x4 : Int32) (x5 : Int32) (x6 : Int32) (H : Heap) (locs : List Loc) (ls : Array Slot), rf_matchPlain_6 F d6 gs x2 x4 x5 x6 = some (r0, gf) → va_P D wcl (MO g ad ca gs) H → va_D A (MO g ad ca gs) → va_S A s.heap H locs → lv_has ls 10 [(0, .ref g), (2, .int x2), (4, .int x4), (5, .int x5), (6, .int x6)] → W p l e (headSpec (Cond.code y_O_matchPlain b_O_matchPlain 10 none :: wal) ({ frames := 11, cells := 0, slots := 0, locals := 180 })).room s m ([.ref g, .int a1, .int a2, .int a3, .int a4] : List Value).toArray below meth c H locs 0 0 (MQ below (va_Qv (S := Unit) (fun u => True) (fun u t9 => po D (A) ((fun u => (MO g ad ca gf)) u) ((fun u => []) u) t9) (A)) ([.ref g, .int a1, .int a2, .int a3, .int a4] : List Value).toArray s 0 0 A) (F0 m 6 ls []) := by
    intro d6
    induction d6 with
    | zero =>
      intro gs x2 x4 x5 x6 H locs ls hok
      have h9 : (none : RO) = some (r0, gf) := hok
      cases h9
    | succ d6 ih6 =>
      have j161 : ∀ (gs : OS) (x2 : Int32) (x4 : Int32) (x6 : Int32) (y0 : Int32) (H : Heap) (locs : List Loc) (ls : Array Slot), rf_matchPlain_161 F (rf_matchPlain_6 F d6) gs x2 x4 x6 y0 = some (r0, gf) → va_P D wcl (MO g ad ca gs) H → va_D A (MO g ad ca gs) → va_S A s.heap H locs → lv_has ls 10 [(0, .ref g), (2, .int x2), (4, .int x4), (6, .int x6)] → W p l e (headSpec (Cond.code y_O_matchPlain b_O_matchPlain 10 none :: wal) ({ frames := 11, cells := 0, slots := 0, locals := 180 })).room s m ([.ref g, .int a1, .int a2, .int a3, .int a4] : List Value).toArray below meth c H locs 0 0 (MQ below (va_Qv (S := Unit) (fun u => True) (fun u t9 => po D (A) ((fun u => (MO g ad ca gf)) u) ((fun u => []) u) t9) (A)) ([.ref g, .int a1, .int a2, .int a3, .int a4] : List Value).toArray s 0 0 A) (F0 m 161 ls [.int y0]) := by
        intro gs x2 x4 x6 y0 H locs ls hok hP hD hS hl
        rw [rf_matchPlain_161] at hok
        refine lv_istore hx hb d_O_matchPlain_161 hl (by decide) rfl (fun ls hl => ?_)
        have hl : lv_has ls 10 [(5, .int y0), (0, .ref g), (2, .int x2), (4, .int x4), (6, .int x6)] := hl
        refine lv_iinc (k := 4) (v := (x6 + 1)) hx hb d_O_matchPlain_163 hl rfl (by rfl) (by decide) rfl (fun ls hl => ?_)
        have hl : lv_has ls 10 [(6, .int (x6 + 1)), (5, .int y0), (0, .ref g), (2, .int x2), (4, .int x4)] := hl
        refine lv_goto (tgt := 6) hx hb d_O_matchPlain_166 (by decide) ?_
        exact ih6 gs x2 x4 y0 (x6 + 1) H locs ls hok hP hD hS (lv_sub hl [2, 3, 4, 1, 0] rfl)
      have j143 : ∀ (gs : OS) (x2 : Int32) (x4 : Int32) (x5 : Int32) (x6 : Int32) (x8 : Int32) (H : Heap) (locs : List Loc) (ls : Array Slot), rf_matchPlain_143 F (rf_matchPlain_6 F d6) gs x2 x4 x5 x6 x8 = some (r0, gf) → va_P D wcl (MO g ad ca gs) H → va_D A (MO g ad ca gs) → va_S A s.heap H locs → lv_has ls 10 [(0, .ref g), (2, .int x2), (4, .int x4), (5, .int x5), (6, .int x6), (8, .int x8)] → W p l e (headSpec (Cond.code y_O_matchPlain b_O_matchPlain 10 none :: wal) ({ frames := 11, cells := 0, slots := 0, locals := 180 })).room s m ([.ref g, .int a1, .int a2, .int a3, .int a4] : List Value).toArray below meth c H locs 0 0 (MQ below (va_Qv (S := Unit) (fun u => True) (fun u t9 => po D (A) ((fun u => (MO g ad ca gf)) u) ((fun u => []) u) t9) (A)) ([.ref g, .int a1, .int a2, .int a3, .int a4] : List Value).toArray s 0 0 A) (F0 m 143 ls []) := by
        intro gs x2 x4 x5 x6 x8 H locs ls hok hP hD hS hl
        rw [rf_matchPlain_143] at hok
        refine lv_iload hx hb d_O_matchPlain_143 (lv_at hl 5 rfl) ?_
        refine lv_if_eq (tgt := 157) hx hb d_O_matchPlain_145 (by decide) (fun h1 => ?_) (fun h1 => ?_)
        · replace hok := ci_t h1 hok
          refine lv_iload hx hb d_O_matchPlain_157 (lv_at hl 3 rfl) ?_
          refine lv_iconst (v := 1) hx hb d_O_matchPlain_159 (by decide) ?_
          refine lv_iadd hx hb d_O_matchPlain_160 ?_
          exact j161 gs x2 x4 x6 (x5 + 1) H locs ls hok hP hD hS (lv_sub hl [0, 1, 2, 4] rfl)
        · replace hok := ci_f h1 hok
          refine lv_aload_n hx hb d_O_matchPlain_148 rfl (lv_at hl 0 rfl) ?_
          refine lv_iload hx hb d_O_matchPlain_149 (lv_at hl 3 rfl) ?_
          replace hok := bd_ok hok
          obtain ⟨r2, gs3, hc4, hok⟩ := hok
          refine cl_i (wc := (MO g ad ca gs)) (wr := []) hP hD hK hS hA [0, 1, 2, 3, 4, 5, 6, 7, 8, 9, 10, 11, 12, 13, 14, 15, 16, 17, 18, 19, 20] [] rfl rfl (by decide) (by decide) (va_runV (As := [.int x5]) (rest := []) ⟨hx, hb, hml, hown, hts⟩ (a_skip l D H.size g ad ca F gs x5 r2 gs3 hc4) (cw_V hts 1 k_912 k_9 k_909 k_911 sel_O_skip (by decide +kernel) ⟨Nat.le_of_ble_eq_true rfl, Nat.le_of_ble_eq_true rfl⟩) (pr_V hP hD hK [0, 1, 2, 3, 4, 5, 6, 7, 8, 9, 10, 11, 12, 13, 14, 15, 16, 17, 18, 19, 20] [0, 1, 2, 3, 4, 5, 6, 7, 8, 9, 10, 11, 12, 13, 14, 15, 16, 17, 18, 19] (by decide) rfl rfl (fun U hU hW => trivial) (fun U g mk a h => h) (q0 := 0) (ci := 8) rfl rfl) rfl rfl hl.1 rfl (lv_room (Nat.le_of_ble_eq_true rfl)) d_O_matchPlain_151 ⟨by decide, by decide⟩) (fun v6 u H locs h5 hP hD hK hS => ?_)
          have hP : va_P D wcl (MO g ad ca gs3) H := hP
          have hD : va_D A (MO g ad ca gs3) := hD
          have hK : va_K D wcl (MT ca) s := hK
          have h5 : r2 = v6 := h5
          subst h5
          refine lv_goto (tgt := 161) hx hb d_O_matchPlain_154 (by decide) ?_
          exact j161 gs3 x2 x4 x6 r2 H locs ls hok hP hD hS (lv_sub hl [0, 1, 2, 4] rfl)
      have j84 : ∀ (gs : OS) (x2 : Int32) (x4 : Int32) (x5 : Int32) (x6 : Int32) (x7 : Int32) (x8 : Int32) (y0 : Int32) (H : Heap) (locs : List Loc) (ls : Array Slot), rf_matchPlain_84 F (rf_matchPlain_6 F d6) gs x2 x4 x5 x6 x7 x8 y0 = some (r0, gf) → va_P D wcl (MO g ad ca gs) H → va_D A (MO g ad ca gs) → va_S A s.heap H locs → lv_has ls 10 [(0, .ref g), (2, .int x2), (4, .int x4), (5, .int x5), (6, .int x6), (7, .int x7), (8, .int x8)] → W p l e (headSpec (Cond.code y_O_matchPlain b_O_matchPlain 10 none :: wal) ({ frames := 11, cells := 0, slots := 0, locals := 180 })).room s m ([.ref g, .int a1, .int a2, .int a3, .int a4] : List Value).toArray below meth c H locs 0 0 (MQ below (va_Qv (S := Unit) (fun u => True) (fun u t9 => po D (A) ((fun u => (MO g ad ca gf)) u) ((fun u => []) u) t9) (A)) ([.ref g, .int a1, .int a2, .int a3, .int a4] : List Value).toArray s 0 0 A) (F0 m 84 ls [.int y0]) := by
        intro gs x2 x4 x5 x6 x7 x8 y0 H locs ls hok hP hD hS hl
        rw [rf_matchPlain_84] at hok
        refine lv_istore hx hb d_O_matchPlain_84 hl (by decide) rfl (fun ls hl => ?_)
        have hl : lv_has ls 10 [(9, .int y0), (0, .ref g), (2, .int x2), (4, .int x4), (5, .int x5), (6, .int x6), (7, .int x7), (8, .int x8)] := hl
        refine lv_iload hx hb d_O_matchPlain_86 (lv_at hl 0 rfl) ?_
        refine lv_if_ne (tgt := 97) hx hb d_O_matchPlain_88 (by decide) (fun h7 => ?_) (fun h7 => ?_)
        · replace hok := ci_f h7 hok
          refine lv_iload hx hb d_O_matchPlain_97 (lv_at hl 6 rfl) ?_
          replace hok := bd_ok hok
          obtain ⟨r8, gs9, hc10, hok⟩ := hok
          refine cl_i (wc := (MO g ad ca gs)) (wr := []) hP hD hK hS hA [0, 1, 2, 3, 4, 5, 6, 7, 8, 9, 10, 11, 12, 13, 14, 15, 16, 17, 18, 19, 20] [] rfl rfl (by decide) (by decide) (va_runS (As := [.int x7]) (rest := []) ⟨hx, hb, hml, hown, hts⟩ (a_isName l D H.size g ad ca F gs x7 r8 gs9 hc10) (cw_S hts 1 k_811 k_9 k_809 k_810 (by decide +kernel) ⟨Nat.le_of_ble_eq_true rfl, Nat.le_of_ble_eq_true rfl⟩) (pr_S hP hD hK [0, 1, 2, 3, 4, 5, 6, 7, 8, 9, 10, 11, 12, 13, 14, 15, 16, 17, 18, 19, 20] [0, 1, 2, 3, 4, 5, 6, 7, 8, 9, 10, 11, 12, 13, 14, 15, 16, 17, 18, 19] (by decide) rfl rfl (fun U hU hW => trivial) (fun U g mk a h => h)) rfl rfl hl.1 rfl (lv_room (Nat.le_of_ble_eq_true rfl)) d_O_matchPlain_99 ⟨by decide, by decide⟩) (fun v12 u H locs h11 hP hD hK hS => ?_)
          have hP : va_P D wcl (MO g ad ca gs9) H := hP
          have hD : va_D A (MO g ad ca gs9) := hD
          have hK : va_K D wcl (MT ca) s := hK
          have h11 : r8 = v12 := h11
          subst h11
          refine lv_if_eq (tgt := 143) hx hb d_O_matchPlain_102 (by decide) (fun h13 => ?_) (fun h13 => ?_)
          · replace hok := ci_t h13 hok
            exact j143 gs9 x2 x4 x5 x6 x8 H locs ls hok hP hD hS (lv_sub hl [1, 2, 3, 4, 5, 7] rfl)
          · replace hok := ci_f h13 hok
            refine lv_iload hx hb d_O_matchPlain_105 (lv_at hl 3 rfl) ?_
            refine lv_if_ge (tgt := 125) hx hb d_O_matchPlain_107 (by decide) (fun h14 => ?_) (fun h14 => ?_)
            · replace hok := ci_t h14 hok
              refine lv_aload_n hx hb d_O_matchPlain_125 rfl (lv_at hl 1 rfl) ?_
              refine va_get (D := D) (ci := 8) (v := .ref (ad 31)) (C := rc_O) (T := ft_O) (N := 42) hx hb hts in_O hown hK hP 0 rfl rfl 31 (by decide) (hts _ k_686) (fun _ h9 => h9) rfl d_O_matchPlain_126 ?_
              refine lv_bipush (v := 64) hx hb d_O_matchPlain_129 (by decide) ?_
              refine lv_iload hx hb d_O_matchPlain_131 (lv_at hl 6 rfl) ?_
              replace hok := bd_ok hok
              obtain ⟨r15, gs16, hc17, hok⟩ := hok
              refine cl_i (wc := (MO g ad ca gs9)) (wr := []) hP hD hK hS hA [0, 1, 2, 3, 4, 5, 6, 7, 8, 9, 10, 11, 12, 13, 14, 15, 16, 17, 18, 19, 20] [] rfl rfl (by decide) (by decide) (va_runS (As := [.int x7]) (rest := [.int 64, .ref (ad 31)]) ⟨hx, hb, hml, hown, hts⟩ (a_letterOf l D H.size g ad ca F gs9 x7 r15 gs16 hc17) (cw_S hts 1 k_830 k_9 k_828 k_829 (by decide +kernel) ⟨Nat.le_of_ble_eq_true rfl, Nat.le_of_ble_eq_true rfl⟩) (pr_S hP hD hK [0, 1, 2, 3, 4, 5, 6, 7, 8, 9, 10, 11, 12, 13, 14, 15, 16, 17, 18, 19, 20] [0, 1, 2, 3, 4, 5, 6, 7, 8, 9, 10, 11, 12, 13, 14, 15, 16, 17, 18, 19] (by decide) rfl rfl (fun U hU hW => trivial) (fun U g mk a h => h)) rfl rfl hl.1 rfl (lv_room (Nat.le_of_ble_eq_true rfl)) d_O_matchPlain_133 ⟨by decide, by decide⟩) (fun v19 u H locs h18 hP hD hK hS => ?_)
              have hP : va_P D wcl (MO g ad ca gs16) H := hP
              have hD : va_D A (MO g ad ca gs16) := hD
              have hK : va_K D wcl (MT ca) s := hK
              have h18 : r15 = v19 := h18
              subst h18
              refine lv_imul hx hb d_O_matchPlain_136 ?_
              refine lv_iload hx hb d_O_matchPlain_137 (lv_at hl 3 rfl) ?_
              refine lv_iadd hx hb d_O_matchPlain_139 ?_
              refine lv_iload hx hb d_O_matchPlain_140 (lv_at hl 4 rfl) ?_
              have hi20 := (gd_ok hok).1
              replace hok := (gd_ok hok).2
              refine va_iast hx hb hK hP hD hS 17 16 rfl rfl hi20 d_O_matchPlain_142 (fun H locs hP hD hS => ?_)
              have hP : va_P D wcl (MO g ad ca (sA gs16 31 (upd (gs16.2 31) ((64 * r15) + x4).toNatClampNeg x5))) H := hP
              have hD : va_D A (MO g ad ca (sA gs16 31 (upd (gs16.2 31) ((64 * r15) + x4).toNatClampNeg x5))) := hD
              exact j143 (sA gs16 31 (upd (gs16.2 31) ((64 * r15) + x4).toNatClampNeg x5)) x2 x4 x5 x6 x8 H locs ls hok hP hD hS (lv_sub hl [1, 2, 3, 4, 5, 7] rfl)
            · replace hok := ci_f h14 hok
              refine lv_aload_n hx hb d_O_matchPlain_110 rfl (lv_at hl 1 rfl) ?_
              refine va_get (D := D) (ci := 8) (v := .ref (ad 29)) (C := rc_O) (T := ft_O) (N := 42) hx hb hts in_O hown hK hP 0 rfl rfl 29 (by decide) (hts _ k_684) (fun _ h9 => h9) rfl d_O_matchPlain_111 ?_
              refine lv_iload hx hb d_O_matchPlain_114 (lv_at hl 6 rfl) ?_
              replace hok := bd_ok hok
              obtain ⟨r21, gs22, hc23, hok⟩ := hok
              refine cl_i (wc := (MO g ad ca gs9)) (wr := []) hP hD hK hS hA [0, 1, 2, 3, 4, 5, 6, 7, 8, 9, 10, 11, 12, 13, 14, 15, 16, 17, 18, 19, 20] [] rfl rfl (by decide) (by decide) (va_runS (As := [.int x7]) (rest := [.ref (ad 29)]) ⟨hx, hb, hml, hown, hts⟩ (a_letterOf l D H.size g ad ca F gs9 x7 r21 gs22 hc23) (cw_S hts 1 k_830 k_9 k_828 k_829 (by decide +kernel) ⟨Nat.le_of_ble_eq_true rfl, Nat.le_of_ble_eq_true rfl⟩) (pr_S hP hD hK [0, 1, 2, 3, 4, 5, 6, 7, 8, 9, 10, 11, 12, 13, 14, 15, 16, 17, 18, 19, 20] [0, 1, 2, 3, 4, 5, 6, 7, 8, 9, 10, 11, 12, 13, 14, 15, 16, 17, 18, 19] (by decide) rfl rfl (fun U hU hW => trivial) (fun U g mk a h => h)) rfl rfl hl.1 rfl (lv_room (Nat.le_of_ble_eq_true rfl)) d_O_matchPlain_116 ⟨by decide, by decide⟩) (fun v25 u H locs h24 hP hD hK hS => ?_)
              have hP : va_P D wcl (MO g ad ca gs22) H := hP
              have hD : va_D A (MO g ad ca gs22) := hD
              have hK : va_K D wcl (MT ca) s := hK
              have h24 : r21 = v25 := h24
              subst h24
              refine lv_iload hx hb d_O_matchPlain_119 (lv_at hl 4 rfl) ?_
              have hi26 := (gd_ok hok).1
              replace hok := (gd_ok hok).2
              refine va_iast hx hb hK hP hD hS 15 14 rfl rfl hi26 d_O_matchPlain_121 (fun H locs hP hD hS => ?_)
              have hP : va_P D wcl (MO g ad ca (sA gs22 29 (upd (gs22.2 29) r21.toNatClampNeg x5))) H := hP
              have hD : va_D A (MO g ad ca (sA gs22 29 (upd (gs22.2 29) r21.toNatClampNeg x5))) := hD
              refine lv_goto (tgt := 143) hx hb d_O_matchPlain_122 (by decide) ?_
              exact j143 (sA gs22 29 (upd (gs22.2 29) r21.toNatClampNeg x5)) x2 x4 x5 x6 x8 H locs ls hok hP hD hS (lv_sub hl [1, 2, 3, 4, 5, 7] rfl)
        · replace hok := ci_t h7 hok
          refine lv_aload_n hx hb d_O_matchPlain_91 rfl (lv_at hl 1 rfl) ?_
          refine lv_iconst (v := -1) hx hb d_O_matchPlain_92 (by decide) ?_
          refine va_put (D := D) (ci := 8) (v := .int (-1)) (ty := .int) (C := rc_O) (T := ft_O) (N := 42) hx hb hts in_O ty_O tk_O nm_O hown hK hP hD hS 0 rfl rfl 41 (by decide) (hts _ k_696) (fun _ h9 => h9) rfl (by decide +kernel) rfl rfl (Nat.le_of_ble_eq_true rfl) d_O_matchPlain_93 (fun H locs hP hD hS => ?_)
          have hP : va_P D wcl (MO g ad ca (sI gs 41 (-1))) H := hP
          have hD : va_D A (MO g ad ca (sI gs 41 (-1))) := hD
          obtain ⟨e8, e9⟩ := rt_ok hok
          rw [e9] at hP hD
          have hK9 := hK.sub (tys' := []) [] rfl
          exact W.vret hx hb hr (fun t9 ht hW => ⟨⟨(), rfl, trivial, ⟨by rw [ht]; exact hP, va_K.moved hW.alike hK9, hD⟩⟩, hS.F ht⟩) hS.2.2 d_O_matchPlain_96
      have j41 : ∀ (gs : OS) (x2 : Int32) (x4 : Int32) (x5 : Int32) (x6 : Int32) (x7 : Int32) (y0 : Int32) (H : Heap) (locs : List Loc) (ls : Array Slot), rf_matchPlain_41 F (rf_matchPlain_6 F d6) gs x2 x4 x5 x6 x7 y0 = some (r0, gf) → va_P D wcl (MO g ad ca gs) H → va_D A (MO g ad ca gs) → va_S A s.heap H locs → lv_has ls 10 [(0, .ref g), (2, .int x2), (4, .int x4), (5, .int x5), (6, .int x6), (7, .int x7)] → W p l e (headSpec (Cond.code y_O_matchPlain b_O_matchPlain 10 none :: wal) ({ frames := 11, cells := 0, slots := 0, locals := 180 })).room s m ([.ref g, .int a1, .int a2, .int a3, .int a4] : List Value).toArray below meth c H locs 0 0 (MQ below (va_Qv (S := Unit) (fun u => True) (fun u t9 => po D (A) ((fun u => (MO g ad ca gf)) u) ((fun u => []) u) t9) (A)) ([.ref g, .int a1, .int a2, .int a3, .int a4] : List Value).toArray s 0 0 A) (F0 m 41 ls [.int y0]) := by
        intro gs x2 x4 x5 x6 x7 y0 H locs ls hok hP hD hS hl
        rw [rf_matchPlain_41] at hok
        refine lv_istore hx hb d_O_matchPlain_41 hl (by decide) rfl (fun ls hl => ?_)
        have hl : lv_has ls 10 [(8, .int y0), (0, .ref g), (2, .int x2), (4, .int x4), (5, .int x5), (6, .int x6), (7, .int x7)] := hl
        refine lv_iload hx hb d_O_matchPlain_43 (lv_at hl 0 rfl) ?_
        refine lv_if_eq (tgt := 67) hx hb d_O_matchPlain_45 (by decide) (fun h27 => ?_) (fun h27 => ?_)
        · replace hok := ci_t h27 hok
          refine lv_aload_n hx hb d_O_matchPlain_67 rfl (lv_at hl 1 rfl) ?_
          refine va_get (D := D) (ci := 8) (v := .ref (ad 22)) (C := rc_O) (T := ft_O) (N := 42) hx hb hts in_O hown hK hP 0 rfl rfl 22 (by decide) (hts _ k_677) (fun _ h9 => h9) rfl d_O_matchPlain_68 ?_
          refine lv_iload hx hb d_O_matchPlain_71 (lv_at hl 4 rfl) ?_
          have hi28 := (gd_ok hok).1
          replace hok := (gd_ok hok).2
          refine va_iald hx hb hK hP 13 12 rfl rfl (hi28) d_O_matchPlain_73 ?_
          refine lv_iload hx hb d_O_matchPlain_74 (lv_at hl 6 rfl) ?_
          refine lv_icmp_ne (tgt := 83) hx hb d_O_matchPlain_76 (by decide) (fun h29 => ?_) (fun h29 => ?_)
          · replace hok := ci_f h29 hok
            refine lv_iconst (v := 0) hx hb d_O_matchPlain_83 (by decide) ?_
            exact j84 gs x2 x4 x5 x6 x7 y0 0 H locs ls hok hP hD hS (lv_sub hl [1, 2, 3, 4, 5, 6, 0] rfl)
          · replace hok := ci_t h29 hok
            refine lv_iconst (v := 1) hx hb d_O_matchPlain_79 (by decide) ?_
            refine lv_goto (tgt := 84) hx hb d_O_matchPlain_80 (by decide) ?_
            exact j84 gs x2 x4 x5 x6 x7 y0 1 H locs ls hok hP hD hS (lv_sub hl [1, 2, 3, 4, 5, 6, 0] rfl)
        · replace hok := ci_f h27 hok
          refine lv_aload_n hx hb d_O_matchPlain_48 rfl (lv_at hl 1 rfl) ?_
          refine va_get (D := D) (ci := 8) (v := .ref (ad 22)) (C := rc_O) (T := ft_O) (N := 42) hx hb hts in_O hown hK hP 0 rfl rfl 22 (by decide) (hts _ k_677) (fun _ h9 => h9) rfl d_O_matchPlain_49 ?_
          refine lv_iload hx hb d_O_matchPlain_52 (lv_at hl 4 rfl) ?_
          have hi30 := (gd_ok hok).1
          replace hok := (gd_ok hok).2
          refine va_iald hx hb hK hP 13 12 rfl rfl (hi30) d_O_matchPlain_54 ?_
          refine lv_iconst (v := 2) hx hb d_O_matchPlain_55 (by decide) ?_
          refine lv_icmp_eq (tgt := 63) hx hb d_O_matchPlain_56 (by decide) (fun h31 => ?_) (fun h31 => ?_)
          · replace hok := ci_t h31 hok
            refine lv_iconst (v := 0) hx hb d_O_matchPlain_63 (by decide) ?_
            refine lv_goto (tgt := 84) hx hb d_O_matchPlain_64 (by decide) ?_
            exact j84 gs x2 x4 x5 x6 x7 y0 0 H locs ls hok hP hD hS (lv_sub hl [1, 2, 3, 4, 5, 6, 0] rfl)
          · replace hok := ci_f h31 hok
            refine lv_iconst (v := 1) hx hb d_O_matchPlain_59 (by decide) ?_
            refine lv_goto (tgt := 84) hx hb d_O_matchPlain_60 (by decide) ?_
            exact j84 gs x2 x4 x5 x6 x7 y0 1 H locs ls hok hP hD hS (lv_sub hl [1, 2, 3, 4, 5, 6, 0] rfl)
      have j36 : ∀ (gs : OS) (x2 : Int32) (x4 : Int32) (x5 : Int32) (x6 : Int32) (x7 : Int32) (H : Heap) (locs : List Loc) (ls : Array Slot), rf_matchPlain_36 F (rf_matchPlain_6 F d6) gs x2 x4 x5 x6 x7 = some (r0, gf) → va_P D wcl (MO g ad ca gs) H → va_D A (MO g ad ca gs) → va_S A s.heap H locs → lv_has ls 10 [(0, .ref g), (2, .int x2), (4, .int x4), (5, .int x5), (6, .int x6), (7, .int x7)] → W p l e (headSpec (Cond.code y_O_matchPlain b_O_matchPlain 10 none :: wal) ({ frames := 11, cells := 0, slots := 0, locals := 180 })).room s m ([.ref g, .int a1, .int a2, .int a3, .int a4] : List Value).toArray below meth c H locs 0 0 (MQ below (va_Qv (S := Unit) (fun u => True) (fun u t9 => po D (A) ((fun u => (MO g ad ca gf)) u) ((fun u => []) u) t9) (A)) ([.ref g, .int a1, .int a2, .int a3, .int a4] : List Value).toArray s 0 0 A) (F0 m 36 ls []) := by
        intro gs x2 x4 x5 x6 x7 H locs ls hok hP hD hS hl
        rw [rf_matchPlain_36] at hok
        refine lv_iconst (v := 1) hx hb d_O_matchPlain_36 (by decide) ?_
        refine lv_goto (tgt := 41) hx hb d_O_matchPlain_37 (by decide) ?_
        exact j41 gs x2 x4 x5 x6 x7 1 H locs ls hok hP hD hS hl
      intro gs x2 x4 x5 x6 H locs ls hok hP hD hS hl
      rw [rf_matchPlain_6] at hok
      refine lv_iload hx hb d_O_matchPlain_6 (lv_at hl 4 rfl) ?_
      refine lv_iload_n hx hb d_O_matchPlain_8 rfl (lv_at hl 1 rfl) ?_
      refine lv_icmp_ge (tgt := 169) hx hb d_O_matchPlain_9 (by decide) (fun h32 => ?_) (fun h32 => ?_)
      · replace hok := ci_t h32 hok
        refine lv_aload_n hx hb d_O_matchPlain_169 rfl (lv_at hl 0 rfl) ?_
        refine lv_iload hx hb d_O_matchPlain_170 (lv_at hl 3 rfl) ?_
        refine va_put (D := D) (ci := 8) (v := .int x5) (ty := .int) (C := rc_O) (T := ft_O) (N := 42) hx hb hts in_O ty_O tk_O nm_O hown hK hP hD hS 0 rfl rfl 41 (by decide) (hts _ k_696) (fun _ h9 => h9) rfl (by decide +kernel) rfl rfl (Nat.le_of_ble_eq_true rfl) d_O_matchPlain_172 (fun H locs hP hD hS => ?_)
        have hP : va_P D wcl (MO g ad ca (sI gs 41 x5)) H := hP
        have hD : va_D A (MO g ad ca (sI gs 41 x5)) := hD
        obtain ⟨e8, e9⟩ := rt_ok hok
        rw [e9] at hP hD
        have hK9 := hK.sub (tys' := []) [] rfl
        exact W.vret hx hb hr (fun t9 ht hW => ⟨⟨(), rfl, trivial, ⟨by rw [ht]; exact hP, va_K.moved hW.alike hK9, hD⟩⟩, hS.F ht⟩) hS.2.2 d_O_matchPlain_175
      · replace hok := ci_f h32 hok
        refine lv_aload_n hx hb d_O_matchPlain_12 rfl (lv_at hl 0 rfl) ?_
        refine va_get (D := D) (ci := 8) (v := .ref (ad 8)) (C := rc_O) (T := ft_O) (N := 42) hx hb hts in_O hown hK hP 0 rfl rfl 8 (by decide) (hts _ k_663) (fun _ h9 => h9) rfl d_O_matchPlain_13 ?_
        refine lv_iload hx hb d_O_matchPlain_16 (lv_at hl 4 rfl) ?_
        have hi33 := (gd_ok hok).1
        replace hok := (gd_ok hok).2
        refine va_iald hx hb hK hP 5 4 rfl rfl (hi33) d_O_matchPlain_18 ?_
        refine lv_istore hx hb d_O_matchPlain_19 hl (by decide) rfl (fun ls hl => ?_)
        have hl : lv_has ls 10 [(7, .int ((gs.2 8) x6.toNatClampNeg)), (0, .ref g), (2, .int x2), (4, .int x4), (5, .int x5), (6, .int x6)] := hl
        refine lv_iload hx hb d_O_matchPlain_21 (lv_at hl 0 rfl) ?_
        refine lv_bipush (v := 6) hx hb d_O_matchPlain_23 (by decide) ?_
        refine lv_icmp_eq (tgt := 36) hx hb d_O_matchPlain_25 (by decide) (fun h34 => ?_) (fun h34 => ?_)
        · replace hok := ci_t h34 hok
          exact j36 gs x2 x4 x5 x6 ((gs.2 8) x6.toNatClampNeg) H locs ls hok hP hD hS (lv_sub hl [1, 2, 3, 4, 5, 0] rfl)
        · replace hok := ci_f h34 hok
          refine lv_iload hx hb d_O_matchPlain_28 (lv_at hl 0 rfl) ?_
          replace hok := bd_ok hok
          obtain ⟨r35, gs36, hc37, hok⟩ := hok
          refine cl_i (wc := (MO g ad ca gs)) (wr := []) hP hD hK hS hA [0, 1, 2, 3, 4, 5, 6, 7, 8, 9, 10, 11, 12, 13, 14, 15, 16, 17, 18, 19, 20] [] rfl rfl (by decide) (by decide) (va_runS (As := [.int ((gs.2 8) x6.toNatClampNeg)]) (rest := []) ⟨hx, hb, hml, hown, hts⟩ (a_isName l D H.size g ad ca F gs ((gs.2 8) x6.toNatClampNeg) r35 gs36 hc37) (cw_S hts 1 k_811 k_9 k_809 k_810 (by decide +kernel) ⟨Nat.le_of_ble_eq_true rfl, Nat.le_of_ble_eq_true rfl⟩) (pr_S hP hD hK [0, 1, 2, 3, 4, 5, 6, 7, 8, 9, 10, 11, 12, 13, 14, 15, 16, 17, 18, 19, 20] [0, 1, 2, 3, 4, 5, 6, 7, 8, 9, 10, 11, 12, 13, 14, 15, 16, 17, 18, 19] (by decide) rfl rfl (fun U hU hW => trivial) (fun U g mk a h => h)) rfl rfl hl.1 rfl (lv_room (Nat.le_of_ble_eq_true rfl)) d_O_matchPlain_30 ⟨by decide, by decide⟩) (fun v39 u H locs h38 hP hD hK hS => ?_)
          have hP : va_P D wcl (MO g ad ca gs36) H := hP
          have hD : va_D A (MO g ad ca gs36) := hD
          have hK : va_K D wcl (MT ca) s := hK
          have h38 : r35 = v39 := h38
          subst h38
          refine lv_if_eq (tgt := 40) hx hb d_O_matchPlain_33 (by decide) (fun h40 => ?_) (fun h40 => ?_)
          · replace hok := ci_t h40 hok
            refine lv_iconst (v := 0) hx hb d_O_matchPlain_40 (by decide) ?_
            exact j41 gs36 x2 x4 x5 x6 ((gs.2 8) x6.toNatClampNeg) 0 H locs ls hok hP hD hS (lv_sub hl [1, 2, 3, 4, 5, 0] rfl)
          · replace hok := ci_f h40 hok
            exact j36 gs36 x2 x4 x5 x6 ((gs.2 8) x6.toNatClampNeg) H locs ls hok hP hD hS (lv_sub hl [1, 2, 3, 4, 5, 0] rfl)
  refine lv_iload_n hx hb d_O_matchPlain_0 rfl (lv_at hl 3 rfl) ?_
  refine lv_istore hx hb d_O_matchPlain_1 hl (by decide) rfl (fun ls hl => ?_)
  have hl : lv_has ls 10 [(5, .int a3), (0, .ref g), (1, .int a1), (2, .int a2), (3, .int a3), (4, .int a4)] := hl
  refine lv_iload_n hx hb d_O_matchPlain_3 rfl (lv_at hl 2 rfl) ?_
  refine lv_istore hx hb d_O_matchPlain_4 hl (by decide) rfl (fun ls hl => ?_)
  have hl : lv_has ls 10 [(6, .int a1), (5, .int a3), (0, .ref g), (1, .int a1), (2, .int a2), (3, .int a3), (4, .int a4)] := hl
  exact j6 F gs a2 a4 a3 a1 s.heap [] ls hok hP hD hS (lv_sub hl [2, 4, 6, 1, 0] rfl)

set_option maxHeartbeats 4000000 in
set_option maxRecDepth 100000 in
theorem a_takeDraft (l : Launch) (D : va_G) (sz : Nat) (g : Nat) (ad : Nat → Nat) (ca : Nat → ClassId) (F : Nat) (gs : OS) (r0 : Int32) (gf : OS) (hok : rf_takeDraft F gs = some (r0, gf)) : Met l y_O_takeDraft (Cond.code y_O_takeDraft b_O_takeDraft 4 (some .boolean) :: wal) ({ frames := 11, cells := 0, slots := 0, locals := 180 }) (va_Pc [.ref g] (pr D sz (MO g ad ca gs) (MT ca) (fun _ => True))) (va_Qi (S := Unit) (fun r u => r0 = r) (fun u t9 => po D (va_A (MO g ad ca gs) sz) ((fun u => (MO g ad ca gf)) u) ((fun u => []) u) t9) (va_A (MO g ad ca gs) sz)) 0 0 (va_A (MO g ad ca gs) sz) := by
  refine Met.ofW (cc := b_O_takeDraft) (maxL := 4) (ret := (some .boolean)) (by decide) rfl ?_
  intro p e s m args below meth c s₁ B hml hv
  obtain ⟨rfl, hsz, hP, hK, hD0, hE⟩ := hv
  have hx := B.exec
  have hb := B.bytes
  have hr := B.returns
  have hts0 := atoms_spec (ws := Cond.code y_O_takeDraft b_O_takeDraft 4 (some .boolean) :: wal) B.pre
  have hts : ∀ w ∈ wal, w.before _ s = true := fun w h => hts0 w (List.mem_cons_of_mem _ h)
  have hown : s.vm.findClass rc_O = some m.cls := findClass_of_methodNamed B.named
  have hlocks := B.notSynchronized
  subst hsz
  have hD := hD0.self (sz := s.heap.size)
  generalize hAe : va_A (MO g ad ca gs) s.heap.size = A at hD ⊢
  have hA : ∀ q : Nat, s.heap.size ≤ q → A q := fun q h => by rw [← hAe]; exact Or.inr h
  have hS : va_S A s.heap s.heap [] := va_S.rf
  have hl := lv_entry ([.ref g]) (n := 4) (Nat.le_of_ble_eq_true rfl)
  rw [lg_entry_eq]
  generalize (lg_sl ([.ref g]) ++ List.replicate (4 - (lg_sl ([.ref g])).length) Slot.unset).toArray = ls at hl ⊢
  have hl : lv_has ls 4 [(0, .ref g)] := hl
  have j9 : ∀ (d9 : Nat) (gs : OS) (x1 : Int32) (x2 : Int32) (H : Heap) (locs : List Loc) (ls : Array Slot), rf_takeDraft_9 F d9 gs x1 x2 = some (r0, gf) → va_P D wcl (MO g ad ca gs) H → va_D A (MO g ad ca gs) → va_S A s.heap H locs → lv_has ls 4 [(0, .ref g), (1, .int x1), (2, .int x2)] → W p l e (headSpec (Cond.code y_O_takeDraft b_O_takeDraft 4 (some .boolean) :: wal) ({ frames := 11, cells := 0, slots := 0, locals := 180 })).room s m ([.ref g] : List Value).toArray below meth c H locs 0 0 (MQ below (va_Qi (S := Unit) (fun r u => r0 = r) (fun u t9 => po D (A) ((fun u => (MO g ad ca gf)) u) ((fun u => []) u) t9) (A)) ([.ref g] : List Value).toArray s 0 0 A) (F0 m 9 ls []) := by
    intro d9
    induction d9 with
    | zero =>
      intro gs x1 x2 H locs ls hok
      have h9 : (none : RO) = some (r0, gf) := hok
      cases h9
    | succ d9 ih9 =>
      have j75 : ∀ (gs : OS) (x1 : Int32) (x2 : Int32) (H : Heap) (locs : List Loc) (ls : Array Slot), rf_takeDraft_75 F (rf_takeDraft_9 F d9) gs x1 x2 = some (r0, gf) → va_P D wcl (MO g ad ca gs) H → va_D A (MO g ad ca gs) → va_S A s.heap H locs → lv_has ls 4 [(0, .ref g), (1, .int x1), (2, .int x2)] → W p l e (headSpec (Cond.code y_O_takeDraft b_O_takeDraft 4 (some .boolean) :: wal) ({ frames := 11, cells := 0, slots := 0, locals := 180 })).room s m ([.ref g] : List Value).toArray below meth c H locs 0 0 (MQ below (va_Qi (S := Unit) (fun r u => r0 = r) (fun u t9 => po D (A) ((fun u => (MO g ad ca gf)) u) ((fun u => []) u) t9) (A)) ([.ref g] : List Value).toArray s 0 0 A) (F0 m 75 ls []) := by
        intro gs x1 x2 H locs ls hok hP hD hS hl
        rw [rf_takeDraft_75] at hok
        refine lv_iinc (k := 2) (v := (x2 + 1)) hx hb d_O_takeDraft_75 hl rfl (by rfl) (by decide) rfl (fun ls hl => ?_)
        have hl : lv_has ls 4 [(2, .int (x2 + 1)), (0, .ref g), (1, .int x1)] := hl
        refine lv_goto (tgt := 9) hx hb d_O_takeDraft_78 (by decide) ?_
        exact ih9 gs x1 (x2 + 1) H locs ls hok hP hD hS (lv_sub hl [1, 2, 0] rfl)
      have j54 : ∀ (gs : OS) (x2 : Int32) (x3 : Int32) (y0 : Int32) (H : Heap) (locs : List Loc) (ls : Array Slot), rf_takeDraft_54 F (rf_takeDraft_9 F d9) gs x2 x3 y0 = some (r0, gf) → va_P D wcl (MO g ad ca gs) H → va_D A (MO g ad ca gs) → va_S A s.heap H locs → lv_has ls 4 [(0, .ref g), (2, .int x2), (3, .int x3)] → W p l e (headSpec (Cond.code y_O_takeDraft b_O_takeDraft 4 (some .boolean) :: wal) ({ frames := 11, cells := 0, slots := 0, locals := 180 })).room s m ([.ref g] : List Value).toArray below meth c H locs 0 0 (MQ below (va_Qi (S := Unit) (fun r u => r0 = r) (fun u t9 => po D (A) ((fun u => (MO g ad ca gf)) u) ((fun u => []) u) t9) (A)) ([.ref g] : List Value).toArray s 0 0 A) (F0 m 54 ls [.int y0]) := by
        intro gs x2 x3 y0 H locs ls hok hP hD hS hl
        rw [rf_takeDraft_54] at hok
        refine lv_istore_n hx hb d_O_takeDraft_54 rfl hl (by decide) rfl (fun ls hl => ?_)
        have hl : lv_has ls 4 [(1, .int y0), (0, .ref g), (2, .int x2), (3, .int x3)] := hl
        refine lv_aload_n hx hb d_O_takeDraft_55 rfl (lv_at hl 1 rfl) ?_
        refine va_get (D := D) (ci := 8) (v := .ref (ad 4)) (C := rc_O) (T := ft_O) (N := 42) hx hb hts in_O hown hK hP 0 rfl rfl 4 (by decide) (hts _ k_659) (fun _ h9 => h9) rfl d_O_takeDraft_56 ?_
        refine lv_aload_n hx hb d_O_takeDraft_59 rfl (lv_at hl 1 rfl) ?_
        refine va_get (D := D) (ci := 8) (v := .int (gs.1 3)) (C := rc_O) (T := ft_O) (N := 42) hx hb hts in_O hown hK hP 0 rfl rfl 3 (by decide) (hts _ k_658) (fun _ h9 => h9) rfl d_O_takeDraft_60 ?_
        refine lv_iload_n hx hb d_O_takeDraft_63 rfl (lv_at hl 3 rfl) ?_
        have hi1 := (gd_ok hok).1
        replace hok := (gd_ok hok).2
        refine va_iast hx hb hK hP hD hS 2 1 rfl rfl hi1 d_O_takeDraft_64 (fun H locs hP hD hS => ?_)
        have hP : va_P D wcl (MO g ad ca (sA gs 4 (upd (gs.2 4) (gs.1 3).toNatClampNeg x3))) H := hP
        have hD : va_D A (MO g ad ca (sA gs 4 (upd (gs.2 4) (gs.1 3).toNatClampNeg x3))) := hD
        refine lv_aload_n hx hb d_O_takeDraft_65 rfl (lv_at hl 1 rfl) ?_
        refine lv_dup hx hb d_O_takeDraft_66 rfl ?_
        refine va_get (D := D) (ci := 8) (v := .int (gs.1 3)) (C := rc_O) (T := ft_O) (N := 42) hx hb hts in_O hown hK hP 0 rfl rfl 3 (by decide) (hts _ k_658) (fun _ h9 => h9) rfl d_O_takeDraft_67 ?_
        refine lv_iconst (v := 1) hx hb d_O_takeDraft_70 (by decide) ?_
        refine lv_iadd hx hb d_O_takeDraft_71 ?_
        refine va_put (D := D) (ci := 8) (v := .int ((gs.1 3) + 1)) (ty := .int) (C := rc_O) (T := ft_O) (N := 42) hx hb hts in_O ty_O tk_O nm_O hown hK hP hD hS 0 rfl rfl 3 (by decide) (hts _ k_658) (fun _ h9 => h9) rfl (by decide +kernel) rfl rfl (Nat.le_of_ble_eq_true rfl) d_O_takeDraft_72 (fun H locs hP hD hS => ?_)
        have hP : va_P D wcl (MO g ad ca (sA (sI gs 3 ((gs.1 3) + 1)) 4 (upd (gs.2 4) (gs.1 3).toNatClampNeg x3))) H := hP
        have hD : va_D A (MO g ad ca (sA (sI gs 3 ((gs.1 3) + 1)) 4 (upd (gs.2 4) (gs.1 3).toNatClampNeg x3))) := hD
        exact j75 (sA (sI gs 3 ((gs.1 3) + 1)) 4 (upd (gs.2 4) (gs.1 3).toNatClampNeg x3)) y0 x2 H locs ls hok hP hD hS (lv_sub hl [1, 0, 2] rfl)
      have j53 : ∀ (gs : OS) (x2 : Int32) (x3 : Int32) (H : Heap) (locs : List Loc) (ls : Array Slot), rf_takeDraft_53 F (rf_takeDraft_9 F d9) gs x2 x3 = some (r0, gf) → va_P D wcl (MO g ad ca gs) H → va_D A (MO g ad ca gs) → va_S A s.heap H locs → lv_has ls 4 [(0, .ref g), (2, .int x2), (3, .int x3)] → W p l e (headSpec (Cond.code y_O_takeDraft b_O_takeDraft 4 (some .boolean) :: wal) ({ frames := 11, cells := 0, slots := 0, locals := 180 })).room s m ([.ref g] : List Value).toArray below meth c H locs 0 0 (MQ below (va_Qi (S := Unit) (fun r u => r0 = r) (fun u t9 => po D (A) ((fun u => (MO g ad ca gf)) u) ((fun u => []) u) t9) (A)) ([.ref g] : List Value).toArray s 0 0 A) (F0 m 53 ls []) := by
        intro gs x2 x3 H locs ls hok hP hD hS hl
        rw [rf_takeDraft_53] at hok
        refine lv_iconst (v := 0) hx hb d_O_takeDraft_53 (by decide) ?_
        exact j54 gs x2 x3 0 H locs ls hok hP hD hS hl
      intro gs x1 x2 H locs ls hok hP hD hS hl
      rw [rf_takeDraft_9] at hok
      refine lv_iload_n hx hb d_O_takeDraft_9 rfl (lv_at hl 2 rfl) ?_
      refine lv_aload_n hx hb d_O_takeDraft_10 rfl (lv_at hl 0 rfl) ?_
      refine va_get (D := D) (ci := 8) (v := .int (gs.1 1)) (C := rc_O) (T := ft_O) (N := 42) hx hb hts in_O hown hK hP 0 rfl rfl 1 (by decide) (hts _ k_656) (fun _ h9 => h9) rfl d_O_takeDraft_11 ?_
      refine lv_icmp_ge (tgt := 81) hx hb d_O_takeDraft_14 (by decide) (fun h2 => ?_) (fun h2 => ?_)
      · replace hok := ci_t h2 hok
        refine lv_aload_n hx hb d_O_takeDraft_81 rfl (lv_at hl 0 rfl) ?_
        refine lv_iconst (v := 0) hx hb d_O_takeDraft_82 (by decide) ?_
        refine va_put (D := D) (ci := 8) (v := .int 0) (ty := .int) (C := rc_O) (T := ft_O) (N := 42) hx hb hts in_O ty_O tk_O nm_O hown hK hP hD hS 0 rfl rfl 1 (by decide) (hts _ k_656) (fun _ h9 => h9) rfl (by decide +kernel) rfl rfl (Nat.le_of_ble_eq_true rfl) d_O_takeDraft_83 (fun H locs hP hD hS => ?_)
        have hP : va_P D wcl (MO g ad ca (sI gs 1 0)) H := hP
        have hD : va_D A (MO g ad ca (sI gs 1 0)) := hD
        refine lv_aload_n hx hb d_O_takeDraft_86 rfl (lv_at hl 0 rfl) ?_
        refine va_get (D := D) (ci := 8) (v := .ref (ad 4)) (C := rc_O) (T := ft_O) (N := 42) hx hb hts in_O hown hK hP 0 rfl rfl 4 (by decide) (hts _ k_659) (fun _ h9 => h9) rfl d_O_takeDraft_87 ?_
        refine lv_aload_n hx hb d_O_takeDraft_90 rfl (lv_at hl 0 rfl) ?_
        refine va_get (D := D) (ci := 8) (v := .int (gs.1 3)) (C := rc_O) (T := ft_O) (N := 42) hx hb hts in_O hown hK hP 0 rfl rfl 3 (by decide) (hts _ k_658) (fun _ h9 => h9) rfl d_O_takeDraft_91 ?_
        refine lv_iconst (v := 0) hx hb d_O_takeDraft_94 (by decide) ?_
        have hi3 := (gd_ok hok).1
        replace hok := (gd_ok hok).2
        refine va_iast hx hb hK hP hD hS 2 1 rfl rfl hi3 d_O_takeDraft_95 (fun H locs hP hD hS => ?_)
        have hP : va_P D wcl (MO g ad ca (sA (sI gs 1 0) 4 (upd (gs.2 4) (gs.1 3).toNatClampNeg 0))) H := hP
        have hD : va_D A (MO g ad ca (sA (sI gs 1 0) 4 (upd (gs.2 4) (gs.1 3).toNatClampNeg 0))) := hD
        refine lv_iload_n hx hb d_O_takeDraft_96 rfl (lv_at hl 1 rfl) ?_
        have hn4 := (gd_ok hok).1
        replace hok := (gd_ok hok).2
        obtain ⟨e8, e9⟩ := rt_ok hok
        rw [e9] at hP hD
        have hK9 := hK.sub (tys' := []) [] rfl
        exact W.zret (v := x1) hx hb hr (nar_ib hn4) (fun t9 ht hW => ⟨⟨x1, (), rfl, e8, ⟨by rw [ht]; exact hP, va_K.moved hW.alike hK9, hD⟩⟩, hS.F ht⟩) hS.2.2 d_O_takeDraft_97
      · replace hok := ci_f h2 hok
        refine lv_aload_n hx hb d_O_takeDraft_17 rfl (lv_at hl 0 rfl) ?_
        refine va_get (D := D) (ci := 8) (v := .ref (ad 2)) (C := rc_O) (T := ft_O) (N := 42) hx hb hts in_O hown hK hP 0 rfl rfl 2 (by decide) (hts _ k_657) (fun _ h9 => h9) rfl d_O_takeDraft_18 ?_
        refine lv_iload_n hx hb d_O_takeDraft_21 rfl (lv_at hl 2 rfl) ?_
        have hi5 := (gd_ok hok).1
        replace hok := (gd_ok hok).2
        refine va_cald hx hb hK hP 1 0 rfl rfl (hi5) d_O_takeDraft_22 ?_
        refine lv_bipush (v := 32) hx hb d_O_takeDraft_23 (by decide) ?_
        refine lv_icmp_ne (tgt := 31) hx hb d_O_takeDraft_25 (by decide) (fun h6 => ?_) (fun h6 => ?_)
        · replace hok := ci_f h6 hok
          refine lv_aload_n hx hb d_O_takeDraft_31 rfl (lv_at hl 0 rfl) ?_
          refine va_get (D := D) (ci := 8) (v := .ref (ad 2)) (C := rc_O) (T := ft_O) (N := 42) hx hb hts in_O hown hK hP 0 rfl rfl 2 (by decide) (hts _ k_657) (fun _ h9 => h9) rfl d_O_takeDraft_32 ?_
          refine lv_iload_n hx hb d_O_takeDraft_35 rfl (lv_at hl 2 rfl) ?_
          have hi7 := (gd_ok hok).1
          replace hok := (gd_ok hok).2
          refine va_cald hx hb hK hP 1 0 rfl rfl (hi7) d_O_takeDraft_36 ?_
          replace hok := bd_ok hok
          obtain ⟨r8, gs9, hc10, hok⟩ := hok
          refine cl_i (wc := (MO g ad ca gs)) (wr := []) hP hD hK hS hA [0, 1, 2, 3, 4, 5, 6, 7, 8, 9, 10, 11, 12, 13, 14, 15, 16, 17, 18, 19, 20] [] rfl rfl (by decide) (by decide) (va_runS (As := [.int ((gs.2 2) x2.toNatClampNeg)]) (rest := []) ⟨hx, hb, hml, hown, hts⟩ (a_tokenOf l D H.size g ad ca F gs ((gs.2 2) x2.toNatClampNeg) r8 gs9 hc10) (cw_S hts 1 k_800 k_9 k_798 k_799 (by decide +kernel) ⟨Nat.le_of_ble_eq_true rfl, Nat.le_of_ble_eq_true rfl⟩) (pr_S hP hD hK [0, 1, 2, 3, 4, 5, 6, 7, 8, 9, 10, 11, 12, 13, 14, 15, 16, 17, 18, 19, 20] [0, 1, 2, 3, 4, 5, 6, 7, 8, 9, 10, 11, 12, 13, 14, 15, 16, 17, 18, 19] (by decide) rfl rfl (fun U hU hW => trivial) (fun U g mk a h => h)) rfl rfl hl.1 rfl (lv_room (Nat.le_of_ble_eq_true rfl)) d_O_takeDraft_37 ⟨by decide, by decide⟩) (fun v12 u H locs h11 hP hD hK hS => ?_)
          have hP : va_P D wcl (MO g ad ca gs9) H := hP
          have hD : va_D A (MO g ad ca gs9) := hD
          have hK : va_K D wcl (MT ca) s := hK
          have h11 : r8 = v12 := h11
          subst h11
          refine lv_istore_n hx hb d_O_takeDraft_40 rfl hl (by decide) rfl (fun ls hl => ?_)
          have hl : lv_has ls 4 [(3, .int r8), (0, .ref g), (1, .int x1), (2, .int x2)] := hl
          refine lv_iload_n hx hb d_O_takeDraft_41 rfl (lv_at hl 2 rfl) ?_
          refine lv_if_eq (tgt := 53) hx hb d_O_takeDraft_42 (by decide) (fun h13 => ?_) (fun h13 => ?_)
          · replace hok := ci_t h13 hok
            exact j53 gs9 x2 r8 H locs ls hok hP hD hS (lv_sub hl [1, 3, 0] rfl)
          · replace hok := ci_f h13 hok
            refine lv_iload_n hx hb d_O_takeDraft_45 rfl (lv_at hl 0 rfl) ?_
            refine lv_if_eq (tgt := 53) hx hb d_O_takeDraft_46 (by decide) (fun h14 => ?_) (fun h14 => ?_)
            · replace hok := ci_t h14 hok
              exact j53 gs9 x2 r8 H locs ls hok hP hD hS (lv_sub hl [1, 3, 0] rfl)
            · replace hok := ci_f h14 hok
              refine lv_iconst (v := 1) hx hb d_O_takeDraft_49 (by decide) ?_
              refine lv_goto (tgt := 54) hx hb d_O_takeDraft_50 (by decide) ?_
              exact j54 gs9 x2 r8 1 H locs ls hok hP hD hS (lv_sub hl [1, 3, 0] rfl)
        · replace hok := ci_t h6 hok
          refine lv_goto (tgt := 75) hx hb d_O_takeDraft_28 (by decide) ?_
          exact j75 gs x1 x2 H locs ls hok hP hD hS hl
  refine lv_aload_n hx hb d_O_takeDraft_0 rfl (lv_at hl 0 rfl) ?_
  refine lv_iconst (v := 0) hx hb d_O_takeDraft_1 (by decide) ?_
  refine va_put (D := D) (ci := 8) (v := .int 0) (ty := .int) (C := rc_O) (T := ft_O) (N := 42) hx hb hts in_O ty_O tk_O nm_O hown hK hP hD hS 0 rfl rfl 3 (by decide) (hts _ k_658) (fun _ h9 => h9) rfl (by decide +kernel) rfl rfl (Nat.le_of_ble_eq_true rfl) d_O_takeDraft_2 (fun H locs hP hD hS => ?_)
  have hP : va_P D wcl (MO g ad ca (sI gs 3 0)) H := hP
  have hD : va_D A (MO g ad ca (sI gs 3 0)) := hD
  refine lv_iconst (v := 1) hx hb d_O_takeDraft_5 (by decide) ?_
  refine lv_istore_n hx hb d_O_takeDraft_6 rfl hl (by decide) rfl (fun ls hl => ?_)
  have hl : lv_has ls 4 [(1, .int 1), (0, .ref g)] := hl
  refine lv_iconst (v := 0) hx hb d_O_takeDraft_7 (by decide) ?_
  refine lv_istore_n hx hb d_O_takeDraft_8 rfl hl (by decide) rfl (fun ls hl => ?_)
  have hl : lv_has ls 4 [(2, .int 0), (1, .int 1), (0, .ref g)] := hl
  exact j9 F (sI gs 3 0) 1 0 H locs ls hok hP hD hS (lv_sub hl [2, 1, 0] rfl)

set_option maxHeartbeats 4000000 in
set_option maxRecDepth 100000 in
theorem a_termEnd (l : Launch) (D : va_G) (sz : Nat) (g : Nat) (ad : Nat → Nat) (ca : Nat → ClassId) (F : Nat) (gs : OS) (a1 : Int32) (r0 : Int32) (gf : OS) (hok : rf_termEnd F gs a1 = some (r0, gf)) : Met l y_O_termEnd (Cond.code y_O_termEnd b_O_termEnd 6 (some .int) :: wal) ({ frames := 11, cells := 0, slots := 0, locals := 180 }) (va_Pc [.ref g, .int a1] (pr D sz (MO g ad ca gs) (MT ca) (fun _ => True))) (va_Qi (S := Unit) (fun r u => r0 = r) (fun u t9 => po D (va_A (MO g ad ca gs) sz) ((fun u => (MO g ad ca gf)) u) ((fun u => []) u) t9) (va_A (MO g ad ca gs) sz)) 0 0 (va_A (MO g ad ca gs) sz) := by
  refine Met.ofW (cc := b_O_termEnd) (maxL := 6) (ret := (some .int)) (by decide) rfl ?_
  intro p e s m args below meth c s₁ B hml hv
  obtain ⟨rfl, hsz, hP, hK, hD0, hE⟩ := hv
  have hx := B.exec
  have hb := B.bytes
  have hr := B.returns
  have hts0 := atoms_spec (ws := Cond.code y_O_termEnd b_O_termEnd 6 (some .int) :: wal) B.pre
  have hts : ∀ w ∈ wal, w.before _ s = true := fun w h => hts0 w (List.mem_cons_of_mem _ h)
  have hown : s.vm.findClass rc_O = some m.cls := findClass_of_methodNamed B.named
  have hlocks := B.notSynchronized
  subst hsz
  have hD := hD0.self (sz := s.heap.size)
  generalize hAe : va_A (MO g ad ca gs) s.heap.size = A at hD ⊢
  have hA : ∀ q : Nat, s.heap.size ≤ q → A q := fun q h => by rw [← hAe]; exact Or.inr h
  have hS : va_S A s.heap s.heap [] := va_S.rf
  have hl := lv_entry ([.ref g, .int a1]) (n := 6) (Nat.le_of_ble_eq_true rfl)
  rw [lg_entry_eq]
  generalize (lg_sl ([.ref g, .int a1]) ++ List.replicate (6 - (lg_sl ([.ref g, .int a1])).length) Slot.unset).toArray = ls at hl ⊢
  have hl : lv_has ls 6 [(0, .ref g), (1, .int a1)] := hl
  have j92 : ∀ (gs : OS)  (H : Heap) (locs : List Loc) (ls : Array Slot), rf_termEnd_92 F gs = some (r0, gf) → va_P D wcl (MO g ad ca gs) H → va_D A (MO g ad ca gs) → va_S A s.heap H locs → lv_has ls 6 [(0, .ref g)] → W p l e (headSpec (Cond.code y_O_termEnd b_O_termEnd 6 (some .int) :: wal) ({ frames := 11, cells := 0, slots := 0, locals := 180 })).room s m ([.ref g, .int a1] : List Value).toArray below meth c H locs 0 0 (MQ below (va_Qi (S := Unit) (fun r u => r0 = r) (fun u t9 => po D (A) ((fun u => (MO g ad ca gf)) u) ((fun u => []) u) t9) (A)) ([.ref g, .int a1] : List Value).toArray s 0 0 A) (F0 m 92 ls []) := by
    intro gs  H locs ls hok hP hD hS hl
    rw [rf_termEnd_92] at hok
    refine lv_iconst (v := -1) hx hb d_O_termEnd_92 (by decide) ?_
    obtain ⟨e8, e9⟩ := rt_ok hok
    rw [e9] at hP hD
    have hK9 := hK.sub (tys' := []) [] rfl
    exact W.iret (v := (-1)) hx hb hr (fun t9 ht hW => ⟨⟨(-1), (), rfl, e8, ⟨by rw [ht]; exact hP, va_K.moved hW.alike hK9, hD⟩⟩, hS.F ht⟩) hS.2.2 d_O_termEnd_93
  have j7 : ∀ (d7 : Nat) (gs : OS) (x2 : Int32) (x3 : Int32) (x4 : Int32) (H : Heap) (locs : List Loc) (ls : Array Slot), rf_termEnd_7 F d7 gs x2 x3 x4 = some (r0, gf) → va_P D wcl (MO g ad ca gs) H → va_D A (MO g ad ca gs) → va_S A s.heap H locs → lv_has ls 6 [(0, .ref g), (2, .int x2), (3, .int x3), (4, .int x4)] → W p l e (headSpec (Cond.code y_O_termEnd b_O_termEnd 6 (some .int) :: wal) ({ frames := 11, cells := 0, slots := 0, locals := 180 })).room s m ([.ref g, .int a1] : List Value).toArray below meth c H locs 0 0 (MQ below (va_Qi (S := Unit) (fun r u => r0 = r) (fun u t9 => po D (A) ((fun u => (MO g ad ca gf)) u) ((fun u => []) u) t9) (A)) ([.ref g, .int a1] : List Value).toArray s 0 0 A) (F0 m 7 ls []) := by
    intro d7
    induction d7 with
    | zero =>
      intro gs x2 x3 x4 H locs ls hok
      have h9 : (none : RO) = some (r0, gf) := hok
      cases h9
    | succ d7 ih7 =>
      have j106 : ∀ (gs : OS) (x2 : Int32) (x3 : Int32) (y0 : Int32) (H : Heap) (locs : List Loc) (ls : Array Slot), rf_termEnd_106 F (rf_termEnd_7 F d7) gs x2 x3 y0 = some (r0, gf) → va_P D wcl (MO g ad ca gs) H → va_D A (MO g ad ca gs) → va_S A s.heap H locs → lv_has ls 6 [(0, .ref g), (2, .int x2), (3, .int x3)] → W p l e (headSpec (Cond.code y_O_termEnd b_O_termEnd 6 (some .int) :: wal) ({ frames := 11, cells := 0, slots := 0, locals := 180 })).room s m ([.ref g, .int a1] : List Value).toArray below meth c H locs 0 0 (MQ below (va_Qi (S := Unit) (fun r u => r0 = r) (fun u t9 => po D (A) ((fun u => (MO g ad ca gf)) u) ((fun u => []) u) t9) (A)) ([.ref g, .int a1] : List Value).toArray s 0 0 A) (F0 m 106 ls [.int y0]) := by
        intro gs x2 x3 y0 H locs ls hok hP hD hS hl
        rw [rf_termEnd_106] at hok
        refine lv_istore hx hb d_O_termEnd_106 hl (by decide) rfl (fun ls hl => ?_)
        have hl : lv_has ls 6 [(4, .int y0), (0, .ref g), (2, .int x2), (3, .int x3)] := hl
        refine lv_goto (tgt := 7) hx hb d_O_termEnd_108 (by decide) ?_
        exact ih7 gs x2 x3 y0 H locs ls hok hP hD hS (lv_sub hl [1, 2, 3, 0] rfl)
      have j82 : ∀ (gs : OS) (x2 : Int32) (x3 : Int32) (H : Heap) (locs : List Loc) (ls : Array Slot), rf_termEnd_82 F (rf_termEnd_7 F d7) gs x2 x3 = some (r0, gf) → va_P D wcl (MO g ad ca gs) H → va_D A (MO g ad ca gs) → va_S A s.heap H locs → lv_has ls 6 [(0, .ref g), (2, .int x2), (3, .int x3)] → W p l e (headSpec (Cond.code y_O_termEnd b_O_termEnd 6 (some .int) :: wal) ({ frames := 11, cells := 0, slots := 0, locals := 180 })).room s m ([.ref g, .int a1] : List Value).toArray below meth c H locs 0 0 (MQ below (va_Qi (S := Unit) (fun r u => r0 = r) (fun u t9 => po D (A) ((fun u => (MO g ad ca gf)) u) ((fun u => []) u) t9) (A)) ([.ref g, .int a1] : List Value).toArray s 0 0 A) (F0 m 82 ls []) := by
        intro gs x2 x3 H locs ls hok hP hD hS hl
        rw [rf_termEnd_82] at hok
        refine lv_iload_n hx hb d_O_termEnd_82 rfl (lv_at hl 2 rfl) ?_
        refine lv_if_lt (tgt := 92) hx hb d_O_termEnd_83 (by decide) (fun h1 => ?_) (fun h1 => ?_)
        · replace hok := ci_t h1 hok
          exact j92 gs H locs ls hok hP hD hS (lv_sub hl [0] rfl)
        · replace hok := ci_f h1 hok
          refine lv_iload_n hx hb d_O_termEnd_86 rfl (lv_at hl 2 rfl) ?_
          refine lv_bipush (v := 8) hx hb d_O_termEnd_87 (by decide) ?_
          refine lv_icmp_le (tgt := 94) hx hb d_O_termEnd_89 (by decide) (fun h2 => ?_) (fun h2 => ?_)
          · replace hok := ci_t h2 hok
            refine lv_iinc (k := 1) (v := (x2 + 1)) hx hb d_O_termEnd_94 hl rfl (by rfl) (by decide) rfl (fun ls hl => ?_)
            have hl : lv_has ls 6 [(2, .int (x2 + 1)), (0, .ref g), (3, .int x3)] := hl
            refine lv_iload_n hx hb d_O_termEnd_97 rfl (lv_at hl 2 rfl) ?_
            refine lv_if_le (tgt := 105) hx hb d_O_termEnd_98 (by decide) (fun h3 => ?_) (fun h3 => ?_)
            · replace hok := ci_t h3 hok
              refine lv_iconst (v := 0) hx hb d_O_termEnd_105 (by decide) ?_
              exact j106 gs (x2 + 1) x3 0 H locs ls hok hP hD hS (lv_sub hl [1, 0, 2] rfl)
            · replace hok := ci_f h3 hok
              refine lv_iconst (v := 1) hx hb d_O_termEnd_101 (by decide) ?_
              refine lv_goto (tgt := 106) hx hb d_O_termEnd_102 (by decide) ?_
              exact j106 gs (x2 + 1) x3 1 H locs ls hok hP hD hS (lv_sub hl [1, 0, 2] rfl)
          · replace hok := ci_f h2 hok
            exact j92 gs H locs ls hok hP hD hS (lv_sub hl [0] rfl)
      have j30 : ∀ (gs : OS) (x2 : Int32) (x3 : Int32) (y0 : Int32) (H : Heap) (locs : List Loc) (ls : Array Slot), rf_termEnd_30 F (rf_termEnd_7 F d7) gs x2 x3 y0 = some (r0, gf) → va_P D wcl (MO g ad ca gs) H → va_D A (MO g ad ca gs) → va_S A s.heap H locs → lv_has ls 6 [(0, .ref g), (2, .int x2), (3, .int x3)] → W p l e (headSpec (Cond.code y_O_termEnd b_O_termEnd 6 (some .int) :: wal) ({ frames := 11, cells := 0, slots := 0, locals := 180 })).room s m ([.ref g, .int a1] : List Value).toArray below meth c H locs 0 0 (MQ below (va_Qi (S := Unit) (fun r u => r0 = r) (fun u t9 => po D (A) ((fun u => (MO g ad ca gf)) u) ((fun u => []) u) t9) (A)) ([.ref g, .int a1] : List Value).toArray s 0 0 A) (F0 m 30 ls [.int y0]) := by
        intro gs x2 x3 y0 H locs ls hok hP hD hS hl
        rw [rf_termEnd_30] at hok
        refine lv_istore hx hb d_O_termEnd_30 hl (by decide) rfl (fun ls hl => ?_)
        have hl : lv_has ls 6 [(5, .int y0), (0, .ref g), (2, .int x2), (3, .int x3)] := hl
        refine lv_iload hx hb d_O_termEnd_32 (lv_at hl 0 rfl) ?_
        refine lv_iconst (v := 1) hx hb d_O_termEnd_34 (by decide) ?_
        refine lv_icmp_ne (tgt := 44) hx hb d_O_termEnd_35 (by decide) (fun h4 => ?_) (fun h4 => ?_)
        · replace hok := ci_f h4 hok
          refine lv_iload hx hb d_O_termEnd_44 (lv_at hl 0 rfl) ?_
          refine lv_iconst (v := 2) hx hb d_O_termEnd_46 (by decide) ?_
          refine lv_icmp_ne (tgt := 56) hx hb d_O_termEnd_47 (by decide) (fun h5 => ?_) (fun h5 => ?_)
          · replace hok := ci_f h5 hok
            refine lv_iload hx hb d_O_termEnd_56 (lv_at hl 0 rfl) ?_
            replace hok := bd_ok hok
            obtain ⟨r6, gs7, hc8, hok⟩ := hok
            refine cl_i (wc := (MO g ad ca gs)) (wr := []) hP hD hK hS hA [0, 1, 2, 3, 4, 5, 6, 7, 8, 9, 10, 11, 12, 13, 14, 15, 16, 17, 18, 19, 20] [] rfl rfl (by decide) (by decide) (va_runS (As := [.int y0]) (rest := []) ⟨hx, hb, hml, hown, hts⟩ (a_isName l D H.size g ad ca F gs y0 r6 gs7 hc8) (cw_S hts 1 k_811 k_9 k_809 k_810 (by decide +kernel) ⟨Nat.le_of_ble_eq_true rfl, Nat.le_of_ble_eq_true rfl⟩) (pr_S hP hD hK [0, 1, 2, 3, 4, 5, 6, 7, 8, 9, 10, 11, 12, 13, 14, 15, 16, 17, 18, 19, 20] [0, 1, 2, 3, 4, 5, 6, 7, 8, 9, 10, 11, 12, 13, 14, 15, 16, 17, 18, 19] (by decide) rfl rfl (fun U hU hW => trivial) (fun U g mk a h => h)) rfl rfl hl.1 rfl (lv_room (Nat.le_of_ble_eq_true rfl)) d_O_termEnd_58 ⟨by decide, by decide⟩) (fun v10 u H locs h9 hP hD hK hS => ?_)
            have hP : va_P D wcl (MO g ad ca gs7) H := hP
            have hD : va_D A (MO g ad ca gs7) := hD
            have hK : va_K D wcl (MT ca) s := hK
            have h9 : r6 = v10 := h9
            subst h9
            refine lv_if_ne (tgt := 82) hx hb d_O_termEnd_61 (by decide) (fun h11 => ?_) (fun h11 => ?_)
            · replace hok := ci_f h11 hok
              exact j82 gs7 x2 x3 H locs ls hok hP hD hS (lv_sub hl [1, 2, 3] rfl)
            · replace hok := ci_t h11 hok
              refine lv_iload hx hb d_O_termEnd_64 (lv_at hl 0 rfl) ?_
              replace hok := bd_ok hok
              obtain ⟨r12, gs13, hc14, hok⟩ := hok
              refine cl_i (wc := (MO g ad ca gs7)) (wr := []) hP hD hK hS hA [0, 1, 2, 3, 4, 5, 6, 7, 8, 9, 10, 11, 12, 13, 14, 15, 16, 17, 18, 19, 20] [] rfl rfl (by decide) (by decide) (va_runS (As := [.int y0]) (rest := []) ⟨hx, hb, hml, hown, hts⟩ (a_isKeyword l D H.size g ad ca F gs7 y0 r12 gs13 hc14) (cw_S hts 1 k_848 k_9 k_846 k_847 (by decide +kernel) ⟨Nat.le_of_ble_eq_true rfl, Nat.le_of_ble_eq_true rfl⟩) (pr_S hP hD hK [0, 1, 2, 3, 4, 5, 6, 7, 8, 9, 10, 11, 12, 13, 14, 15, 16, 17, 18, 19, 20] [0, 1, 2, 3, 4, 5, 6, 7, 8, 9, 10, 11, 12, 13, 14, 15, 16, 17, 18, 19] (by decide) rfl rfl (fun U hU hW => trivial) (fun U g mk a h => h)) rfl rfl hl.1 rfl (lv_room (Nat.le_of_ble_eq_true rfl)) d_O_termEnd_66 ⟨by decide, by decide⟩) (fun v16 u H locs h15 hP hD hK hS => ?_)
              have hP : va_P D wcl (MO g ad ca gs13) H := hP
              have hD : va_D A (MO g ad ca gs13) := hD
              have hK : va_K D wcl (MT ca) s := hK
              have h15 : r12 = v16 := h15
              subst h15
              refine lv_if_ne (tgt := 82) hx hb d_O_termEnd_69 (by decide) (fun h17 => ?_) (fun h17 => ?_)
              · replace hok := ci_f h17 hok
                exact j82 gs13 x2 x3 H locs ls hok hP hD hS (lv_sub hl [1, 2, 3] rfl)
              · replace hok := ci_t h17 hok
                refine lv_iload hx hb d_O_termEnd_72 (lv_at hl 0 rfl) ?_
                replace hok := bd_ok hok
                obtain ⟨r18, gs19, hc20, hok⟩ := hok
                refine cl_i (wc := (MO g ad ca gs13)) (wr := []) hP hD hK hS hA [0, 1, 2, 3, 4, 5, 6, 7, 8, 9, 10, 11, 12, 13, 14, 15, 16, 17, 18, 19, 20] [] rfl rfl (by decide) (by decide) (va_runS (As := [.int y0]) (rest := []) ⟨hx, hb, hml, hown, hts⟩ (a_isNumeral l D H.size g ad ca F gs13 y0 r18 gs19 hc20) (cw_S hts 1 k_845 k_9 k_843 k_844 (by decide +kernel) ⟨Nat.le_of_ble_eq_true rfl, Nat.le_of_ble_eq_true rfl⟩) (pr_S hP hD hK [0, 1, 2, 3, 4, 5, 6, 7, 8, 9, 10, 11, 12, 13, 14, 15, 16, 17, 18, 19, 20] [0, 1, 2, 3, 4, 5, 6, 7, 8, 9, 10, 11, 12, 13, 14, 15, 16, 17, 18, 19] (by decide) rfl rfl (fun U hU hW => trivial) (fun U g mk a h => h)) rfl rfl hl.1 rfl (lv_room (Nat.le_of_ble_eq_true rfl)) d_O_termEnd_74 ⟨by decide, by decide⟩) (fun v22 u H locs h21 hP hD hK hS => ?_)
                have hP : va_P D wcl (MO g ad ca gs19) H := hP
                have hD : va_D A (MO g ad ca gs19) := hD
                have hK : va_K D wcl (MT ca) s := hK
                have h21 : r18 = v22 := h21
                subst h21
                refine lv_if_ne (tgt := 82) hx hb d_O_termEnd_77 (by decide) (fun h23 => ?_) (fun h23 => ?_)
                · replace hok := ci_f h23 hok
                  exact j82 gs19 x2 x3 H locs ls hok hP hD hS (lv_sub hl [1, 2, 3] rfl)
                · replace hok := ci_t h23 hok
                  refine lv_iconst (v := -1) hx hb d_O_termEnd_80 (by decide) ?_
                  obtain ⟨e8, e9⟩ := rt_ok hok
                  rw [e9] at hP hD
                  have hK9 := hK.sub (tys' := []) [] rfl
                  exact W.iret (v := (-1)) hx hb hr (fun t9 ht hW => ⟨⟨(-1), (), rfl, e8, ⟨by rw [ht]; exact hP, va_K.moved hW.alike hK9, hD⟩⟩, hS.F ht⟩) hS.2.2 d_O_termEnd_81
          · replace hok := ci_t h5 hok
            refine lv_iinc (k := 3) (v := (x3 + (-1))) hx hb d_O_termEnd_50 hl rfl (by rfl) (by decide) rfl (fun ls hl => ?_)
            have hl : lv_has ls 6 [(3, .int (x3 + (-1))), (5, .int y0), (0, .ref g), (2, .int x2)] := hl
            refine lv_goto (tgt := 82) hx hb d_O_termEnd_53 (by decide) ?_
            exact j82 gs x2 (x3 + (-1)) H locs ls hok hP hD hS (lv_sub hl [2, 3, 0] rfl)
        · replace hok := ci_t h4 hok
          refine lv_iinc (k := 3) (v := (x3 + 1)) hx hb d_O_termEnd_38 hl rfl (by rfl) (by decide) rfl (fun ls hl => ?_)
          have hl : lv_has ls 6 [(3, .int (x3 + 1)), (5, .int y0), (0, .ref g), (2, .int x2)] := hl
          refine lv_goto (tgt := 82) hx hb d_O_termEnd_41 (by decide) ?_
          exact j82 gs x2 (x3 + 1) H locs ls hok hP hD hS (lv_sub hl [2, 3, 0] rfl)
      intro gs x2 x3 x4 H locs ls hok hP hD hS hl
      rw [rf_termEnd_7] at hok
      refine lv_iload hx hb d_O_termEnd_7 (lv_at hl 3 rfl) ?_
      refine lv_if_eq (tgt := 111) hx hb d_O_termEnd_9 (by decide) (fun h24 => ?_) (fun h24 => ?_)
      · replace hok := ci_t h24 hok
        refine lv_iload_n hx hb d_O_termEnd_111 rfl (lv_at hl 1 rfl) ?_
        obtain ⟨e8, e9⟩ := rt_ok hok
        rw [e9] at hP hD
        have hK9 := hK.sub (tys' := []) [] rfl
        exact W.iret (v := x2) hx hb hr (fun t9 ht hW => ⟨⟨x2, (), rfl, e8, ⟨by rw [ht]; exact hP, va_K.moved hW.alike hK9, hD⟩⟩, hS.F ht⟩) hS.2.2 d_O_termEnd_112
      · replace hok := ci_f h24 hok
        refine lv_iload_n hx hb d_O_termEnd_12 rfl (lv_at hl 1 rfl) ?_
        refine lv_aload_n hx hb d_O_termEnd_13 rfl (lv_at hl 0 rfl) ?_
        refine va_get (D := D) (ci := 8) (v := .int (gs.1 3)) (C := rc_O) (T := ft_O) (N := 42) hx hb hts in_O hown hK hP 0 rfl rfl 3 (by decide) (hts _ k_658) (fun _ h9 => h9) rfl d_O_termEnd_14 ?_
        refine lv_icmp_ge (tgt := 29) hx hb d_O_termEnd_17 (by decide) (fun h25 => ?_) (fun h25 => ?_)
        · replace hok := ci_t h25 hok
          refine lv_iconst (v := 0) hx hb d_O_termEnd_29 (by decide) ?_
          exact j30 gs x2 x3 0 H locs ls hok hP hD hS (lv_sub hl [0, 1, 2] rfl)
        · replace hok := ci_f h25 hok
          refine lv_aload_n hx hb d_O_termEnd_20 rfl (lv_at hl 0 rfl) ?_
          refine va_get (D := D) (ci := 8) (v := .ref (ad 4)) (C := rc_O) (T := ft_O) (N := 42) hx hb hts in_O hown hK hP 0 rfl rfl 4 (by decide) (hts _ k_659) (fun _ h9 => h9) rfl d_O_termEnd_21 ?_
          refine lv_iload_n hx hb d_O_termEnd_24 rfl (lv_at hl 1 rfl) ?_
          have hi26 := (gd_ok hok).1
          replace hok := (gd_ok hok).2
          refine va_iald hx hb hK hP 2 1 rfl rfl (hi26) d_O_termEnd_25 ?_
          refine lv_goto (tgt := 30) hx hb d_O_termEnd_26 (by decide) ?_
          exact j30 gs x2 x3 ((gs.2 4) x2.toNatClampNeg) H locs ls hok hP hD hS (lv_sub hl [0, 1, 2] rfl)
  refine lv_iload_n hx hb d_O_termEnd_0 rfl (lv_at hl 1 rfl) ?_
  refine lv_istore_n hx hb d_O_termEnd_1 rfl hl (by decide) rfl (fun ls hl => ?_)
  have hl : lv_has ls 6 [(2, .int a1), (0, .ref g), (1, .int a1)] := hl
  refine lv_iconst (v := 0) hx hb d_O_termEnd_2 (by decide) ?_
  refine lv_istore_n hx hb d_O_termEnd_3 rfl hl (by decide) rfl (fun ls hl => ?_)
  have hl : lv_has ls 6 [(3, .int 0), (2, .int a1), (0, .ref g), (1, .int a1)] := hl
  refine lv_iconst (v := 1) hx hb d_O_termEnd_4 (by decide) ?_
  refine lv_istore hx hb d_O_termEnd_5 hl (by decide) rfl (fun ls hl => ?_)
  have hl : lv_has ls 6 [(4, .int 1), (3, .int 0), (2, .int a1), (0, .ref g), (1, .int a1)] := hl
  exact j7 F gs a1 0 1 s.heap [] ls hok hP hD hS (lv_sub hl [3, 2, 1, 0] rfl)
