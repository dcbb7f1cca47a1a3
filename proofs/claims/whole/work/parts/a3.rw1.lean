set_option maxHeartbeats 4000000 in
set_option maxRecDepth 100000 in
theorem a_beginLists (l : Launch) (D : va_G) (sz : Nat) (g : Nat) (ad : Nat → Nat) (ca : Nat → ClassId) (F : Nat) (gs : OS) (r0 : Int32) (gf : OS) (hok : rf_beginLists F gs = some (r0, gf)) : Met l y_O_beginLists (Cond.code y_O_beginLists b_O_beginLists 1 none :: wal) ({ frames := 10, cells := 0, slots := 0, locals := 120 }) (va_Pc [.ref g] (pr D sz (MO g ad ca gs) (MT ca) (fun _ => True))) (va_Qv (S := Unit) (fun u => True) (fun u t9 => po D (va_A (MO g ad ca gs) sz) ((fun u => (MO g ad ca gf)) u) ((fun u => []) u) t9) (va_A (MO g ad ca gs) sz)) 0 0 (va_A (MO g ad ca gs) sz) := by
  refine Met.ofW (cc := b_O_beginLists) (maxL := 1) (ret := none) (by decide) rfl ?_
  intro p e s m args below meth c s₁ B hml hv
  obtain ⟨rfl, hsz, hP, hK, hD0, hE⟩ := hv
  have hx := B.exec
  have hb := B.bytes
  have hr := B.returns
  have hts0 := atoms_spec (ws := Cond.code y_O_beginLists b_O_beginLists 1 none :: wal) B.pre
  have hts : ∀ w ∈ wal, w.before _ s = true := fun w h => hts0 w (List.mem_cons_of_mem _ h)
  have hown : s.vm.findClass rc_O = some m.cls := findClass_of_methodNamed B.named
  have hlocks := B.notSynchronized
  subst hsz
  have hD := hD0.self (sz := s.heap.size)
  generalize hAe : va_A (MO g ad ca gs) s.heap.size = A at hD ⊢
  have hA : ∀ q : Nat, s.heap.size ≤ q → A q := fun q h => by rw [← hAe]; exact Or.inr h
  have hS : va_S A s.heap s.heap [] := va_S.rf
  have hl := lv_entry ([.ref g]) (n := 1) (Nat.le_of_ble_eq_true rfl)
  rw [lg_entry_eq]
  generalize (lg_sl ([.ref g]) ++ List.replicate (1 - (lg_sl ([.ref g])).length) Slot.unset).toArray = ls at hl ⊢
  have hl : lv_has ls 1 [(0, .ref g)] := hl
  refine lv_aload_n hx hb d_O_beginLists_0 rfl (lv_at hl 0 rfl) ?_
  refine lv_iconst (v := 0) hx hb d_O_beginLists_1 (by decide) ?_
  refine va_put (D := D) (ci := 8) (v := .int 0) (ty := .int) (C := rc_O) (T := ft_O) (N := 42) hx hb hts in_O ty_O tk_O nm_O hown hK hP hD hS 0 rfl rfl 13 (by decide) (hts _ k_668) (fun _ h9 => h9) rfl (by decide +kernel) rfl rfl (Nat.le_of_ble_eq_true rfl) d_O_beginLists_2 (fun H locs hP hD hS => ?_)
  have hP : va_P D wcl (MO g ad ca (sI gs 13 0)) H := hP
  have hD : va_D A (MO g ad ca (sI gs 13 0)) := hD
  refine lv_aload_n hx hb d_O_beginLists_5 rfl (lv_at hl 0 rfl) ?_
  refine lv_iconst (v := -1) hx hb d_O_beginLists_6 (by decide) ?_
  refine va_put (D := D) (ci := 8) (v := .int (-1)) (ty := .int) (C := rc_O) (T := ft_O) (N := 42) hx hb hts in_O ty_O tk_O nm_O hown hK hP hD hS 0 rfl rfl 16 (by decide) (hts _ k_671) (fun _ h9 => h9) rfl (by decide +kernel) rfl rfl (Nat.le_of_ble_eq_true rfl) d_O_beginLists_7 (fun H locs hP hD hS => ?_)
  have hP : va_P D wcl (MO g ad ca (sI (sI gs 13 0) 16 (-1))) H := hP
  have hD : va_D A (MO g ad ca (sI (sI gs 13 0) 16 (-1))) := hD
  refine lv_aload_n hx hb d_O_beginLists_10 rfl (lv_at hl 0 rfl) ?_
  refine lv_iconst (v := 0) hx hb d_O_beginLists_11 (by decide) ?_
  refine va_put (D := D) (ci := 8) (v := .int 0) (ty := .boolean) (C := rc_O) (T := ft_O) (N := 42) hx hb hts in_O ty_O tk_O nm_O hown hK hP hD hS 0 rfl rfl 17 (by decide) (hts _ k_672) (fun _ h9 => h9) rfl (by decide +kernel) rfl rfl (Nat.le_of_ble_eq_true rfl) d_O_beginLists_12 (fun H locs hP hD hS => ?_)
  have hP : va_P D wcl (MO g ad ca (sI (sI (sI gs 13 0) 16 (-1)) 17 0)) H := hP
  have hD : va_D A (MO g ad ca (sI (sI (sI gs 13 0) 16 (-1)) 17 0)) := hD
  obtain ⟨e8, e9⟩ := rt_ok hok
  rw [e9] at hP hD
  have hK9 := hK.sub (tys' := []) [] rfl
  exact W.vret hx hb hr (fun t9 ht hW => ⟨⟨(), rfl, trivial, ⟨by rw [ht]; exact hP, va_K.moved hW.alike hK9, hD⟩⟩, hS.F ht⟩) hS.2.2 d_O_beginLists_15

set_option maxHeartbeats 4000000 in
set_option maxRecDepth 100000 in
theorem a_closeList (l : Launch) (D : va_G) (sz : Nat) (g : Nat) (ad : Nat → Nat) (ca : Nat → ClassId) (F : Nat) (gs : OS) (r0 : Int32) (gf : OS) (hok : rf_closeList F gs = some (r0, gf)) : Met l y_O_closeList (Cond.code y_O_closeList b_O_closeList 1 none :: wal) ({ frames := 10, cells := 0, slots := 0, locals := 120 }) (va_Pc [.ref g] (pr D sz (MO g ad ca gs) (MT ca) (fun _ => True))) (va_Qv (S := Unit) (fun u => True) (fun u t9 => po D (va_A (MO g ad ca gs) sz) ((fun u => (MO g ad ca gf)) u) ((fun u => []) u) t9) (va_A (MO g ad ca gs) sz)) 0 0 (va_A (MO g ad ca gs) sz) := by
  refine Met.ofW (cc := b_O_closeList) (maxL := 1) (ret := none) (by decide) rfl ?_
  intro p e s m args below meth c s₁ B hml hv
  obtain ⟨rfl, hsz, hP, hK, hD0, hE⟩ := hv
  have hx := B.exec
  have hb := B.bytes
  have hr := B.returns
  have hts0 := atoms_spec (ws := Cond.code y_O_closeList b_O_closeList 1 none :: wal) B.pre
  have hts : ∀ w ∈ wal, w.before _ s = true := fun w h => hts0 w (List.mem_cons_of_mem _ h)
  have hown : s.vm.findClass rc_O = some m.cls := findClass_of_methodNamed B.named
  have hlocks := B.notSynchronized
  subst hsz
  have hD := hD0.self (sz := s.heap.size)
  generalize hAe : va_A (MO g ad ca gs) s.heap.size = A at hD ⊢
  have hA : ∀ q : Nat, s.heap.size ≤ q → A q := fun q h => by rw [← hAe]; exact Or.inr h
  have hS : va_S A s.heap s.heap [] := va_S.rf
  have hl := lv_entry ([.ref g]) (n := 1) (Nat.le_of_ble_eq_true rfl)
  rw [lg_entry_eq]
  generalize (lg_sl ([.ref g]) ++ List.replicate (1 - (lg_sl ([.ref g])).length) Slot.unset).toArray = ls at hl ⊢
  have hl : lv_has ls 1 [(0, .ref g)] := hl
  have j76 : ∀ (gs : OS)  (H : Heap) (locs : List Loc) (ls : Array Slot), rf_closeList_76 F gs = some (r0, gf) → va_P D wcl (MO g ad ca gs) H → va_D A (MO g ad ca gs) → va_S A s.heap H locs → lv_has ls 1 [(0, .ref g)] → W p l e (headSpec (Cond.code y_O_closeList b_O_closeList 1 none :: wal) ({ frames := 10, cells := 0, slots := 0, locals := 120 })).room s m ([.ref g] : List Value).toArray below meth c H locs 0 0 (MQ below (va_Qv (S := Unit) (fun u => True) (fun u t9 => po D (A) ((fun u => (MO g ad ca gf)) u) ((fun u => []) u) t9) (A)) ([.ref g] : List Value).toArray s 0 0 A) (F0 m 76 ls []) := by
    intro gs  H locs ls hok hP hD hS hl
    rw [rf_closeList_76] at hok
    obtain ⟨e8, e9⟩ := rt_ok hok
    rw [e9] at hP hD
    have hK9 := hK.sub (tys' := []) [] rfl
    exact W.vret hx hb hr (fun t9 ht hW => ⟨⟨(), rfl, trivial, ⟨by rw [ht]; exact hP, va_K.moved hW.alike hK9, hD⟩⟩, hS.F ht⟩) hS.2.2 d_O_closeList_76
  have j75 : ∀ (gs : OS) (y0 : Int32) (y1 : Int32) (H : Heap) (locs : List Loc) (ls : Array Slot), rf_closeList_75 F gs y0 y1 = some (r0, gf) → va_P D wcl (MO g ad ca gs) H → va_D A (MO g ad ca gs) → va_S A s.heap H locs → lv_has ls 1 [(0, .ref g)] → W p l e (headSpec (Cond.code y_O_closeList b_O_closeList 1 none :: wal) ({ frames := 10, cells := 0, slots := 0, locals := 120 })).room s m ([.ref g] : List Value).toArray below meth c H locs 0 0 (MQ below (va_Qv (S := Unit) (fun u => True) (fun u t9 => po D (A) ((fun u => (MO g ad ca gf)) u) ((fun u => []) u) t9) (A)) ([.ref g] : List Value).toArray s 0 0 A) (F0 m 75 ls [.int y0, .int y1, .ref (ad 15)]) := by
    intro gs y0 y1 H locs ls hok hP hD hS hl
    rw [rf_closeList_75] at hok
    have hi1 := (gd_ok hok).1
    replace hok := (gd_ok hok).2
    refine va_zast hx hb hK hP hD hS 11 10 rfl rfl hi1 d_O_closeList_75 (fun H locs hP hD hS => ?_)
    have hP : va_P D wcl (MO g ad ca (sA gs 15 (upd (gs.2 15) y1.toNatClampNeg (vp_nar .boolean y0)))) H := hP
    have hD : va_D A (MO g ad ca (sA gs 15 (upd (gs.2 15) y1.toNatClampNeg (vp_nar .boolean y0)))) := hD
    exact j76 (sA gs 15 (upd (gs.2 15) y1.toNatClampNeg (vp_nar .boolean y0))) H locs ls hok hP hD hS hl
  have j70 : ∀ (gs : OS) (y0 : Int32) (H : Heap) (locs : List Loc) (ls : Array Slot), rf_closeList_70 F gs y0 = some (r0, gf) → va_P D wcl (MO g ad ca gs) H → va_D A (MO g ad ca gs) → va_S A s.heap H locs → lv_has ls 1 [(0, .ref g)] → W p l e (headSpec (Cond.code y_O_closeList b_O_closeList 1 none :: wal) ({ frames := 10, cells := 0, slots := 0, locals := 120 })).room s m ([.ref g] : List Value).toArray below meth c H locs 0 0 (MQ below (va_Qv (S := Unit) (fun u => True) (fun u t9 => po D (A) ((fun u => (MO g ad ca gf)) u) ((fun u => []) u) t9) (A)) ([.ref g] : List Value).toArray s 0 0 A) (F0 m 70 ls [.int y0, .ref (ad 15)]) := by
    intro gs y0 H locs ls hok hP hD hS hl
    rw [rf_closeList_70] at hok
    refine lv_iconst (v := 1) hx hb d_O_closeList_70 (by decide) ?_
    refine lv_goto (tgt := 75) hx hb d_O_closeList_71 (by decide) ?_
    exact j75 gs 1 y0 H locs ls hok hP hD hS hl
  refine lv_aload_n hx hb d_O_closeList_0 rfl (lv_at hl 0 rfl) ?_
  refine lv_aload_n hx hb d_O_closeList_1 rfl (lv_at hl 0 rfl) ?_
  refine va_get (D := D) (ci := 8) (v := .ref (ad 14)) (C := rc_O) (T := ft_O) (N := 42) hx hb hts in_O hown hK hP 0 rfl rfl 14 (by decide) (hts _ k_669) (fun _ h9 => h9) rfl d_O_closeList_2 ?_
  refine lv_aload_n hx hb d_O_closeList_5 rfl (lv_at hl 0 rfl) ?_
  refine va_get (D := D) (ci := 8) (v := .int (gs.1 13)) (C := rc_O) (T := ft_O) (N := 42) hx hb hts in_O hown hK hP 0 rfl rfl 13 (by decide) (hts _ k_668) (fun _ h9 => h9) rfl d_O_closeList_6 ?_
  have hi2 := (gd_ok hok).1
  replace hok := (gd_ok hok).2
  refine va_iald hx hb hK hP 10 9 rfl rfl (hi2) d_O_closeList_9 ?_
  refine va_put (D := D) (ci := 8) (v := .int ((gs.2 14) (gs.1 13).toNatClampNeg)) (ty := .int) (C := rc_O) (T := ft_O) (N := 42) hx hb hts in_O ty_O tk_O nm_O hown hK hP hD hS 0 rfl rfl 16 (by decide) (hts _ k_671) (fun _ h9 => h9) rfl (by decide +kernel) rfl rfl (Nat.le_of_ble_eq_true rfl) d_O_closeList_10 (fun H locs hP hD hS => ?_)
  have hP : va_P D wcl (MO g ad ca (sI gs 16 ((gs.2 14) (gs.1 13).toNatClampNeg))) H := hP
  have hD : va_D A (MO g ad ca (sI gs 16 ((gs.2 14) (gs.1 13).toNatClampNeg))) := hD
  refine lv_aload_n hx hb d_O_closeList_13 rfl (lv_at hl 0 rfl) ?_
  refine lv_aload_n hx hb d_O_closeList_14 rfl (lv_at hl 0 rfl) ?_
  refine va_get (D := D) (ci := 8) (v := .ref (ad 15)) (C := rc_O) (T := ft_O) (N := 42) hx hb hts in_O hown hK hP 0 rfl rfl 15 (by decide) (hts _ k_670) (fun _ h9 => h9) rfl d_O_closeList_15 ?_
  refine lv_aload_n hx hb d_O_closeList_18 rfl (lv_at hl 0 rfl) ?_
  refine va_get (D := D) (ci := 8) (v := .int (gs.1 13)) (C := rc_O) (T := ft_O) (N := 42) hx hb hts in_O hown hK hP 0 rfl rfl 13 (by decide) (hts _ k_668) (fun _ h9 => h9) rfl d_O_closeList_19 ?_
  have hi3 := (gd_ok hok).1
  replace hok := (gd_ok hok).2
  refine va_zald hx hb hK hP 11 10 rfl rfl (hi3) d_O_closeList_22 ?_
  have hn4 := (gd_ok hok).1
  replace hok := (gd_ok hok).2
  refine va_put (D := D) (ci := 8) (v := .int ((gs.2 15) (gs.1 13).toNatClampNeg)) (ty := .boolean) (C := rc_O) (T := ft_O) (N := 42) hx hb hts in_O ty_O tk_O nm_O hown hK hP hD hS 0 rfl rfl 17 (by decide) (hts _ k_672) (fun _ h9 => h9) rfl (by decide +kernel) (nar_ib hn4) (fit_ib hn4) (Nat.le_of_ble_eq_true rfl) d_O_closeList_23 (fun H locs hP hD hS => ?_)
  have hP : va_P D wcl (MO g ad ca (sI (sI gs 16 ((gs.2 14) (gs.1 13).toNatClampNeg)) 17 ((gs.2 15) (gs.1 13).toNatClampNeg))) H := hP
  have hD : va_D A (MO g ad ca (sI (sI gs 16 ((gs.2 14) (gs.1 13).toNatClampNeg)) 17 ((gs.2 15) (gs.1 13).toNatClampNeg))) := hD
  refine lv_aload_n hx hb d_O_closeList_26 rfl (lv_at hl 0 rfl) ?_
  refine lv_dup hx hb d_O_closeList_27 rfl ?_
  refine va_get (D := D) (ci := 8) (v := .int (gs.1 13)) (C := rc_O) (T := ft_O) (N := 42) hx hb hts in_O hown hK hP 0 rfl rfl 13 (by decide) (hts _ k_668) (fun _ h9 => h9) rfl d_O_closeList_28 ?_
  refine lv_iconst (v := 1) hx hb d_O_closeList_31 (by decide) ?_
  refine lv_isub hx hb d_O_closeList_32 ?_
  refine va_put (D := D) (ci := 8) (v := .int ((gs.1 13) - 1)) (ty := .int) (C := rc_O) (T := ft_O) (N := 42) hx hb hts in_O ty_O tk_O nm_O hown hK hP hD hS 0 rfl rfl 13 (by decide) (hts _ k_668) (fun _ h9 => h9) rfl (by decide +kernel) rfl rfl (Nat.le_of_ble_eq_true rfl) d_O_closeList_33 (fun H locs hP hD hS => ?_)
  have hP : va_P D wcl (MO g ad ca (sI (sI (sI gs 13 ((gs.1 13) - 1)) 16 ((gs.2 14) (gs.1 13).toNatClampNeg)) 17 ((gs.2 15) (gs.1 13).toNatClampNeg))) H := hP
  have hD : va_D A (MO g ad ca (sI (sI (sI gs 13 ((gs.1 13) - 1)) 16 ((gs.2 14) (gs.1 13).toNatClampNeg)) 17 ((gs.2 15) (gs.1 13).toNatClampNeg))) := hD
  refine lv_aload_n hx hb d_O_closeList_36 rfl (lv_at hl 0 rfl) ?_
  refine va_get (D := D) (ci := 8) (v := .int ((gs.1 13) - 1)) (C := rc_O) (T := ft_O) (N := 42) hx hb hts in_O hown hK hP 0 rfl rfl 13 (by decide) (hts _ k_668) (fun _ h9 => h9) rfl d_O_closeList_37 ?_
  refine lv_if_le (tgt := 76) hx hb d_O_closeList_40 (by decide) (fun h5 => ?_) (fun h5 => ?_)
  · replace hok := ci_t h5 hok
    exact j76 (sI (sI (sI gs 13 ((gs.1 13) - 1)) 16 ((gs.2 14) (gs.1 13).toNatClampNeg)) 17 ((gs.2 15) (gs.1 13).toNatClampNeg)) H locs ls hok hP hD hS hl
  · replace hok := ci_f h5 hok
    refine lv_aload_n hx hb d_O_closeList_43 rfl (lv_at hl 0 rfl) ?_
    refine va_get (D := D) (ci := 8) (v := .ref (ad 15)) (C := rc_O) (T := ft_O) (N := 42) hx hb hts in_O hown hK hP 0 rfl rfl 15 (by decide) (hts _ k_670) (fun _ h9 => h9) rfl d_O_closeList_44 ?_
    refine lv_aload_n hx hb d_O_closeList_47 rfl (lv_at hl 0 rfl) ?_
    refine va_get (D := D) (ci := 8) (v := .int ((gs.1 13) - 1)) (C := rc_O) (T := ft_O) (N := 42) hx hb hts in_O hown hK hP 0 rfl rfl 13 (by decide) (hts _ k_668) (fun _ h9 => h9) rfl d_O_closeList_48 ?_
    refine lv_aload_n hx hb d_O_closeList_51 rfl (lv_at hl 0 rfl) ?_
    refine va_get (D := D) (ci := 8) (v := .ref (ad 15)) (C := rc_O) (T := ft_O) (N := 42) hx hb hts in_O hown hK hP 0 rfl rfl 15 (by decide) (hts _ k_670) (fun _ h9 => h9) rfl d_O_closeList_52 ?_
    refine lv_aload_n hx hb d_O_closeList_55 rfl (lv_at hl 0 rfl) ?_
    refine va_get (D := D) (ci := 8) (v := .int ((gs.1 13) - 1)) (C := rc_O) (T := ft_O) (N := 42) hx hb hts in_O hown hK hP 0 rfl rfl 13 (by decide) (hts _ k_668) (fun _ h9 => h9) rfl d_O_closeList_56 ?_
    have hi6 := (gd_ok hok).1
    replace hok := (gd_ok hok).2
    refine va_zald hx hb hK hP 11 10 rfl rfl (hi6) d_O_closeList_59 ?_
    refine lv_if_ne (tgt := 70) hx hb d_O_closeList_60 (by decide) (fun h7 => ?_) (fun h7 => ?_)
    · replace hok := ci_f h7 hok
      exact j70 (sI (sI (sI gs 13 ((gs.1 13) - 1)) 16 ((gs.2 14) (gs.1 13).toNatClampNeg)) 17 ((gs.2 15) (gs.1 13).toNatClampNeg)) ((gs.1 13) - 1) H locs ls hok hP hD hS hl
    · replace hok := ci_t h7 hok
      refine lv_aload_n hx hb d_O_closeList_63 rfl (lv_at hl 0 rfl) ?_
      refine va_get (D := D) (ci := 8) (v := .int ((gs.2 15) (gs.1 13).toNatClampNeg)) (C := rc_O) (T := ft_O) (N := 42) hx hb hts in_O hown hK hP 0 rfl rfl 17 (by decide) (hts _ k_672) (fun _ h9 => h9) rfl d_O_closeList_64 ?_
      refine lv_if_eq (tgt := 74) hx hb d_O_closeList_67 (by decide) (fun h8 => ?_) (fun h8 => ?_)
      · replace hok := ci_t h8 hok
        refine lv_iconst (v := 0) hx hb d_O_closeList_74 (by decide) ?_
        exact j75 (sI (sI (sI gs 13 ((gs.1 13) - 1)) 16 ((gs.2 14) (gs.1 13).toNatClampNeg)) 17 ((gs.2 15) (gs.1 13).toNatClampNeg)) 0 ((gs.1 13) - 1) H locs ls hok hP hD hS hl
      · replace hok := ci_f h8 hok
        exact j70 (sI (sI (sI gs 13 ((gs.1 13) - 1)) 16 ((gs.2 14) (gs.1 13).toNatClampNeg)) 17 ((gs.2 15) (gs.1 13).toNatClampNeg)) ((gs.1 13) - 1) H locs ls hok hP hD hS hl

set_option maxHeartbeats 4000000 in
set_option maxRecDepth 100000 in
theorem a_countOf (l : Launch) (D : va_G) (sz : Nat) (g : Nat) (ad : Nat → Nat) (ca : Nat → ClassId) (F : Nat) (gs : OS) (a1 : Int32) (r0 : Int32) (gf : OS) (hok : rf_countOf F gs a1 = some (r0, gf)) : Met l y_O_countOf (Cond.code y_O_countOf b_O_countOf 4 (some .int) :: wal) ({ frames := 10, cells := 0, slots := 0, locals := 120 }) (va_Pc [.ref g, .int a1] (pr D sz (MO g ad ca gs) (MT ca) (fun _ => True))) (va_Qi (S := Unit) (fun r u => r0 = r) (fun u t9 => po D (va_A (MO g ad ca gs) sz) ((fun u => (MO g ad ca gf)) u) ((fun u => []) u) t9) (va_A (MO g ad ca gs) sz)) 0 0 (va_A (MO g ad ca gs) sz) := by
  refine Met.ofW (cc := b_O_countOf) (maxL := 4) (ret := (some .int)) (by decide) rfl ?_
  intro p e s m args below meth c s₁ B hml hv
  obtain ⟨rfl, hsz, hP, hK, hD0, hE⟩ := hv
  have hx := B.exec
  have hb := B.bytes
  have hr := B.returns
  have hts0 := atoms_spec (ws := Cond.code y_O_countOf b_O_countOf 4 (some .int) :: wal) B.pre
  have hts : ∀ w ∈ wal, w.before _ s = true := fun w h => hts0 w (List.mem_cons_of_mem _ h)
  have hown : s.vm.findClass rc_O = some m.cls := findClass_of_methodNamed B.named
  have hlocks := B.notSynchronized
  subst hsz
  have hD := hD0.self (sz := s.heap.size)
  generalize hAe : va_A (MO g ad ca gs) s.heap.size = A at hD ⊢
  have hA : ∀ q : Nat, s.heap.size ≤ q → A q := fun q h => by rw [← hAe]; exact Or.inr h
  have hS : va_S A s.heap s.heap [] := va_S.rf
  have hl := lv_entry ([.ref g, .int a1]) (n := 4) (Nat.le_of_ble_eq_true rfl)
  rw [lg_entry_eq]
  generalize (lg_sl ([.ref g, .int a1]) ++ List.replicate (4 - (lg_sl ([.ref g, .int a1])).length) Slot.unset).toArray = ls at hl ⊢
  have hl : lv_has ls 4 [(0, .ref g), (1, .int a1)] := hl
  have j4 : ∀ (d4 : Nat) (gs : OS) (x1 : Int32) (x2 : Int32) (x3 : Int32) (H : Heap) (locs : List Loc) (ls : Array Slot), rf_countOf_4 F d4 gs x1 x2 x3 = some (r0, gf) → va_P D wcl (MO g ad ca gs) H → va_D A (MO g ad ca gs) → va_S A s.heap H locs → lv_has ls 4 [(0, .ref g), (1, .int x1), (2, .int x2), (3, .int x3)] → W p l e (headSpec (Cond.code y_O_countOf b_O_countOf 4 (some .int) :: wal) ({ frames := 10, cells := 0, slots := 0, locals := 120 })).room s m ([.ref g, .int a1] : List Value).toArray below meth c H locs 0 0 (MQ below (va_Qi (S := Unit) (fun r u => r0 = r) (fun u t9 => po D (A) ((fun u => (MO g ad ca gf)) u) ((fun u => []) u) t9) (A)) ([.ref g, .int a1] : List Value).toArray s 0 0 A) (F0 m 4 ls []) := by
    intro d4
    induction d4 with
    | zero =>
      intro gs x1 x2 x3 H locs ls hok
      have h9 : (none : RO) = some (r0, gf) := hok
      cases h9
    | succ d4 ih4 =>
      have j25 : ∀ (gs : OS) (x1 : Int32) (x2 : Int32) (x3 : Int32) (H : Heap) (locs : List Loc) (ls : Array Slot), rf_countOf_25 F (rf_countOf_4 F d4) gs x1 x2 x3 = some (r0, gf) → va_P D wcl (MO g ad ca gs) H → va_D A (MO g ad ca gs) → va_S A s.heap H locs → lv_has ls 4 [(0, .ref g), (1, .int x1), (2, .int x2), (3, .int x3)] → W p l e (headSpec (Cond.code y_O_countOf b_O_countOf 4 (some .int) :: wal) ({ frames := 10, cells := 0, slots := 0, locals := 120 })).room s m ([.ref g, .int a1] : List Value).toArray below meth c H locs 0 0 (MQ below (va_Qi (S := Unit) (fun r u => r0 = r) (fun u t9 => po D (A) ((fun u => (MO g ad ca gf)) u) ((fun u => []) u) t9) (A)) ([.ref g, .int a1] : List Value).toArray s 0 0 A) (F0 m 25 ls []) := by
        intro gs x1 x2 x3 H locs ls hok hP hD hS hl
        rw [rf_countOf_25] at hok
        refine lv_iinc (k := 3) (v := (x3 + 1)) hx hb d_O_countOf_25 hl rfl (by rfl) (by decide) rfl (fun ls hl => ?_)
        have hl : lv_has ls 4 [(3, .int (x3 + 1)), (0, .ref g), (1, .int x1), (2, .int x2)] := hl
        refine lv_goto (tgt := 4) hx hb d_O_countOf_28 (by decide) ?_
        exact ih4 gs x1 x2 (x3 + 1) H locs ls hok hP hD hS (lv_sub hl [1, 2, 3, 0] rfl)
      intro gs x1 x2 x3 H locs ls hok hP hD hS hl
      rw [rf_countOf_4] at hok
      refine lv_iload_n hx hb d_O_countOf_4 rfl (lv_at hl 3 rfl) ?_
      refine lv_aload_n hx hb d_O_countOf_5 rfl (lv_at hl 0 rfl) ?_
      refine va_get (D := D) (ci := 8) (v := .int (gs.1 5)) (C := rc_O) (T := ft_O) (N := 42) hx hb hts in_O hown hK hP 0 rfl rfl 5 (by decide) (hts _ k_660) (fun _ h9 => h9) rfl d_O_countOf_6 ?_
      refine lv_icmp_ge (tgt := 31) hx hb d_O_countOf_9 (by decide) (fun h1 => ?_) (fun h1 => ?_)
      · replace hok := ci_t h1 hok
        refine lv_iload_n hx hb d_O_countOf_31 rfl (lv_at hl 2 rfl) ?_
        obtain ⟨e8, e9⟩ := rt_ok hok
        rw [e9] at hP hD
        have hK9 := hK.sub (tys' := []) [] rfl
        exact W.iret (v := x2) hx hb hr (fun t9 ht hW => ⟨⟨x2, (), rfl, e8, ⟨by rw [ht]; exact hP, va_K.moved hW.alike hK9, hD⟩⟩, hS.F ht⟩) hS.2.2 d_O_countOf_32
      · replace hok := ci_f h1 hok
        refine lv_aload_n hx hb d_O_countOf_12 rfl (lv_at hl 0 rfl) ?_
        refine va_get (D := D) (ci := 8) (v := .ref (ad 6)) (C := rc_O) (T := ft_O) (N := 42) hx hb hts in_O hown hK hP 0 rfl rfl 6 (by decide) (hts _ k_661) (fun _ h9 => h9) rfl d_O_countOf_13 ?_
        refine lv_iload_n hx hb d_O_countOf_16 rfl (lv_at hl 3 rfl) ?_
        have hi2 := (gd_ok hok).1
        replace hok := (gd_ok hok).2
        refine va_iald hx hb hK hP 3 2 rfl rfl (hi2) d_O_countOf_17 ?_
        refine lv_iload_n hx hb d_O_countOf_18 rfl (lv_at hl 1 rfl) ?_
        refine lv_icmp_ne (tgt := 25) hx hb d_O_countOf_19 (by decide) (fun h3 => ?_) (fun h3 => ?_)
        · replace hok := ci_f h3 hok
          exact j25 gs x1 x2 x3 H locs ls hok hP hD hS hl
        · replace hok := ci_t h3 hok
          refine lv_iinc (k := 2) (v := (x2 + 1)) hx hb d_O_countOf_22 hl rfl (by rfl) (by decide) rfl (fun ls hl => ?_)
          have hl : lv_has ls 4 [(2, .int (x2 + 1)), (0, .ref g), (1, .int x1), (3, .int x3)] := hl
          exact j25 gs x1 (x2 + 1) x3 H locs ls hok hP hD hS (lv_sub hl [1, 2, 0, 3] rfl)
  refine lv_iconst (v := 0) hx hb d_O_countOf_0 (by decide) ?_
  refine lv_istore_n hx hb d_O_countOf_1 rfl hl (by decide) rfl (fun ls hl => ?_)
  have hl : lv_has ls 4 [(2, .int 0), (0, .ref g), (1, .int a1)] := hl
  refine lv_iconst (v := 0) hx hb d_O_countOf_2 (by decide) ?_
  refine lv_istore_n hx hb d_O_countOf_3 rfl hl (by decide) rfl (fun ls hl => ?_)
  have hl : lv_has ls 4 [(3, .int 0), (2, .int 0), (0, .ref g), (1, .int a1)] := hl
  exact j4 F gs a1 0 0 s.heap [] ls hok hP hD hS (lv_sub hl [2, 3, 1, 0] rfl)

set_option maxHeartbeats 4000000 in
set_option maxRecDepth 100000 in
theorem a_depth (l : Launch) (D : va_G) (sz : Nat) (g : Nat) (ad : Nat → Nat) (ca : Nat → ClassId) (F : Nat) (gs : OS) (r0 : Int32) (gf : OS) (hok : rf_depth F gs = some (r0, gf)) : Met l y_O_depth (Cond.code y_O_depth b_O_depth 4 (some .int) :: wal) ({ frames := 10, cells := 0, slots := 0, locals := 120 }) (va_Pc [.ref g] (pr D sz (MO g ad ca gs) (MT ca) (fun _ => True))) (va_Qi (S := Unit) (fun r u => r0 = r) (fun u t9 => po D (va_A (MO g ad ca gs) sz) ((fun u => (MO g ad ca gf)) u) ((fun u => []) u) t9) (va_A (MO g ad ca gs) sz)) 0 0 (va_A (MO g ad ca gs) sz) := by
  refine Met.ofW (cc := b_O_depth) (maxL := 4) (ret := (some .int)) (by decide) rfl ?_
  intro p e s m args below meth c s₁ B hml hv
  obtain ⟨rfl, hsz, hP, hK, hD0, hE⟩ := hv
  have hx := B.exec
  have hb := B.bytes
  have hr := B.returns
  have hts0 := atoms_spec (ws := Cond.code y_O_depth b_O_depth 4 (some .int) :: wal) B.pre
  have hts : ∀ w ∈ wal, w.before _ s = true := fun w h => hts0 w (List.mem_cons_of_mem _ h)
  have hown : s.vm.findClass rc_O = some m.cls := findClass_of_methodNamed B.named
  have hlocks := B.notSynchronized
  subst hsz
  have hD := hD0.self (sz := s.heap.size)
  generalize hAe : va_A (MO g ad ca gs) s.heap.size = A at hD ⊢
  have hA : ∀ q : Nat, s.heap.size ≤ q → A q := fun q h => by rw [← hAe]; exact Or.inr h
  have hS : va_S A s.heap s.heap [] := va_S.rf
  have hl := lv_entry ([.ref g]) (n := 4) (Nat.le_of_ble_eq_true rfl)
  rw [lg_entry_eq]
  generalize (lg_sl ([.ref g]) ++ List.replicate (4 - (lg_sl ([.ref g])).length) Slot.unset).toArray = ls at hl ⊢
  have hl : lv_has ls 4 [(0, .ref g)] := hl
  have j11 : ∀ (d11 : Nat) (gs : OS) (x1 : Int32) (x2 : Int32) (x3 : Int32) (H : Heap) (locs : List Loc) (ls : Array Slot), rf_depth_11 F d11 gs x1 x2 x3 = some (r0, gf) → va_P D wcl (MO g ad ca gs) H → va_D A (MO g ad ca gs) → va_S A s.heap H locs → lv_has ls 4 [(0, .ref g), (1, .int x1), (2, .int x2), (3, .int x3)] → W p l e (headSpec (Cond.code y_O_depth b_O_depth 4 (some .int) :: wal) ({ frames := 10, cells := 0, slots := 0, locals := 120 })).room s m ([.ref g] : List Value).toArray below meth c H locs 0 0 (MQ below (va_Qi (S := Unit) (fun r u => r0 = r) (fun u t9 => po D (A) ((fun u => (MO g ad ca gf)) u) ((fun u => []) u) t9) (A)) ([.ref g] : List Value).toArray s 0 0 A) (F0 m 11 ls []) := by
    intro d11
    induction d11 with
    | zero =>
      intro gs x1 x2 x3 H locs ls hok
      have h9 : (none : RO) = some (r0, gf) := hok
      cases h9
    | succ d11 ih11 =>
      have j63 : ∀ (gs : OS) (x1 : Int32) (x3 : Int32) (y0 : Int32) (H : Heap) (locs : List Loc) (ls : Array Slot), rf_depth_63 F (rf_depth_11 F d11) gs x1 x3 y0 = some (r0, gf) → va_P D wcl (MO g ad ca gs) H → va_D A (MO g ad ca gs) → va_S A s.heap H locs → lv_has ls 4 [(0, .ref g), (1, .int x1), (3, .int x3)] → W p l e (headSpec (Cond.code y_O_depth b_O_depth 4 (some .int) :: wal) ({ frames := 10, cells := 0, slots := 0, locals := 120 })).room s m ([.ref g] : List Value).toArray below meth c H locs 0 0 (MQ below (va_Qi (S := Unit) (fun r u => r0 = r) (fun u t9 => po D (A) ((fun u => (MO g ad ca gf)) u) ((fun u => []) u) t9) (A)) ([.ref g] : List Value).toArray s 0 0 A) (F0 m 63 ls [.int y0]) := by
        intro gs x1 x3 y0 H locs ls hok hP hD hS hl
        rw [rf_depth_63] at hok
        refine lv_istore_n hx hb d_O_depth_63 rfl hl (by decide) rfl (fun ls hl => ?_)
        have hl : lv_has ls 4 [(2, .int y0), (0, .ref g), (1, .int x1), (3, .int x3)] := hl
        refine lv_iinc (k := 3) (v := (x3 + 1)) hx hb d_O_depth_64 hl rfl (by rfl) (by decide) rfl (fun ls hl => ?_)
        have hl : lv_has ls 4 [(3, .int (x3 + 1)), (2, .int y0), (0, .ref g), (1, .int x1)] := hl
        refine lv_goto (tgt := 11) hx hb d_O_depth_67 (by decide) ?_
        exact ih11 gs x1 y0 (x3 + 1) H locs ls hok hP hD hS (lv_sub hl [2, 3, 1, 0] rfl)
      have j52 : ∀ (gs : OS) (x2 : Int32) (x3 : Int32) (y0 : Int32) (H : Heap) (locs : List Loc) (ls : Array Slot), rf_depth_52 F (rf_depth_11 F d11) gs x2 x3 y0 = some (r0, gf) → va_P D wcl (MO g ad ca gs) H → va_D A (MO g ad ca gs) → va_S A s.heap H locs → lv_has ls 4 [(0, .ref g), (2, .int x2), (3, .int x3)] → W p l e (headSpec (Cond.code y_O_depth b_O_depth 4 (some .int) :: wal) ({ frames := 10, cells := 0, slots := 0, locals := 120 })).room s m ([.ref g] : List Value).toArray below meth c H locs 0 0 (MQ below (va_Qi (S := Unit) (fun r u => r0 = r) (fun u t9 => po D (A) ((fun u => (MO g ad ca gf)) u) ((fun u => []) u) t9) (A)) ([.ref g] : List Value).toArray s 0 0 A) (F0 m 52 ls [.int y0]) := by
        intro gs x2 x3 y0 H locs ls hok hP hD hS hl
        rw [rf_depth_52] at hok
        refine lv_istore_n hx hb d_O_depth_52 rfl hl (by decide) rfl (fun ls hl => ?_)
        have hl : lv_has ls 4 [(1, .int y0), (0, .ref g), (2, .int x2), (3, .int x3)] := hl
        refine lv_iload_n hx hb d_O_depth_53 rfl (lv_at hl 0 rfl) ?_
        refine lv_iload_n hx hb d_O_depth_54 rfl (lv_at hl 2 rfl) ?_
        refine lv_icmp_le (tgt := 62) hx hb d_O_depth_55 (by decide) (fun h1 => ?_) (fun h1 => ?_)
        · replace hok := ci_t h1 hok
          refine lv_iload_n hx hb d_O_depth_62 rfl (lv_at hl 2 rfl) ?_
          exact j63 gs y0 x3 x2 H locs ls hok hP hD hS (lv_sub hl [1, 0, 3] rfl)
        · replace hok := ci_f h1 hok
          refine lv_iload_n hx hb d_O_depth_58 rfl (lv_at hl 0 rfl) ?_
          refine lv_goto (tgt := 63) hx hb d_O_depth_59 (by decide) ?_
          exact j63 gs y0 x3 y0 H locs ls hok hP hD hS (lv_sub hl [1, 0, 3] rfl)
      intro gs x1 x2 x3 H locs ls hok hP hD hS hl
      rw [rf_depth_11] at hok
      refine lv_iload_n hx hb d_O_depth_11 rfl (lv_at hl 3 rfl) ?_
      refine lv_aload_n hx hb d_O_depth_12 rfl (lv_at hl 0 rfl) ?_
      refine va_get (D := D) (ci := 8) (v := .int (gs.1 38)) (C := rc_O) (T := ft_O) (N := 42) hx hb hts in_O hown hK hP 0 rfl rfl 38 (by decide) (hts _ k_693) (fun _ h9 => h9) rfl d_O_depth_13 ?_
      refine lv_icmp_ge (tgt := 70) hx hb d_O_depth_16 (by decide) (fun h2 => ?_) (fun h2 => ?_)
      · replace hok := ci_t h2 hok
        refine lv_iload_n hx hb d_O_depth_70 rfl (lv_at hl 2 rfl) ?_
        obtain ⟨e8, e9⟩ := rt_ok hok
        rw [e9] at hP hD
        have hK9 := hK.sub (tys' := []) [] rfl
        exact W.iret (v := x2) hx hb hr (fun t9 ht hW => ⟨⟨x2, (), rfl, e8, ⟨by rw [ht]; exact hP, va_K.moved hW.alike hK9, hD⟩⟩, hS.F ht⟩) hS.2.2 d_O_depth_71
      · replace hok := ci_f h2 hok
        refine lv_aload_n hx hb d_O_depth_19 rfl (lv_at hl 0 rfl) ?_
        refine va_get (D := D) (ci := 8) (v := .ref (ad 39)) (C := rc_O) (T := ft_O) (N := 42) hx hb hts in_O hown hK hP 0 rfl rfl 39 (by decide) (hts _ k_694) (fun _ h9 => h9) rfl d_O_depth_20 ?_
        refine lv_iload_n hx hb d_O_depth_23 rfl (lv_at hl 3 rfl) ?_
        have hi3 := (gd_ok hok).1
        replace hok := (gd_ok hok).2
        refine va_iald hx hb hK hP 20 19 rfl rfl (hi3) d_O_depth_24 ?_
        refine lv_iconst (v := 1) hx hb d_O_depth_25 (by decide) ?_
        refine lv_icmp_ne (tgt := 35) hx hb d_O_depth_26 (by decide) (fun h4 => ?_) (fun h4 => ?_)
        · replace hok := ci_f h4 hok
          refine lv_aload_n hx hb d_O_depth_35 rfl (lv_at hl 0 rfl) ?_
          refine va_get (D := D) (ci := 8) (v := .ref (ad 39)) (C := rc_O) (T := ft_O) (N := 42) hx hb hts in_O hown hK hP 0 rfl rfl 39 (by decide) (hts _ k_694) (fun _ h9 => h9) rfl d_O_depth_36 ?_
          refine lv_iload_n hx hb d_O_depth_39 rfl (lv_at hl 3 rfl) ?_
          have hi5 := (gd_ok hok).1
          replace hok := (gd_ok hok).2
          refine va_iald hx hb hK hP 20 19 rfl rfl (hi5) d_O_depth_40 ?_
          refine lv_iconst (v := 2) hx hb d_O_depth_41 (by decide) ?_
          refine lv_icmp_ne (tgt := 51) hx hb d_O_depth_42 (by decide) (fun h6 => ?_) (fun h6 => ?_)
          · replace hok := ci_f h6 hok
            refine lv_iload_n hx hb d_O_depth_51 rfl (lv_at hl 1 rfl) ?_
            exact j52 gs x2 x3 x1 H locs ls hok hP hD hS (lv_sub hl [0, 2, 3] rfl)
          · replace hok := ci_t h6 hok
            refine lv_iload_n hx hb d_O_depth_45 rfl (lv_at hl 1 rfl) ?_
            refine lv_iconst (v := 1) hx hb d_O_depth_46 (by decide) ?_
            refine lv_isub hx hb d_O_depth_47 ?_
            refine lv_goto (tgt := 52) hx hb d_O_depth_48 (by decide) ?_
            exact j52 gs x2 x3 (x1 - 1) H locs ls hok hP hD hS (lv_sub hl [0, 2, 3] rfl)
        · replace hok := ci_t h4 hok
          refine lv_iload_n hx hb d_O_depth_29 rfl (lv_at hl 1 rfl) ?_
          refine lv_iconst (v := 1) hx hb d_O_depth_30 (by decide) ?_
          refine lv_iadd hx hb d_O_depth_31 ?_
          refine lv_goto (tgt := 52) hx hb d_O_depth_32 (by decide) ?_
          exact j52 gs x2 x3 (x1 + 1) H locs ls hok hP hD hS (lv_sub hl [0, 2, 3] rfl)
  refine lv_aload_n hx hb d_O_depth_0 rfl (lv_at hl 0 rfl) ?_
  refine lv_iconst (v := 0) hx hb d_O_depth_1 (by decide) ?_
  refine va_put (D := D) (ci := 8) (v := .int 0) (ty := .int) (C := rc_O) (T := ft_O) (N := 42) hx hb hts in_O ty_O tk_O nm_O hown hK hP hD hS 0 rfl rfl 0 (by decide) (hts _ k_655) (fun _ h9 => h9) rfl (by decide +kernel) rfl rfl (Nat.le_of_ble_eq_true rfl) d_O_depth_2 (fun H locs hP hD hS => ?_)
  have hP : va_P D wcl (MO g ad ca (sI gs 0 0)) H := hP
  have hD : va_D A (MO g ad ca (sI gs 0 0)) := hD
  refine lv_iconst (v := 0) hx hb d_O_depth_5 (by decide) ?_
  refine lv_istore_n hx hb d_O_depth_6 rfl hl (by decide) rfl (fun ls hl => ?_)
  have hl : lv_has ls 4 [(1, .int 0), (0, .ref g)] := hl
  refine lv_iconst (v := 0) hx hb d_O_depth_7 (by decide) ?_
  refine lv_istore_n hx hb d_O_depth_8 rfl hl (by decide) rfl (fun ls hl => ?_)
  have hl : lv_has ls 4 [(2, .int 0), (1, .int 0), (0, .ref g)] := hl
  refine lv_iconst (v := 0) hx hb d_O_depth_9 (by decide) ?_
  refine lv_istore_n hx hb d_O_depth_10 rfl hl (by decide) rfl (fun ls hl => ?_)
  have hl : lv_has ls 4 [(3, .int 0), (2, .int 0), (1, .int 0), (0, .ref g)] := hl
  exact j11 F (sI gs 0 0) 0 0 0 H locs ls hok hP hD hS (lv_sub hl [3, 2, 1, 0] rfl)

set_option maxHeartbeats 4000000 in
set_option maxRecDepth 100000 in
theorem a_emit (l : Launch) (D : va_G) (sz : Nat) (g : Nat) (ad : Nat → Nat) (ca : Nat → ClassId) (F : Nat) (gs : OS) (a1 : Int32) (r0 : Int32) (gf : OS) (hok : rf_emit F gs a1 = some (r0, gf)) : Met l y_O_emit (Cond.code y_O_emit b_O_emit 2 none :: wal) ({ frames := 10, cells := 0, slots := 0, locals := 120 }) (va_Pc [.ref g, .int a1] (pr D sz (MO g ad ca gs) (MT ca) (fun _ => True))) (va_Qv (S := Unit) (fun u => True) (fun u t9 => po D (va_A (MO g ad ca gs) sz) ((fun u => (MO g ad ca gf)) u) ((fun u => []) u) t9) (va_A (MO g ad ca gs) sz)) 0 0 (va_A (MO g ad ca gs) sz) := by
  refine Met.ofW (cc := b_O_emit) (maxL := 2) (ret := none) (by decide) rfl ?_
  intro p e s m args below meth c s₁ B hml hv
  obtain ⟨rfl, hsz, hP, hK, hD0, hE⟩ := hv
  have hx := B.exec
  have hb := B.bytes
  have hr := B.returns
  have hts0 := atoms_spec (ws := Cond.code y_O_emit b_O_emit 2 none :: wal) B.pre
  have hts : ∀ w ∈ wal, w.before _ s = true := fun w h => hts0 w (List.mem_cons_of_mem _ h)
  have hown : s.vm.findClass rc_O = some m.cls := findClass_of_methodNamed B.named
  have hlocks := B.notSynchronized
  subst hsz
  have hD := hD0.self (sz := s.heap.size)
  generalize hAe : va_A (MO g ad ca gs) s.heap.size = A at hD ⊢
  have hA : ∀ q : Nat, s.heap.size ≤ q → A q := fun q h => by rw [← hAe]; exact Or.inr h
  have hS : va_S A s.heap s.heap [] := va_S.rf
  have hl := lv_entry ([.ref g, .int a1]) (n := 2) (Nat.le_of_ble_eq_true rfl)
  rw [lg_entry_eq]
  generalize (lg_sl ([.ref g, .int a1]) ++ List.replicate (2 - (lg_sl ([.ref g, .int a1])).length) Slot.unset).toArray = ls at hl ⊢
  have hl : lv_has ls 2 [(0, .ref g), (1, .int a1)] := hl
  have j92 : ∀ (gs : OS) (x1 : Int32) (H : Heap) (locs : List Loc) (ls : Array Slot), rf_emit_92 F gs x1 = some (r0, gf) → va_P D wcl (MO g ad ca gs) H → va_D A (MO g ad ca gs) → va_S A s.heap H locs → lv_has ls 2 [(0, .ref g), (1, .int x1)] → W p l e (headSpec (Cond.code y_O_emit b_O_emit 2 none :: wal) ({ frames := 10, cells := 0, slots := 0, locals := 120 })).room s m ([.ref g, .int a1] : List Value).toArray below meth c H locs 0 0 (MQ below (va_Qv (S := Unit) (fun u => True) (fun u t9 => po D (A) ((fun u => (MO g ad ca gf)) u) ((fun u => []) u) t9) (A)) ([.ref g, .int a1] : List Value).toArray s 0 0 A) (F0 m 92 ls []) := by
    intro gs x1 H locs ls hok hP hD hS hl
    rw [rf_emit_92] at hok
    refine lv_aload_n hx hb d_O_emit_92 rfl (lv_at hl 0 rfl) ?_
    refine va_get (D := D) (ci := 8) (v := .int (gs.1 28)) (C := rc_O) (T := ft_O) (N := 42) hx hb hts in_O hown hK hP 0 rfl rfl 28 (by decide) (hts _ k_683) (fun _ h9 => h9) rfl d_O_emit_93 ?_
    refine lv_if_eq (tgt := 100) hx hb d_O_emit_96 (by decide) (fun h1 => ?_) (fun h1 => ?_)
    · replace hok := ci_t h1 hok
      refine lv_aload_n hx hb d_O_emit_100 rfl (lv_at hl 0 rfl) ?_
      refine va_get (D := D) (ci := 8) (v := .ref (ad 24)) (C := rc_O) (T := ft_O) (N := 42) hx hb hts in_O hown hK hP 0 rfl rfl 24 (by decide) (hts _ k_679) (fun _ h9 => h9) rfl d_O_emit_101 ?_
      refine lv_aload_n hx hb d_O_emit_104 rfl (lv_at hl 0 rfl) ?_
      refine va_get (D := D) (ci := 8) (v := .int (gs.1 23)) (C := rc_O) (T := ft_O) (N := 42) hx hb hts in_O hown hK hP 0 rfl rfl 23 (by decide) (hts _ k_678) (fun _ h9 => h9) rfl d_O_emit_105 ?_
      refine lv_iload_n hx hb d_O_emit_108 rfl (lv_at hl 1 rfl) ?_
      have hi2 := (gd_ok hok).1
      replace hok := (gd_ok hok).2
      refine va_iast hx hb hK hP hD hS 14 13 rfl rfl hi2 d_O_emit_109 (fun H locs hP hD hS => ?_)
      have hP : va_P D wcl (MO g ad ca (sA gs 24 (upd (gs.2 24) (gs.1 23).toNatClampNeg x1))) H := hP
      have hD : va_D A (MO g ad ca (sA gs 24 (upd (gs.2 24) (gs.1 23).toNatClampNeg x1))) := hD
      refine lv_aload_n hx hb d_O_emit_110 rfl (lv_at hl 0 rfl) ?_
      refine lv_dup hx hb d_O_emit_111 rfl ?_
      refine va_get (D := D) (ci := 8) (v := .int (gs.1 23)) (C := rc_O) (T := ft_O) (N := 42) hx hb hts in_O hown hK hP 0 rfl rfl 23 (by decide) (hts _ k_678) (fun _ h9 => h9) rfl d_O_emit_112 ?_
      refine lv_iconst (v := 1) hx hb d_O_emit_115 (by decide) ?_
      refine lv_iadd hx hb d_O_emit_116 ?_
      refine va_put (D := D) (ci := 8) (v := .int ((gs.1 23) + 1)) (ty := .int) (C := rc_O) (T := ft_O) (N := 42) hx hb hts in_O ty_O tk_O nm_O hown hK hP hD hS 0 rfl rfl 23 (by decide) (hts _ k_678) (fun _ h9 => h9) rfl (by decide +kernel) rfl rfl (Nat.le_of_ble_eq_true rfl) d_O_emit_117 (fun H locs hP hD hS => ?_)
      have hP : va_P D wcl (MO g ad ca (sA (sI gs 23 ((gs.1 23) + 1)) 24 (upd (gs.2 24) (gs.1 23).toNatClampNeg x1))) H := hP
      have hD : va_D A (MO g ad ca (sA (sI gs 23 ((gs.1 23) + 1)) 24 (upd (gs.2 24) (gs.1 23).toNatClampNeg x1))) := hD
      obtain ⟨e8, e9⟩ := rt_ok hok
      rw [e9] at hP hD
      have hK9 := hK.sub (tys' := []) [] rfl
      exact W.vret hx hb hr (fun t9 ht hW => ⟨⟨(), rfl, trivial, ⟨by rw [ht]; exact hP, va_K.moved hW.alike hK9, hD⟩⟩, hS.F ht⟩) hS.2.2 d_O_emit_120
    · replace hok := ci_f h1 hok
      obtain ⟨e8, e9⟩ := rt_ok hok
      rw [e9] at hP hD
      have hK9 := hK.sub (tys' := []) [] rfl
      exact W.vret hx hb hr (fun t9 ht hW => ⟨⟨(), rfl, trivial, ⟨by rw [ht]; exact hP, va_K.moved hW.alike hK9, hD⟩⟩, hS.F ht⟩) hS.2.2 d_O_emit_99
  have j87 : ∀ (gs : OS) (x1 : Int32) (H : Heap) (locs : List Loc) (ls : Array Slot), rf_emit_87 F gs x1 = some (r0, gf) → va_P D wcl (MO g ad ca gs) H → va_D A (MO g ad ca gs) → va_S A s.heap H locs → lv_has ls 2 [(0, .ref g), (1, .int x1)] → W p l e (headSpec (Cond.code y_O_emit b_O_emit 2 none :: wal) ({ frames := 10, cells := 0, slots := 0, locals := 120 })).room s m ([.ref g, .int a1] : List Value).toArray below meth c H locs 0 0 (MQ below (va_Qv (S := Unit) (fun u => True) (fun u t9 => po D (A) ((fun u => (MO g ad ca gf)) u) ((fun u => []) u) t9) (A)) ([.ref g, .int a1] : List Value).toArray s 0 0 A) (F0 m 87 ls []) := by
    intro gs x1 H locs ls hok hP hD hS hl
    rw [rf_emit_87] at hok
    refine lv_aload_n hx hb d_O_emit_87 rfl (lv_at hl 0 rfl) ?_
    refine lv_iconst (v := 1) hx hb d_O_emit_88 (by decide) ?_
    refine va_put (D := D) (ci := 8) (v := .int 1) (ty := .boolean) (C := rc_O) (T := ft_O) (N := 42) hx hb hts in_O ty_O tk_O nm_O hown hK hP hD hS 0 rfl rfl 28 (by decide) (hts _ k_683) (fun _ h9 => h9) rfl (by decide +kernel) rfl rfl (Nat.le_of_ble_eq_true rfl) d_O_emit_89 (fun H locs hP hD hS => ?_)
    have hP : va_P D wcl (MO g ad ca (sI gs 28 1)) H := hP
    have hD : va_D A (MO g ad ca (sI gs 28 1)) := hD
    exact j92 (sI gs 28 1) x1 H locs ls hok hP hD hS hl
  have j69 : ∀ (gs : OS) (x1 : Int32) (H : Heap) (locs : List Loc) (ls : Array Slot), rf_emit_69 F gs x1 = some (r0, gf) → va_P D wcl (MO g ad ca gs) H → va_D A (MO g ad ca gs) → va_S A s.heap H locs → lv_has ls 2 [(0, .ref g), (1, .int x1)] → W p l e (headSpec (Cond.code y_O_emit b_O_emit 2 none :: wal) ({ frames := 10, cells := 0, slots := 0, locals := 120 })).room s m ([.ref g, .int a1] : List Value).toArray below meth c H locs 0 0 (MQ below (va_Qv (S := Unit) (fun u => True) (fun u t9 => po D (A) ((fun u => (MO g ad ca gf)) u) ((fun u => []) u) t9) (A)) ([.ref g, .int a1] : List Value).toArray s 0 0 A) (F0 m 69 ls []) := by
    intro gs x1 H locs ls hok hP hD hS hl
    rw [rf_emit_69] at hok
    refine lv_aload_n hx hb d_O_emit_69 rfl (lv_at hl 0 rfl) ?_
    refine va_get (D := D) (ci := 8) (v := .int (gs.1 25)) (C := rc_O) (T := ft_O) (N := 42) hx hb hts in_O hown hK hP 0 rfl rfl 25 (by decide) (hts _ k_680) (fun _ h9 => h9) rfl d_O_emit_70 ?_
    refine lv_bipush (v := 60) hx hb d_O_emit_73 (by decide) ?_
    refine lv_icmp_gt (tgt := 87) hx hb d_O_emit_75 (by decide) (fun h3 => ?_) (fun h3 => ?_)
    · replace hok := ci_t h3 hok
      exact j87 gs x1 H locs ls hok hP hD hS hl
    · replace hok := ci_f h3 hok
      refine lv_aload_n hx hb d_O_emit_78 rfl (lv_at hl 0 rfl) ?_
      refine va_get (D := D) (ci := 8) (v := .int (gs.1 27)) (C := rc_O) (T := ft_O) (N := 42) hx hb hts in_O hown hK hP 0 rfl rfl 27 (by decide) (hts _ k_682) (fun _ h9 => h9) rfl d_O_emit_79 ?_
      refine lv_bipush (v := 12) hx hb d_O_emit_82 (by decide) ?_
      refine lv_icmp_le (tgt := 92) hx hb d_O_emit_84 (by decide) (fun h4 => ?_) (fun h4 => ?_)
      · replace hok := ci_t h4 hok
        exact j92 gs x1 H locs ls hok hP hD hS hl
      · replace hok := ci_f h4 hok
        exact j87 gs x1 H locs ls hok hP hD hS hl
  have j41 : ∀ (gs : OS) (x1 : Int32) (H : Heap) (locs : List Loc) (ls : Array Slot), rf_emit_41 F gs x1 = some (r0, gf) → va_P D wcl (MO g ad ca gs) H → va_D A (MO g ad ca gs) → va_S A s.heap H locs → lv_has ls 2 [(0, .ref g), (1, .int x1)] → W p l e (headSpec (Cond.code y_O_emit b_O_emit 2 none :: wal) ({ frames := 10, cells := 0, slots := 0, locals := 120 })).room s m ([.ref g, .int a1] : List Value).toArray below meth c H locs 0 0 (MQ below (va_Qv (S := Unit) (fun u => True) (fun u t9 => po D (A) ((fun u => (MO g ad ca gf)) u) ((fun u => []) u) t9) (A)) ([.ref g, .int a1] : List Value).toArray s 0 0 A) (F0 m 41 ls []) := by
    intro gs x1 H locs ls hok hP hD hS hl
    rw [rf_emit_41] at hok
    refine lv_iload_n hx hb d_O_emit_41 rfl (lv_at hl 1 rfl) ?_
    refine lv_iconst (v := 2) hx hb d_O_emit_42 (by decide) ?_
    refine lv_icmp_ne (tgt := 59) hx hb d_O_emit_43 (by decide) (fun h5 => ?_) (fun h5 => ?_)
    · replace hok := ci_f h5 hok
      refine lv_aload_n hx hb d_O_emit_59 rfl (lv_at hl 0 rfl) ?_
      refine lv_dup hx hb d_O_emit_60 rfl ?_
      refine va_get (D := D) (ci := 8) (v := .int (gs.1 25)) (C := rc_O) (T := ft_O) (N := 42) hx hb hts in_O hown hK hP 0 rfl rfl 25 (by decide) (hts _ k_680) (fun _ h9 => h9) rfl d_O_emit_61 ?_
      refine lv_iconst (v := 1) hx hb d_O_emit_64 (by decide) ?_
      refine lv_iadd hx hb d_O_emit_65 ?_
      refine va_put (D := D) (ci := 8) (v := .int ((gs.1 25) + 1)) (ty := .int) (C := rc_O) (T := ft_O) (N := 42) hx hb hts in_O ty_O tk_O nm_O hown hK hP hD hS 0 rfl rfl 25 (by decide) (hts _ k_680) (fun _ h9 => h9) rfl (by decide +kernel) rfl rfl (Nat.le_of_ble_eq_true rfl) d_O_emit_66 (fun H locs hP hD hS => ?_)
      have hP : va_P D wcl (MO g ad ca (sI gs 25 ((gs.1 25) + 1))) H := hP
      have hD : va_D A (MO g ad ca (sI gs 25 ((gs.1 25) + 1))) := hD
      exact j69 (sI gs 25 ((gs.1 25) + 1)) x1 H locs ls hok hP hD hS hl
    · replace hok := ci_t h5 hok
      refine lv_aload_n hx hb d_O_emit_46 rfl (lv_at hl 0 rfl) ?_
      refine lv_dup hx hb d_O_emit_47 rfl ?_
      refine va_get (D := D) (ci := 8) (v := .int (gs.1 26)) (C := rc_O) (T := ft_O) (N := 42) hx hb hts in_O hown hK hP 0 rfl rfl 26 (by decide) (hts _ k_681) (fun _ h9 => h9) rfl d_O_emit_48 ?_
      refine lv_iconst (v := 1) hx hb d_O_emit_51 (by decide) ?_
      refine lv_isub hx hb d_O_emit_52 ?_
      refine va_put (D := D) (ci := 8) (v := .int ((gs.1 26) - 1)) (ty := .int) (C := rc_O) (T := ft_O) (N := 42) hx hb hts in_O ty_O tk_O nm_O hown hK hP hD hS 0 rfl rfl 26 (by decide) (hts _ k_681) (fun _ h9 => h9) rfl (by decide +kernel) rfl rfl (Nat.le_of_ble_eq_true rfl) d_O_emit_53 (fun H locs hP hD hS => ?_)
      have hP : va_P D wcl (MO g ad ca (sI gs 26 ((gs.1 26) - 1))) H := hP
      have hD : va_D A (MO g ad ca (sI gs 26 ((gs.1 26) - 1))) := hD
      refine lv_goto (tgt := 69) hx hb d_O_emit_56 (by decide) ?_
      exact j69 (sI gs 26 ((gs.1 26) - 1)) x1 H locs ls hok hP hD hS hl
  have j38 : ∀ (gs : OS) (x1 : Int32) (y0 : Int32) (H : Heap) (locs : List Loc) (ls : Array Slot), rf_emit_38 F gs x1 y0 = some (r0, gf) → va_P D wcl (MO g ad ca gs) H → va_D A (MO g ad ca gs) → va_S A s.heap H locs → lv_has ls 2 [(0, .ref g), (1, .int x1)] → W p l e (headSpec (Cond.code y_O_emit b_O_emit 2 none :: wal) ({ frames := 10, cells := 0, slots := 0, locals := 120 })).room s m ([.ref g, .int a1] : List Value).toArray below meth c H locs 0 0 (MQ below (va_Qv (S := Unit) (fun u => True) (fun u t9 => po D (A) ((fun u => (MO g ad ca gf)) u) ((fun u => []) u) t9) (A)) ([.ref g, .int a1] : List Value).toArray s 0 0 A) (F0 m 38 ls [.int y0, .ref g]) := by
    intro gs x1 y0 H locs ls hok hP hD hS hl
    rw [rf_emit_38] at hok
    refine va_put (D := D) (ci := 8) (v := .int y0) (ty := .int) (C := rc_O) (T := ft_O) (N := 42) hx hb hts in_O ty_O tk_O nm_O hown hK hP hD hS 0 rfl rfl 27 (by decide) (hts _ k_682) (fun _ h9 => h9) rfl (by decide +kernel) rfl rfl (Nat.le_of_ble_eq_true rfl) d_O_emit_38 (fun H locs hP hD hS => ?_)
    have hP : va_P D wcl (MO g ad ca (sI gs 27 y0)) H := hP
    have hD : va_D A (MO g ad ca (sI gs 27 y0)) := hD
    exact j41 (sI gs 27 y0) x1 H locs ls hok hP hD hS hl
  refine lv_iload_n hx hb d_O_emit_0 rfl (lv_at hl 1 rfl) ?_
  refine lv_iconst (v := 1) hx hb d_O_emit_1 (by decide) ?_
  refine lv_icmp_ne (tgt := 41) hx hb d_O_emit_2 (by decide) (fun h6 => ?_) (fun h6 => ?_)
  · replace hok := ci_f h6 hok
    exact j41 gs a1 s.heap [] ls hok hP hD hS hl
  · replace hok := ci_t h6 hok
    refine lv_aload_n hx hb d_O_emit_5 rfl (lv_at hl 0 rfl) ?_
    refine lv_dup hx hb d_O_emit_6 rfl ?_
    refine va_get (D := D) (ci := 8) (v := .int (gs.1 26)) (C := rc_O) (T := ft_O) (N := 42) hx hb hts in_O hown hK hP 0 rfl rfl 26 (by decide) (hts _ k_681) (fun _ h9 => h9) rfl d_O_emit_7 ?_
    refine lv_iconst (v := 1) hx hb d_O_emit_10 (by decide) ?_
    refine lv_iadd hx hb d_O_emit_11 ?_
    refine va_put (D := D) (ci := 8) (v := .int ((gs.1 26) + 1)) (ty := .int) (C := rc_O) (T := ft_O) (N := 42) hx hb hts in_O ty_O tk_O nm_O hown hK hP hD hS 0 rfl rfl 26 (by decide) (hts _ k_681) (fun _ h9 => h9) rfl (by decide +kernel) rfl rfl (Nat.le_of_ble_eq_true rfl) d_O_emit_12 (fun H locs hP hD hS => ?_)
    have hP : va_P D wcl (MO g ad ca (sI gs 26 ((gs.1 26) + 1))) H := hP
    have hD : va_D A (MO g ad ca (sI gs 26 ((gs.1 26) + 1))) := hD
    refine lv_aload_n hx hb d_O_emit_15 rfl (lv_at hl 0 rfl) ?_
    refine lv_aload_n hx hb d_O_emit_16 rfl (lv_at hl 0 rfl) ?_
    refine va_get (D := D) (ci := 8) (v := .int ((gs.1 26) + 1)) (C := rc_O) (T := ft_O) (N := 42) hx hb hts in_O hown hK hP 0 rfl rfl 26 (by decide) (hts _ k_681) (fun _ h9 => h9) rfl d_O_emit_17 ?_
    refine lv_aload_n hx hb d_O_emit_20 rfl (lv_at hl 0 rfl) ?_
    refine va_get (D := D) (ci := 8) (v := .int (gs.1 27)) (C := rc_O) (T := ft_O) (N := 42) hx hb hts in_O hown hK hP 0 rfl rfl 27 (by decide) (hts _ k_682) (fun _ h9 => h9) rfl d_O_emit_21 ?_
    refine lv_icmp_le (tgt := 34) hx hb d_O_emit_24 (by decide) (fun h7 => ?_) (fun h7 => ?_)
    · replace hok := ci_t h7 hok
      refine lv_aload_n hx hb d_O_emit_34 rfl (lv_at hl 0 rfl) ?_
      refine va_get (D := D) (ci := 8) (v := .int (gs.1 27)) (C := rc_O) (T := ft_O) (N := 42) hx hb hts in_O hown hK hP 0 rfl rfl 27 (by decide) (hts _ k_682) (fun _ h9 => h9) rfl d_O_emit_35 ?_
      exact j38 (sI gs 26 ((gs.1 26) + 1)) a1 (gs.1 27) H locs ls hok hP hD hS hl
    · replace hok := ci_f h7 hok
      refine lv_aload_n hx hb d_O_emit_27 rfl (lv_at hl 0 rfl) ?_
      refine va_get (D := D) (ci := 8) (v := .int ((gs.1 26) + 1)) (C := rc_O) (T := ft_O) (N := 42) hx hb hts in_O hown hK hP 0 rfl rfl 26 (by decide) (hts _ k_681) (fun _ h9 => h9) rfl d_O_emit_28 ?_
      refine lv_goto (tgt := 38) hx hb d_O_emit_31 (by decide) ?_
      exact j38 (sI gs 26 ((gs.1 26) + 1)) a1 ((gs.1 26) + 1) H locs ls hok hP hD hS hl

set_option maxHeartbeats 4000000 in
set_option maxRecDepth 100000 in
theorem a_fail (l : Launch) (D : va_G) (sz : Nat) (g : Nat) (ad : Nat → Nat) (ca : Nat → ClassId) (F : Nat) (gs : OS) (a1 : Int32) (r0 : Int32) (gf : OS) (hok : rf_fail F gs a1 = some (r0, gf)) : Met l y_O_fail (Cond.code y_O_fail b_O_fail 2 (some .int) :: wal) ({ frames := 10, cells := 0, slots := 0, locals := 120 }) (va_Pc [.ref g, .int a1] (pr D sz (MO g ad ca gs) (MT ca) (fun _ => True))) (va_Qi (S := Unit) (fun r u => r0 = r) (fun u t9 => po D (va_A (MO g ad ca gs) sz) ((fun u => (MO g ad ca gf)) u) ((fun u => []) u) t9) (va_A (MO g ad ca gs) sz)) 0 0 (va_A (MO g ad ca gs) sz) := by
  refine Met.ofW (cc := b_O_fail) (maxL := 2) (ret := (some .int)) (by decide) rfl ?_
  intro p e s m args below meth c s₁ B hml hv
  obtain ⟨rfl, hsz, hP, hK, hD0, hE⟩ := hv
  have hx := B.exec
  have hb := B.bytes
  have hr := B.returns
  have hts0 := atoms_spec (ws := Cond.code y_O_fail b_O_fail 2 (some .int) :: wal) B.pre
  have hts : ∀ w ∈ wal, w.before _ s = true := fun w h => hts0 w (List.mem_cons_of_mem _ h)
  have hown : s.vm.findClass rc_O = some m.cls := findClass_of_methodNamed B.named
  have hlocks := B.notSynchronized
  subst hsz
  have hD := hD0.self (sz := s.heap.size)
  generalize hAe : va_A (MO g ad ca gs) s.heap.size = A at hD ⊢
  have hA : ∀ q : Nat, s.heap.size ≤ q → A q := fun q h => by rw [← hAe]; exact Or.inr h
  have hS : va_S A s.heap s.heap [] := va_S.rf
  have hl := lv_entry ([.ref g, .int a1]) (n := 2) (Nat.le_of_ble_eq_true rfl)
  rw [lg_entry_eq]
  generalize (lg_sl ([.ref g, .int a1]) ++ List.replicate (2 - (lg_sl ([.ref g, .int a1])).length) Slot.unset).toArray = ls at hl ⊢
  have hl : lv_has ls 2 [(0, .ref g), (1, .int a1)] := hl
  refine lv_aload_n hx hb d_O_fail_0 rfl (lv_at hl 0 rfl) ?_
  refine lv_iload_n hx hb d_O_fail_1 rfl (lv_at hl 1 rfl) ?_
  refine va_put (D := D) (ci := 8) (v := .int a1) (ty := .int) (C := rc_O) (T := ft_O) (N := 42) hx hb hts in_O ty_O tk_O nm_O hown hK hP hD hS 0 rfl rfl 0 (by decide) (hts _ k_655) (fun _ h9 => h9) rfl (by decide +kernel) rfl rfl (Nat.le_of_ble_eq_true rfl) d_O_fail_2 (fun H locs hP hD hS => ?_)
  have hP : va_P D wcl (MO g ad ca (sI gs 0 a1)) H := hP
  have hD : va_D A (MO g ad ca (sI gs 0 a1)) := hD
  refine lv_iconst (v := 0) hx hb d_O_fail_5 (by decide) ?_
  obtain ⟨e8, e9⟩ := rt_ok hok
  rw [e9] at hP hD
  have hK9 := hK.sub (tys' := []) [] rfl
  exact W.iret (v := 0) hx hb hr (fun t9 ht hW => ⟨⟨0, (), rfl, e8, ⟨by rw [ht]; exact hP, va_K.moved hW.alike hK9, hD⟩⟩, hS.F ht⟩) hS.2.2 d_O_fail_6

set_option maxHeartbeats 4000000 in
set_option maxRecDepth 100000 in
theorem a_isKeyword (l : Launch) (D : va_G) (sz : Nat) (g : Nat) (ad : Nat → Nat) (ca : Nat → ClassId) (F : Nat) (gs : OS) (a0 : Int32) (r0 : Int32) (gf : OS) (hok : rf_isKeyword F gs a0 = some (r0, gf)) : Met l y_O_isKeyword (Cond.code y_O_isKeyword b_O_isKeyword 1 (some .boolean) :: wal) ({ frames := 10, cells := 0, slots := 0, locals := 120 }) (va_Pc [.int a0] (pr D sz (MO g ad ca gs) (MT ca) (fun _ => True))) (va_Qi (S := Unit) (fun r u => r0 = r) (fun u t9 => po D (va_A (MO g ad ca gs) sz) ((fun u => (MO g ad ca gf)) u) ((fun u => []) u) t9) (va_A (MO g ad ca gs) sz)) 0 0 (va_A (MO g ad ca gs) sz) := by
  refine Met.ofW (cc := b_O_isKeyword) (maxL := 1) (ret := (some .boolean)) (by decide) rfl ?_
  intro p e s m args below meth c s₁ B hml hv
  obtain ⟨rfl, hsz, hP, hK, hD0, hE⟩ := hv
  have hx := B.exec
  have hb := B.bytes
  have hr := B.returns
  have hts0 := atoms_spec (ws := Cond.code y_O_isKeyword b_O_isKeyword 1 (some .boolean) :: wal) B.pre
  have hts : ∀ w ∈ wal, w.before _ s = true := fun w h => hts0 w (List.mem_cons_of_mem _ h)
  have hown : s.vm.findClass rc_O = some m.cls := findClass_of_methodNamed B.named
  have hlocks := B.notSynchronized
  subst hsz
  have hD := hD0.self (sz := s.heap.size)
  generalize hAe : va_A (MO g ad ca gs) s.heap.size = A at hD ⊢
  have hA : ∀ q : Nat, s.heap.size ≤ q → A q := fun q h => by rw [← hAe]; exact Or.inr h
  have hS : va_S A s.heap s.heap [] := va_S.rf
  have hl := lv_entry ([.int a0]) (n := 1) (Nat.le_of_ble_eq_true rfl)
  rw [lg_entry_eq]
  generalize (lg_sl ([.int a0]) ++ List.replicate (1 - (lg_sl ([.int a0])).length) Slot.unset).toArray = ls at hl ⊢
  have hl : lv_has ls 1 [(0, .int a0)] := hl
  have j15 : ∀ (gs : OS) (y0 : Int32) (H : Heap) (locs : List Loc) (ls : Array Slot), rf_isKeyword_15 F gs y0 = some (r0, gf) → va_P D wcl (MO g ad ca gs) H → va_D A (MO g ad ca gs) → va_S A s.heap H locs → lv_has ls 1 [] → W p l e (headSpec (Cond.code y_O_isKeyword b_O_isKeyword 1 (some .boolean) :: wal) ({ frames := 10, cells := 0, slots := 0, locals := 120 })).room s m ([.int a0] : List Value).toArray below meth c H locs 0 0 (MQ below (va_Qi (S := Unit) (fun r u => r0 = r) (fun u t9 => po D (A) ((fun u => (MO g ad ca gf)) u) ((fun u => []) u) t9) (A)) ([.int a0] : List Value).toArray s 0 0 A) (F0 m 15 ls [.int y0]) := by
    intro gs y0 H locs ls hok hP hD hS hl
    rw [rf_isKeyword_15] at hok
    have hn1 := (gd_ok hok).1
    replace hok := (gd_ok hok).2
    obtain ⟨e8, e9⟩ := rt_ok hok
    rw [e9] at hP hD
    have hK9 := hK.sub (tys' := []) [] rfl
    exact W.zret (v := y0) hx hb hr (nar_ib hn1) (fun t9 ht hW => ⟨⟨y0, (), rfl, e8, ⟨by rw [ht]; exact hP, va_K.moved hW.alike hK9, hD⟩⟩, hS.F ht⟩) hS.2.2 d_O_isKeyword_15
  have j14 : ∀ (gs : OS)  (H : Heap) (locs : List Loc) (ls : Array Slot), rf_isKeyword_14 F gs = some (r0, gf) → va_P D wcl (MO g ad ca gs) H → va_D A (MO g ad ca gs) → va_S A s.heap H locs → lv_has ls 1 [] → W p l e (headSpec (Cond.code y_O_isKeyword b_O_isKeyword 1 (some .boolean) :: wal) ({ frames := 10, cells := 0, slots := 0, locals := 120 })).room s m ([.int a0] : List Value).toArray below meth c H locs 0 0 (MQ below (va_Qi (S := Unit) (fun r u => r0 = r) (fun u t9 => po D (A) ((fun u => (MO g ad ca gf)) u) ((fun u => []) u) t9) (A)) ([.int a0] : List Value).toArray s 0 0 A) (F0 m 14 ls []) := by
    intro gs  H locs ls hok hP hD hS hl
    rw [rf_isKeyword_14] at hok
    refine lv_iconst (v := 0) hx hb d_O_isKeyword_14 (by decide) ?_
    exact j15 gs 0 H locs ls hok hP hD hS hl
  refine lv_iload_n hx hb d_O_isKeyword_0 rfl (lv_at hl 0 rfl) ?_
  refine lv_iconst (v := 3) hx hb d_O_isKeyword_1 (by decide) ?_
  refine lv_icmp_lt (tgt := 14) hx hb d_O_isKeyword_2 (by decide) (fun h2 => ?_) (fun h2 => ?_)
  · replace hok := ci_t h2 hok
    exact j14 gs s.heap [] ls hok hP hD hS (lv_sub hl [] rfl)
  · replace hok := ci_f h2 hok
    refine lv_iload_n hx hb d_O_isKeyword_5 rfl (lv_at hl 0 rfl) ?_
    refine lv_iconst (v := 5) hx hb d_O_isKeyword_6 (by decide) ?_
    refine lv_icmp_gt (tgt := 14) hx hb d_O_isKeyword_7 (by decide) (fun h3 => ?_) (fun h3 => ?_)
    · replace hok := ci_t h3 hok
      exact j14 gs s.heap [] ls hok hP hD hS (lv_sub hl [] rfl)
    · replace hok := ci_f h3 hok
      refine lv_iconst (v := 1) hx hb d_O_isKeyword_10 (by decide) ?_
      refine lv_goto (tgt := 15) hx hb d_O_isKeyword_11 (by decide) ?_
      exact j15 gs 1 s.heap [] ls hok hP hD hS (lv_sub hl [] rfl)

set_option maxHeartbeats 4000000 in
set_option maxRecDepth 100000 in
theorem a_isName (l : Launch) (D : va_G) (sz : Nat) (g : Nat) (ad : Nat → Nat) (ca : Nat → ClassId) (F : Nat) (gs : OS) (a0 : Int32) (r0 : Int32) (gf : OS) (hok : rf_isName F gs a0 = some (r0, gf)) : Met l y_O_isName (Cond.code y_O_isName b_O_isName 1 (some .boolean) :: wal) ({ frames := 10, cells := 0, slots := 0, locals := 120 }) (va_Pc [.int a0] (pr D sz (MO g ad ca gs) (MT ca) (fun _ => True))) (va_Qi (S := Unit) (fun r u => r0 = r) (fun u t9 => po D (va_A (MO g ad ca gs) sz) ((fun u => (MO g ad ca gf)) u) ((fun u => []) u) t9) (va_A (MO g ad ca gs) sz)) 0 0 (va_A (MO g ad ca gs) sz) := by
  refine Met.ofW (cc := b_O_isName) (maxL := 1) (ret := (some .boolean)) (by decide) rfl ?_
  intro p e s m args below meth c s₁ B hml hv
  obtain ⟨rfl, hsz, hP, hK, hD0, hE⟩ := hv
  have hx := B.exec
  have hb := B.bytes
  have hr := B.returns
  have hts0 := atoms_spec (ws := Cond.code y_O_isName b_O_isName 1 (some .boolean) :: wal) B.pre
  have hts : ∀ w ∈ wal, w.before _ s = true := fun w h => hts0 w (List.mem_cons_of_mem _ h)
  have hown : s.vm.findClass rc_O = some m.cls := findClass_of_methodNamed B.named
  have hlocks := B.notSynchronized
  subst hsz
  have hD := hD0.self (sz := s.heap.size)
  generalize hAe : va_A (MO g ad ca gs) s.heap.size = A at hD ⊢
  have hA : ∀ q : Nat, s.heap.size ≤ q → A q := fun q h => by rw [← hAe]; exact Or.inr h
  have hS : va_S A s.heap s.heap [] := va_S.rf
  have hl := lv_entry ([.int a0]) (n := 1) (Nat.le_of_ble_eq_true rfl)
  rw [lg_entry_eq]
  generalize (lg_sl ([.int a0]) ++ List.replicate (1 - (lg_sl ([.int a0])).length) Slot.unset).toArray = ls at hl ⊢
  have hl : lv_has ls 1 [(0, .int a0)] := hl
  have j11 : ∀ (gs : OS) (y0 : Int32) (H : Heap) (locs : List Loc) (ls : Array Slot), rf_isName_11 F gs y0 = some (r0, gf) → va_P D wcl (MO g ad ca gs) H → va_D A (MO g ad ca gs) → va_S A s.heap H locs → lv_has ls 1 [] → W p l e (headSpec (Cond.code y_O_isName b_O_isName 1 (some .boolean) :: wal) ({ frames := 10, cells := 0, slots := 0, locals := 120 })).room s m ([.int a0] : List Value).toArray below meth c H locs 0 0 (MQ below (va_Qi (S := Unit) (fun r u => r0 = r) (fun u t9 => po D (A) ((fun u => (MO g ad ca gf)) u) ((fun u => []) u) t9) (A)) ([.int a0] : List Value).toArray s 0 0 A) (F0 m 11 ls [.int y0]) := by
    intro gs y0 H locs ls hok hP hD hS hl
    rw [rf_isName_11] at hok
    have hn1 := (gd_ok hok).1
    replace hok := (gd_ok hok).2
    obtain ⟨e8, e9⟩ := rt_ok hok
    rw [e9] at hP hD
    have hK9 := hK.sub (tys' := []) [] rfl
    exact W.zret (v := y0) hx hb hr (nar_ib hn1) (fun t9 ht hW => ⟨⟨y0, (), rfl, e8, ⟨by rw [ht]; exact hP, va_K.moved hW.alike hK9, hD⟩⟩, hS.F ht⟩) hS.2.2 d_O_isName_11
  refine lv_iload_n hx hb d_O_isName_0 rfl (lv_at hl 0 rfl) ?_
  refine lv_bipush (v := 100) hx hb d_O_isName_1 (by decide) ?_
  refine lv_icmp_lt (tgt := 10) hx hb d_O_isName_3 (by decide) (fun h2 => ?_) (fun h2 => ?_)
  · replace hok := ci_t h2 hok
    refine lv_iconst (v := 0) hx hb d_O_isName_10 (by decide) ?_
    exact j11 gs 0 s.heap [] ls hok hP hD hS (lv_sub hl [] rfl)
  · replace hok := ci_f h2 hok
    refine lv_iconst (v := 1) hx hb d_O_isName_6 (by decide) ?_
    refine lv_goto (tgt := 11) hx hb d_O_isName_7 (by decide) ?_
    exact j11 gs 1 s.heap [] ls hok hP hD hS (lv_sub hl [] rfl)

set_option maxHeartbeats 4000000 in
set_option maxRecDepth 100000 in
theorem a_isNumeral (l : Launch) (D : va_G) (sz : Nat) (g : Nat) (ad : Nat → Nat) (ca : Nat → ClassId) (F : Nat) (gs : OS) (a0 : Int32) (r0 : Int32) (gf : OS) (hok : rf_isNumeral F gs a0 = some (r0, gf)) : Met l y_O_isNumeral (Cond.code y_O_isNumeral b_O_isNumeral 1 (some .boolean) :: wal) ({ frames := 10, cells := 0, slots := 0, locals := 120 }) (va_Pc [.int a0] (pr D sz (MO g ad ca gs) (MT ca) (fun _ => True))) (va_Qi (S := Unit) (fun r u => r0 = r) (fun u t9 => po D (va_A (MO g ad ca gs) sz) ((fun u => (MO g ad ca gf)) u) ((fun u => []) u) t9) (va_A (MO g ad ca gs) sz)) 0 0 (va_A (MO g ad ca gs) sz) := by
  refine Met.ofW (cc := b_O_isNumeral) (maxL := 1) (ret := (some .boolean)) (by decide) rfl ?_
  intro p e s m args below meth c s₁ B hml hv
  obtain ⟨rfl, hsz, hP, hK, hD0, hE⟩ := hv
  have hx := B.exec
  have hb := B.bytes
  have hr := B.returns
  have hts0 := atoms_spec (ws := Cond.code y_O_isNumeral b_O_isNumeral 1 (some .boolean) :: wal) B.pre
  have hts : ∀ w ∈ wal, w.before _ s = true := fun w h => hts0 w (List.mem_cons_of_mem _ h)
  have hown : s.vm.findClass rc_O = some m.cls := findClass_of_methodNamed B.named
  have hlocks := B.notSynchronized
  subst hsz
  have hD := hD0.self (sz := s.heap.size)
  generalize hAe : va_A (MO g ad ca gs) s.heap.size = A at hD ⊢
  have hA : ∀ q : Nat, s.heap.size ≤ q → A q := fun q h => by rw [← hAe]; exact Or.inr h
  have hS : va_S A s.heap s.heap [] := va_S.rf
  have hl := lv_entry ([.int a0]) (n := 1) (Nat.le_of_ble_eq_true rfl)
  rw [lg_entry_eq]
  generalize (lg_sl ([.int a0]) ++ List.replicate (1 - (lg_sl ([.int a0])).length) Slot.unset).toArray = ls at hl ⊢
  have hl : lv_has ls 1 [(0, .int a0)] := hl
  have j17 : ∀ (gs : OS) (y0 : Int32) (H : Heap) (locs : List Loc) (ls : Array Slot), rf_isNumeral_17 F gs y0 = some (r0, gf) → va_P D wcl (MO g ad ca gs) H → va_D A (MO g ad ca gs) → va_S A s.heap H locs → lv_has ls 1 [] → W p l e (headSpec (Cond.code y_O_isNumeral b_O_isNumeral 1 (some .boolean) :: wal) ({ frames := 10, cells := 0, slots := 0, locals := 120 })).room s m ([.int a0] : List Value).toArray below meth c H locs 0 0 (MQ below (va_Qi (S := Unit) (fun r u => r0 = r) (fun u t9 => po D (A) ((fun u => (MO g ad ca gf)) u) ((fun u => []) u) t9) (A)) ([.int a0] : List Value).toArray s 0 0 A) (F0 m 17 ls [.int y0]) := by
    intro gs y0 H locs ls hok hP hD hS hl
    rw [rf_isNumeral_17] at hok
    have hn1 := (gd_ok hok).1
    replace hok := (gd_ok hok).2
    obtain ⟨e8, e9⟩ := rt_ok hok
    rw [e9] at hP hD
    have hK9 := hK.sub (tys' := []) [] rfl
    exact W.zret (v := y0) hx hb hr (nar_ib hn1) (fun t9 ht hW => ⟨⟨y0, (), rfl, e8, ⟨by rw [ht]; exact hP, va_K.moved hW.alike hK9, hD⟩⟩, hS.F ht⟩) hS.2.2 d_O_isNumeral_17
  have j16 : ∀ (gs : OS)  (H : Heap) (locs : List Loc) (ls : Array Slot), rf_isNumeral_16 F gs = some (r0, gf) → va_P D wcl (MO g ad ca gs) H → va_D A (MO g ad ca gs) → va_S A s.heap H locs → lv_has ls 1 [] → W p l e (headSpec (Cond.code y_O_isNumeral b_O_isNumeral 1 (some .boolean) :: wal) ({ frames := 10, cells := 0, slots := 0, locals := 120 })).room s m ([.int a0] : List Value).toArray below meth c H locs 0 0 (MQ below (va_Qi (S := Unit) (fun r u => r0 = r) (fun u t9 => po D (A) ((fun u => (MO g ad ca gf)) u) ((fun u => []) u) t9) (A)) ([.int a0] : List Value).toArray s 0 0 A) (F0 m 16 ls []) := by
    intro gs  H locs ls hok hP hD hS hl
    rw [rf_isNumeral_16] at hok
    refine lv_iconst (v := 0) hx hb d_O_isNumeral_16 (by decide) ?_
    exact j17 gs 0 H locs ls hok hP hD hS hl
  refine lv_iload_n hx hb d_O_isNumeral_0 rfl (lv_at hl 0 rfl) ?_
  refine lv_bipush (v := 10) hx hb d_O_isNumeral_1 (by decide) ?_
  refine lv_icmp_lt (tgt := 16) hx hb d_O_isNumeral_3 (by decide) (fun h2 => ?_) (fun h2 => ?_)
  · replace hok := ci_t h2 hok
    exact j16 gs s.heap [] ls hok hP hD hS (lv_sub hl [] rfl)
  · replace hok := ci_f h2 hok
    refine lv_iload_n hx hb d_O_isNumeral_6 rfl (lv_at hl 0 rfl) ?_
    refine lv_bipush (v := 100) hx hb d_O_isNumeral_7 (by decide) ?_
    refine lv_icmp_ge (tgt := 16) hx hb d_O_isNumeral_9 (by decide) (fun h3 => ?_) (fun h3 => ?_)
    · replace hok := ci_t h3 hok
      exact j16 gs s.heap [] ls hok hP hD hS (lv_sub hl [] rfl)
    · replace hok := ci_f h3 hok
      refine lv_iconst (v := 1) hx hb d_O_isNumeral_12 (by decide) ?_
      refine lv_goto (tgt := 17) hx hb d_O_isNumeral_13 (by decide) ?_
      exact j17 gs 1 s.heap [] ls hok hP hD hS (lv_sub hl [] rfl)

set_option maxHeartbeats 4000000 in
set_option maxRecDepth 100000 in
theorem a_itemEnd (l : Launch) (D : va_G) (sz : Nat) (g : Nat) (ad : Nat → Nat) (ca : Nat → ClassId) (F : Nat) (gs : OS) (a1 : Int32) (a2 : Int32) (r0 : Int32) (gf : OS) (hok : rf_itemEnd F gs a1 a2 = some (r0, gf)) : Met l y_O_itemEnd (Cond.code y_O_itemEnd b_O_itemEnd 7 (some .int) :: wal) ({ frames := 10, cells := 0, slots := 0, locals := 120 }) (va_Pc [.ref g, .int a1, .int a2] (pr D sz (MO g ad ca gs) (MT ca) (fun _ => True))) (va_Qi (S := Unit) (fun r u => r0 = r) (fun u t9 => po D (va_A (MO g ad ca gs) sz) ((fun u => (MO g ad ca gf)) u) ((fun u => []) u) t9) (va_A (MO g ad ca gs) sz)) 0 0 (va_A (MO g ad ca gs) sz) := by
  refine Met.ofW (cc := b_O_itemEnd) (maxL := 7) (ret := (some .int)) (by decide) rfl ?_
  intro p e s m args below meth c s₁ B hml hv
  obtain ⟨rfl, hsz, hP, hK, hD0, hE⟩ := hv
  have hx := B.exec
  have hb := B.bytes
  have hr := B.returns
  have hts0 := atoms_spec (ws := Cond.code y_O_itemEnd b_O_itemEnd 7 (some .int) :: wal) B.pre
  have hts : ∀ w ∈ wal, w.before _ s = true := fun w h => hts0 w (List.mem_cons_of_mem _ h)
  have hown : s.vm.findClass rc_O = some m.cls := findClass_of_methodNamed B.named
  have hlocks := B.notSynchronized
  subst hsz
  have hD := hD0.self (sz := s.heap.size)
  generalize hAe : va_A (MO g ad ca gs) s.heap.size = A at hD ⊢
  have hA : ∀ q : Nat, s.heap.size ≤ q → A q := fun q h => by rw [← hAe]; exact Or.inr h
  have hS : va_S A s.heap s.heap [] := va_S.rf
  have hl := lv_entry ([.ref g, .int a1, .int a2]) (n := 7) (Nat.le_of_ble_eq_true rfl)
  rw [lg_entry_eq]
  generalize (lg_sl ([.ref g, .int a1, .int a2]) ++ List.replicate (7 - (lg_sl ([.ref g, .int a1, .int a2])).length) Slot.unset).toArray = ls at hl ⊢
  have hl : lv_has ls 7 [(0, .ref g), (1, .int a1), (2, .int a2)] := hl
  have j8 : ∀ (d8 : Nat) (gs : OS) (x1 : Int32) (x3 : Int32) (x4 : Int32) (x5 : Int32) (H : Heap) (locs : List Loc) (ls : Array Slot), rf_itemEnd_8 F d8 gs x1 x3 x4 x5 = some (r0, gf) → va_P D wcl (MO g ad ca gs) H → va_D A (MO g ad ca gs) → va_S A s.heap H locs → lv_has ls 7 [(0, .ref g), (1, .int x1), (3, .int x3), (4, .int x4), (5, .int x5)] → W p l e (headSpec (Cond.code y_O_itemEnd b_O_itemEnd 7 (some .int) :: wal) ({ frames := 10, cells := 0, slots := 0, locals := 120 })).room s m ([.ref g, .int a1, .int a2] : List Value).toArray below meth c H locs 0 0 (MQ below (va_Qi (S := Unit) (fun r u => r0 = r) (fun u t9 => po D (A) ((fun u => (MO g ad ca gf)) u) ((fun u => []) u) t9) (A)) ([.ref g, .int a1, .int a2] : List Value).toArray s 0 0 A) (F0 m 8 ls []) := by
    intro d8
    induction d8 with
    | zero =>
      intro gs x1 x3 x4 x5 H locs ls hok
      have h9 : (none : RO) = some (r0, gf) := hok
      cases h9
    | succ d8 ih8 =>
      have j65 : ∀ (gs : OS) (x1 : Int32) (x3 : Int32) (x4 : Int32) (y0 : Int32) (H : Heap) (locs : List Loc) (ls : Array Slot), rf_itemEnd_65 F (rf_itemEnd_8 F d8) gs x1 x3 x4 y0 = some (r0, gf) → va_P D wcl (MO g ad ca gs) H → va_D A (MO g ad ca gs) → va_S A s.heap H locs → lv_has ls 7 [(0, .ref g), (1, .int x1), (3, .int x3), (4, .int x4)] → W p l e (headSpec (Cond.code y_O_itemEnd b_O_itemEnd 7 (some .int) :: wal) ({ frames := 10, cells := 0, slots := 0, locals := 120 })).room s m ([.ref g, .int a1, .int a2] : List Value).toArray below meth c H locs 0 0 (MQ below (va_Qi (S := Unit) (fun r u => r0 = r) (fun u t9 => po D (A) ((fun u => (MO g ad ca gf)) u) ((fun u => []) u) t9) (A)) ([.ref g, .int a1, .int a2] : List Value).toArray s 0 0 A) (F0 m 65 ls [.int y0]) := by
        intro gs x1 x3 x4 y0 H locs ls hok hP hD hS hl
        rw [rf_itemEnd_65] at hok
        refine lv_istore hx hb d_O_itemEnd_65 hl (by decide) rfl (fun ls hl => ?_)
        have hl : lv_has ls 7 [(5, .int y0), (0, .ref g), (1, .int x1), (3, .int x3), (4, .int x4)] := hl
        refine lv_goto (tgt := 8) hx hb d_O_itemEnd_67 (by decide) ?_
        exact ih8 gs x1 x3 x4 y0 H locs ls hok hP hD hS (lv_sub hl [1, 2, 3, 4, 0] rfl)
      have j52 : ∀ (gs : OS) (x1 : Int32) (x3 : Int32) (x4 : Int32) (H : Heap) (locs : List Loc) (ls : Array Slot), rf_itemEnd_52 F (rf_itemEnd_8 F d8) gs x1 x3 x4 = some (r0, gf) → va_P D wcl (MO g ad ca gs) H → va_D A (MO g ad ca gs) → va_S A s.heap H locs → lv_has ls 7 [(0, .ref g), (1, .int x1), (3, .int x3), (4, .int x4)] → W p l e (headSpec (Cond.code y_O_itemEnd b_O_itemEnd 7 (some .int) :: wal) ({ frames := 10, cells := 0, slots := 0, locals := 120 })).room s m ([.ref g, .int a1, .int a2] : List Value).toArray below meth c H locs 0 0 (MQ below (va_Qi (S := Unit) (fun r u => r0 = r) (fun u t9 => po D (A) ((fun u => (MO g ad ca gf)) u) ((fun u => []) u) t9) (A)) ([.ref g, .int a1, .int a2] : List Value).toArray s 0 0 A) (F0 m 52 ls []) := by
        intro gs x1 x3 x4 H locs ls hok hP hD hS hl
        rw [rf_itemEnd_52] at hok
        refine lv_iinc (k := 2) (v := (x3 + 1)) hx hb d_O_itemEnd_52 hl rfl (by rfl) (by decide) rfl (fun ls hl => ?_)
        have hl : lv_has ls 7 [(3, .int (x3 + 1)), (0, .ref g), (1, .int x1), (4, .int x4)] := hl
        refine lv_iload hx hb d_O_itemEnd_55 (lv_at hl 3 rfl) ?_
        refine lv_if_le (tgt := 64) hx hb d_O_itemEnd_57 (by decide) (fun h1 => ?_) (fun h1 => ?_)
        · replace hok := ci_t h1 hok
          refine lv_iconst (v := 0) hx hb d_O_itemEnd_64 (by decide) ?_
          exact j65 gs x1 (x3 + 1) x4 0 H locs ls hok hP hD hS (lv_sub hl [1, 2, 0, 3] rfl)
        · replace hok := ci_f h1 hok
          refine lv_iconst (v := 1) hx hb d_O_itemEnd_60 (by decide) ?_
          refine lv_goto (tgt := 65) hx hb d_O_itemEnd_61 (by decide) ?_
          exact j65 gs x1 (x3 + 1) x4 1 H locs ls hok hP hD hS (lv_sub hl [1, 2, 0, 3] rfl)
      have j43 : ∀ (gs : OS) (x1 : Int32) (x3 : Int32) (x4 : Int32) (x6 : Int32) (H : Heap) (locs : List Loc) (ls : Array Slot), rf_itemEnd_43 F (rf_itemEnd_8 F d8) gs x1 x3 x4 x6 = some (r0, gf) → va_P D wcl (MO g ad ca gs) H → va_D A (MO g ad ca gs) → va_S A s.heap H locs → lv_has ls 7 [(0, .ref g), (1, .int x1), (3, .int x3), (4, .int x4), (6, .int x6)] → W p l e (headSpec (Cond.code y_O_itemEnd b_O_itemEnd 7 (some .int) :: wal) ({ frames := 10, cells := 0, slots := 0, locals := 120 })).room s m ([.ref g, .int a1, .int a2] : List Value).toArray below meth c H locs 0 0 (MQ below (va_Qi (S := Unit) (fun r u => r0 = r) (fun u t9 => po D (A) ((fun u => (MO g ad ca gf)) u) ((fun u => []) u) t9) (A)) ([.ref g, .int a1, .int a2] : List Value).toArray s 0 0 A) (F0 m 43 ls []) := by
        intro gs x1 x3 x4 x6 H locs ls hok hP hD hS hl
        rw [rf_itemEnd_43] at hok
        refine lv_iload hx hb d_O_itemEnd_43 (lv_at hl 4 rfl) ?_
        refine lv_iconst (v := 2) hx hb d_O_itemEnd_45 (by decide) ?_
        refine lv_icmp_ne (tgt := 52) hx hb d_O_itemEnd_46 (by decide) (fun h2 => ?_) (fun h2 => ?_)
        · replace hok := ci_f h2 hok
          exact j52 gs x1 x3 x4 H locs ls hok hP hD hS (lv_sub hl [0, 1, 2, 3] rfl)
        · replace hok := ci_t h2 hok
          refine lv_iinc (k := 3) (v := (x4 + (-1))) hx hb d_O_itemEnd_49 hl rfl (by rfl) (by decide) rfl (fun ls hl => ?_)
          have hl : lv_has ls 7 [(4, .int (x4 + (-1))), (0, .ref g), (1, .int x1), (3, .int x3), (6, .int x6)] := hl
          exact j52 gs x1 x3 (x4 + (-1)) H locs ls hok hP hD hS (lv_sub hl [1, 2, 3, 0] rfl)
      have j32 : ∀ (gs : OS) (x1 : Int32) (x3 : Int32) (x4 : Int32) (y0 : Int32) (H : Heap) (locs : List Loc) (ls : Array Slot), rf_itemEnd_32 F (rf_itemEnd_8 F d8) gs x1 x3 x4 y0 = some (r0, gf) → va_P D wcl (MO g ad ca gs) H → va_D A (MO g ad ca gs) → va_S A s.heap H locs → lv_has ls 7 [(0, .ref g), (1, .int x1), (3, .int x3), (4, .int x4)] → W p l e (headSpec (Cond.code y_O_itemEnd b_O_itemEnd 7 (some .int) :: wal) ({ frames := 10, cells := 0, slots := 0, locals := 120 })).room s m ([.ref g, .int a1, .int a2] : List Value).toArray below meth c H locs 0 0 (MQ below (va_Qi (S := Unit) (fun r u => r0 = r) (fun u t9 => po D (A) ((fun u => (MO g ad ca gf)) u) ((fun u => []) u) t9) (A)) ([.ref g, .int a1, .int a2] : List Value).toArray s 0 0 A) (F0 m 32 ls [.int y0]) := by
        intro gs x1 x3 x4 y0 H locs ls hok hP hD hS hl
        rw [rf_itemEnd_32] at hok
        refine lv_istore hx hb d_O_itemEnd_32 hl (by decide) rfl (fun ls hl => ?_)
        have hl : lv_has ls 7 [(6, .int y0), (0, .ref g), (1, .int x1), (3, .int x3), (4, .int x4)] := hl
        refine lv_iload hx hb d_O_itemEnd_34 (lv_at hl 0 rfl) ?_
        refine lv_iconst (v := 1) hx hb d_O_itemEnd_36 (by decide) ?_
        refine lv_icmp_ne (tgt := 43) hx hb d_O_itemEnd_37 (by decide) (fun h3 => ?_) (fun h3 => ?_)
        · replace hok := ci_f h3 hok
          exact j43 gs x1 x3 x4 y0 H locs ls hok hP hD hS (lv_sub hl [1, 2, 3, 4, 0] rfl)
        · replace hok := ci_t h3 hok
          refine lv_iinc (k := 4) (v := (x4 + 1)) hx hb d_O_itemEnd_40 hl rfl (by rfl) (by decide) rfl (fun ls hl => ?_)
          have hl : lv_has ls 7 [(4, .int (x4 + 1)), (6, .int y0), (0, .ref g), (1, .int x1), (3, .int x3)] := hl
          exact j43 gs x1 x3 (x4 + 1) y0 H locs ls hok hP hD hS (lv_sub hl [2, 3, 4, 0, 1] rfl)
      intro gs x1 x3 x4 x5 H locs ls hok hP hD hS hl
      rw [rf_itemEnd_8] at hok
      refine lv_iload hx hb d_O_itemEnd_8 (lv_at hl 4 rfl) ?_
      refine lv_if_eq (tgt := 70) hx hb d_O_itemEnd_10 (by decide) (fun h4 => ?_) (fun h4 => ?_)
      · replace hok := ci_t h4 hok
        refine lv_iload_n hx hb d_O_itemEnd_70 rfl (lv_at hl 2 rfl) ?_
        obtain ⟨e8, e9⟩ := rt_ok hok
        rw [e9] at hP hD
        have hK9 := hK.sub (tys' := []) [] rfl
        exact W.iret (v := x3) hx hb hr (fun t9 ht hW => ⟨⟨x3, (), rfl, e8, ⟨by rw [ht]; exact hP, va_K.moved hW.alike hK9, hD⟩⟩, hS.F ht⟩) hS.2.2 d_O_itemEnd_71
      · replace hok := ci_f h4 hok
        refine lv_iload_n hx hb d_O_itemEnd_13 rfl (lv_at hl 1 rfl) ?_
        refine lv_if_eq (tgt := 26) hx hb d_O_itemEnd_14 (by decide) (fun h5 => ?_) (fun h5 => ?_)
        · replace hok := ci_t h5 hok
          refine lv_aload_n hx hb d_O_itemEnd_26 rfl (lv_at hl 0 rfl) ?_
          refine va_get (D := D) (ci := 8) (v := .ref (ad 8)) (C := rc_O) (T := ft_O) (N := 42) hx hb hts in_O hown hK hP 0 rfl rfl 8 (by decide) (hts _ k_663) (fun _ h9 => h9) rfl d_O_itemEnd_27 ?_
          refine lv_iload_n hx hb d_O_itemEnd_30 rfl (lv_at hl 2 rfl) ?_
          have hi6 := (gd_ok hok).1
          replace hok := (gd_ok hok).2
          refine va_iald hx hb hK hP 5 4 rfl rfl (hi6) d_O_itemEnd_31 ?_
          exact j32 gs x1 x3 x4 ((gs.2 8) x3.toNatClampNeg) H locs ls hok hP hD hS (lv_sub hl [0, 1, 2, 3] rfl)
        · replace hok := ci_f h5 hok
          refine lv_aload_n hx hb d_O_itemEnd_17 rfl (lv_at hl 0 rfl) ?_
          refine va_get (D := D) (ci := 8) (v := .ref (ad 10)) (C := rc_O) (T := ft_O) (N := 42) hx hb hts in_O hown hK hP 0 rfl rfl 10 (by decide) (hts _ k_665) (fun _ h9 => h9) rfl d_O_itemEnd_18 ?_
          refine lv_iload_n hx hb d_O_itemEnd_21 rfl (lv_at hl 2 rfl) ?_
          have hi7 := (gd_ok hok).1
          replace hok := (gd_ok hok).2
          refine va_iald hx hb hK hP 7 6 rfl rfl (hi7) d_O_itemEnd_22 ?_
          refine lv_goto (tgt := 32) hx hb d_O_itemEnd_23 (by decide) ?_
          exact j32 gs x1 x3 x4 ((gs.2 10) x3.toNatClampNeg) H locs ls hok hP hD hS (lv_sub hl [0, 1, 2, 3] rfl)
  refine lv_iload_n hx hb d_O_itemEnd_0 rfl (lv_at hl 2 rfl) ?_
  refine lv_istore_n hx hb d_O_itemEnd_1 rfl hl (by decide) rfl (fun ls hl => ?_)
  have hl : lv_has ls 7 [(3, .int a2), (0, .ref g), (1, .int a1), (2, .int a2)] := hl
  refine lv_iconst (v := 0) hx hb d_O_itemEnd_2 (by decide) ?_
  refine lv_istore hx hb d_O_itemEnd_3 hl (by decide) rfl (fun ls hl => ?_)
  have hl : lv_has ls 7 [(4, .int 0), (3, .int a2), (0, .ref g), (1, .int a1), (2, .int a2)] := hl
  refine lv_iconst (v := 1) hx hb d_O_itemEnd_5 (by decide) ?_
  refine lv_istore hx hb d_O_itemEnd_6 hl (by decide) rfl (fun ls hl => ?_)
  have hl : lv_has ls 7 [(5, .int 1), (4, .int 0), (3, .int a2), (0, .ref g), (1, .int a1), (2, .int a2)] := hl
  exact j8 F gs a1 a2 0 1 s.heap [] ls hok hP hD hS (lv_sub hl [3, 4, 2, 1, 0] rfl)

set_option maxHeartbeats 4000000 in
set_option maxRecDepth 100000 in
theorem a_letterOf (l : Launch) (D : va_G) (sz : Nat) (g : Nat) (ad : Nat → Nat) (ca : Nat → ClassId) (F : Nat) (gs : OS) (a0 : Int32) (r0 : Int32) (gf : OS) (hok : rf_letterOf F gs a0 = some (r0, gf)) : Met l y_O_letterOf (Cond.code y_O_letterOf b_O_letterOf 1 (some .int) :: wal) ({ frames := 10, cells := 0, slots := 0, locals := 120 }) (va_Pc [.int a0] (pr D sz (MO g ad ca gs) (MT ca) (fun _ => True))) (va_Qi (S := Unit) (fun r u => r0 = r) (fun u t9 => po D (va_A (MO g ad ca gs) sz) ((fun u => (MO g ad ca gf)) u) ((fun u => []) u) t9) (va_A (MO g ad ca gs) sz)) 0 0 (va_A (MO g ad ca gs) sz) := by
  refine Met.ofW (cc := b_O_letterOf) (maxL := 1) (ret := (some .int)) (by decide) rfl ?_
  intro p e s m args below meth c s₁ B hml hv
  obtain ⟨rfl, hsz, hP, hK, hD0, hE⟩ := hv
  have hx := B.exec
  have hb := B.bytes
  have hr := B.returns
  have hts0 := atoms_spec (ws := Cond.code y_O_letterOf b_O_letterOf 1 (some .int) :: wal) B.pre
  have hts : ∀ w ∈ wal, w.before _ s = true := fun w h => hts0 w (List.mem_cons_of_mem _ h)
  have hown : s.vm.findClass rc_O = some m.cls := findClass_of_methodNamed B.named
  have hlocks := B.notSynchronized
  subst hsz
  have hD := hD0.self (sz := s.heap.size)
  generalize hAe : va_A (MO g ad ca gs) s.heap.size = A at hD ⊢
  have hA : ∀ q : Nat, s.heap.size ≤ q → A q := fun q h => by rw [← hAe]; exact Or.inr h
  have hS : va_S A s.heap s.heap [] := va_S.rf
  have hl := lv_entry ([.int a0]) (n := 1) (Nat.le_of_ble_eq_true rfl)
  rw [lg_entry_eq]
  generalize (lg_sl ([.int a0]) ++ List.replicate (1 - (lg_sl ([.int a0])).length) Slot.unset).toArray = ls at hl ⊢
  have hl : lv_has ls 1 [(0, .int a0)] := hl
  refine lv_iload_n hx hb d_O_letterOf_0 rfl (lv_at hl 0 rfl) ?_
  refine lv_bipush (v := 100) hx hb d_O_letterOf_1 (by decide) ?_
  refine lv_isub hx hb d_O_letterOf_3 ?_
  refine lv_bipush (v := 31) hx hb d_O_letterOf_4 (by decide) ?_
  refine lv_iand hx hb d_O_letterOf_6 ?_
  obtain ⟨e8, e9⟩ := rt_ok hok
  rw [e9] at hP hD
  have hK9 := hK.sub (tys' := []) [] rfl
  exact W.iret (v := ((a0 - 100) &&& 31)) hx hb hr (fun t9 ht hW => ⟨⟨((a0 - 100) &&& 31), (), rfl, e8, ⟨by rw [ht]; exact hP, va_K.moved hW.alike hK9, hD⟩⟩, hS.F ht⟩) hS.2.2 d_O_letterOf_7

set_option maxHeartbeats 4000000 in
set_option maxRecDepth 100000 in
theorem a_levelOf (l : Launch) (D : va_G) (sz : Nat) (g : Nat) (ad : Nat → Nat) (ca : Nat → ClassId) (F : Nat) (gs : OS) (a1 : Int32) (r0 : Int32) (gf : OS) (hok : rf_levelOf F gs a1 = some (r0, gf)) : Met l y_O_levelOf (Cond.code y_O_levelOf b_O_levelOf 3 (some .int) :: wal) ({ frames := 10, cells := 0, slots := 0, locals := 120 }) (va_Pc [.ref g, .int a1] (pr D sz (MO g ad ca gs) (MT ca) (fun _ => True))) (va_Qi (S := Unit) (fun r u => r0 = r) (fun u t9 => po D (va_A (MO g ad ca gs) sz) ((fun u => (MO g ad ca gf)) u) ((fun u => []) u) t9) (va_A (MO g ad ca gs) sz)) 0 0 (va_A (MO g ad ca gs) sz) := by
  refine Met.ofW (cc := b_O_levelOf) (maxL := 3) (ret := (some .int)) (by decide) rfl ?_
  intro p e s m args below meth c s₁ B hml hv
  obtain ⟨rfl, hsz, hP, hK, hD0, hE⟩ := hv
  have hx := B.exec
  have hb := B.bytes
  have hr := B.returns
  have hts0 := atoms_spec (ws := Cond.code y_O_levelOf b_O_levelOf 3 (some .int) :: wal) B.pre
  have hts : ∀ w ∈ wal, w.before _ s = true := fun w h => hts0 w (List.mem_cons_of_mem _ h)
  have hown : s.vm.findClass rc_O = some m.cls := findClass_of_methodNamed B.named
  have hlocks := B.notSynchronized
  subst hsz
  have hD := hD0.self (sz := s.heap.size)
  generalize hAe : va_A (MO g ad ca gs) s.heap.size = A at hD ⊢
  have hA : ∀ q : Nat, s.heap.size ≤ q → A q := fun q h => by rw [← hAe]; exact Or.inr h
  have hS : va_S A s.heap s.heap [] := va_S.rf
  have hl := lv_entry ([.ref g, .int a1]) (n := 3) (Nat.le_of_ble_eq_true rfl)
  rw [lg_entry_eq]
  generalize (lg_sl ([.ref g, .int a1]) ++ List.replicate (3 - (lg_sl ([.ref g, .int a1])).length) Slot.unset).toArray = ls at hl ⊢
  have hl : lv_has ls 3 [(0, .ref g), (1, .int a1)] := hl
  have j27 : ∀ (gs : OS) (x2 : Int32) (H : Heap) (locs : List Loc) (ls : Array Slot), rf_levelOf_27 F gs x2 = some (r0, gf) → va_P D wcl (MO g ad ca gs) H → va_D A (MO g ad ca gs) → va_S A s.heap H locs → lv_has ls 3 [(0, .ref g), (2, .int x2)] → W p l e (headSpec (Cond.code y_O_levelOf b_O_levelOf 3 (some .int) :: wal) ({ frames := 10, cells := 0, slots := 0, locals := 120 })).room s m ([.ref g, .int a1] : List Value).toArray below meth c H locs 0 0 (MQ below (va_Qi (S := Unit) (fun r u => r0 = r) (fun u t9 => po D (A) ((fun u => (MO g ad ca gf)) u) ((fun u => []) u) t9) (A)) ([.ref g, .int a1] : List Value).toArray s 0 0 A) (F0 m 27 ls []) := by
    intro gs x2 H locs ls hok hP hD hS hl
    rw [rf_levelOf_27] at hok
    refine lv_iload_n hx hb d_O_levelOf_27 rfl (lv_at hl 1 rfl) ?_
    obtain ⟨e8, e9⟩ := rt_ok hok
    rw [e9] at hP hD
    have hK9 := hK.sub (tys' := []) [] rfl
    exact W.iret (v := x2) hx hb hr (fun t9 ht hW => ⟨⟨x2, (), rfl, e8, ⟨by rw [ht]; exact hP, va_K.moved hW.alike hK9, hD⟩⟩, hS.F ht⟩) hS.2.2 d_O_levelOf_28
  have j7 : ∀ (d7 : Nat) (gs : OS) (x1 : Int32) (x2 : Int32) (H : Heap) (locs : List Loc) (ls : Array Slot), rf_levelOf_7 F d7 gs x1 x2 = some (r0, gf) → va_P D wcl (MO g ad ca gs) H → va_D A (MO g ad ca gs) → va_S A s.heap H locs → lv_has ls 3 [(0, .ref g), (1, .int x1), (2, .int x2)] → W p l e (headSpec (Cond.code y_O_levelOf b_O_levelOf 3 (some .int) :: wal) ({ frames := 10, cells := 0, slots := 0, locals := 120 })).room s m ([.ref g, .int a1] : List Value).toArray below meth c H locs 0 0 (MQ below (va_Qi (S := Unit) (fun r u => r0 = r) (fun u t9 => po D (A) ((fun u => (MO g ad ca gf)) u) ((fun u => []) u) t9) (A)) ([.ref g, .int a1] : List Value).toArray s 0 0 A) (F0 m 7 ls []) := by
    intro d7
    induction d7 with
    | zero =>
      intro gs x1 x2 H locs ls hok
      have h9 : (none : RO) = some (r0, gf) := hok
      cases h9
    | succ d7 ih7 =>
      intro gs x1 x2 H locs ls hok hP hD hS hl
      rw [rf_levelOf_7] at hok
      refine lv_iload_n hx hb d_O_levelOf_7 rfl (lv_at hl 2 rfl) ?_
      refine lv_if_lt (tgt := 27) hx hb d_O_levelOf_8 (by decide) (fun h1 => ?_) (fun h1 => ?_)
      · replace hok := ci_t h1 hok
        exact j27 gs x2 H locs ls hok hP hD hS (lv_sub hl [0, 2] rfl)
      · replace hok := ci_f h1 hok
        refine lv_aload_n hx hb d_O_levelOf_11 rfl (lv_at hl 0 rfl) ?_
        refine va_get (D := D) (ci := 8) (v := .ref (ad 35)) (C := rc_O) (T := ft_O) (N := 42) hx hb hts in_O hown hK hP 0 rfl rfl 35 (by decide) (hts _ k_690) (fun _ h9 => h9) rfl d_O_levelOf_12 ?_
        refine lv_iload_n hx hb d_O_levelOf_15 rfl (lv_at hl 2 rfl) ?_
        have hi2 := (gd_ok hok).1
        replace hok := (gd_ok hok).2
        refine va_iald hx hb hK hP 19 18 rfl rfl (hi2) d_O_levelOf_16 ?_
        refine lv_iload_n hx hb d_O_levelOf_17 rfl (lv_at hl 1 rfl) ?_
        refine lv_icmp_eq (tgt := 27) hx hb d_O_levelOf_18 (by decide) (fun h3 => ?_) (fun h3 => ?_)
        · replace hok := ci_t h3 hok
          exact j27 gs x2 H locs ls hok hP hD hS (lv_sub hl [0, 2] rfl)
        · replace hok := ci_f h3 hok
          refine lv_iinc (k := 2) (v := (x2 + (-1))) hx hb d_O_levelOf_21 hl rfl (by rfl) (by decide) rfl (fun ls hl => ?_)
          have hl : lv_has ls 3 [(2, .int (x2 + (-1))), (0, .ref g), (1, .int x1)] := hl
          refine lv_goto (tgt := 7) hx hb d_O_levelOf_24 (by decide) ?_
          exact ih7 gs x1 (x2 + (-1)) H locs ls hok hP hD hS (lv_sub hl [1, 2, 0] rfl)
  refine lv_aload_n hx hb d_O_levelOf_0 rfl (lv_at hl 0 rfl) ?_
  refine va_get (D := D) (ci := 8) (v := .int (gs.1 34)) (C := rc_O) (T := ft_O) (N := 42) hx hb hts in_O hown hK hP 0 rfl rfl 34 (by decide) (hts _ k_689) (fun _ h9 => h9) rfl d_O_levelOf_1 ?_
  refine lv_iconst (v := 1) hx hb d_O_levelOf_4 (by decide) ?_
  refine lv_isub hx hb d_O_levelOf_5 ?_
  refine lv_istore_n hx hb d_O_levelOf_6 rfl hl (by decide) rfl (fun ls hl => ?_)
  have hl : lv_has ls 3 [(2, .int ((gs.1 34) - 1)), (0, .ref g), (1, .int a1)] := hl
  exact j7 F gs a1 ((gs.1 34) - 1) s.heap [] ls hok hP hD hS (lv_sub hl [1, 2, 0] rfl)

set_option maxHeartbeats 4000000 in
set_option maxRecDepth 100000 in
theorem a_mark (l : Launch) (D : va_G) (sz : Nat) (g : Nat) (ad : Nat → Nat) (ca : Nat → ClassId) (F : Nat) (gs : OS) (a1 : Int32) (r0 : Int32) (gf : OS) (hok : rf_mark F gs a1 = some (r0, gf)) : Met l y_O_mark (Cond.code y_O_mark b_O_mark 2 (some .int) :: wal) ({ frames := 10, cells := 0, slots := 0, locals := 120 }) (va_Pc [.ref g, .int a1] (pr D sz (MO g ad ca gs) (MT ca) (fun _ => True))) (va_Qi (S := Unit) (fun r u => r0 = r) (fun u t9 => po D (va_A (MO g ad ca gs) sz) ((fun u => (MO g ad ca gf)) u) ((fun u => []) u) t9) (va_A (MO g ad ca gs) sz)) 0 0 (va_A (MO g ad ca gs) sz) := by
  refine Met.ofW (cc := b_O_mark) (maxL := 2) (ret := (some .int)) (by decide) rfl ?_
  intro p e s m args below meth c s₁ B hml hv
  obtain ⟨rfl, hsz, hP, hK, hD0, hE⟩ := hv
  have hx := B.exec
  have hb := B.bytes
  have hr := B.returns
  have hts0 := atoms_spec (ws := Cond.code y_O_mark b_O_mark 2 (some .int) :: wal) B.pre
  have hts : ∀ w ∈ wal, w.before _ s = true := fun w h => hts0 w (List.mem_cons_of_mem _ h)
  have hown : s.vm.findClass rc_O = some m.cls := findClass_of_methodNamed B.named
  have hlocks := B.notSynchronized
  subst hsz
  have hD := hD0.self (sz := s.heap.size)
  generalize hAe : va_A (MO g ad ca gs) s.heap.size = A at hD ⊢
  have hA : ∀ q : Nat, s.heap.size ≤ q → A q := fun q h => by rw [← hAe]; exact Or.inr h
  have hS : va_S A s.heap s.heap [] := va_S.rf
  have hl := lv_entry ([.ref g, .int a1]) (n := 2) (Nat.le_of_ble_eq_true rfl)
  rw [lg_entry_eq]
  generalize (lg_sl ([.ref g, .int a1]) ++ List.replicate (2 - (lg_sl ([.ref g, .int a1])).length) Slot.unset).toArray = ls at hl ⊢
  have hl : lv_has ls 2 [(0, .ref g), (1, .int a1)] := hl
  have j28 : ∀ (gs : OS) (y0 : Int32) (H : Heap) (locs : List Loc) (ls : Array Slot), rf_mark_28 F gs y0 = some (r0, gf) → va_P D wcl (MO g ad ca gs) H → va_D A (MO g ad ca gs) → va_S A s.heap H locs → lv_has ls 2 [(0, .ref g)] → W p l e (headSpec (Cond.code y_O_mark b_O_mark 2 (some .int) :: wal) ({ frames := 10, cells := 0, slots := 0, locals := 120 })).room s m ([.ref g, .int a1] : List Value).toArray below meth c H locs 0 0 (MQ below (va_Qi (S := Unit) (fun r u => r0 = r) (fun u t9 => po D (A) ((fun u => (MO g ad ca gf)) u) ((fun u => []) u) t9) (A)) ([.ref g, .int a1] : List Value).toArray s 0 0 A) (F0 m 28 ls [.int y0]) := by
    intro gs y0 H locs ls hok hP hD hS hl
    rw [rf_mark_28] at hok
    obtain ⟨e8, e9⟩ := rt_ok hok
    rw [e9] at hP hD
    have hK9 := hK.sub (tys' := []) [] rfl
    exact W.iret (v := y0) hx hb hr (fun t9 ht hW => ⟨⟨y0, (), rfl, e8, ⟨by rw [ht]; exact hP, va_K.moved hW.alike hK9, hD⟩⟩, hS.F ht⟩) hS.2.2 d_O_mark_28
  have j17 : ∀ (gs : OS)  (H : Heap) (locs : List Loc) (ls : Array Slot), rf_mark_17 F gs = some (r0, gf) → va_P D wcl (MO g ad ca gs) H → va_D A (MO g ad ca gs) → va_S A s.heap H locs → lv_has ls 2 [(0, .ref g)] → W p l e (headSpec (Cond.code y_O_mark b_O_mark 2 (some .int) :: wal) ({ frames := 10, cells := 0, slots := 0, locals := 120 })).room s m ([.ref g, .int a1] : List Value).toArray below meth c H locs 0 0 (MQ below (va_Qi (S := Unit) (fun r u => r0 = r) (fun u t9 => po D (A) ((fun u => (MO g ad ca gf)) u) ((fun u => []) u) t9) (A)) ([.ref g, .int a1] : List Value).toArray s 0 0 A) (F0 m 17 ls []) := by
    intro gs  H locs ls hok hP hD hS hl
    rw [rf_mark_17] at hok
    refine lv_bipush (v := -99) hx hb d_O_mark_17 (by decide) ?_
    refine lv_goto (tgt := 28) hx hb d_O_mark_19 (by decide) ?_
    exact j28 gs (-99) H locs ls hok hP hD hS hl
  refine lv_aload_n hx hb d_O_mark_0 rfl (lv_at hl 0 rfl) ?_
  refine lv_iconst (v := 0) hx hb d_O_mark_1 (by decide) ?_
  refine va_put (D := D) (ci := 8) (v := .int 0) (ty := .int) (C := rc_O) (T := ft_O) (N := 42) hx hb hts in_O ty_O tk_O nm_O hown hK hP hD hS 0 rfl rfl 0 (by decide) (hts _ k_655) (fun _ h9 => h9) rfl (by decide +kernel) rfl rfl (Nat.le_of_ble_eq_true rfl) d_O_mark_2 (fun H locs hP hD hS => ?_)
  have hP : va_P D wcl (MO g ad ca (sI gs 0 0)) H := hP
  have hD : va_D A (MO g ad ca (sI gs 0 0)) := hD
  refine lv_iload_n hx hb d_O_mark_5 rfl (lv_at hl 1 rfl) ?_
  refine lv_if_lt (tgt := 17) hx hb d_O_mark_6 (by decide) (fun h1 => ?_) (fun h1 => ?_)
  · replace hok := ci_t h1 hok
    exact j17 (sI gs 0 0) H locs ls hok hP hD hS (lv_sub hl [0] rfl)
  · replace hok := ci_f h1 hok
    refine lv_iload_n hx hb d_O_mark_9 rfl (lv_at hl 1 rfl) ?_
    refine lv_aload_n hx hb d_O_mark_10 rfl (lv_at hl 0 rfl) ?_
    refine va_get (D := D) (ci := 8) (v := .int (gs.1 38)) (C := rc_O) (T := ft_O) (N := 42) hx hb hts in_O hown hK hP 0 rfl rfl 38 (by decide) (hts _ k_693) (fun _ h9 => h9) rfl d_O_mark_11 ?_
    refine lv_icmp_lt (tgt := 22) hx hb d_O_mark_14 (by decide) (fun h2 => ?_) (fun h2 => ?_)
    · replace hok := ci_t h2 hok
      refine lv_aload_n hx hb d_O_mark_22 rfl (lv_at hl 0 rfl) ?_
      refine va_get (D := D) (ci := 8) (v := .ref (ad 39)) (C := rc_O) (T := ft_O) (N := 42) hx hb hts in_O hown hK hP 0 rfl rfl 39 (by decide) (hts _ k_694) (fun _ h9 => h9) rfl d_O_mark_23 ?_
      refine lv_iload_n hx hb d_O_mark_26 rfl (lv_at hl 1 rfl) ?_
      have hi3 := (gd_ok hok).1
      replace hok := (gd_ok hok).2
      refine va_iald hx hb hK hP 20 19 rfl rfl (hi3) d_O_mark_27 ?_
      exact j28 (sI gs 0 0) ((gs.2 39) a1.toNatClampNeg) H locs ls hok hP hD hS (lv_sub hl [0] rfl)
    · replace hok := ci_f h2 hok
      exact j17 (sI gs 0 0) H locs ls hok hP hD hS (lv_sub hl [0] rfl)
