set_option maxHeartbeats 4000000 in
set_option maxRecDepth 100000 in
theorem a_emitPlain (l : Launch) (D : va_G) (sz : Nat) (g : Nat) (ad : Nat → Nat) (ca : Nat → ClassId) (F : Nat) (gs : OS) (a1 : Int32) (a2 : Int32) (a3 : Int32) (a4 : Int32) (r0 : Int32) (gf : OS) (hok : rf_emitPlain F gs a1 a2 a3 a4 = some (r0, gf)) : Met l y_O_emitPlain (Cond.code y_O_emitPlain b_O_emitPlain 8 none :: wal) ({ frames := 12, cells := 0, slots := 0, locals := 240 }) (va_Pc [.ref g, .int a1, .int a2, .int a3, .int a4] (pr D sz (MO g ad ca gs) (MT ca) (fun _ => True))) (va_Qv (S := Unit) (fun u => True) (fun u t9 => po D (va_A (MO g ad ca gs) sz) ((fun u => (MO g ad ca gf)) u) ((fun u => []) u) t9) (va_A (MO g ad ca gs) sz)) 0 0 (va_A (MO g ad ca gs) sz) := by
  refine Met.ofW (cc := b_O_emitPlain) (maxL := 8) (ret := none) (by decide) rfl ?_
  intro p e s m args below meth c s₁ B hml hv
  obtain ⟨rfl, hsz, hP, hK, hD0, hE⟩ := hv
  have hx := B.exec
  have hb := B.bytes
  have hr := B.returns
  have hts0 := atoms_spec (ws := Cond.code y_O_emitPlain b_O_emitPlain 8 none :: wal) B.pre
  have hts : ∀ w ∈ wal, w.before _ s = true := fun w h => hts0 w (List.mem_cons_of_mem _ h)
  have hown : s.vm.findClass rc_O = some m.cls := findClass_of_methodNamed B.named
  have hlocks := B.notSynchronized
  subst hsz
  have hD := hD0.self (sz := s.heap.size)
  generalize hAe : va_A (MO g ad ca gs) s.heap.size = A at hD ⊢
  have hA : ∀ q : Nat, s.heap.size ≤ q → A q := fun q h => by rw [← hAe]; exact Or.inr h
  have hS : va_S A s.heap s.heap [] := va_S.rf
  have hl := lv_entry ([.ref g, .int a1, .int a2, .int a3, .int a4]) (n := 8) (Nat.le_of_ble_eq_true rfl)
  rw [lg_entry_eq]
  generalize (lg_sl ([.ref g, .int a1, .int a2, .int a3, .int a4]) ++ List.replicate (8 - (lg_sl ([.ref g, .int a1, .int a2, .int a3, .int a4])).length) Slot.unset).toArray = ls at hl ⊢
  have hl : lv_has ls 8 [(0, .ref g), (1, .int a1), (2, .int a2), (3, .int a3), (4, .int a4)] := hl
  have j135 : ∀ (gs : OS)  (H : Heap) (locs : List Loc) (ls : Array Slot), rf_emitPlain_135 F gs = some (r0, gf) → va_P D wcl (MO g ad ca gs) H → va_D A (MO g ad ca gs) → va_S A s.heap H locs → lv_has ls 8 [(0, .ref g)] → W p l e (headSpec (Cond.code y_O_emitPlain b_O_emitPlain 8 none :: wal) ({ frames := 12, cells := 0, slots := 0, locals := 240 })).room s m ([.ref g, .int a1, .int a2, .int a3, .int a4] : List Value).toArray below meth c H locs 0 0 (MQ below (va_Qv (S := Unit) (fun u => True) (fun u t9 => po D (A) ((fun u => (MO g ad ca gf)) u) ((fun u => []) u) t9) (A)) ([.ref g, .int a1, .int a2, .int a3, .int a4] : List Value).toArray s 0 0 A) (F0 m 135 ls []) := by
    intro gs  H locs ls hok hP hD hS hl
    rw [rf_emitPlain_135] at hok
    obtain ⟨e8, e9⟩ := rt_ok hok
    rw [e9] at hP hD
    have hK9 := hK.sub (tys' := []) [] rfl
    exact W.vret hx hb hr (fun t9 ht hW => ⟨⟨(), rfl, trivial, ⟨by rw [ht]; exact hP, va_K.moved hW.alike hK9, hD⟩⟩, hS.F ht⟩) hS.2.2 d_O_emitPlain_135
  have j3 : ∀ (d3 : Nat) (gs : OS) (x1 : Int32) (x3 : Int32) (x4 : Int32) (x5 : Int32) (H : Heap) (locs : List Loc) (ls : Array Slot), rf_emitPlain_3 F d3 gs x1 x3 x4 x5 = some (r0, gf) → va_P D wcl (MO g ad ca gs) H → va_D A (MO g ad ca gs) → va_S A s.heap H locs → lv_has ls 8 [(0, .ref g), (1, .int x1), (3, .int x3), (4, .int x4), (5, .int x5)] → W p l e (headSpec (Cond.code y_O_emitPlain b_O_emitPlain 8 none :: wal) ({ frames := 12, cells := 0, slots := 0, locals := 240 })).room s m ([.ref g, .int a1, .int a2, .int a3, .int a4] : List Value).toArray below meth c H locs 0 0 (MQ below (va_Qv (S := Unit) (fun u => True) (fun u t9 => po D (A) ((fun u => (MO g ad ca gf)) u) ((fun u => []) u) t9) (A)) ([.ref g, .int a1, .int a2, .int a3, .int a4] : List Value).toArray s 0 0 A) (F0 m 3 ls []) := by
    intro d3
    induction d3 with
    | zero =>
      intro gs x1 x3 x4 x5 H locs ls hok
      have h9 : (none : RO) = some (r0, gf) := hok
      cases h9
    | succ d3 ih3 =>
      have j129 : ∀ (gs : OS) (x1 : Int32) (x3 : Int32) (x4 : Int32) (x5 : Int32) (H : Heap) (locs : List Loc) (ls : Array Slot), rf_emitPlain_129 F (rf_emitPlain_3 F d3) gs x1 x3 x4 x5 = some (r0, gf) → va_P D wcl (MO g ad ca gs) H → va_D A (MO g ad ca gs) → va_S A s.heap H locs → lv_has ls 8 [(0, .ref g), (1, .int x1), (3, .int x3), (4, .int x4), (5, .int x5)] → W p l e (headSpec (Cond.code y_O_emitPlain b_O_emitPlain 8 none :: wal) ({ frames := 12, cells := 0, slots := 0, locals := 240 })).room s m ([.ref g, .int a1, .int a2, .int a3, .int a4] : List Value).toArray below meth c H locs 0 0 (MQ below (va_Qv (S := Unit) (fun u => True) (fun u t9 => po D (A) ((fun u => (MO g ad ca gf)) u) ((fun u => []) u) t9) (A)) ([.ref g, .int a1, .int a2, .int a3, .int a4] : List Value).toArray s 0 0 A) (F0 m 129 ls []) := by
        intro gs x1 x3 x4 x5 H locs ls hok hP hD hS hl
        rw [rf_emitPlain_129] at hok
        refine lv_iinc (k := 4) (v := (x5 + 1)) hx hb d_O_emitPlain_129 hl rfl (by rfl) (by decide) rfl (fun ls hl => ?_)
        have hl : lv_has ls 8 [(5, .int (x5 + 1)), (0, .ref g), (1, .int x1), (3, .int x3), (4, .int x4)] := hl
        refine lv_goto (tgt := 3) hx hb d_O_emitPlain_132 (by decide) ?_
        exact ih3 gs x1 x3 x4 (x5 + 1) H locs ls hok hP hD hS (lv_sub hl [1, 2, 3, 4, 0] rfl)
      intro gs x1 x3 x4 x5 H locs ls hok hP hD hS hl
      rw [rf_emitPlain_3] at hok
      refine lv_iload hx hb d_O_emitPlain_3 (lv_at hl 4 rfl) ?_
      refine lv_iload_n hx hb d_O_emitPlain_5 rfl (lv_at hl 2 rfl) ?_
      refine lv_icmp_ge (tgt := 135) hx hb d_O_emitPlain_6 (by decide) (fun h1 => ?_) (fun h1 => ?_)
      · replace hok := ci_t h1 hok
        exact j135 gs H locs ls hok hP hD hS (lv_sub hl [0] rfl)
      · replace hok := ci_f h1 hok
        refine lv_aload_n hx hb d_O_emitPlain_9 rfl (lv_at hl 0 rfl) ?_
        refine va_get (D := D) (ci := 8) (v := .int (gs.1 28)) (C := rc_O) (T := ft_O) (N := 42) hx hb hts in_O hown hK hP 0 rfl rfl 28 (by decide) (hts _ k_683) (fun _ h9 => h9) rfl d_O_emitPlain_10 ?_
        refine lv_if_ne (tgt := 135) hx hb d_O_emitPlain_13 (by decide) (fun h2 => ?_) (fun h2 => ?_)
        · replace hok := ci_f h2 hok
          exact j135 gs H locs ls hok hP hD hS (lv_sub hl [0] rfl)
        · replace hok := ci_t h2 hok
          refine lv_aload_n hx hb d_O_emitPlain_16 rfl (lv_at hl 0 rfl) ?_
          refine va_get (D := D) (ci := 8) (v := .ref (ad 10)) (C := rc_O) (T := ft_O) (N := 42) hx hb hts in_O hown hK hP 0 rfl rfl 10 (by decide) (hts _ k_665) (fun _ h9 => h9) rfl d_O_emitPlain_17 ?_
          refine lv_iload hx hb d_O_emitPlain_20 (lv_at hl 4 rfl) ?_
          have hi3 := (gd_ok hok).1
          replace hok := (gd_ok hok).2
          refine va_iald hx hb hK hP 7 6 rfl rfl (hi3) d_O_emitPlain_22 ?_
          refine lv_istore hx hb d_O_emitPlain_23 hl (by decide) rfl (fun ls hl => ?_)
          have hl : lv_has ls 8 [(6, .int ((gs.2 10) x5.toNatClampNeg)), (0, .ref g), (1, .int x1), (3, .int x3), (4, .int x4), (5, .int x5)] := hl
          refine lv_iload hx hb d_O_emitPlain_25 (lv_at hl 0 rfl) ?_
          replace hok := bd_ok hok
          obtain ⟨r4, gs5, hc6, hok⟩ := hok
          refine cl_i (wc := (MO g ad ca gs)) (wr := []) hP hD hK hS hA [0, 1, 2, 3, 4, 5, 6, 7, 8, 9, 10, 11, 12, 13, 14, 15, 16, 17, 18, 19, 20] [] rfl rfl (by decide) (by decide) (va_runS (As := [.int ((gs.2 10) x5.toNatClampNeg)]) (rest := []) ⟨hx, hb, hml, hown, hts⟩ (a_letterOf l D H.size g ad ca F gs ((gs.2 10) x5.toNatClampNeg) r4 gs5 hc6) (cw_S hts 1 k_830 k_9 k_828 k_829 (by decide +kernel) ⟨Nat.le_of_ble_eq_true rfl, Nat.le_of_ble_eq_true rfl⟩) (pr_S hP hD hK [0, 1, 2, 3, 4, 5, 6, 7, 8, 9, 10, 11, 12, 13, 14, 15, 16, 17, 18, 19, 20] [0, 1, 2, 3, 4, 5, 6, 7, 8, 9, 10, 11, 12, 13, 14, 15, 16, 17, 18, 19] (by decide) rfl rfl (fun U hU hW => trivial) (fun U g mk a h => h)) rfl rfl hl.1 rfl (lv_room (Nat.le_of_ble_eq_true rfl)) d_O_emitPlain_27 ⟨by decide, by decide⟩) (fun v8 u H locs h7 hP hD hK hS => ?_)
          have hP : va_P D wcl (MO g ad ca gs5) H := hP
          have hD : va_D A (MO g ad ca gs5) := hD
          have hK : va_K D wcl (MT ca) s := hK
          have h7 : r4 = v8 := h7
          subst h7
          refine lv_istore hx hb d_O_emitPlain_30 hl (by decide) rfl (fun ls hl => ?_)
          have hl : lv_has ls 8 [(7, .int r4), (6, .int ((gs.2 10) x5.toNatClampNeg)), (0, .ref g), (1, .int x1), (3, .int x3), (4, .int x4), (5, .int x5)] := hl
          refine lv_iload hx hb d_O_emitPlain_32 (lv_at hl 1 rfl) ?_
          replace hok := bd_ok hok
          obtain ⟨r9, gs10, hc11, hok⟩ := hok
          refine cl_i (wc := (MO g ad ca gs5)) (wr := []) hP hD hK hS hA [0, 1, 2, 3, 4, 5, 6, 7, 8, 9, 10, 11, 12, 13, 14, 15, 16, 17, 18, 19, 20] [] rfl rfl (by decide) (by decide) (va_runS (As := [.int ((gs.2 10) x5.toNatClampNeg)]) (rest := []) ⟨hx, hb, hml, hown, hts⟩ (a_isName l D H.size g ad ca F gs5 ((gs.2 10) x5.toNatClampNeg) r9 gs10 hc11) (cw_S hts 1 k_811 k_9 k_809 k_810 (by decide +kernel) ⟨Nat.le_of_ble_eq_true rfl, Nat.le_of_ble_eq_true rfl⟩) (pr_S hP hD hK [0, 1, 2, 3, 4, 5, 6, 7, 8, 9, 10, 11, 12, 13, 14, 15, 16, 17, 18, 19, 20] [0, 1, 2, 3, 4, 5, 6, 7, 8, 9, 10, 11, 12, 13, 14, 15, 16, 17, 18, 19] (by decide) rfl rfl (fun U hU hW => trivial) (fun U g mk a h => h)) rfl rfl hl.1 rfl (lv_room (Nat.le_of_ble_eq_true rfl)) d_O_emitPlain_34 ⟨by decide, by decide⟩) (fun v13 u H locs h12 hP hD hK hS => ?_)
          have hP : va_P D wcl (MO g ad ca gs10) H := hP
          have hD : va_D A (MO g ad ca gs10) := hD
          have hK : va_K D wcl (MT ca) s := hK
          have h12 : r9 = v13 := h12
          subst h12
          refine lv_if_ne (tgt := 49) hx hb d_O_emitPlain_37 (by decide) (fun h14 => ?_) (fun h14 => ?_)
          · replace hok := ci_f h14 hok
            refine lv_aload_n hx hb d_O_emitPlain_49 rfl (lv_at hl 2 rfl) ?_
            refine va_get (D := D) (ci := 8) (v := .ref (ad 11)) (C := rc_O) (T := ft_O) (N := 42) hx hb hts in_O hown hK hP 0 rfl rfl 11 (by decide) (hts _ k_666) (fun _ h9 => h9) rfl d_O_emitPlain_50 ?_
            refine lv_iload_n hx hb d_O_emitPlain_53 rfl (lv_at hl 3 rfl) ?_
            have hi15 := (gd_ok hok).1
            replace hok := (gd_ok hok).2
            refine va_iald hx hb hK hP 8 7 rfl rfl (hi15) d_O_emitPlain_54 ?_
            refine lv_iload hx hb d_O_emitPlain_55 (lv_at hl 0 rfl) ?_
            refine lv_ishr hx hb d_O_emitPlain_57 ?_
            refine lv_iconst (v := 1) hx hb d_O_emitPlain_58 (by decide) ?_
            refine lv_iand hx hb d_O_emitPlain_59 ?_
            refine lv_iconst (v := 1) hx hb d_O_emitPlain_60 (by decide) ?_
            refine lv_icmp_ne (tgt := 78) hx hb d_O_emitPlain_61 (by decide) (fun h16 => ?_) (fun h16 => ?_)
            · replace hok := ci_f h16 hok
              refine lv_aload_n hx hb d_O_emitPlain_78 rfl (lv_at hl 2 rfl) ?_
              refine va_get (D := D) (ci := 8) (v := .ref (ad 12)) (C := rc_O) (T := ft_O) (N := 42) hx hb hts in_O hown hK hP 0 rfl rfl 12 (by decide) (hts _ k_667) (fun _ h9 => h9) rfl d_O_emitPlain_79 ?_
              refine lv_iload_n hx hb d_O_emitPlain_82 rfl (lv_at hl 3 rfl) ?_
              have hi17 := (gd_ok hok).1
              replace hok := (gd_ok hok).2
              refine va_iald hx hb hK hP 9 8 rfl rfl (hi17) d_O_emitPlain_83 ?_
              refine lv_iload hx hb d_O_emitPlain_84 (lv_at hl 0 rfl) ?_
              refine lv_ishr hx hb d_O_emitPlain_86 ?_
              refine lv_iconst (v := 1) hx hb d_O_emitPlain_87 (by decide) ?_
              refine lv_iand hx hb d_O_emitPlain_88 ?_
              refine lv_iconst (v := 1) hx hb d_O_emitPlain_89 (by decide) ?_
              refine lv_icmp_ne (tgt := 113) hx hb d_O_emitPlain_90 (by decide) (fun h18 => ?_) (fun h18 => ?_)
              · replace hok := ci_f h18 hok
                refine lv_aload_n hx hb d_O_emitPlain_113 rfl (lv_at hl 2 rfl) ?_
                refine lv_iload hx hb d_O_emitPlain_114 (lv_at hl 1 rfl) ?_
                refine lv_bipush (v := 32) hx hb d_O_emitPlain_116 (by decide) ?_
                refine lv_aload_n hx hb d_O_emitPlain_118 rfl (lv_at hl 2 rfl) ?_
                refine va_get (D := D) (ci := 8) (v := .int (gs10.1 37)) (C := rc_O) (T := ft_O) (N := 42) hx hb hts in_O hown hK hP 0 rfl rfl 37 (by decide) (hts _ k_692) (fun _ h9 => h9) rfl d_O_emitPlain_119 ?_
                refine lv_iconst (v := 1) hx hb d_O_emitPlain_122 (by decide) ?_
                refine lv_iadd hx hb d_O_emitPlain_123 ?_
                refine lv_imul hx hb d_O_emitPlain_124 ?_
                refine lv_iadd hx hb d_O_emitPlain_125 ?_
                replace hok := bd_ok hok
                obtain ⟨r19, gs20, hc21, hok⟩ := hok
                refine cl_v (wc := (MO g ad ca gs10)) (wr := []) hP hD hK hS hA [0, 1, 2, 3, 4, 5, 6, 7, 8, 9, 10, 11, 12, 13, 14, 15, 16, 17, 18, 19, 20] [] rfl rfl (by decide) (by decide) (va_runV (As := [.int (((gs.2 10) x5.toNatClampNeg) + (32 * ((gs10.1 37) + 1)))]) (rest := []) ⟨hx, hb, hml, hown, hts⟩ (a_emit l D H.size g ad ca F gs10 (((gs.2 10) x5.toNatClampNeg) + (32 * ((gs10.1 37) + 1))) r19 gs20 hc21) (cw_V hts 1 k_952 k_9 k_949 k_951 sel_O_emit (by decide +kernel) ⟨Nat.le_of_ble_eq_true rfl, Nat.le_of_ble_eq_true rfl⟩) (pr_V hP hD hK [0, 1, 2, 3, 4, 5, 6, 7, 8, 9, 10, 11, 12, 13, 14, 15, 16, 17, 18, 19, 20] [0, 1, 2, 3, 4, 5, 6, 7, 8, 9, 10, 11, 12, 13, 14, 15, 16, 17, 18, 19] (by decide) rfl rfl (fun U hU hW => trivial) (fun U g mk a h => h) (q0 := 0) (ci := 8) rfl rfl) rfl rfl hl.1 rfl (lv_room (Nat.le_of_ble_eq_true rfl)) d_O_emitPlain_126 ⟨by decide, by decide⟩) (fun u H locs h22 hP hD hK hS => ?_)
                have hP : va_P D wcl (MO g ad ca gs20) H := hP
                have hD : va_D A (MO g ad ca gs20) := hD
                have hK : va_K D wcl (MT ca) s := hK
                exact j129 gs20 x1 x3 x4 x5 H locs ls hok hP hD hS (lv_sub hl [2, 3, 4, 5, 6] rfl)
              · replace hok := ci_t h18 hok
                refine lv_aload_n hx hb d_O_emitPlain_93 rfl (lv_at hl 2 rfl) ?_
                refine lv_aload_n hx hb d_O_emitPlain_94 rfl (lv_at hl 2 rfl) ?_
                refine va_get (D := D) (ci := 8) (v := .ref (ad 31)) (C := rc_O) (T := ft_O) (N := 42) hx hb hts in_O hown hK hP 0 rfl rfl 31 (by decide) (hts _ k_686) (fun _ h9 => h9) rfl d_O_emitPlain_95 ?_
                refine lv_bipush (v := 64) hx hb d_O_emitPlain_98 (by decide) ?_
                refine lv_iload hx hb d_O_emitPlain_100 (lv_at hl 0 rfl) ?_
                refine lv_imul hx hb d_O_emitPlain_102 ?_
                refine lv_iload hx hb d_O_emitPlain_103 (lv_at hl 5 rfl) ?_
                refine lv_iadd hx hb d_O_emitPlain_105 ?_
                have hi24 := (gd_ok hok).1
                replace hok := (gd_ok hok).2
                refine va_iald hx hb hK hP 17 16 rfl rfl (hi24) d_O_emitPlain_106 ?_
                replace hok := bd_ok hok
                obtain ⟨r25, gs26, hc27, hok⟩ := hok
                refine cl_v (wc := (MO g ad ca gs10)) (wr := []) hP hD hK hS hA [0, 1, 2, 3, 4, 5, 6, 7, 8, 9, 10, 11, 12, 13, 14, 15, 16, 17, 18, 19, 20] [] rfl rfl (by decide) (by decide) (va_runV (As := [.int ((gs10.2 31) ((64 * r4) + x4).toNatClampNeg)]) (rest := []) ⟨hx, hb, hml, hown, hts⟩ (a_emitTerm l D H.size g ad ca F gs10 ((gs10.2 31) ((64 * r4) + x4).toNatClampNeg) r25 gs26 hc27) (cw_V hts 1 k_956 k_9 k_953 k_955 sel_O_emitTerm (by decide +kernel) ⟨Nat.le_of_ble_eq_true rfl, Nat.le_of_ble_eq_true rfl⟩) (pr_V hP hD hK [0, 1, 2, 3, 4, 5, 6, 7, 8, 9, 10, 11, 12, 13, 14, 15, 16, 17, 18, 19, 20] [0, 1, 2, 3, 4, 5, 6, 7, 8, 9, 10, 11, 12, 13, 14, 15, 16, 17, 18, 19] (by decide) rfl rfl (fun U hU hW => trivial) (fun U g mk a h => h) (q0 := 0) (ci := 8) rfl rfl) rfl rfl hl.1 rfl (lv_room (Nat.le_of_ble_eq_true rfl)) d_O_emitPlain_107 ⟨by decide, by decide⟩) (fun u H locs h28 hP hD hK hS => ?_)
                have hP : va_P D wcl (MO g ad ca gs26) H := hP
                have hD : va_D A (MO g ad ca gs26) := hD
                have hK : va_K D wcl (MT ca) s := hK
                refine lv_goto (tgt := 129) hx hb d_O_emitPlain_110 (by decide) ?_
                exact j129 gs26 x1 x3 x4 x5 H locs ls hok hP hD hS (lv_sub hl [2, 3, 4, 5, 6] rfl)
            · replace hok := ci_t h16 hok
              refine lv_aload_n hx hb d_O_emitPlain_64 rfl (lv_at hl 2 rfl) ?_
              refine lv_aload_n hx hb d_O_emitPlain_65 rfl (lv_at hl 2 rfl) ?_
              refine va_get (D := D) (ci := 8) (v := .ref (ad 29)) (C := rc_O) (T := ft_O) (N := 42) hx hb hts in_O hown hK hP 0 rfl rfl 29 (by decide) (hts _ k_684) (fun _ h9 => h9) rfl d_O_emitPlain_66 ?_
              refine lv_iload hx hb d_O_emitPlain_69 (lv_at hl 0 rfl) ?_
              have hi30 := (gd_ok hok).1
              replace hok := (gd_ok hok).2
              refine va_iald hx hb hK hP 15 14 rfl rfl (hi30) d_O_emitPlain_71 ?_
              replace hok := bd_ok hok
              obtain ⟨r31, gs32, hc33, hok⟩ := hok
              refine cl_v (wc := (MO g ad ca gs10)) (wr := []) hP hD hK hS hA [0, 1, 2, 3, 4, 5, 6, 7, 8, 9, 10, 11, 12, 13, 14, 15, 16, 17, 18, 19, 20] [] rfl rfl (by decide) (by decide) (va_runV (As := [.int ((gs10.2 29) r4.toNatClampNeg)]) (rest := []) ⟨hx, hb, hml, hown, hts⟩ (a_emitTerm l D H.size g ad ca F gs10 ((gs10.2 29) r4.toNatClampNeg) r31 gs32 hc33) (cw_V hts 1 k_956 k_9 k_953 k_955 sel_O_emitTerm (by decide +kernel) ⟨Nat.le_of_ble_eq_true rfl, Nat.le_of_ble_eq_true rfl⟩) (pr_V hP hD hK [0, 1, 2, 3, 4, 5, 6, 7, 8, 9, 10, 11, 12, 13, 14, 15, 16, 17, 18, 19, 20] [0, 1, 2, 3, 4, 5, 6, 7, 8, 9, 10, 11, 12, 13, 14, 15, 16, 17, 18, 19] (by decide) rfl rfl (fun U hU hW => trivial) (fun U g mk a h => h) (q0 := 0) (ci := 8) rfl rfl) rfl rfl hl.1 rfl (lv_room (Nat.le_of_ble_eq_true rfl)) d_O_emitPlain_72 ⟨by decide, by decide⟩) (fun u H locs h34 hP hD hK hS => ?_)
              have hP : va_P D wcl (MO g ad ca gs32) H := hP
              have hD : va_D A (MO g ad ca gs32) := hD
              have hK : va_K D wcl (MT ca) s := hK
              refine lv_goto (tgt := 129) hx hb d_O_emitPlain_75 (by decide) ?_
              exact j129 gs32 x1 x3 x4 x5 H locs ls hok hP hD hS (lv_sub hl [2, 3, 4, 5, 6] rfl)
          · replace hok := ci_t h14 hok
            refine lv_aload_n hx hb d_O_emitPlain_40 rfl (lv_at hl 2 rfl) ?_
            refine lv_iload hx hb d_O_emitPlain_41 (lv_at hl 1 rfl) ?_
            replace hok := bd_ok hok
            obtain ⟨r36, gs37, hc38, hok⟩ := hok
            refine cl_v (wc := (MO g ad ca gs10)) (wr := []) hP hD hK hS hA [0, 1, 2, 3, 4, 5, 6, 7, 8, 9, 10, 11, 12, 13, 14, 15, 16, 17, 18, 19, 20] [] rfl rfl (by decide) (by decide) (va_runV (As := [.int ((gs.2 10) x5.toNatClampNeg)]) (rest := []) ⟨hx, hb, hml, hown, hts⟩ (a_emit l D H.size g ad ca F gs10 ((gs.2 10) x5.toNatClampNeg) r36 gs37 hc38) (cw_V hts 1 k_952 k_9 k_949 k_951 sel_O_emit (by decide +kernel) ⟨Nat.le_of_ble_eq_true rfl, Nat.le_of_ble_eq_true rfl⟩) (pr_V hP hD hK [0, 1, 2, 3, 4, 5, 6, 7, 8, 9, 10, 11, 12, 13, 14, 15, 16, 17, 18, 19, 20] [0, 1, 2, 3, 4, 5, 6, 7, 8, 9, 10, 11, 12, 13, 14, 15, 16, 17, 18, 19] (by decide) rfl rfl (fun U hU hW => trivial) (fun U g mk a h => h) (q0 := 0) (ci := 8) rfl rfl) rfl rfl hl.1 rfl (lv_room (Nat.le_of_ble_eq_true rfl)) d_O_emitPlain_43 ⟨by decide, by decide⟩) (fun u H locs h39 hP hD hK hS => ?_)
            have hP : va_P D wcl (MO g ad ca gs37) H := hP
            have hD : va_D A (MO g ad ca gs37) := hD
            have hK : va_K D wcl (MT ca) s := hK
            refine lv_goto (tgt := 129) hx hb d_O_emitPlain_46 (by decide) ?_
            exact j129 gs37 x1 x3 x4 x5 H locs ls hok hP hD hS (lv_sub hl [2, 3, 4, 5, 6] rfl)
  refine lv_iload_n hx hb d_O_emitPlain_0 rfl (lv_at hl 2 rfl) ?_
  refine lv_istore hx hb d_O_emitPlain_1 hl (by decide) rfl (fun ls hl => ?_)
  have hl : lv_has ls 8 [(5, .int a2), (0, .ref g), (1, .int a1), (2, .int a2), (3, .int a3), (4, .int a4)] := hl
  exact j3 F gs a1 a3 a4 a2 s.heap [] ls hok hP hD hS (lv_sub hl [1, 2, 4, 5, 0] rfl)

set_option maxHeartbeats 4000000 in
set_option maxRecDepth 100000 in
theorem a_matchMany (l : Launch) (D : va_G) (sz : Nat) (g : Nat) (ad : Nat → Nat) (ca : Nat → ClassId) (F : Nat) (gs : OS) (a1 : Int32) (a2 : Int32) (a3 : Int32) (r0 : Int32) (gf : OS) (hok : rf_matchMany F gs a1 a2 a3 = some (r0, gf)) : Met l y_O_matchMany (Cond.code y_O_matchMany b_O_matchMany 7 (some .int) :: wal) ({ frames := 12, cells := 0, slots := 0, locals := 240 }) (va_Pc [.ref g, .int a1, .int a2, .int a3] (pr D sz (MO g ad ca gs) (MT ca) (fun _ => True))) (va_Qi (S := Unit) (fun r u => r0 = r) (fun u t9 => po D (va_A (MO g ad ca gs) sz) ((fun u => (MO g ad ca gf)) u) ((fun u => []) u) t9) (va_A (MO g ad ca gs) sz)) 0 0 (va_A (MO g ad ca gs) sz) := by
  refine Met.ofW (cc := b_O_matchMany) (maxL := 7) (ret := (some .int)) (by decide) rfl ?_
  intro p e s m args below meth c s₁ B hml hv
  obtain ⟨rfl, hsz, hP, hK, hD0, hE⟩ := hv
  have hx := B.exec
  have hb := B.bytes
  have hr := B.returns
  have hts0 := atoms_spec (ws := Cond.code y_O_matchMany b_O_matchMany 7 (some .int) :: wal) B.pre
  have hts : ∀ w ∈ wal, w.before _ s = true := fun w h => hts0 w (List.mem_cons_of_mem _ h)
  have hown : s.vm.findClass rc_O = some m.cls := findClass_of_methodNamed B.named
  have hlocks := B.notSynchronized
  subst hsz
  have hD := hD0.self (sz := s.heap.size)
  generalize hAe : va_A (MO g ad ca gs) s.heap.size = A at hD ⊢
  have hA : ∀ q : Nat, s.heap.size ≤ q → A q := fun q h => by rw [← hAe]; exact Or.inr h
  have hS : va_S A s.heap s.heap [] := va_S.rf
  have hl := lv_entry ([.ref g, .int a1, .int a2, .int a3]) (n := 7) (Nat.le_of_ble_eq_true rfl)
  rw [lg_entry_eq]
  generalize (lg_sl ([.ref g, .int a1, .int a2, .int a3]) ++ List.replicate (7 - (lg_sl ([.ref g, .int a1, .int a2, .int a3])).length) Slot.unset).toArray = ls at hl ⊢
  have hl : lv_has ls 7 [(0, .ref g), (1, .int a1), (2, .int a2), (3, .int a3)] := hl
  have j51 : ∀ (d51 : Nat) (gs : OS) (x2 : Int32) (x4 : Int32) (x5 : Int32) (x6 : Int32) (H : Heap) (locs : List Loc) (ls : Array Slot), rf_matchMany_51 F d51 gs x2 x4 x5 x6 = some (r0, gf) → va_P D wcl (MO g ad ca gs) H → va_D A (MO g ad ca gs) → va_S A s.heap H locs → lv_has ls 7 [(0, .ref g), (2, .int x2), (4, .int x4), (5, .int x5), (6, .int x6)] → W p l e (headSpec (Cond.code y_O_matchMany b_O_matchMany 7 (some .int) :: wal) ({ frames := 12, cells := 0, slots := 0, locals := 240 })).room s m ([.ref g, .int a1, .int a2, .int a3] : List Value).toArray below meth c H locs 0 0 (MQ below (va_Qi (S := Unit) (fun r u => r0 = r) (fun u t9 => po D (A) ((fun u => (MO g ad ca gf)) u) ((fun u => []) u) t9) (A)) ([.ref g, .int a1, .int a2, .int a3] : List Value).toArray s 0 0 A) (F0 m 51 ls []) := by
    intro d51
    induction d51 with
    | zero =>
      intro gs x2 x4 x5 x6 H locs ls hok
      have h9 : (none : RO) = some (r0, gf) := hok
      cases h9
    | succ d51 ih51 =>
      have j87 : ∀ (gs : OS) (x2 : Int32) (x4 : Int32) (x5 : Int32) (x6 : Int32) (H : Heap) (locs : List Loc) (ls : Array Slot), rf_matchMany_87 F (rf_matchMany_51 F d51) gs x2 x4 x5 x6 = some (r0, gf) → va_P D wcl (MO g ad ca gs) H → va_D A (MO g ad ca gs) → va_S A s.heap H locs → lv_has ls 7 [(0, .ref g), (2, .int x2), (4, .int x4), (5, .int x5), (6, .int x6)] → W p l e (headSpec (Cond.code y_O_matchMany b_O_matchMany 7 (some .int) :: wal) ({ frames := 12, cells := 0, slots := 0, locals := 240 })).room s m ([.ref g, .int a1, .int a2, .int a3] : List Value).toArray below meth c H locs 0 0 (MQ below (va_Qi (S := Unit) (fun r u => r0 = r) (fun u t9 => po D (A) ((fun u => (MO g ad ca gf)) u) ((fun u => []) u) t9) (A)) ([.ref g, .int a1, .int a2, .int a3] : List Value).toArray s 0 0 A) (F0 m 87 ls []) := by
        intro gs x2 x4 x5 x6 H locs ls hok hP hD hS hl
        rw [rf_matchMany_87] at hok
        refine lv_iinc (k := 4) (v := (x6 + 1)) hx hb d_O_matchMany_87 hl rfl (by rfl) (by decide) rfl (fun ls hl => ?_)
        have hl : lv_has ls 7 [(6, .int (x6 + 1)), (0, .ref g), (2, .int x2), (4, .int x4), (5, .int x5)] := hl
        refine lv_goto (tgt := 51) hx hb d_O_matchMany_90 (by decide) ?_
        exact ih51 gs x2 x4 x5 (x6 + 1) H locs ls hok hP hD hS (lv_sub hl [1, 2, 3, 4, 0] rfl)
      intro gs x2 x4 x5 x6 H locs ls hok hP hD hS hl
      rw [rf_matchMany_51] at hok
      refine lv_iload hx hb d_O_matchMany_51 (lv_at hl 4 rfl) ?_
      refine lv_iload_n hx hb d_O_matchMany_53 rfl (lv_at hl 1 rfl) ?_
      refine lv_icmp_ge (tgt := 93) hx hb d_O_matchMany_54 (by decide) (fun h1 => ?_) (fun h1 => ?_)
      · replace hok := ci_t h1 hok
        refine lv_iload hx hb d_O_matchMany_93 (lv_at hl 2 rfl) ?_
        obtain ⟨e8, e9⟩ := rt_ok hok
        rw [e9] at hP hD
        have hK9 := hK.sub (tys' := []) [] rfl
        exact W.iret (v := x4) hx hb hr (fun t9 ht hW => ⟨⟨x4, (), rfl, e8, ⟨by rw [ht]; exact hP, va_K.moved hW.alike hK9, hD⟩⟩, hS.F ht⟩) hS.2.2 d_O_matchMany_95
      · replace hok := ci_f h1 hok
        refine lv_aload_n hx hb d_O_matchMany_57 rfl (lv_at hl 0 rfl) ?_
        refine va_get (D := D) (ci := 8) (v := .ref (ad 8)) (C := rc_O) (T := ft_O) (N := 42) hx hb hts in_O hown hK hP 0 rfl rfl 8 (by decide) (hts _ k_663) (fun _ h9 => h9) rfl d_O_matchMany_58 ?_
        refine lv_iload hx hb d_O_matchMany_61 (lv_at hl 4 rfl) ?_
        have hi2 := (gd_ok hok).1
        replace hok := (gd_ok hok).2
        refine va_iald hx hb hK hP 5 4 rfl rfl (hi2) d_O_matchMany_63 ?_
        replace hok := bd_ok hok
        obtain ⟨r3, gs4, hc5, hok⟩ := hok
        refine cl_i (wc := (MO g ad ca gs)) (wr := []) hP hD hK hS hA [0, 1, 2, 3, 4, 5, 6, 7, 8, 9, 10, 11, 12, 13, 14, 15, 16, 17, 18, 19, 20] [] rfl rfl (by decide) (by decide) (va_runS (As := [.int ((gs.2 8) x6.toNatClampNeg)]) (rest := []) ⟨hx, hb, hml, hown, hts⟩ (a_isName l D H.size g ad ca F gs ((gs.2 8) x6.toNatClampNeg) r3 gs4 hc5) (cw_S hts 1 k_811 k_9 k_809 k_810 (by decide +kernel) ⟨Nat.le_of_ble_eq_true rfl, Nat.le_of_ble_eq_true rfl⟩) (pr_S hP hD hK [0, 1, 2, 3, 4, 5, 6, 7, 8, 9, 10, 11, 12, 13, 14, 15, 16, 17, 18, 19, 20] [0, 1, 2, 3, 4, 5, 6, 7, 8, 9, 10, 11, 12, 13, 14, 15, 16, 17, 18, 19] (by decide) rfl rfl (fun U hU hW => trivial) (fun U g mk a h => h)) rfl rfl hl.1 rfl (lv_room (Nat.le_of_ble_eq_true rfl)) d_O_matchMany_64 ⟨by decide, by decide⟩) (fun v7 u H locs h6 hP hD hK hS => ?_)
        have hP : va_P D wcl (MO g ad ca gs4) H := hP
        have hD : va_D A (MO g ad ca gs4) := hD
        have hK : va_K D wcl (MT ca) s := hK
        have h6 : r3 = v7 := h6
        subst h6
        refine lv_if_eq (tgt := 87) hx hb d_O_matchMany_67 (by decide) (fun h8 => ?_) (fun h8 => ?_)
        · replace hok := ci_t h8 hok
          exact j87 gs4 x2 x4 x5 x6 H locs ls hok hP hD hS hl
        · replace hok := ci_f h8 hok
          refine lv_aload_n hx hb d_O_matchMany_70 rfl (lv_at hl 0 rfl) ?_
          refine va_get (D := D) (ci := 8) (v := .ref (ad 30)) (C := rc_O) (T := ft_O) (N := 42) hx hb hts in_O hown hK hP 0 rfl rfl 30 (by decide) (hts _ k_685) (fun _ h9 => h9) rfl d_O_matchMany_71 ?_
          refine lv_aload_n hx hb d_O_matchMany_74 rfl (lv_at hl 0 rfl) ?_
          refine va_get (D := D) (ci := 8) (v := .ref (ad 8)) (C := rc_O) (T := ft_O) (N := 42) hx hb hts in_O hown hK hP 0 rfl rfl 8 (by decide) (hts _ k_663) (fun _ h9 => h9) rfl d_O_matchMany_75 ?_
          refine lv_iload hx hb d_O_matchMany_78 (lv_at hl 4 rfl) ?_
          have hi9 := (gd_ok hok).1
          replace hok := (gd_ok hok).2
          refine va_iald hx hb hK hP 5 4 rfl rfl (hi9) d_O_matchMany_80 ?_
          replace hok := bd_ok hok
          obtain ⟨r10, gs11, hc12, hok⟩ := hok
          refine cl_i (wc := (MO g ad ca gs4)) (wr := []) hP hD hK hS hA [0, 1, 2, 3, 4, 5, 6, 7, 8, 9, 10, 11, 12, 13, 14, 15, 16, 17, 18, 19, 20] [] rfl rfl (by decide) (by decide) (va_runS (As := [.int ((gs4.2 8) x6.toNatClampNeg)]) (rest := [.ref (ad 30)]) ⟨hx, hb, hml, hown, hts⟩ (a_letterOf l D H.size g ad ca F gs4 ((gs4.2 8) x6.toNatClampNeg) r10 gs11 hc12) (cw_S hts 1 k_830 k_9 k_828 k_829 (by decide +kernel) ⟨Nat.le_of_ble_eq_true rfl, Nat.le_of_ble_eq_true rfl⟩) (pr_S hP hD hK [0, 1, 2, 3, 4, 5, 6, 7, 8, 9, 10, 11, 12, 13, 14, 15, 16, 17, 18, 19, 20] [0, 1, 2, 3, 4, 5, 6, 7, 8, 9, 10, 11, 12, 13, 14, 15, 16, 17, 18, 19] (by decide) rfl rfl (fun U hU hW => trivial) (fun U g mk a h => h)) rfl rfl hl.1 rfl (lv_room (Nat.le_of_ble_eq_true rfl)) d_O_matchMany_81 ⟨by decide, by decide⟩) (fun v14 u H locs h13 hP hD hK hS => ?_)
          have hP : va_P D wcl (MO g ad ca gs11) H := hP
          have hD : va_D A (MO g ad ca gs11) := hD
          have hK : va_K D wcl (MT ca) s := hK
          have h13 : r10 = v14 := h13
          subst h13
          refine lv_iload hx hb d_O_matchMany_84 (lv_at hl 3 rfl) ?_
          have hi15 := (gd_ok hok).1
          replace hok := (gd_ok hok).2
          refine va_iast hx hb hK hP hD hS 16 15 rfl rfl hi15 d_O_matchMany_86 (fun H locs hP hD hS => ?_)
          have hP : va_P D wcl (MO g ad ca (sA gs11 30 (upd (gs11.2 30) r10.toNatClampNeg x5))) H := hP
          have hD : va_D A (MO g ad ca (sA gs11 30 (upd (gs11.2 30) r10.toNatClampNeg x5))) := hD
          exact j87 (sA gs11 30 (upd (gs11.2 30) r10.toNatClampNeg x5)) x2 x4 x5 x6 H locs ls hok hP hD hS hl
  have j6 : ∀ (d6 : Nat) (gs : OS) (x1 : Int32) (x2 : Int32) (x4 : Int32) (x5 : Int32) (H : Heap) (locs : List Loc) (ls : Array Slot), rf_matchMany_6 F d6 gs x1 x2 x4 x5 = some (r0, gf) → va_P D wcl (MO g ad ca gs) H → va_D A (MO g ad ca gs) → va_S A s.heap H locs → lv_has ls 7 [(0, .ref g), (1, .int x1), (2, .int x2), (4, .int x4), (5, .int x5)] → W p l e (headSpec (Cond.code y_O_matchMany b_O_matchMany 7 (some .int) :: wal) ({ frames := 12, cells := 0, slots := 0, locals := 240 })).room s m ([.ref g, .int a1, .int a2, .int a3] : List Value).toArray below meth c H locs 0 0 (MQ below (va_Qi (S := Unit) (fun r u => r0 = r) (fun u t9 => po D (A) ((fun u => (MO g ad ca gf)) u) ((fun u => []) u) t9) (A)) ([.ref g, .int a1, .int a2, .int a3] : List Value).toArray s 0 0 A) (F0 m 6 ls []) := by
    intro d6
    induction d6 with
    | zero =>
      intro gs x1 x2 x4 x5 H locs ls hok
      have h9 : (none : RO) = some (r0, gf) := hok
      cases h9
    | succ d6 ih6 =>
      intro gs x1 x2 x4 x5 H locs ls hok hP hD hS hl
      rw [rf_matchMany_6] at hok
      refine lv_aload_n hx hb d_O_matchMany_6 rfl (lv_at hl 0 rfl) ?_
      refine va_get (D := D) (ci := 8) (v := .ref (ad 22)) (C := rc_O) (T := ft_O) (N := 42) hx hb hts in_O hown hK hP 0 rfl rfl 22 (by decide) (hts _ k_677) (fun _ h9 => h9) rfl d_O_matchMany_7 ?_
      refine lv_iload hx hb d_O_matchMany_10 (lv_at hl 3 rfl) ?_
      have hi16 := (gd_ok hok).1
      replace hok := (gd_ok hok).2
      refine va_iald hx hb hK hP 13 12 rfl rfl (hi16) d_O_matchMany_12 ?_
      refine lv_iconst (v := 2) hx hb d_O_matchMany_13 (by decide) ?_
      refine lv_icmp_eq (tgt := 48) hx hb d_O_matchMany_14 (by decide) (fun h17 => ?_) (fun h17 => ?_)
      · replace hok := ci_t h17 hok
        refine lv_iload_n hx hb d_O_matchMany_48 rfl (lv_at hl 1 rfl) ?_
        refine lv_istore hx hb d_O_matchMany_49 hl (by decide) rfl (fun ls hl => ?_)
        have hl : lv_has ls 7 [(6, .int x1), (0, .ref g), (1, .int x1), (2, .int x2), (4, .int x4), (5, .int x5)] := hl
        exact j51 F gs x2 x4 x5 x1 H locs ls hok hP hD hS (lv_sub hl [1, 3, 4, 5, 0] rfl)
      · replace hok := ci_f h17 hok
        refine lv_aload_n hx hb d_O_matchMany_17 rfl (lv_at hl 0 rfl) ?_
        refine lv_iload_n hx hb d_O_matchMany_18 rfl (lv_at hl 1 rfl) ?_
        refine lv_iload_n hx hb d_O_matchMany_19 rfl (lv_at hl 2 rfl) ?_
        refine lv_iload hx hb d_O_matchMany_20 (lv_at hl 3 rfl) ?_
        refine lv_iload hx hb d_O_matchMany_22 (lv_at hl 4 rfl) ?_
        replace hok := bd_ok hok
        obtain ⟨r18, gs19, hc20, hok⟩ := hok
        refine cl_v (wc := (MO g ad ca gs)) (wr := []) hP hD hK hS hA [0, 1, 2, 3, 4, 5, 6, 7, 8, 9, 10, 11, 12, 13, 14, 15, 16, 17, 18, 19, 20] [] rfl rfl (by decide) (by decide) (va_runV (As := [.int x1, .int x2, .int x4, .int x5]) (rest := []) ⟨hx, hb, hml, hown, hts⟩ (a_matchPlain l D H.size g ad ca F gs x1 x2 x4 x5 r18 gs19 hc20) (cw_V hts 4 k_940 k_9 k_937 k_939 sel_O_matchPlain (by decide +kernel) ⟨Nat.le_of_ble_eq_true rfl, Nat.le_of_ble_eq_true rfl⟩) (pr_V hP hD hK [0, 1, 2, 3, 4, 5, 6, 7, 8, 9, 10, 11, 12, 13, 14, 15, 16, 17, 18, 19, 20] [0, 1, 2, 3, 4, 5, 6, 7, 8, 9, 10, 11, 12, 13, 14, 15, 16, 17, 18, 19] (by decide) rfl rfl (fun U hU hW => trivial) (fun U g mk a h => h) (q0 := 0) (ci := 8) rfl rfl) rfl rfl hl.1 rfl (lv_room (Nat.le_of_ble_eq_true rfl)) d_O_matchMany_24 ⟨by decide, by decide⟩) (fun u H locs h21 hP hD hK hS => ?_)
        have hP : va_P D wcl (MO g ad ca gs19) H := hP
        have hD : va_D A (MO g ad ca gs19) := hD
        have hK : va_K D wcl (MT ca) s := hK
        refine lv_aload_n hx hb d_O_matchMany_27 rfl (lv_at hl 0 rfl) ?_
        refine va_get (D := D) (ci := 8) (v := .int (gs19.1 41)) (C := rc_O) (T := ft_O) (N := 42) hx hb hts in_O hown hK hP 0 rfl rfl 41 (by decide) (hts _ k_696) (fun _ h9 => h9) rfl d_O_matchMany_28 ?_
        refine lv_if_ge (tgt := 36) hx hb d_O_matchMany_31 (by decide) (fun h23 => ?_) (fun h23 => ?_)
        · replace hok := ci_t h23 hok
          refine lv_aload_n hx hb d_O_matchMany_36 rfl (lv_at hl 0 rfl) ?_
          refine va_get (D := D) (ci := 8) (v := .int (gs19.1 41)) (C := rc_O) (T := ft_O) (N := 42) hx hb hts in_O hown hK hP 0 rfl rfl 41 (by decide) (hts _ k_696) (fun _ h9 => h9) rfl d_O_matchMany_37 ?_
          refine lv_istore hx hb d_O_matchMany_40 hl (by decide) rfl (fun ls hl => ?_)
          have hl : lv_has ls 7 [(4, .int (gs19.1 41)), (0, .ref g), (1, .int x1), (2, .int x2), (5, .int x5)] := hl
          refine lv_iinc (k := 4) (v := (x5 + 1)) hx hb d_O_matchMany_42 hl rfl (by rfl) (by decide) rfl (fun ls hl => ?_)
          have hl : lv_has ls 7 [(5, .int (x5 + 1)), (4, .int (gs19.1 41)), (0, .ref g), (1, .int x1), (2, .int x2)] := hl
          refine lv_goto (tgt := 6) hx hb d_O_matchMany_45 (by decide) ?_
          exact ih6 gs19 x1 x2 (gs19.1 41) (x5 + 1) H locs ls hok hP hD hS (lv_sub hl [2, 3, 4, 1, 0] rfl)
        · replace hok := ci_f h23 hok
          refine lv_iconst (v := -1) hx hb d_O_matchMany_34 (by decide) ?_
          obtain ⟨e8, e9⟩ := rt_ok hok
          rw [e9] at hP hD
          have hK9 := hK.sub (tys' := []) [] rfl
          exact W.iret (v := (-1)) hx hb hr (fun t9 ht hW => ⟨⟨(-1), (), rfl, e8, ⟨by rw [ht]; exact hP, va_K.moved hW.alike hK9, hD⟩⟩, hS.F ht⟩) hS.2.2 d_O_matchMany_35
  refine lv_iload_n hx hb d_O_matchMany_0 rfl (lv_at hl 3 rfl) ?_
  refine lv_istore hx hb d_O_matchMany_1 hl (by decide) rfl (fun ls hl => ?_)
  have hl : lv_has ls 7 [(4, .int a3), (0, .ref g), (1, .int a1), (2, .int a2), (3, .int a3)] := hl
  refine lv_iconst (v := 0) hx hb d_O_matchMany_3 (by decide) ?_
  refine lv_istore hx hb d_O_matchMany_4 hl (by decide) rfl (fun ls hl => ?_)
  have hl : lv_has ls 7 [(5, .int 0), (4, .int a3), (0, .ref g), (1, .int a1), (2, .int a2), (3, .int a3)] := hl
  exact j6 F gs a1 a2 a3 0 s.heap [] ls hok hP hD hS (lv_sub hl [2, 3, 4, 1, 0] rfl)

set_option maxHeartbeats 4000000 in
set_option maxRecDepth 100000 in
theorem a_patternToken (l : Launch) (D : va_G) (sz : Nat) (g : Nat) (ad : Nat → Nat) (ca : Nat → ClassId) (F : Nat) (gs : OS) (a1 : Int32) (r0 : Int32) (gf : OS) (hok : rf_patternToken F gs a1 = some (r0, gf)) : Met l y_O_patternToken (Cond.code y_O_patternToken b_O_patternToken 3 (some .boolean) :: wal) ({ frames := 12, cells := 0, slots := 0, locals := 240 }) (va_Pc [.ref g, .int a1] (pr D sz (MO g ad ca gs) (MT ca) (fun _ => True))) (va_Qi (S := Unit) (fun r u => r0 = r) (fun u t9 => po D (va_A (MO g ad ca gs) sz) ((fun u => (MO g ad ca gf)) u) ((fun u => []) u) t9) (va_A (MO g ad ca gs) sz)) 0 0 (va_A (MO g ad ca gs) sz) := by
  refine Met.ofW (cc := b_O_patternToken) (maxL := 3) (ret := (some .boolean)) (by decide) rfl ?_
  intro p e s m args below meth c s₁ B hml hv
  obtain ⟨rfl, hsz, hP, hK, hD0, hE⟩ := hv
  have hx := B.exec
  have hb := B.bytes
  have hr := B.returns
  have hts0 := atoms_spec (ws := Cond.code y_O_patternToken b_O_patternToken 3 (some .boolean) :: wal) B.pre
  have hts : ∀ w ∈ wal, w.before _ s = true := fun w h => hts0 w (List.mem_cons_of_mem _ h)
  have hown : s.vm.findClass rc_O = some m.cls := findClass_of_methodNamed B.named
  have hlocks := B.notSynchronized
  subst hsz
  have hD := hD0.self (sz := s.heap.size)
  generalize hAe : va_A (MO g ad ca gs) s.heap.size = A at hD ⊢
  have hA : ∀ q : Nat, s.heap.size ≤ q → A q := fun q h => by rw [← hAe]; exact Or.inr h
  have hS : va_S A s.heap s.heap [] := va_S.rf
  have hl := lv_entry ([.ref g, .int a1]) (n := 3) (Nat.le_of_ble_eq_true rfl)
  rw [lg_entry_eq]
  generalize (lg_sl ([.ref g, .int a1]) ++ List.replicate (3 - (lg_sl ([.ref g, .int a1])).length) Slot.unset).toArray = ls at hl ⊢
  have hl : lv_has ls 3 [(0, .ref g), (1, .int a1)] := hl
  have j107 : ∀ (gs : OS) (x1 : Int32) (H : Heap) (locs : List Loc) (ls : Array Slot), rf_patternToken_107 F gs x1 = some (r0, gf) → va_P D wcl (MO g ad ca gs) H → va_D A (MO g ad ca gs) → va_S A s.heap H locs → lv_has ls 3 [(0, .ref g), (1, .int x1)] → W p l e (headSpec (Cond.code y_O_patternToken b_O_patternToken 3 (some .boolean) :: wal) ({ frames := 12, cells := 0, slots := 0, locals := 240 })).room s m ([.ref g, .int a1] : List Value).toArray below meth c H locs 0 0 (MQ below (va_Qi (S := Unit) (fun r u => r0 = r) (fun u t9 => po D (A) ((fun u => (MO g ad ca gf)) u) ((fun u => []) u) t9) (A)) ([.ref g, .int a1] : List Value).toArray s 0 0 A) (F0 m 107 ls []) := by
    intro gs x1 H locs ls hok hP hD hS hl
    rw [rf_patternToken_107] at hok
    refine lv_aload_n hx hb d_O_patternToken_107 rfl (lv_at hl 0 rfl) ?_
    refine lv_iload_n hx hb d_O_patternToken_108 rfl (lv_at hl 1 rfl) ?_
    replace hok := bd_ok hok
    obtain ⟨r1, gs2, hc3, hok⟩ := hok
    refine cl_v (wc := (MO g ad ca gs)) (wr := []) hP hD hK hS hA [0, 1, 2, 3, 4, 5, 6, 7, 8, 9, 10, 11, 12, 13, 14, 15, 16, 17, 18, 19, 20] [] rfl rfl (by decide) (by decide) (va_runV (As := [.int x1]) (rest := []) ⟨hx, hb, hml, hown, hts⟩ (a_setItem l D H.size g ad ca F gs x1 r1 gs2 hc3) (cw_V hts 1 k_834 k_9 k_831 k_833 sel_O_setItem (by decide +kernel) ⟨Nat.le_of_ble_eq_true rfl, Nat.le_of_ble_eq_true rfl⟩) (pr_V hP hD hK [0, 1, 2, 3, 4, 5, 6, 7, 8, 9, 10, 11, 12, 13, 14, 15, 16, 17, 18, 19, 20] [0, 1, 2, 3, 4, 5, 6, 7, 8, 9, 10, 11, 12, 13, 14, 15, 16, 17, 18, 19] (by decide) rfl rfl (fun U hU hW => trivial) (fun U g mk a h => h) (q0 := 0) (ci := 8) rfl rfl) rfl rfl hl.1 rfl (lv_room (Nat.le_of_ble_eq_true rfl)) d_O_patternToken_109 ⟨by decide, by decide⟩) (fun u H locs h4 hP hD hK hS => ?_)
    have hP : va_P D wcl (MO g ad ca gs2) H := hP
    have hD : va_D A (MO g ad ca gs2) := hD
    have hK : va_K D wcl (MT ca) s := hK
    refine lv_iconst (v := 1) hx hb d_O_patternToken_112 (by decide) ?_
    obtain ⟨e8, e9⟩ := rt_ok hok
    rw [e9] at hP hD
    have hK9 := hK.sub (tys' := []) [] rfl
    exact W.zret (v := 1) hx hb hr (rfl) (fun t9 ht hW => ⟨⟨1, (), rfl, e8, ⟨by rw [ht]; exact hP, va_K.moved hW.alike hK9, hD⟩⟩, hS.F ht⟩) hS.2.2 d_O_patternToken_113
  have j67 : ∀ (gs : OS)  (H : Heap) (locs : List Loc) (ls : Array Slot), rf_patternToken_67 F gs = some (r0, gf) → va_P D wcl (MO g ad ca gs) H → va_D A (MO g ad ca gs) → va_S A s.heap H locs → lv_has ls 3 [(0, .ref g)] → W p l e (headSpec (Cond.code y_O_patternToken b_O_patternToken 3 (some .boolean) :: wal) ({ frames := 12, cells := 0, slots := 0, locals := 240 })).room s m ([.ref g, .int a1] : List Value).toArray below meth c H locs 0 0 (MQ below (va_Qi (S := Unit) (fun r u => r0 = r) (fun u t9 => po D (A) ((fun u => (MO g ad ca gf)) u) ((fun u => []) u) t9) (A)) ([.ref g, .int a1] : List Value).toArray s 0 0 A) (F0 m 67 ls []) := by
    intro gs  H locs ls hok hP hD hS hl
    rw [rf_patternToken_67] at hok
    refine lv_iconst (v := 0) hx hb d_O_patternToken_67 (by decide) ?_
    obtain ⟨e8, e9⟩ := rt_ok hok
    rw [e9] at hP hD
    have hK9 := hK.sub (tys' := []) [] rfl
    exact W.zret (v := 0) hx hb hr (rfl) (fun t9 ht hW => ⟨⟨0, (), rfl, e8, ⟨by rw [ht]; exact hP, va_K.moved hW.alike hK9, hD⟩⟩, hS.F ht⟩) hS.2.2 d_O_patternToken_68
  refine lv_aload_n hx hb d_O_patternToken_0 rfl (lv_at hl 0 rfl) ?_
  refine va_get (D := D) (ci := 8) (v := .ref (ad 4)) (C := rc_O) (T := ft_O) (N := 42) hx hb hts in_O hown hK hP 0 rfl rfl 4 (by decide) (hts _ k_659) (fun _ h9 => h9) rfl d_O_patternToken_1 ?_
  refine lv_iload_n hx hb d_O_patternToken_4 rfl (lv_at hl 1 rfl) ?_
  have hi6 := (gd_ok hok).1
  replace hok := (gd_ok hok).2
  refine va_iald hx hb hK hP 2 1 rfl rfl (hi6) d_O_patternToken_5 ?_
  refine lv_istore_n hx hb d_O_patternToken_6 rfl hl (by decide) rfl (fun ls hl => ?_)
  have hl : lv_has ls 3 [(2, .int ((gs.2 4) a1.toNatClampNeg)), (0, .ref g), (1, .int a1)] := hl
  refine lv_iload_n hx hb d_O_patternToken_7 rfl (lv_at hl 0 rfl) ?_
  refine lv_iconst (v := 1) hx hb d_O_patternToken_8 (by decide) ?_
  refine lv_icmp_ne (tgt := 18) hx hb d_O_patternToken_9 (by decide) (fun h7 => ?_) (fun h7 => ?_)
  · replace hok := ci_f h7 hok
    refine lv_iload_n hx hb d_O_patternToken_18 rfl (lv_at hl 0 rfl) ?_
    refine lv_iconst (v := 2) hx hb d_O_patternToken_19 (by decide) ?_
    refine lv_icmp_ne (tgt := 29) hx hb d_O_patternToken_20 (by decide) (fun h8 => ?_) (fun h8 => ?_)
    · replace hok := ci_f h8 hok
      refine lv_iload_n hx hb d_O_patternToken_29 rfl (lv_at hl 0 rfl) ?_
      replace hok := bd_ok hok
      obtain ⟨r9, gs10, hc11, hok⟩ := hok
      refine cl_i (wc := (MO g ad ca gs)) (wr := []) hP hD hK hS hA [0, 1, 2, 3, 4, 5, 6, 7, 8, 9, 10, 11, 12, 13, 14, 15, 16, 17, 18, 19, 20] [] rfl rfl (by decide) (by decide) (va_runS (As := [.int ((gs.2 4) a1.toNatClampNeg)]) (rest := []) ⟨hx, hb, hml, hown, hts⟩ (a_isName l D s.heap.size g ad ca F gs ((gs.2 4) a1.toNatClampNeg) r9 gs10 hc11) (cw_S hts 1 k_811 k_9 k_809 k_810 (by decide +kernel) ⟨Nat.le_of_ble_eq_true rfl, Nat.le_of_ble_eq_true rfl⟩) (pr_S hP hD hK [0, 1, 2, 3, 4, 5, 6, 7, 8, 9, 10, 11, 12, 13, 14, 15, 16, 17, 18, 19, 20] [0, 1, 2, 3, 4, 5, 6, 7, 8, 9, 10, 11, 12, 13, 14, 15, 16, 17, 18, 19] (by decide) rfl rfl (fun U hU hW => trivial) (fun U g mk a h => h)) rfl rfl hl.1 rfl (lv_room (Nat.le_of_ble_eq_true rfl)) d_O_patternToken_30 ⟨by decide, by decide⟩) (fun v13 u H locs h12 hP hD hK hS => ?_)
      have hP : va_P D wcl (MO g ad ca gs10) H := hP
      have hD : va_D A (MO g ad ca gs10) := hD
      have hK : va_K D wcl (MT ca) s := hK
      have h12 : r9 = v13 := h12
      subst h12
      refine lv_if_eq (tgt := 42) hx hb d_O_patternToken_33 (by decide) (fun h14 => ?_) (fun h14 => ?_)
      · replace hok := ci_t h14 hok
        refine lv_iload_n hx hb d_O_patternToken_42 rfl (lv_at hl 0 rfl) ?_
        refine lv_bipush (v := 7) hx hb d_O_patternToken_43 (by decide) ?_
        refine lv_icmp_ne (tgt := 85) hx hb d_O_patternToken_45 (by decide) (fun h15 => ?_) (fun h15 => ?_)
        · replace hok := ci_f h15 hok
          refine lv_iload_n hx hb d_O_patternToken_85 rfl (lv_at hl 0 rfl) ?_
          refine lv_bipush (v := 6) hx hb d_O_patternToken_86 (by decide) ?_
          refine lv_icmp_eq (tgt := 107) hx hb d_O_patternToken_88 (by decide) (fun h16 => ?_) (fun h16 => ?_)
          · replace hok := ci_t h16 hok
            exact j107 gs10 a1 H locs ls hok hP hD hS (lv_sub hl [1, 2] rfl)
          · replace hok := ci_f h16 hok
            refine lv_iload_n hx hb d_O_patternToken_91 rfl (lv_at hl 0 rfl) ?_
            replace hok := bd_ok hok
            obtain ⟨r17, gs18, hc19, hok⟩ := hok
            refine cl_i (wc := (MO g ad ca gs10)) (wr := []) hP hD hK hS hA [0, 1, 2, 3, 4, 5, 6, 7, 8, 9, 10, 11, 12, 13, 14, 15, 16, 17, 18, 19, 20] [] rfl rfl (by decide) (by decide) (va_runS (As := [.int ((gs.2 4) a1.toNatClampNeg)]) (rest := []) ⟨hx, hb, hml, hown, hts⟩ (a_isNumeral l D H.size g ad ca F gs10 ((gs.2 4) a1.toNatClampNeg) r17 gs18 hc19) (cw_S hts 1 k_845 k_9 k_843 k_844 (by decide +kernel) ⟨Nat.le_of_ble_eq_true rfl, Nat.le_of_ble_eq_true rfl⟩) (pr_S hP hD hK [0, 1, 2, 3, 4, 5, 6, 7, 8, 9, 10, 11, 12, 13, 14, 15, 16, 17, 18, 19, 20] [0, 1, 2, 3, 4, 5, 6, 7, 8, 9, 10, 11, 12, 13, 14, 15, 16, 17, 18, 19] (by decide) rfl rfl (fun U hU hW => trivial) (fun U g mk a h => h)) rfl rfl hl.1 rfl (lv_room (Nat.le_of_ble_eq_true rfl)) d_O_patternToken_92 ⟨by decide, by decide⟩) (fun v21 u H locs h20 hP hD hK hS => ?_)
            have hP : va_P D wcl (MO g ad ca gs18) H := hP
            have hD : va_D A (MO g ad ca gs18) := hD
            have hK : va_K D wcl (MT ca) s := hK
            have h20 : r17 = v21 := h20
            subst h20
            refine lv_if_ne (tgt := 107) hx hb d_O_patternToken_95 (by decide) (fun h22 => ?_) (fun h22 => ?_)
            · replace hok := ci_f h22 hok
              exact j107 gs18 a1 H locs ls hok hP hD hS (lv_sub hl [1, 2] rfl)
            · replace hok := ci_t h22 hok
              refine lv_iload_n hx hb d_O_patternToken_98 rfl (lv_at hl 0 rfl) ?_
              replace hok := bd_ok hok
              obtain ⟨r23, gs24, hc25, hok⟩ := hok
              refine cl_i (wc := (MO g ad ca gs18)) (wr := []) hP hD hK hS hA [0, 1, 2, 3, 4, 5, 6, 7, 8, 9, 10, 11, 12, 13, 14, 15, 16, 17, 18, 19, 20] [] rfl rfl (by decide) (by decide) (va_runS (As := [.int ((gs.2 4) a1.toNatClampNeg)]) (rest := []) ⟨hx, hb, hml, hown, hts⟩ (a_isKeyword l D H.size g ad ca F gs18 ((gs.2 4) a1.toNatClampNeg) r23 gs24 hc25) (cw_S hts 1 k_848 k_9 k_846 k_847 (by decide +kernel) ⟨Nat.le_of_ble_eq_true rfl, Nat.le_of_ble_eq_true rfl⟩) (pr_S hP hD hK [0, 1, 2, 3, 4, 5, 6, 7, 8, 9, 10, 11, 12, 13, 14, 15, 16, 17, 18, 19, 20] [0, 1, 2, 3, 4, 5, 6, 7, 8, 9, 10, 11, 12, 13, 14, 15, 16, 17, 18, 19] (by decide) rfl rfl (fun U hU hW => trivial) (fun U g mk a h => h)) rfl rfl hl.1 rfl (lv_room (Nat.le_of_ble_eq_true rfl)) d_O_patternToken_99 ⟨by decide, by decide⟩) (fun v27 u H locs h26 hP hD hK hS => ?_)
              have hP : va_P D wcl (MO g ad ca gs24) H := hP
              have hD : va_D A (MO g ad ca gs24) := hD
              have hK : va_K D wcl (MT ca) s := hK
              have h26 : r23 = v27 := h26
              subst h26
              refine lv_if_ne (tgt := 107) hx hb d_O_patternToken_102 (by decide) (fun h28 => ?_) (fun h28 => ?_)
              · replace hok := ci_f h28 hok
                exact j107 gs24 a1 H locs ls hok hP hD hS (lv_sub hl [1, 2] rfl)
              · replace hok := ci_t h28 hok
                refine lv_iconst (v := 0) hx hb d_O_patternToken_105 (by decide) ?_
                obtain ⟨e8, e9⟩ := rt_ok hok
                rw [e9] at hP hD
                have hK9 := hK.sub (tys' := []) [] rfl
                exact W.zret (v := 0) hx hb hr (rfl) (fun t9 ht hW => ⟨⟨0, (), rfl, e8, ⟨by rw [ht]; exact hP, va_K.moved hW.alike hK9, hD⟩⟩, hS.F ht⟩) hS.2.2 d_O_patternToken_106
        · replace hok := ci_t h15 hok
          refine lv_aload_n hx hb d_O_patternToken_48 rfl (lv_at hl 1 rfl) ?_
          replace hok := bd_ok hok
          obtain ⟨r29, gs30, hc31, hok⟩ := hok
          refine cl_i (wc := (MO g ad ca gs10)) (wr := []) hP hD hK hS hA [0, 1, 2, 3, 4, 5, 6, 7, 8, 9, 10, 11, 12, 13, 14, 15, 16, 17, 18, 19, 20] [] rfl rfl (by decide) (by decide) (va_runV (As := []) (rest := []) ⟨hx, hb, hml, hown, hts⟩ (a_tilde l D H.size g ad ca F gs10  r29 gs30 hc31) (cw_V hts 0 k_838 k_9 k_835 k_837 sel_O_tilde (by decide +kernel) ⟨Nat.le_of_ble_eq_true rfl, Nat.le_of_ble_eq_true rfl⟩) (pr_V hP hD hK [0, 1, 2, 3, 4, 5, 6, 7, 8, 9, 10, 11, 12, 13, 14, 15, 16, 17, 18, 19, 20] [0, 1, 2, 3, 4, 5, 6, 7, 8, 9, 10, 11, 12, 13, 14, 15, 16, 17, 18, 19] (by decide) rfl rfl (fun U hU hW => trivial) (fun U g mk a h => h) (q0 := 0) (ci := 8) rfl rfl) rfl rfl hl.1 rfl (lv_room (Nat.le_of_ble_eq_true rfl)) d_O_patternToken_49 ⟨by decide, by decide⟩) (fun v33 u H locs h32 hP hD hK hS => ?_)
          have hP : va_P D wcl (MO g ad ca gs30) H := hP
          have hD : va_D A (MO g ad ca gs30) := hD
          have hK : va_K D wcl (MT ca) s := hK
          have h32 : r29 = v33 := h32
          subst h32
          refine lv_if_eq (tgt := 67) hx hb d_O_patternToken_52 (by decide) (fun h34 => ?_) (fun h34 => ?_)
          · replace hok := ci_t h34 hok
            exact j67 gs30 H locs ls hok hP hD hS (lv_sub hl [1] rfl)
          · replace hok := ci_f h34 hok
            refine lv_aload_n hx hb d_O_patternToken_55 rfl (lv_at hl 1 rfl) ?_
            refine va_get (D := D) (ci := 8) (v := .ref (ad 4)) (C := rc_O) (T := ft_O) (N := 42) hx hb hts in_O hown hK hP 0 rfl rfl 4 (by decide) (hts _ k_659) (fun _ h9 => h9) rfl d_O_patternToken_56 ?_
            refine lv_iload_n hx hb d_O_patternToken_59 rfl (lv_at hl 2 rfl) ?_
            refine lv_iconst (v := 1) hx hb d_O_patternToken_60 (by decide) ?_
            refine lv_iadd hx hb d_O_patternToken_61 ?_
            have hi35 := (gd_ok hok).1
            replace hok := (gd_ok hok).2
            refine va_iald hx hb hK hP 2 1 rfl rfl (hi35) d_O_patternToken_62 ?_
            refine lv_iconst (v := 2) hx hb d_O_patternToken_63 (by decide) ?_
            refine lv_icmp_eq (tgt := 69) hx hb d_O_patternToken_64 (by decide) (fun h36 => ?_) (fun h36 => ?_)
            · replace hok := ci_t h36 hok
              refine lv_aload_n hx hb d_O_patternToken_69 rfl (lv_at hl 1 rfl) ?_
              refine lv_aload_n hx hb d_O_patternToken_70 rfl (lv_at hl 1 rfl) ?_
              refine va_get (D := D) (ci := 8) (v := .int (gs30.1 16)) (C := rc_O) (T := ft_O) (N := 42) hx hb hts in_O hown hK hP 0 rfl rfl 16 (by decide) (hts _ k_671) (fun _ h9 => h9) rfl d_O_patternToken_71 ?_
              refine lv_iload_n hx hb d_O_patternToken_74 rfl (lv_at hl 2 rfl) ?_
              replace hok := bd_ok hok
              obtain ⟨r37, gs38, hc39, hok⟩ := hok
              refine cl_v (wc := (MO g ad ca gs30)) (wr := []) hP hD hK hS hA [0, 1, 2, 3, 4, 5, 6, 7, 8, 9, 10, 11, 12, 13, 14, 15, 16, 17, 18, 19, 20] [] rfl rfl (by decide) (by decide) (va_runV (As := [.int (gs30.1 16), .int a1]) (rest := []) ⟨hx, hb, hml, hown, hts⟩ (a_makeMany l D H.size g ad ca F gs30 (gs30.1 16) a1 r37 gs38 hc39) (cw_V hts 2 k_842 k_9 k_839 k_841 sel_O_makeMany (by decide +kernel) ⟨Nat.le_of_ble_eq_true rfl, Nat.le_of_ble_eq_true rfl⟩) (pr_V hP hD hK [0, 1, 2, 3, 4, 5, 6, 7, 8, 9, 10, 11, 12, 13, 14, 15, 16, 17, 18, 19, 20] [0, 1, 2, 3, 4, 5, 6, 7, 8, 9, 10, 11, 12, 13, 14, 15, 16, 17, 18, 19] (by decide) rfl rfl (fun U hU hW => trivial) (fun U g mk a h => h) (q0 := 0) (ci := 8) rfl rfl) rfl rfl hl.1 rfl (lv_room (Nat.le_of_ble_eq_true rfl)) d_O_patternToken_75 ⟨by decide, by decide⟩) (fun u H locs h40 hP hD hK hS => ?_)
              have hP : va_P D wcl (MO g ad ca gs38) H := hP
              have hD : va_D A (MO g ad ca gs38) := hD
              have hK : va_K D wcl (MT ca) s := hK
              refine lv_aload_n hx hb d_O_patternToken_78 rfl (lv_at hl 1 rfl) ?_
              refine lv_iconst (v := -1) hx hb d_O_patternToken_79 (by decide) ?_
              refine va_put (D := D) (ci := 8) (v := .int (-1)) (ty := .int) (C := rc_O) (T := ft_O) (N := 42) hx hb hts in_O ty_O tk_O nm_O hown hK hP hD hS 0 rfl rfl 16 (by decide) (hts _ k_671) (fun _ h9 => h9) rfl (by decide +kernel) rfl rfl (Nat.le_of_ble_eq_true rfl) d_O_patternToken_80 (fun H locs hP hD hS => ?_)
              have hP : va_P D wcl (MO g ad ca (sI gs38 16 (-1))) H := hP
              have hD : va_D A (MO g ad ca (sI gs38 16 (-1))) := hD
              refine lv_iconst (v := 1) hx hb d_O_patternToken_83 (by decide) ?_
              obtain ⟨e8, e9⟩ := rt_ok hok
              rw [e9] at hP hD
              have hK9 := hK.sub (tys' := []) [] rfl
              exact W.zret (v := 1) hx hb hr (rfl) (fun t9 ht hW => ⟨⟨1, (), rfl, e8, ⟨by rw [ht]; exact hP, va_K.moved hW.alike hK9, hD⟩⟩, hS.F ht⟩) hS.2.2 d_O_patternToken_84
            · replace hok := ci_f h36 hok
              exact j67 gs30 H locs ls hok hP hD hS (lv_sub hl [1] rfl)
      · replace hok := ci_f h14 hok
        refine lv_aload_n hx hb d_O_patternToken_36 rfl (lv_at hl 1 rfl) ?_
        refine lv_iload_n hx hb d_O_patternToken_37 rfl (lv_at hl 2 rfl) ?_
        replace hok := bd_ok hok
        obtain ⟨r42, gs43, hc44, hok⟩ := hok
        refine cl_i (wc := (MO g ad ca gs10)) (wr := []) hP hD hK hS hA [0, 1, 2, 3, 4, 5, 6, 7, 8, 9, 10, 11, 12, 13, 14, 15, 16, 17, 18, 19, 20] [] rfl rfl (by decide) (by decide) (va_runV (As := [.int a1]) (rest := []) ⟨hx, hb, hml, hown, hts⟩ (a_addVariable l D H.size g ad ca F gs10 a1 r42 gs43 hc44) (cw_V hts 1 k_827 k_9 k_824 k_826 sel_O_addVariable (by decide +kernel) ⟨Nat.le_of_ble_eq_true rfl, Nat.le_of_ble_eq_true rfl⟩) (pr_V hP hD hK [0, 1, 2, 3, 4, 5, 6, 7, 8, 9, 10, 11, 12, 13, 14, 15, 16, 17, 18, 19, 20] [0, 1, 2, 3, 4, 5, 6, 7, 8, 9, 10, 11, 12, 13, 14, 15, 16, 17, 18, 19] (by decide) rfl rfl (fun U hU hW => trivial) (fun U g mk a h => h) (q0 := 0) (ci := 8) rfl rfl) rfl rfl hl.1 rfl (lv_room (Nat.le_of_ble_eq_true rfl)) d_O_patternToken_38 ⟨by decide, by decide⟩) (fun v46 u H locs h45 hP hD hK hS => ?_)
        have hP : va_P D wcl (MO g ad ca gs43) H := hP
        have hD : va_D A (MO g ad ca gs43) := hD
        have hK : va_K D wcl (MT ca) s := hK
        have h45 : r42 = v46 := h45
        subst h45
        have hn47 := (gd_ok hok).1
        replace hok := (gd_ok hok).2
        obtain ⟨e8, e9⟩ := rt_ok hok
        rw [e9] at hP hD
        have hK9 := hK.sub (tys' := []) [] rfl
        exact W.zret (v := r42) hx hb hr (nar_ib hn47) (fun t9 ht hW => ⟨⟨r42, (), rfl, e8, ⟨by rw [ht]; exact hP, va_K.moved hW.alike hK9, hD⟩⟩, hS.F ht⟩) hS.2.2 d_O_patternToken_41
    · replace hok := ci_t h8 hok
      refine lv_aload_n hx hb d_O_patternToken_23 rfl (lv_at hl 1 rfl) ?_
      replace hok := bd_ok hok
      obtain ⟨r48, gs49, hc50, hok⟩ := hok
      refine cl_v (wc := (MO g ad ca gs)) (wr := []) hP hD hK hS hA [0, 1, 2, 3, 4, 5, 6, 7, 8, 9, 10, 11, 12, 13, 14, 15, 16, 17, 18, 19, 20] [] rfl rfl (by decide) (by decide) (va_runV (As := []) (rest := []) ⟨hx, hb, hml, hown, hts⟩ (a_closeList l D s.heap.size g ad ca F gs  r48 gs49 hc50) (cw_V hts 0 k_823 k_9 k_820 k_822 sel_O_closeList (by decide +kernel) ⟨Nat.le_of_ble_eq_true rfl, Nat.le_of_ble_eq_true rfl⟩) (pr_V hP hD hK [0, 1, 2, 3, 4, 5, 6, 7, 8, 9, 10, 11, 12, 13, 14, 15, 16, 17, 18, 19, 20] [0, 1, 2, 3, 4, 5, 6, 7, 8, 9, 10, 11, 12, 13, 14, 15, 16, 17, 18, 19] (by decide) rfl rfl (fun U hU hW => trivial) (fun U g mk a h => h) (q0 := 0) (ci := 8) rfl rfl) rfl rfl hl.1 rfl (lv_room (Nat.le_of_ble_eq_true rfl)) d_O_patternToken_24 ⟨by decide, by decide⟩) (fun u H locs h51 hP hD hK hS => ?_)
      have hP : va_P D wcl (MO g ad ca gs49) H := hP
      have hD : va_D A (MO g ad ca gs49) := hD
      have hK : va_K D wcl (MT ca) s := hK
      refine lv_iconst (v := 1) hx hb d_O_patternToken_27 (by decide) ?_
      obtain ⟨e8, e9⟩ := rt_ok hok
      rw [e9] at hP hD
      have hK9 := hK.sub (tys' := []) [] rfl
      exact W.zret (v := 1) hx hb hr (rfl) (fun t9 ht hW => ⟨⟨1, (), rfl, e8, ⟨by rw [ht]; exact hP, va_K.moved hW.alike hK9, hD⟩⟩, hS.F ht⟩) hS.2.2 d_O_patternToken_28
  · replace hok := ci_t h7 hok
    refine lv_aload_n hx hb d_O_patternToken_12 rfl (lv_at hl 1 rfl) ?_
    refine lv_iload_n hx hb d_O_patternToken_13 rfl (lv_at hl 2 rfl) ?_
    replace hok := bd_ok hok
    obtain ⟨r53, gs54, hc55, hok⟩ := hok
    refine cl_i (wc := (MO g ad ca gs)) (wr := []) hP hD hK hS hA [0, 1, 2, 3, 4, 5, 6, 7, 8, 9, 10, 11, 12, 13, 14, 15, 16, 17, 18, 19, 20] [] rfl rfl (by decide) (by decide) (va_runV (As := [.int a1]) (rest := []) ⟨hx, hb, hml, hown, hts⟩ (a_openList l D s.heap.size g ad ca F gs a1 r53 gs54 hc55) (cw_V hts 1 k_815 k_9 k_812 k_814 sel_O_openList (by decide +kernel) ⟨Nat.le_of_ble_eq_true rfl, Nat.le_of_ble_eq_true rfl⟩) (pr_V hP hD hK [0, 1, 2, 3, 4, 5, 6, 7, 8, 9, 10, 11, 12, 13, 14, 15, 16, 17, 18, 19, 20] [0, 1, 2, 3, 4, 5, 6, 7, 8, 9, 10, 11, 12, 13, 14, 15, 16, 17, 18, 19] (by decide) rfl rfl (fun U hU hW => trivial) (fun U g mk a h => h) (q0 := 0) (ci := 8) rfl rfl) rfl rfl hl.1 rfl (lv_room (Nat.le_of_ble_eq_true rfl)) d_O_patternToken_14 ⟨by decide, by decide⟩) (fun v57 u H locs h56 hP hD hK hS => ?_)
    have hP : va_P D wcl (MO g ad ca gs54) H := hP
    have hD : va_D A (MO g ad ca gs54) := hD
    have hK : va_K D wcl (MT ca) s := hK
    have h56 : r53 = v57 := h56
    subst h56
    have hn58 := (gd_ok hok).1
    replace hok := (gd_ok hok).2
    obtain ⟨e8, e9⟩ := rt_ok hok
    rw [e9] at hP hD
    have hK9 := hK.sub (tys' := []) [] rfl
    exact W.zret (v := r53) hx hb hr (nar_ib hn58) (fun t9 ht hW => ⟨⟨r53, (), rfl, e8, ⟨by rw [ht]; exact hP, va_K.moved hW.alike hK9, hD⟩⟩, hS.F ht⟩) hS.2.2 d_O_patternToken_17

set_option maxHeartbeats 4000000 in
set_option maxRecDepth 100000 in
theorem a_templateToken (l : Launch) (D : va_G) (sz : Nat) (g : Nat) (ad : Nat → Nat) (ca : Nat → ClassId) (F : Nat) (gs : OS) (a1 : Int32) (r0 : Int32) (gf : OS) (hok : rf_templateToken F gs a1 = some (r0, gf)) : Met l y_O_templateToken (Cond.code y_O_templateToken b_O_templateToken 4 (some .boolean) :: wal) ({ frames := 12, cells := 0, slots := 0, locals := 240 }) (va_Pc [.ref g, .int a1] (pr D sz (MO g ad ca gs) (MT ca) (fun _ => True))) (va_Qi (S := Unit) (fun r u => r0 = r) (fun u t9 => po D (va_A (MO g ad ca gs) sz) ((fun u => (MO g ad ca gf)) u) ((fun u => []) u) t9) (va_A (MO g ad ca gs) sz)) 0 0 (va_A (MO g ad ca gs) sz) := by
  refine Met.ofW (cc := b_O_templateToken) (maxL := 4) (ret := (some .boolean)) (by decide) rfl ?_
  intro p e s m args below meth c s₁ B hml hv
  obtain ⟨rfl, hsz, hP, hK, hD0, hE⟩ := hv
  have hx := B.exec
  have hb := B.bytes
  have hr := B.returns
  have hts0 := atoms_spec (ws := Cond.code y_O_templateToken b_O_templateToken 4 (some .boolean) :: wal) B.pre
  have hts : ∀ w ∈ wal, w.before _ s = true := fun w h => hts0 w (List.mem_cons_of_mem _ h)
  have hown : s.vm.findClass rc_O = some m.cls := findClass_of_methodNamed B.named
  have hlocks := B.notSynchronized
  subst hsz
  have hD := hD0.self (sz := s.heap.size)
  generalize hAe : va_A (MO g ad ca gs) s.heap.size = A at hD ⊢
  have hA : ∀ q : Nat, s.heap.size ≤ q → A q := fun q h => by rw [← hAe]; exact Or.inr h
  have hS : va_S A s.heap s.heap [] := va_S.rf
  have hl := lv_entry ([.ref g, .int a1]) (n := 4) (Nat.le_of_ble_eq_true rfl)
  rw [lg_entry_eq]
  generalize (lg_sl ([.ref g, .int a1]) ++ List.replicate (4 - (lg_sl ([.ref g, .int a1])).length) Slot.unset).toArray = ls at hl ⊢
  have hl : lv_has ls 4 [(0, .ref g), (1, .int a1)] := hl
  have j125 : ∀ (gs : OS) (x1 : Int32) (H : Heap) (locs : List Loc) (ls : Array Slot), rf_templateToken_125 F gs x1 = some (r0, gf) → va_P D wcl (MO g ad ca gs) H → va_D A (MO g ad ca gs) → va_S A s.heap H locs → lv_has ls 4 [(0, .ref g), (1, .int x1)] → W p l e (headSpec (Cond.code y_O_templateToken b_O_templateToken 4 (some .boolean) :: wal) ({ frames := 12, cells := 0, slots := 0, locals := 240 })).room s m ([.ref g, .int a1] : List Value).toArray below meth c H locs 0 0 (MQ below (va_Qi (S := Unit) (fun r u => r0 = r) (fun u t9 => po D (A) ((fun u => (MO g ad ca gf)) u) ((fun u => []) u) t9) (A)) ([.ref g, .int a1] : List Value).toArray s 0 0 A) (F0 m 125 ls []) := by
    intro gs x1 H locs ls hok hP hD hS hl
    rw [rf_templateToken_125] at hok
    refine lv_aload_n hx hb d_O_templateToken_125 rfl (lv_at hl 0 rfl) ?_
    refine lv_iload_n hx hb d_O_templateToken_126 rfl (lv_at hl 1 rfl) ?_
    replace hok := bd_ok hok
    obtain ⟨r1, gs2, hc3, hok⟩ := hok
    refine cl_v (wc := (MO g ad ca gs)) (wr := []) hP hD hK hS hA [0, 1, 2, 3, 4, 5, 6, 7, 8, 9, 10, 11, 12, 13, 14, 15, 16, 17, 18, 19, 20] [] rfl rfl (by decide) (by decide) (va_runV (As := [.int x1]) (rest := []) ⟨hx, hb, hml, hown, hts⟩ (a_setItem l D H.size g ad ca F gs x1 r1 gs2 hc3) (cw_V hts 1 k_834 k_9 k_831 k_833 sel_O_setItem (by decide +kernel) ⟨Nat.le_of_ble_eq_true rfl, Nat.le_of_ble_eq_true rfl⟩) (pr_V hP hD hK [0, 1, 2, 3, 4, 5, 6, 7, 8, 9, 10, 11, 12, 13, 14, 15, 16, 17, 18, 19, 20] [0, 1, 2, 3, 4, 5, 6, 7, 8, 9, 10, 11, 12, 13, 14, 15, 16, 17, 18, 19] (by decide) rfl rfl (fun U hU hW => trivial) (fun U g mk a h => h) (q0 := 0) (ci := 8) rfl rfl) rfl rfl hl.1 rfl (lv_room (Nat.le_of_ble_eq_true rfl)) d_O_templateToken_127 ⟨by decide, by decide⟩) (fun u H locs h4 hP hD hK hS => ?_)
    have hP : va_P D wcl (MO g ad ca gs2) H := hP
    have hD : va_D A (MO g ad ca gs2) := hD
    have hK : va_K D wcl (MT ca) s := hK
    refine lv_iconst (v := 1) hx hb d_O_templateToken_130 (by decide) ?_
    obtain ⟨e8, e9⟩ := rt_ok hok
    rw [e9] at hP hD
    have hK9 := hK.sub (tys' := []) [] rfl
    exact W.zret (v := 1) hx hb hr (rfl) (fun t9 ht hW => ⟨⟨1, (), rfl, e8, ⟨by rw [ht]; exact hP, va_K.moved hW.alike hK9, hD⟩⟩, hS.F ht⟩) hS.2.2 d_O_templateToken_131
  have j77 : ∀ (d77 : Nat) (gs : OS) (x1 : Int32) (x3 : Int32) (H : Heap) (locs : List Loc) (ls : Array Slot), rf_templateToken_77 F d77 gs x1 x3 = some (r0, gf) → va_P D wcl (MO g ad ca gs) H → va_D A (MO g ad ca gs) → va_S A s.heap H locs → lv_has ls 4 [(0, .ref g), (1, .int x1), (3, .int x3)] → W p l e (headSpec (Cond.code y_O_templateToken b_O_templateToken 4 (some .boolean) :: wal) ({ frames := 12, cells := 0, slots := 0, locals := 240 })).room s m ([.ref g, .int a1] : List Value).toArray below meth c H locs 0 0 (MQ below (va_Qi (S := Unit) (fun r u => r0 = r) (fun u t9 => po D (A) ((fun u => (MO g ad ca gf)) u) ((fun u => []) u) t9) (A)) ([.ref g, .int a1] : List Value).toArray s 0 0 A) (F0 m 77 ls []) := by
    intro d77
    induction d77 with
    | zero =>
      intro gs x1 x3 H locs ls hok
      have h9 : (none : RO) = some (r0, gf) := hok
      cases h9
    | succ d77 ih77 =>
      intro gs x1 x3 H locs ls hok hP hD hS hl
      rw [rf_templateToken_77] at hok
      refine lv_iload_n hx hb d_O_templateToken_77 rfl (lv_at hl 2 rfl) ?_
      refine lv_iload_n hx hb d_O_templateToken_78 rfl (lv_at hl 1 rfl) ?_
      refine lv_icmp_ge (tgt := 95) hx hb d_O_templateToken_79 (by decide) (fun h6 => ?_) (fun h6 => ?_)
      · replace hok := ci_t h6 hok
        refine lv_aload_n hx hb d_O_templateToken_95 rfl (lv_at hl 0 rfl) ?_
        refine lv_iconst (v := -1) hx hb d_O_templateToken_96 (by decide) ?_
        refine va_put (D := D) (ci := 8) (v := .int (-1)) (ty := .int) (C := rc_O) (T := ft_O) (N := 42) hx hb hts in_O ty_O tk_O nm_O hown hK hP hD hS 0 rfl rfl 16 (by decide) (hts _ k_671) (fun _ h9 => h9) rfl (by decide +kernel) rfl rfl (Nat.le_of_ble_eq_true rfl) d_O_templateToken_97 (fun H locs hP hD hS => ?_)
        have hP : va_P D wcl (MO g ad ca (sI gs 16 (-1))) H := hP
        have hD : va_D A (MO g ad ca (sI gs 16 (-1))) := hD
        refine lv_iconst (v := 1) hx hb d_O_templateToken_100 (by decide) ?_
        obtain ⟨e8, e9⟩ := rt_ok hok
        rw [e9] at hP hD
        have hK9 := hK.sub (tys' := []) [] rfl
        exact W.zret (v := 1) hx hb hr (rfl) (fun t9 ht hW => ⟨⟨1, (), rfl, e8, ⟨by rw [ht]; exact hP, va_K.moved hW.alike hK9, hD⟩⟩, hS.F ht⟩) hS.2.2 d_O_templateToken_101
      · replace hok := ci_f h6 hok
        refine lv_aload_n hx hb d_O_templateToken_82 rfl (lv_at hl 0 rfl) ?_
        refine va_get (D := D) (ci := 8) (v := .ref (ad 20)) (C := rc_O) (T := ft_O) (N := 42) hx hb hts in_O hown hK hP 0 rfl rfl 20 (by decide) (hts _ k_675) (fun _ h9 => h9) rfl d_O_templateToken_83 ?_
        refine lv_iload_n hx hb d_O_templateToken_86 rfl (lv_at hl 2 rfl) ?_
        refine lv_iconst (v := 1) hx hb d_O_templateToken_87 (by decide) ?_
        have hi7 := (gd_ok hok).1
        replace hok := (gd_ok hok).2
        refine va_zast hx hb hK hP hD hS 12 11 rfl rfl hi7 d_O_templateToken_88 (fun H locs hP hD hS => ?_)
        have hP : va_P D wcl (MO g ad ca (sA gs 20 (upd (gs.2 20) x3.toNatClampNeg (vp_nar .boolean 1)))) H := hP
        have hD : va_D A (MO g ad ca (sA gs 20 (upd (gs.2 20) x3.toNatClampNeg (vp_nar .boolean 1)))) := hD
        refine lv_iinc (k := 2) (v := (x3 + 1)) hx hb d_O_templateToken_89 hl rfl (by rfl) (by decide) rfl (fun ls hl => ?_)
        have hl : lv_has ls 4 [(3, .int (x3 + 1)), (0, .ref g), (1, .int x1)] := hl
        refine lv_goto (tgt := 77) hx hb d_O_templateToken_92 (by decide) ?_
        exact ih77 (sA gs 20 (upd (gs.2 20) x3.toNatClampNeg (vp_nar .boolean 1))) x1 (x3 + 1) H locs ls hok hP hD hS (lv_sub hl [1, 2, 0] rfl)
  have j70 : ∀ (gs : OS)  (H : Heap) (locs : List Loc) (ls : Array Slot), rf_templateToken_70 F gs = some (r0, gf) → va_P D wcl (MO g ad ca gs) H → va_D A (MO g ad ca gs) → va_S A s.heap H locs → lv_has ls 4 [(0, .ref g)] → W p l e (headSpec (Cond.code y_O_templateToken b_O_templateToken 4 (some .boolean) :: wal) ({ frames := 12, cells := 0, slots := 0, locals := 240 })).room s m ([.ref g, .int a1] : List Value).toArray below meth c H locs 0 0 (MQ below (va_Qi (S := Unit) (fun r u => r0 = r) (fun u t9 => po D (A) ((fun u => (MO g ad ca gf)) u) ((fun u => []) u) t9) (A)) ([.ref g, .int a1] : List Value).toArray s 0 0 A) (F0 m 70 ls []) := by
    intro gs  H locs ls hok hP hD hS hl
    rw [rf_templateToken_70] at hok
    refine lv_iconst (v := 0) hx hb d_O_templateToken_70 (by decide) ?_
    obtain ⟨e8, e9⟩ := rt_ok hok
    rw [e9] at hP hD
    have hK9 := hK.sub (tys' := []) [] rfl
    exact W.zret (v := 0) hx hb hr (rfl) (fun t9 ht hW => ⟨⟨0, (), rfl, e8, ⟨by rw [ht]; exact hP, va_K.moved hW.alike hK9, hD⟩⟩, hS.F ht⟩) hS.2.2 d_O_templateToken_71
  refine lv_aload_n hx hb d_O_templateToken_0 rfl (lv_at hl 0 rfl) ?_
  refine va_get (D := D) (ci := 8) (v := .ref (ad 4)) (C := rc_O) (T := ft_O) (N := 42) hx hb hts in_O hown hK hP 0 rfl rfl 4 (by decide) (hts _ k_659) (fun _ h9 => h9) rfl d_O_templateToken_1 ?_
  refine lv_iload_n hx hb d_O_templateToken_4 rfl (lv_at hl 1 rfl) ?_
  have hi8 := (gd_ok hok).1
  replace hok := (gd_ok hok).2
  refine va_iald hx hb hK hP 2 1 rfl rfl (hi8) d_O_templateToken_5 ?_
  refine lv_istore_n hx hb d_O_templateToken_6 rfl hl (by decide) rfl (fun ls hl => ?_)
  have hl : lv_has ls 4 [(2, .int ((gs.2 4) a1.toNatClampNeg)), (0, .ref g), (1, .int a1)] := hl
  refine lv_iload_n hx hb d_O_templateToken_7 rfl (lv_at hl 0 rfl) ?_
  refine lv_iconst (v := 1) hx hb d_O_templateToken_8 (by decide) ?_
  refine lv_icmp_ne (tgt := 18) hx hb d_O_templateToken_9 (by decide) (fun h9 => ?_) (fun h9 => ?_)
  · replace hok := ci_f h9 hok
    refine lv_iload_n hx hb d_O_templateToken_18 rfl (lv_at hl 0 rfl) ?_
    refine lv_iconst (v := 2) hx hb d_O_templateToken_19 (by decide) ?_
    refine lv_icmp_ne (tgt := 38) hx hb d_O_templateToken_20 (by decide) (fun h10 => ?_) (fun h10 => ?_)
    · replace hok := ci_f h10 hok
      refine lv_iload_n hx hb d_O_templateToken_38 rfl (lv_at hl 0 rfl) ?_
      refine lv_bipush (v := 7) hx hb d_O_templateToken_39 (by decide) ?_
      refine lv_icmp_ne (tgt := 102) hx hb d_O_templateToken_41 (by decide) (fun h11 => ?_) (fun h11 => ?_)
      · replace hok := ci_f h11 hok
        refine lv_iload_n hx hb d_O_templateToken_102 rfl (lv_at hl 0 rfl) ?_
        replace hok := bd_ok hok
        obtain ⟨r12, gs13, hc14, hok⟩ := hok
        refine cl_i (wc := (MO g ad ca gs)) (wr := []) hP hD hK hS hA [0, 1, 2, 3, 4, 5, 6, 7, 8, 9, 10, 11, 12, 13, 14, 15, 16, 17, 18, 19, 20] [] rfl rfl (by decide) (by decide) (va_runS (As := [.int ((gs.2 4) a1.toNatClampNeg)]) (rest := []) ⟨hx, hb, hml, hown, hts⟩ (a_isName l D s.heap.size g ad ca F gs ((gs.2 4) a1.toNatClampNeg) r12 gs13 hc14) (cw_S hts 1 k_811 k_9 k_809 k_810 (by decide +kernel) ⟨Nat.le_of_ble_eq_true rfl, Nat.le_of_ble_eq_true rfl⟩) (pr_S hP hD hK [0, 1, 2, 3, 4, 5, 6, 7, 8, 9, 10, 11, 12, 13, 14, 15, 16, 17, 18, 19, 20] [0, 1, 2, 3, 4, 5, 6, 7, 8, 9, 10, 11, 12, 13, 14, 15, 16, 17, 18, 19] (by decide) rfl rfl (fun U hU hW => trivial) (fun U g mk a h => h)) rfl rfl hl.1 rfl (lv_room (Nat.le_of_ble_eq_true rfl)) d_O_templateToken_103 ⟨by decide, by decide⟩) (fun v16 u H locs h15 hP hD hK hS => ?_)
        have hP : va_P D wcl (MO g ad ca gs13) H := hP
        have hD : va_D A (MO g ad ca gs13) := hD
        have hK : va_K D wcl (MT ca) s := hK
        have h15 : r12 = v16 := h15
        subst h15
        refine lv_if_ne (tgt := 125) hx hb d_O_templateToken_106 (by decide) (fun h17 => ?_) (fun h17 => ?_)
        · replace hok := ci_f h17 hok
          exact j125 gs13 a1 H locs ls hok hP hD hS (lv_sub hl [1, 2] rfl)
        · replace hok := ci_t h17 hok
          refine lv_iload_n hx hb d_O_templateToken_109 rfl (lv_at hl 0 rfl) ?_
          replace hok := bd_ok hok
          obtain ⟨r18, gs19, hc20, hok⟩ := hok
          refine cl_i (wc := (MO g ad ca gs13)) (wr := []) hP hD hK hS hA [0, 1, 2, 3, 4, 5, 6, 7, 8, 9, 10, 11, 12, 13, 14, 15, 16, 17, 18, 19, 20] [] rfl rfl (by decide) (by decide) (va_runS (As := [.int ((gs.2 4) a1.toNatClampNeg)]) (rest := []) ⟨hx, hb, hml, hown, hts⟩ (a_isNumeral l D H.size g ad ca F gs13 ((gs.2 4) a1.toNatClampNeg) r18 gs19 hc20) (cw_S hts 1 k_845 k_9 k_843 k_844 (by decide +kernel) ⟨Nat.le_of_ble_eq_true rfl, Nat.le_of_ble_eq_true rfl⟩) (pr_S hP hD hK [0, 1, 2, 3, 4, 5, 6, 7, 8, 9, 10, 11, 12, 13, 14, 15, 16, 17, 18, 19, 20] [0, 1, 2, 3, 4, 5, 6, 7, 8, 9, 10, 11, 12, 13, 14, 15, 16, 17, 18, 19] (by decide) rfl rfl (fun U hU hW => trivial) (fun U g mk a h => h)) rfl rfl hl.1 rfl (lv_room (Nat.le_of_ble_eq_true rfl)) d_O_templateToken_110 ⟨by decide, by decide⟩) (fun v22 u H locs h21 hP hD hK hS => ?_)
          have hP : va_P D wcl (MO g ad ca gs19) H := hP
          have hD : va_D A (MO g ad ca gs19) := hD
          have hK : va_K D wcl (MT ca) s := hK
          have h21 : r18 = v22 := h21
          subst h21
          refine lv_if_ne (tgt := 125) hx hb d_O_templateToken_113 (by decide) (fun h23 => ?_) (fun h23 => ?_)
          · replace hok := ci_f h23 hok
            exact j125 gs19 a1 H locs ls hok hP hD hS (lv_sub hl [1, 2] rfl)
          · replace hok := ci_t h23 hok
            refine lv_iload_n hx hb d_O_templateToken_116 rfl (lv_at hl 0 rfl) ?_
            replace hok := bd_ok hok
            obtain ⟨r24, gs25, hc26, hok⟩ := hok
            refine cl_i (wc := (MO g ad ca gs19)) (wr := []) hP hD hK hS hA [0, 1, 2, 3, 4, 5, 6, 7, 8, 9, 10, 11, 12, 13, 14, 15, 16, 17, 18, 19, 20] [] rfl rfl (by decide) (by decide) (va_runS (As := [.int ((gs.2 4) a1.toNatClampNeg)]) (rest := []) ⟨hx, hb, hml, hown, hts⟩ (a_isKeyword l D H.size g ad ca F gs19 ((gs.2 4) a1.toNatClampNeg) r24 gs25 hc26) (cw_S hts 1 k_848 k_9 k_846 k_847 (by decide +kernel) ⟨Nat.le_of_ble_eq_true rfl, Nat.le_of_ble_eq_true rfl⟩) (pr_S hP hD hK [0, 1, 2, 3, 4, 5, 6, 7, 8, 9, 10, 11, 12, 13, 14, 15, 16, 17, 18, 19, 20] [0, 1, 2, 3, 4, 5, 6, 7, 8, 9, 10, 11, 12, 13, 14, 15, 16, 17, 18, 19] (by decide) rfl rfl (fun U hU hW => trivial) (fun U g mk a h => h)) rfl rfl hl.1 rfl (lv_room (Nat.le_of_ble_eq_true rfl)) d_O_templateToken_117 ⟨by decide, by decide⟩) (fun v28 u H locs h27 hP hD hK hS => ?_)
            have hP : va_P D wcl (MO g ad ca gs25) H := hP
            have hD : va_D A (MO g ad ca gs25) := hD
            have hK : va_K D wcl (MT ca) s := hK
            have h27 : r24 = v28 := h27
            subst h27
            refine lv_if_ne (tgt := 125) hx hb d_O_templateToken_120 (by decide) (fun h29 => ?_) (fun h29 => ?_)
            · replace hok := ci_f h29 hok
              exact j125 gs25 a1 H locs ls hok hP hD hS (lv_sub hl [1, 2] rfl)
            · replace hok := ci_t h29 hok
              refine lv_iconst (v := 0) hx hb d_O_templateToken_123 (by decide) ?_
              obtain ⟨e8, e9⟩ := rt_ok hok
              rw [e9] at hP hD
              have hK9 := hK.sub (tys' := []) [] rfl
              exact W.zret (v := 0) hx hb hr (rfl) (fun t9 ht hW => ⟨⟨0, (), rfl, e8, ⟨by rw [ht]; exact hP, va_K.moved hW.alike hK9, hD⟩⟩, hS.F ht⟩) hS.2.2 d_O_templateToken_124
      · replace hok := ci_t h11 hok
        refine lv_aload_n hx hb d_O_templateToken_44 rfl (lv_at hl 1 rfl) ?_
        refine va_get (D := D) (ci := 8) (v := .int (gs.1 13)) (C := rc_O) (T := ft_O) (N := 42) hx hb hts in_O hown hK hP 0 rfl rfl 13 (by decide) (hts _ k_668) (fun _ h9 => h9) rfl d_O_templateToken_45 ?_
        refine lv_if_eq (tgt := 70) hx hb d_O_templateToken_48 (by decide) (fun h30 => ?_) (fun h30 => ?_)
        · replace hok := ci_t h30 hok
          exact j70 gs s.heap [] ls hok hP hD hS (lv_sub hl [1] rfl)
        · replace hok := ci_f h30 hok
          refine lv_aload_n hx hb d_O_templateToken_51 rfl (lv_at hl 1 rfl) ?_
          replace hok := bd_ok hok
          obtain ⟨r31, gs32, hc33, hok⟩ := hok
          refine cl_i (wc := (MO g ad ca gs)) (wr := []) hP hD hK hS hA [0, 1, 2, 3, 4, 5, 6, 7, 8, 9, 10, 11, 12, 13, 14, 15, 16, 17, 18, 19, 20] [] rfl rfl (by decide) (by decide) (va_runV (As := []) (rest := []) ⟨hx, hb, hml, hown, hts⟩ (a_tilde l D s.heap.size g ad ca F gs  r31 gs32 hc33) (cw_V hts 0 k_838 k_9 k_835 k_837 sel_O_tilde (by decide +kernel) ⟨Nat.le_of_ble_eq_true rfl, Nat.le_of_ble_eq_true rfl⟩) (pr_V hP hD hK [0, 1, 2, 3, 4, 5, 6, 7, 8, 9, 10, 11, 12, 13, 14, 15, 16, 17, 18, 19, 20] [0, 1, 2, 3, 4, 5, 6, 7, 8, 9, 10, 11, 12, 13, 14, 15, 16, 17, 18, 19] (by decide) rfl rfl (fun U hU hW => trivial) (fun U g mk a h => h) (q0 := 0) (ci := 8) rfl rfl) rfl rfl hl.1 rfl (lv_room (Nat.le_of_ble_eq_true rfl)) d_O_templateToken_52 ⟨by decide, by decide⟩) (fun v35 u H locs h34 hP hD hK hS => ?_)
          have hP : va_P D wcl (MO g ad ca gs32) H := hP
          have hD : va_D A (MO g ad ca gs32) := hD
          have hK : va_K D wcl (MT ca) s := hK
          have h34 : r31 = v35 := h34
          subst h34
          refine lv_if_eq (tgt := 70) hx hb d_O_templateToken_55 (by decide) (fun h36 => ?_) (fun h36 => ?_)
          · replace hok := ci_t h36 hok
            exact j70 gs32 H locs ls hok hP hD hS (lv_sub hl [1] rfl)
          · replace hok := ci_f h36 hok
            refine lv_aload_n hx hb d_O_templateToken_58 rfl (lv_at hl 1 rfl) ?_
            refine lv_aload_n hx hb d_O_templateToken_59 rfl (lv_at hl 1 rfl) ?_
            refine va_get (D := D) (ci := 8) (v := .int (gs32.1 16)) (C := rc_O) (T := ft_O) (N := 42) hx hb hts in_O hown hK hP 0 rfl rfl 16 (by decide) (hts _ k_671) (fun _ h9 => h9) rfl d_O_templateToken_60 ?_
            refine lv_iload_n hx hb d_O_templateToken_63 rfl (lv_at hl 2 rfl) ?_
            replace hok := bd_ok hok
            obtain ⟨r37, gs38, hc39, hok⟩ := hok
            refine cl_i (wc := (MO g ad ca gs32)) (wr := []) hP hD hK hS hA [0, 1, 2, 3, 4, 5, 6, 7, 8, 9, 10, 11, 12, 13, 14, 15, 16, 17, 18, 19, 20] [] rfl rfl (by decide) (by decide) (va_runV (As := [.int (gs32.1 16), .int a1]) (rest := []) ⟨hx, hb, hml, hown, hts⟩ (a_hasMany l D H.size g ad ca F gs32 (gs32.1 16) a1 r37 gs38 hc39) (cw_V hts 2 k_864 k_9 k_861 k_863 sel_O_hasMany (by decide +kernel) ⟨Nat.le_of_ble_eq_true rfl, Nat.le_of_ble_eq_true rfl⟩) (pr_V hP hD hK [0, 1, 2, 3, 4, 5, 6, 7, 8, 9, 10, 11, 12, 13, 14, 15, 16, 17, 18, 19, 20] [0, 1, 2, 3, 4, 5, 6, 7, 8, 9, 10, 11, 12, 13, 14, 15, 16, 17, 18, 19] (by decide) rfl rfl (fun U hU hW => trivial) (fun U g mk a h => h) (q0 := 0) (ci := 8) rfl rfl) rfl rfl hl.1 rfl (lv_room (Nat.le_of_ble_eq_true rfl)) d_O_templateToken_64 ⟨by decide, by decide⟩) (fun v41 u H locs h40 hP hD hK hS => ?_)
            have hP : va_P D wcl (MO g ad ca gs38) H := hP
            have hD : va_D A (MO g ad ca gs38) := hD
            have hK : va_K D wcl (MT ca) s := hK
            have h40 : r37 = v41 := h40
            subst h40
            refine lv_if_ne (tgt := 72) hx hb d_O_templateToken_67 (by decide) (fun h42 => ?_) (fun h42 => ?_)
            · replace hok := ci_f h42 hok
              refine lv_aload_n hx hb d_O_templateToken_72 rfl (lv_at hl 1 rfl) ?_
              refine va_get (D := D) (ci := 8) (v := .int (gs38.1 16)) (C := rc_O) (T := ft_O) (N := 42) hx hb hts in_O hown hK hP 0 rfl rfl 16 (by decide) (hts _ k_671) (fun _ h9 => h9) rfl d_O_templateToken_73 ?_
              refine lv_istore_n hx hb d_O_templateToken_76 rfl hl (by decide) rfl (fun ls hl => ?_)
              have hl : lv_has ls 4 [(3, .int (gs38.1 16)), (2, .int ((gs.2 4) a1.toNatClampNeg)), (0, .ref g), (1, .int a1)] := hl
              exact j77 F gs38 a1 (gs38.1 16) H locs ls hok hP hD hS (lv_sub hl [2, 3, 0] rfl)
            · replace hok := ci_t h42 hok
              exact j70 gs38 H locs ls hok hP hD hS (lv_sub hl [1] rfl)
    · replace hok := ci_t h10 hok
      refine lv_aload_n hx hb d_O_templateToken_23 rfl (lv_at hl 1 rfl) ?_
      refine va_get (D := D) (ci := 8) (v := .int (gs.1 13)) (C := rc_O) (T := ft_O) (N := 42) hx hb hts in_O hown hK hP 0 rfl rfl 13 (by decide) (hts _ k_668) (fun _ h9 => h9) rfl d_O_templateToken_24 ?_
      refine lv_if_ne (tgt := 32) hx hb d_O_templateToken_27 (by decide) (fun h43 => ?_) (fun h43 => ?_)
      · replace hok := ci_f h43 hok
        refine lv_aload_n hx hb d_O_templateToken_32 rfl (lv_at hl 1 rfl) ?_
        replace hok := bd_ok hok
        obtain ⟨r44, gs45, hc46, hok⟩ := hok
        refine cl_v (wc := (MO g ad ca gs)) (wr := []) hP hD hK hS hA [0, 1, 2, 3, 4, 5, 6, 7, 8, 9, 10, 11, 12, 13, 14, 15, 16, 17, 18, 19, 20] [] rfl rfl (by decide) (by decide) (va_runV (As := []) (rest := []) ⟨hx, hb, hml, hown, hts⟩ (a_closeList l D s.heap.size g ad ca F gs  r44 gs45 hc46) (cw_V hts 0 k_823 k_9 k_820 k_822 sel_O_closeList (by decide +kernel) ⟨Nat.le_of_ble_eq_true rfl, Nat.le_of_ble_eq_true rfl⟩) (pr_V hP hD hK [0, 1, 2, 3, 4, 5, 6, 7, 8, 9, 10, 11, 12, 13, 14, 15, 16, 17, 18, 19, 20] [0, 1, 2, 3, 4, 5, 6, 7, 8, 9, 10, 11, 12, 13, 14, 15, 16, 17, 18, 19] (by decide) rfl rfl (fun U hU hW => trivial) (fun U g mk a h => h) (q0 := 0) (ci := 8) rfl rfl) rfl rfl hl.1 rfl (lv_room (Nat.le_of_ble_eq_true rfl)) d_O_templateToken_33 ⟨by decide, by decide⟩) (fun u H locs h47 hP hD hK hS => ?_)
        have hP : va_P D wcl (MO g ad ca gs45) H := hP
        have hD : va_D A (MO g ad ca gs45) := hD
        have hK : va_K D wcl (MT ca) s := hK
        refine lv_iconst (v := 1) hx hb d_O_templateToken_36 (by decide) ?_
        obtain ⟨e8, e9⟩ := rt_ok hok
        rw [e9] at hP hD
        have hK9 := hK.sub (tys' := []) [] rfl
        exact W.zret (v := 1) hx hb hr (rfl) (fun t9 ht hW => ⟨⟨1, (), rfl, e8, ⟨by rw [ht]; exact hP, va_K.moved hW.alike hK9, hD⟩⟩, hS.F ht⟩) hS.2.2 d_O_templateToken_37
      · replace hok := ci_t h43 hok
        refine lv_iconst (v := 0) hx hb d_O_templateToken_30 (by decide) ?_
        obtain ⟨e8, e9⟩ := rt_ok hok
        rw [e9] at hP hD
        have hK9 := hK.sub (tys' := []) [] rfl
        exact W.zret (v := 0) hx hb hr (rfl) (fun t9 ht hW => ⟨⟨0, (), rfl, e8, ⟨by rw [ht]; exact hP, va_K.moved hW.alike hK9, hD⟩⟩, hS.F ht⟩) hS.2.2 d_O_templateToken_31
  · replace hok := ci_t h9 hok
    refine lv_aload_n hx hb d_O_templateToken_12 rfl (lv_at hl 1 rfl) ?_
    refine lv_iload_n hx hb d_O_templateToken_13 rfl (lv_at hl 2 rfl) ?_
    replace hok := bd_ok hok
    obtain ⟨r49, gs50, hc51, hok⟩ := hok
    refine cl_i (wc := (MO g ad ca gs)) (wr := []) hP hD hK hS hA [0, 1, 2, 3, 4, 5, 6, 7, 8, 9, 10, 11, 12, 13, 14, 15, 16, 17, 18, 19, 20] [] rfl rfl (by decide) (by decide) (va_runV (As := [.int a1]) (rest := []) ⟨hx, hb, hml, hown, hts⟩ (a_openList l D s.heap.size g ad ca F gs a1 r49 gs50 hc51) (cw_V hts 1 k_815 k_9 k_812 k_814 sel_O_openList (by decide +kernel) ⟨Nat.le_of_ble_eq_true rfl, Nat.le_of_ble_eq_true rfl⟩) (pr_V hP hD hK [0, 1, 2, 3, 4, 5, 6, 7, 8, 9, 10, 11, 12, 13, 14, 15, 16, 17, 18, 19, 20] [0, 1, 2, 3, 4, 5, 6, 7, 8, 9, 10, 11, 12, 13, 14, 15, 16, 17, 18, 19] (by decide) rfl rfl (fun U hU hW => trivial) (fun U g mk a h => h) (q0 := 0) (ci := 8) rfl rfl) rfl rfl hl.1 rfl (lv_room (Nat.le_of_ble_eq_true rfl)) d_O_templateToken_14 ⟨by decide, by decide⟩) (fun v53 u H locs h52 hP hD hK hS => ?_)
    have hP : va_P D wcl (MO g ad ca gs50) H := hP
    have hD : va_D A (MO g ad ca gs50) := hD
    have hK : va_K D wcl (MT ca) s := hK
    have h52 : r49 = v53 := h52
    subst h52
    have hn54 := (gd_ok hok).1
    replace hok := (gd_ok hok).2
    obtain ⟨e8, e9⟩ := rt_ok hok
    rw [e9] at hP hD
    have hK9 := hK.sub (tys' := []) [] rfl
    exact W.zret (v := r49) hx hb hr (nar_ib hn54) (fun t9 ht hW => ⟨⟨r49, (), rfl, e8, ⟨by rw [ht]; exact hP, va_K.moved hW.alike hK9, hD⟩⟩, hS.F ht⟩) hS.2.2 d_O_templateToken_17
