set_option maxHeartbeats 4000000 in
set_option maxRecDepth 100000 in
theorem a_moveRule (l : Launch) (D : va_G) (sz : Nat) (g : Nat) (ad : Nat → Nat) (ca : Nat → ClassId) (F : Nat) (gs : OS) (a1 : Int32) (a2 : Int32) (r0 : Int32) (gf : OS) (hok : rf_moveRule F gs a1 a2 = some (r0, gf)) : Met l y_O_moveRule (Cond.code y_O_moveRule b_O_moveRule 4 none :: wal) ({ frames := 10, cells := 0, slots := 0, locals := 120 }) (va_Pc [.ref g, .int a1, .int a2] (pr D sz (MO g ad ca gs) (MT ca) (fun _ => True))) (va_Qv (S := Unit) (fun u => True) (fun u t9 => po D (va_A (MO g ad ca gs) sz) ((fun u => (MO g ad ca gf)) u) ((fun u => []) u) t9) (va_A (MO g ad ca gs) sz)) 0 0 (va_A (MO g ad ca gs) sz) := by
  refine Met.ofW (cc := b_O_moveRule) (maxL := 4) (ret := none) (by decide) rfl ?_
  intro p e s m args below meth c s₁ B hml hv
  obtain ⟨rfl, hsz, hP, hK, hD0, hE⟩ := hv
  have hx := B.exec
  have hb := B.bytes
  have hr := B.returns
  have hts0 := atoms_spec (ws := Cond.code y_O_moveRule b_O_moveRule 4 none :: wal) B.pre
  have hts : ∀ w ∈ wal, w.before _ s = true := fun w h => hts0 w (List.mem_cons_of_mem _ h)
  have hown : s.vm.findClass rc_O = some m.cls := findClass_of_methodNamed B.named
  have hlocks := B.notSynchronized
  subst hsz
  have hD := hD0.self (sz := s.heap.size)
  generalize hAe : va_A (MO g ad ca gs) s.heap.size = A at hD ⊢
  have hA : ∀ q : Nat, s.heap.size ≤ q → A q := fun q h => by rw [← hAe]; exact Or.inr h
  have hS : va_S A s.heap s.heap [] := va_S.rf
  have hl := lv_entry ([.ref g, .int a1, .int a2]) (n := 4) (Nat.le_of_ble_eq_true rfl)
  rw [lg_entry_eq]
  generalize (lg_sl ([.ref g, .int a1, .int a2]) ++ List.replicate (4 - (lg_sl ([.ref g, .int a1, .int a2])).length) Slot.unset).toArray = ls at hl ⊢
  have hl : lv_has ls 4 [(0, .ref g), (1, .int a1), (2, .int a2)] := hl
  have j62 : ∀ (d62 : Nat) (gs : OS) (x1 : Int32) (x2 : Int32) (x3 : Int32) (H : Heap) (locs : List Loc) (ls : Array Slot), rf_moveRule_62 F d62 gs x1 x2 x3 = some (r0, gf) → va_P D wcl (MO g ad ca gs) H → va_D A (MO g ad ca gs) → va_S A s.heap H locs → lv_has ls 4 [(0, .ref g), (1, .int x1), (2, .int x2), (3, .int x3)] → W p l e (headSpec (Cond.code y_O_moveRule b_O_moveRule 4 none :: wal) ({ frames := 10, cells := 0, slots := 0, locals := 120 })).room s m ([.ref g, .int a1, .int a2] : List Value).toArray below meth c H locs 0 0 (MQ below (va_Qv (S := Unit) (fun u => True) (fun u t9 => po D (A) ((fun u => (MO g ad ca gf)) u) ((fun u => []) u) t9) (A)) ([.ref g, .int a1, .int a2] : List Value).toArray s 0 0 A) (F0 m 62 ls []) := by
    intro d62
    induction d62 with
    | zero =>
      intro gs x1 x2 x3 H locs ls hok
      have h9 : (none : RO) = some (r0, gf) := hok
      cases h9
    | succ d62 ih62 =>
      intro gs x1 x2 x3 H locs ls hok hP hD hS hl
      rw [rf_moveRule_62] at hok
      refine lv_iload_n hx hb d_O_moveRule_62 rfl (lv_at hl 3 rfl) ?_
      refine lv_bipush (v := 64) hx hb d_O_moveRule_63 (by decide) ?_
      refine lv_icmp_ge (tgt := 118) hx hb d_O_moveRule_65 (by decide) (fun h1 => ?_) (fun h1 => ?_)
      · replace hok := ci_t h1 hok
        obtain ⟨e8, e9⟩ := rt_ok hok
        rw [e9] at hP hD
        have hK9 := hK.sub (tys' := []) [] rfl
        exact W.vret hx hb hr (fun t9 ht hW => ⟨⟨(), rfl, trivial, ⟨by rw [ht]; exact hP, va_K.moved hW.alike hK9, hD⟩⟩, hS.F ht⟩) hS.2.2 d_O_moveRule_118
      · replace hok := ci_f h1 hok
        refine lv_aload_n hx hb d_O_moveRule_68 rfl (lv_at hl 0 rfl) ?_
        refine va_get (D := D) (ci := 8) (v := .ref (ad 8)) (C := rc_O) (T := ft_O) (N := 42) hx hb hts in_O hown hK hP 0 rfl rfl 8 (by decide) (hts _ k_663) (fun _ h9 => h9) rfl d_O_moveRule_69 ?_
        refine lv_bipush (v := 64) hx hb d_O_moveRule_72 (by decide) ?_
        refine lv_iload_n hx hb d_O_moveRule_74 rfl (lv_at hl 1 rfl) ?_
        refine lv_imul hx hb d_O_moveRule_75 ?_
        refine lv_iload_n hx hb d_O_moveRule_76 rfl (lv_at hl 3 rfl) ?_
        refine lv_iadd hx hb d_O_moveRule_77 ?_
        refine lv_aload_n hx hb d_O_moveRule_78 rfl (lv_at hl 0 rfl) ?_
        refine va_get (D := D) (ci := 8) (v := .ref (ad 8)) (C := rc_O) (T := ft_O) (N := 42) hx hb hts in_O hown hK hP 0 rfl rfl 8 (by decide) (hts _ k_663) (fun _ h9 => h9) rfl d_O_moveRule_79 ?_
        refine lv_bipush (v := 64) hx hb d_O_moveRule_82 (by decide) ?_
        refine lv_iload_n hx hb d_O_moveRule_84 rfl (lv_at hl 2 rfl) ?_
        refine lv_imul hx hb d_O_moveRule_85 ?_
        refine lv_iload_n hx hb d_O_moveRule_86 rfl (lv_at hl 3 rfl) ?_
        refine lv_iadd hx hb d_O_moveRule_87 ?_
        have hi2 := (gd_ok hok).1
        replace hok := (gd_ok hok).2
        refine va_iald hx hb hK hP 5 4 rfl rfl (hi2) d_O_moveRule_88 ?_
        have hi3 := (gd_ok hok).1
        replace hok := (gd_ok hok).2
        refine va_iast hx hb hK hP hD hS 5 4 rfl rfl hi3 d_O_moveRule_89 (fun H locs hP hD hS => ?_)
        have hP : va_P D wcl (MO g ad ca (sA gs 8 (upd (gs.2 8) ((64 * x1) + x3).toNatClampNeg ((gs.2 8) ((64 * x2) + x3).toNatClampNeg)))) H := hP
        have hD : va_D A (MO g ad ca (sA gs 8 (upd (gs.2 8) ((64 * x1) + x3).toNatClampNeg ((gs.2 8) ((64 * x2) + x3).toNatClampNeg)))) := hD
        refine lv_aload_n hx hb d_O_moveRule_90 rfl (lv_at hl 0 rfl) ?_
        refine va_get (D := D) (ci := 8) (v := .ref (ad 10)) (C := rc_O) (T := ft_O) (N := 42) hx hb hts in_O hown hK hP 0 rfl rfl 10 (by decide) (hts _ k_665) (fun _ h9 => h9) rfl d_O_moveRule_91 ?_
        refine lv_bipush (v := 64) hx hb d_O_moveRule_94 (by decide) ?_
        refine lv_iload_n hx hb d_O_moveRule_96 rfl (lv_at hl 1 rfl) ?_
        refine lv_imul hx hb d_O_moveRule_97 ?_
        refine lv_iload_n hx hb d_O_moveRule_98 rfl (lv_at hl 3 rfl) ?_
        refine lv_iadd hx hb d_O_moveRule_99 ?_
        refine lv_aload_n hx hb d_O_moveRule_100 rfl (lv_at hl 0 rfl) ?_
        refine va_get (D := D) (ci := 8) (v := .ref (ad 10)) (C := rc_O) (T := ft_O) (N := 42) hx hb hts in_O hown hK hP 0 rfl rfl 10 (by decide) (hts _ k_665) (fun _ h9 => h9) rfl d_O_moveRule_101 ?_
        refine lv_bipush (v := 64) hx hb d_O_moveRule_104 (by decide) ?_
        refine lv_iload_n hx hb d_O_moveRule_106 rfl (lv_at hl 2 rfl) ?_
        refine lv_imul hx hb d_O_moveRule_107 ?_
        refine lv_iload_n hx hb d_O_moveRule_108 rfl (lv_at hl 3 rfl) ?_
        refine lv_iadd hx hb d_O_moveRule_109 ?_
        have hi4 := (gd_ok hok).1
        replace hok := (gd_ok hok).2
        refine va_iald hx hb hK hP 7 6 rfl rfl (hi4) d_O_moveRule_110 ?_
        have hi5 := (gd_ok hok).1
        replace hok := (gd_ok hok).2
        refine va_iast hx hb hK hP hD hS 7 6 rfl rfl hi5 d_O_moveRule_111 (fun H locs hP hD hS => ?_)
        have hP : va_P D wcl (MO g ad ca (sA (sA gs 8 (upd (gs.2 8) ((64 * x1) + x3).toNatClampNeg ((gs.2 8) ((64 * x2) + x3).toNatClampNeg))) 10 (upd (gs.2 10) ((64 * x1) + x3).toNatClampNeg ((gs.2 10) ((64 * x2) + x3).toNatClampNeg)))) H := hP
        have hD : va_D A (MO g ad ca (sA (sA gs 8 (upd (gs.2 8) ((64 * x1) + x3).toNatClampNeg ((gs.2 8) ((64 * x2) + x3).toNatClampNeg))) 10 (upd (gs.2 10) ((64 * x1) + x3).toNatClampNeg ((gs.2 10) ((64 * x2) + x3).toNatClampNeg)))) := hD
        refine lv_iinc (k := 3) (v := (x3 + 1)) hx hb d_O_moveRule_112 hl rfl (by rfl) (by decide) rfl (fun ls hl => ?_)
        have hl : lv_has ls 4 [(3, .int (x3 + 1)), (0, .ref g), (1, .int x1), (2, .int x2)] := hl
        refine lv_goto (tgt := 62) hx hb d_O_moveRule_115 (by decide) ?_
        exact ih62 (sA (sA gs 8 (upd (gs.2 8) ((64 * x1) + x3).toNatClampNeg ((gs.2 8) ((64 * x2) + x3).toNatClampNeg))) 10 (upd (gs.2 10) ((64 * x1) + x3).toNatClampNeg ((gs.2 10) ((64 * x2) + x3).toNatClampNeg))) x1 x2 (x3 + 1) H locs ls hok hP hD hS (lv_sub hl [1, 2, 3, 0] rfl)
  refine lv_aload_n hx hb d_O_moveRule_0 rfl (lv_at hl 0 rfl) ?_
  refine va_get (D := D) (ci := 8) (v := .ref (ad 6)) (C := rc_O) (T := ft_O) (N := 42) hx hb hts in_O hown hK hP 0 rfl rfl 6 (by decide) (hts _ k_661) (fun _ h9 => h9) rfl d_O_moveRule_1 ?_
  refine lv_iload_n hx hb d_O_moveRule_4 rfl (lv_at hl 1 rfl) ?_
  refine lv_aload_n hx hb d_O_moveRule_5 rfl (lv_at hl 0 rfl) ?_
  refine va_get (D := D) (ci := 8) (v := .ref (ad 6)) (C := rc_O) (T := ft_O) (N := 42) hx hb hts in_O hown hK hP 0 rfl rfl 6 (by decide) (hts _ k_661) (fun _ h9 => h9) rfl d_O_moveRule_6 ?_
  refine lv_iload_n hx hb d_O_moveRule_9 rfl (lv_at hl 2 rfl) ?_
  have hi6 := (gd_ok hok).1
  replace hok := (gd_ok hok).2
  refine va_iald hx hb hK hP 3 2 rfl rfl (hi6) d_O_moveRule_10 ?_
  have hi7 := (gd_ok hok).1
  replace hok := (gd_ok hok).2
  refine va_iast hx hb hK hP hD hS 3 2 rfl rfl hi7 d_O_moveRule_11 (fun H locs hP hD hS => ?_)
  have hP : va_P D wcl (MO g ad ca (sA gs 6 (upd (gs.2 6) a1.toNatClampNeg ((gs.2 6) a2.toNatClampNeg)))) H := hP
  have hD : va_D A (MO g ad ca (sA gs 6 (upd (gs.2 6) a1.toNatClampNeg ((gs.2 6) a2.toNatClampNeg)))) := hD
  refine lv_aload_n hx hb d_O_moveRule_12 rfl (lv_at hl 0 rfl) ?_
  refine va_get (D := D) (ci := 8) (v := .ref (ad 7)) (C := rc_O) (T := ft_O) (N := 42) hx hb hts in_O hown hK hP 0 rfl rfl 7 (by decide) (hts _ k_662) (fun _ h9 => h9) rfl d_O_moveRule_13 ?_
  refine lv_iload_n hx hb d_O_moveRule_16 rfl (lv_at hl 1 rfl) ?_
  refine lv_aload_n hx hb d_O_moveRule_17 rfl (lv_at hl 0 rfl) ?_
  refine va_get (D := D) (ci := 8) (v := .ref (ad 7)) (C := rc_O) (T := ft_O) (N := 42) hx hb hts in_O hown hK hP 0 rfl rfl 7 (by decide) (hts _ k_662) (fun _ h9 => h9) rfl d_O_moveRule_18 ?_
  refine lv_iload_n hx hb d_O_moveRule_21 rfl (lv_at hl 2 rfl) ?_
  have hi8 := (gd_ok hok).1
  replace hok := (gd_ok hok).2
  refine va_iald hx hb hK hP 4 3 rfl rfl (hi8) d_O_moveRule_22 ?_
  have hi9 := (gd_ok hok).1
  replace hok := (gd_ok hok).2
  refine va_iast hx hb hK hP hD hS 4 3 rfl rfl hi9 d_O_moveRule_23 (fun H locs hP hD hS => ?_)
  have hP : va_P D wcl (MO g ad ca (sA (sA gs 6 (upd (gs.2 6) a1.toNatClampNeg ((gs.2 6) a2.toNatClampNeg))) 7 (upd (gs.2 7) a1.toNatClampNeg ((gs.2 7) a2.toNatClampNeg)))) H := hP
  have hD : va_D A (MO g ad ca (sA (sA gs 6 (upd (gs.2 6) a1.toNatClampNeg ((gs.2 6) a2.toNatClampNeg))) 7 (upd (gs.2 7) a1.toNatClampNeg ((gs.2 7) a2.toNatClampNeg)))) := hD
  refine lv_aload_n hx hb d_O_moveRule_24 rfl (lv_at hl 0 rfl) ?_
  refine va_get (D := D) (ci := 8) (v := .ref (ad 9)) (C := rc_O) (T := ft_O) (N := 42) hx hb hts in_O hown hK hP 0 rfl rfl 9 (by decide) (hts _ k_664) (fun _ h9 => h9) rfl d_O_moveRule_25 ?_
  refine lv_iload_n hx hb d_O_moveRule_28 rfl (lv_at hl 1 rfl) ?_
  refine lv_aload_n hx hb d_O_moveRule_29 rfl (lv_at hl 0 rfl) ?_
  refine va_get (D := D) (ci := 8) (v := .ref (ad 9)) (C := rc_O) (T := ft_O) (N := 42) hx hb hts in_O hown hK hP 0 rfl rfl 9 (by decide) (hts _ k_664) (fun _ h9 => h9) rfl d_O_moveRule_30 ?_
  refine lv_iload_n hx hb d_O_moveRule_33 rfl (lv_at hl 2 rfl) ?_
  have hi10 := (gd_ok hok).1
  replace hok := (gd_ok hok).2
  refine va_iald hx hb hK hP 6 5 rfl rfl (hi10) d_O_moveRule_34 ?_
  have hi11 := (gd_ok hok).1
  replace hok := (gd_ok hok).2
  refine va_iast hx hb hK hP hD hS 6 5 rfl rfl hi11 d_O_moveRule_35 (fun H locs hP hD hS => ?_)
  have hP : va_P D wcl (MO g ad ca (sA (sA (sA gs 6 (upd (gs.2 6) a1.toNatClampNeg ((gs.2 6) a2.toNatClampNeg))) 7 (upd (gs.2 7) a1.toNatClampNeg ((gs.2 7) a2.toNatClampNeg))) 9 (upd (gs.2 9) a1.toNatClampNeg ((gs.2 9) a2.toNatClampNeg)))) H := hP
  have hD : va_D A (MO g ad ca (sA (sA (sA gs 6 (upd (gs.2 6) a1.toNatClampNeg ((gs.2 6) a2.toNatClampNeg))) 7 (upd (gs.2 7) a1.toNatClampNeg ((gs.2 7) a2.toNatClampNeg))) 9 (upd (gs.2 9) a1.toNatClampNeg ((gs.2 9) a2.toNatClampNeg)))) := hD
  refine lv_aload_n hx hb d_O_moveRule_36 rfl (lv_at hl 0 rfl) ?_
  refine va_get (D := D) (ci := 8) (v := .ref (ad 11)) (C := rc_O) (T := ft_O) (N := 42) hx hb hts in_O hown hK hP 0 rfl rfl 11 (by decide) (hts _ k_666) (fun _ h9 => h9) rfl d_O_moveRule_37 ?_
  refine lv_iload_n hx hb d_O_moveRule_40 rfl (lv_at hl 1 rfl) ?_
  refine lv_aload_n hx hb d_O_moveRule_41 rfl (lv_at hl 0 rfl) ?_
  refine va_get (D := D) (ci := 8) (v := .ref (ad 11)) (C := rc_O) (T := ft_O) (N := 42) hx hb hts in_O hown hK hP 0 rfl rfl 11 (by decide) (hts _ k_666) (fun _ h9 => h9) rfl d_O_moveRule_42 ?_
  refine lv_iload_n hx hb d_O_moveRule_45 rfl (lv_at hl 2 rfl) ?_
  have hi12 := (gd_ok hok).1
  replace hok := (gd_ok hok).2
  refine va_iald hx hb hK hP 8 7 rfl rfl (hi12) d_O_moveRule_46 ?_
  have hi13 := (gd_ok hok).1
  replace hok := (gd_ok hok).2
  refine va_iast hx hb hK hP hD hS 8 7 rfl rfl hi13 d_O_moveRule_47 (fun H locs hP hD hS => ?_)
  have hP : va_P D wcl (MO g ad ca (sA (sA (sA (sA gs 6 (upd (gs.2 6) a1.toNatClampNeg ((gs.2 6) a2.toNatClampNeg))) 7 (upd (gs.2 7) a1.toNatClampNeg ((gs.2 7) a2.toNatClampNeg))) 9 (upd (gs.2 9) a1.toNatClampNeg ((gs.2 9) a2.toNatClampNeg))) 11 (upd (gs.2 11) a1.toNatClampNeg ((gs.2 11) a2.toNatClampNeg)))) H := hP
  have hD : va_D A (MO g ad ca (sA (sA (sA (sA gs 6 (upd (gs.2 6) a1.toNatClampNeg ((gs.2 6) a2.toNatClampNeg))) 7 (upd (gs.2 7) a1.toNatClampNeg ((gs.2 7) a2.toNatClampNeg))) 9 (upd (gs.2 9) a1.toNatClampNeg ((gs.2 9) a2.toNatClampNeg))) 11 (upd (gs.2 11) a1.toNatClampNeg ((gs.2 11) a2.toNatClampNeg)))) := hD
  refine lv_aload_n hx hb d_O_moveRule_48 rfl (lv_at hl 0 rfl) ?_
  refine va_get (D := D) (ci := 8) (v := .ref (ad 12)) (C := rc_O) (T := ft_O) (N := 42) hx hb hts in_O hown hK hP 0 rfl rfl 12 (by decide) (hts _ k_667) (fun _ h9 => h9) rfl d_O_moveRule_49 ?_
  refine lv_iload_n hx hb d_O_moveRule_52 rfl (lv_at hl 1 rfl) ?_
  refine lv_aload_n hx hb d_O_moveRule_53 rfl (lv_at hl 0 rfl) ?_
  refine va_get (D := D) (ci := 8) (v := .ref (ad 12)) (C := rc_O) (T := ft_O) (N := 42) hx hb hts in_O hown hK hP 0 rfl rfl 12 (by decide) (hts _ k_667) (fun _ h9 => h9) rfl d_O_moveRule_54 ?_
  refine lv_iload_n hx hb d_O_moveRule_57 rfl (lv_at hl 2 rfl) ?_
  have hi14 := (gd_ok hok).1
  replace hok := (gd_ok hok).2
  refine va_iald hx hb hK hP 9 8 rfl rfl (hi14) d_O_moveRule_58 ?_
  have hi15 := (gd_ok hok).1
  replace hok := (gd_ok hok).2
  refine va_iast hx hb hK hP hD hS 9 8 rfl rfl hi15 d_O_moveRule_59 (fun H locs hP hD hS => ?_)
  have hP : va_P D wcl (MO g ad ca (sA (sA (sA (sA (sA gs 6 (upd (gs.2 6) a1.toNatClampNeg ((gs.2 6) a2.toNatClampNeg))) 7 (upd (gs.2 7) a1.toNatClampNeg ((gs.2 7) a2.toNatClampNeg))) 9 (upd (gs.2 9) a1.toNatClampNeg ((gs.2 9) a2.toNatClampNeg))) 11 (upd (gs.2 11) a1.toNatClampNeg ((gs.2 11) a2.toNatClampNeg))) 12 (upd (gs.2 12) a1.toNatClampNeg ((gs.2 12) a2.toNatClampNeg)))) H := hP
  have hD : va_D A (MO g ad ca (sA (sA (sA (sA (sA gs 6 (upd (gs.2 6) a1.toNatClampNeg ((gs.2 6) a2.toNatClampNeg))) 7 (upd (gs.2 7) a1.toNatClampNeg ((gs.2 7) a2.toNatClampNeg))) 9 (upd (gs.2 9) a1.toNatClampNeg ((gs.2 9) a2.toNatClampNeg))) 11 (upd (gs.2 11) a1.toNatClampNeg ((gs.2 11) a2.toNatClampNeg))) 12 (upd (gs.2 12) a1.toNatClampNeg ((gs.2 12) a2.toNatClampNeg)))) := hD
  refine lv_iconst (v := 0) hx hb d_O_moveRule_60 (by decide) ?_
  refine lv_istore_n hx hb d_O_moveRule_61 rfl hl (by decide) rfl (fun ls hl => ?_)
  have hl : lv_has ls 4 [(3, .int 0), (0, .ref g), (1, .int a1), (2, .int a2)] := hl
  exact j62 F (sA (sA (sA (sA (sA gs 6 (upd (gs.2 6) a1.toNatClampNeg ((gs.2 6) a2.toNatClampNeg))) 7 (upd (gs.2 7) a1.toNatClampNeg ((gs.2 7) a2.toNatClampNeg))) 9 (upd (gs.2 9) a1.toNatClampNeg ((gs.2 9) a2.toNatClampNeg))) 11 (upd (gs.2 11) a1.toNatClampNeg ((gs.2 11) a2.toNatClampNeg))) 12 (upd (gs.2 12) a1.toNatClampNeg ((gs.2 12) a2.toNatClampNeg))) a1 a2 0 H locs ls hok hP hD hS (lv_sub hl [1, 2, 3, 0] rfl)

set_option maxHeartbeats 4000000 in
set_option maxRecDepth 100000 in
theorem a_openList (l : Launch) (D : va_G) (sz : Nat) (g : Nat) (ad : Nat → Nat) (ca : Nat → ClassId) (F : Nat) (gs : OS) (a1 : Int32) (r0 : Int32) (gf : OS) (hok : rf_openList F gs a1 = some (r0, gf)) : Met l y_O_openList (Cond.code y_O_openList b_O_openList 2 (some .boolean) :: wal) ({ frames := 10, cells := 0, slots := 0, locals := 120 }) (va_Pc [.ref g, .int a1] (pr D sz (MO g ad ca gs) (MT ca) (fun _ => True))) (va_Qi (S := Unit) (fun r u => r0 = r) (fun u t9 => po D (va_A (MO g ad ca gs) sz) ((fun u => (MO g ad ca gf)) u) ((fun u => []) u) t9) (va_A (MO g ad ca gs) sz)) 0 0 (va_A (MO g ad ca gs) sz) := by
  refine Met.ofW (cc := b_O_openList) (maxL := 2) (ret := (some .boolean)) (by decide) rfl ?_
  intro p e s m args below meth c s₁ B hml hv
  obtain ⟨rfl, hsz, hP, hK, hD0, hE⟩ := hv
  have hx := B.exec
  have hb := B.bytes
  have hr := B.returns
  have hts0 := atoms_spec (ws := Cond.code y_O_openList b_O_openList 2 (some .boolean) :: wal) B.pre
  have hts : ∀ w ∈ wal, w.before _ s = true := fun w h => hts0 w (List.mem_cons_of_mem _ h)
  have hown : s.vm.findClass rc_O = some m.cls := findClass_of_methodNamed B.named
  have hlocks := B.notSynchronized
  subst hsz
  have hD := hD0.self (sz := s.heap.size)
  generalize hAe : va_A (MO g ad ca gs) s.heap.size = A at hD ⊢
  have hA : ∀ q : Nat, s.heap.size ≤ q → A q := fun q h => by rw [← hAe]; exact Or.inr h
  have hS : va_S A s.heap s.heap [] := va_S.rf
  have hl := lv_entry ([.ref g, .int a1]) (n := 2) (Nat.le_of_ble_eq_true rfl)
  rw [lg_entry_eq]
  generalize (lg_sl ([.ref g, .int a1]) ++ List.replicate (2 - (lg_sl ([.ref g, .int a1])).length) Slot.unset).toArray = ls at hl ⊢
  have hl : lv_has ls 2 [(0, .ref g), (1, .int a1)] := hl
  refine lv_aload_n hx hb d_O_openList_0 rfl (lv_at hl 0 rfl) ?_
  refine lv_dup hx hb d_O_openList_1 rfl ?_
  refine va_get (D := D) (ci := 8) (v := .int (gs.1 13)) (C := rc_O) (T := ft_O) (N := 42) hx hb hts in_O hown hK hP 0 rfl rfl 13 (by decide) (hts _ k_668) (fun _ h9 => h9) rfl d_O_openList_2 ?_
  refine lv_iconst (v := 1) hx hb d_O_openList_5 (by decide) ?_
  refine lv_iadd hx hb d_O_openList_6 ?_
  refine va_put (D := D) (ci := 8) (v := .int ((gs.1 13) + 1)) (ty := .int) (C := rc_O) (T := ft_O) (N := 42) hx hb hts in_O ty_O tk_O nm_O hown hK hP hD hS 0 rfl rfl 13 (by decide) (hts _ k_668) (fun _ h9 => h9) rfl (by decide +kernel) rfl rfl (Nat.le_of_ble_eq_true rfl) d_O_openList_7 (fun H locs hP hD hS => ?_)
  have hP : va_P D wcl (MO g ad ca (sI gs 13 ((gs.1 13) + 1))) H := hP
  have hD : va_D A (MO g ad ca (sI gs 13 ((gs.1 13) + 1))) := hD
  refine lv_aload_n hx hb d_O_openList_10 rfl (lv_at hl 0 rfl) ?_
  refine va_get (D := D) (ci := 8) (v := .int ((gs.1 13) + 1)) (C := rc_O) (T := ft_O) (N := 42) hx hb hts in_O hown hK hP 0 rfl rfl 13 (by decide) (hts _ k_668) (fun _ h9 => h9) rfl d_O_openList_11 ?_
  refine lv_bipush (v := 8) hx hb d_O_openList_14 (by decide) ?_
  refine lv_icmp_le (tgt := 21) hx hb d_O_openList_16 (by decide) (fun h1 => ?_) (fun h1 => ?_)
  · replace hok := ci_t h1 hok
    refine lv_aload_n hx hb d_O_openList_21 rfl (lv_at hl 0 rfl) ?_
    refine va_get (D := D) (ci := 8) (v := .ref (ad 14)) (C := rc_O) (T := ft_O) (N := 42) hx hb hts in_O hown hK hP 0 rfl rfl 14 (by decide) (hts _ k_669) (fun _ h9 => h9) rfl d_O_openList_22 ?_
    refine lv_aload_n hx hb d_O_openList_25 rfl (lv_at hl 0 rfl) ?_
    refine va_get (D := D) (ci := 8) (v := .int ((gs.1 13) + 1)) (C := rc_O) (T := ft_O) (N := 42) hx hb hts in_O hown hK hP 0 rfl rfl 13 (by decide) (hts _ k_668) (fun _ h9 => h9) rfl d_O_openList_26 ?_
    refine lv_iload_n hx hb d_O_openList_29 rfl (lv_at hl 1 rfl) ?_
    have hi2 := (gd_ok hok).1
    replace hok := (gd_ok hok).2
    refine va_iast hx hb hK hP hD hS 10 9 rfl rfl hi2 d_O_openList_30 (fun H locs hP hD hS => ?_)
    have hP : va_P D wcl (MO g ad ca (sA (sI gs 13 ((gs.1 13) + 1)) 14 (upd (gs.2 14) ((gs.1 13) + 1).toNatClampNeg a1))) H := hP
    have hD : va_D A (MO g ad ca (sA (sI gs 13 ((gs.1 13) + 1)) 14 (upd (gs.2 14) ((gs.1 13) + 1).toNatClampNeg a1))) := hD
    refine lv_aload_n hx hb d_O_openList_31 rfl (lv_at hl 0 rfl) ?_
    refine va_get (D := D) (ci := 8) (v := .ref (ad 15)) (C := rc_O) (T := ft_O) (N := 42) hx hb hts in_O hown hK hP 0 rfl rfl 15 (by decide) (hts _ k_670) (fun _ h9 => h9) rfl d_O_openList_32 ?_
    refine lv_aload_n hx hb d_O_openList_35 rfl (lv_at hl 0 rfl) ?_
    refine va_get (D := D) (ci := 8) (v := .int ((gs.1 13) + 1)) (C := rc_O) (T := ft_O) (N := 42) hx hb hts in_O hown hK hP 0 rfl rfl 13 (by decide) (hts _ k_668) (fun _ h9 => h9) rfl d_O_openList_36 ?_
    refine lv_iconst (v := 0) hx hb d_O_openList_39 (by decide) ?_
    have hi3 := (gd_ok hok).1
    replace hok := (gd_ok hok).2
    refine va_zast hx hb hK hP hD hS 11 10 rfl rfl hi3 d_O_openList_40 (fun H locs hP hD hS => ?_)
    have hP : va_P D wcl (MO g ad ca (sA (sA (sI gs 13 ((gs.1 13) + 1)) 14 (upd (gs.2 14) ((gs.1 13) + 1).toNatClampNeg a1)) 15 (upd (gs.2 15) ((gs.1 13) + 1).toNatClampNeg (vp_nar .boolean 0)))) H := hP
    have hD : va_D A (MO g ad ca (sA (sA (sI gs 13 ((gs.1 13) + 1)) 14 (upd (gs.2 14) ((gs.1 13) + 1).toNatClampNeg a1)) 15 (upd (gs.2 15) ((gs.1 13) + 1).toNatClampNeg (vp_nar .boolean 0)))) := hD
    refine lv_aload_n hx hb d_O_openList_41 rfl (lv_at hl 0 rfl) ?_
    refine lv_iconst (v := -1) hx hb d_O_openList_42 (by decide) ?_
    refine va_put (D := D) (ci := 8) (v := .int (-1)) (ty := .int) (C := rc_O) (T := ft_O) (N := 42) hx hb hts in_O ty_O tk_O nm_O hown hK hP hD hS 0 rfl rfl 16 (by decide) (hts _ k_671) (fun _ h9 => h9) rfl (by decide +kernel) rfl rfl (Nat.le_of_ble_eq_true rfl) d_O_openList_43 (fun H locs hP hD hS => ?_)
    have hP : va_P D wcl (MO g ad ca (sA (sA (sI (sI gs 13 ((gs.1 13) + 1)) 16 (-1)) 14 (upd (gs.2 14) ((gs.1 13) + 1).toNatClampNeg a1)) 15 (upd (gs.2 15) ((gs.1 13) + 1).toNatClampNeg (vp_nar .boolean 0)))) H := hP
    have hD : va_D A (MO g ad ca (sA (sA (sI (sI gs 13 ((gs.1 13) + 1)) 16 (-1)) 14 (upd (gs.2 14) ((gs.1 13) + 1).toNatClampNeg a1)) 15 (upd (gs.2 15) ((gs.1 13) + 1).toNatClampNeg (vp_nar .boolean 0)))) := hD
    refine lv_iconst (v := 1) hx hb d_O_openList_46 (by decide) ?_
    obtain ⟨e8, e9⟩ := rt_ok hok
    rw [e9] at hP hD
    have hK9 := hK.sub (tys' := []) [] rfl
    exact W.zret (v := 1) hx hb hr (rfl) (fun t9 ht hW => ⟨⟨1, (), rfl, e8, ⟨by rw [ht]; exact hP, va_K.moved hW.alike hK9, hD⟩⟩, hS.F ht⟩) hS.2.2 d_O_openList_47
  · replace hok := ci_f h1 hok
    refine lv_iconst (v := 0) hx hb d_O_openList_19 (by decide) ?_
    obtain ⟨e8, e9⟩ := rt_ok hok
    rw [e9] at hP hD
    have hK9 := hK.sub (tys' := []) [] rfl
    exact W.zret (v := 0) hx hb hr (rfl) (fun t9 ht hW => ⟨⟨0, (), rfl, e8, ⟨by rw [ht]; exact hP, va_K.moved hW.alike hK9, hD⟩⟩, hS.F ht⟩) hS.2.2 d_O_openList_20

set_option maxHeartbeats 4000000 in
set_option maxRecDepth 100000 in
theorem a_openRow (l : Launch) (D : va_G) (sz : Nat) (g : Nat) (ad : Nat → Nat) (ca : Nat → ClassId) (F : Nat) (gs : OS) (a1 : Int32) (r0 : Int32) (gf : OS) (hok : rf_openRow F gs a1 = some (r0, gf)) : Met l y_O_openRow (Cond.code y_O_openRow b_O_openRow 2 none :: wal) ({ frames := 10, cells := 0, slots := 0, locals := 120 }) (va_Pc [.ref g, .int a1] (pr D sz (MO g ad ca gs) (MT ca) (fun _ => True))) (va_Qv (S := Unit) (fun u => True) (fun u t9 => po D (va_A (MO g ad ca gs) sz) ((fun u => (MO g ad ca gf)) u) ((fun u => []) u) t9) (va_A (MO g ad ca gs) sz)) 0 0 (va_A (MO g ad ca gs) sz) := by
  refine Met.ofW (cc := b_O_openRow) (maxL := 2) (ret := none) (by decide) rfl ?_
  intro p e s m args below meth c s₁ B hml hv
  obtain ⟨rfl, hsz, hP, hK, hD0, hE⟩ := hv
  have hx := B.exec
  have hb := B.bytes
  have hr := B.returns
  have hts0 := atoms_spec (ws := Cond.code y_O_openRow b_O_openRow 2 none :: wal) B.pre
  have hts : ∀ w ∈ wal, w.before _ s = true := fun w h => hts0 w (List.mem_cons_of_mem _ h)
  have hown : s.vm.findClass rc_O = some m.cls := findClass_of_methodNamed B.named
  have hlocks := B.notSynchronized
  subst hsz
  have hD := hD0.self (sz := s.heap.size)
  generalize hAe : va_A (MO g ad ca gs) s.heap.size = A at hD ⊢
  have hA : ∀ q : Nat, s.heap.size ≤ q → A q := fun q h => by rw [← hAe]; exact Or.inr h
  have hS : va_S A s.heap s.heap [] := va_S.rf
  have hl := lv_entry ([.ref g, .int a1]) (n := 2) (Nat.le_of_ble_eq_true rfl)
  rw [lg_entry_eq]
  generalize (lg_sl ([.ref g, .int a1]) ++ List.replicate (2 - (lg_sl ([.ref g, .int a1])).length) Slot.unset).toArray = ls at hl ⊢
  have hl : lv_has ls 2 [(0, .ref g), (1, .int a1)] := hl
  refine lv_aload_n hx hb d_O_openRow_0 rfl (lv_at hl 0 rfl) ?_
  refine va_get (D := D) (ci := 8) (v := .ref (ad 33)) (C := rc_O) (T := ft_O) (N := 42) hx hb hts in_O hown hK hP 0 rfl rfl 33 (by decide) (hts _ k_688) (fun _ h9 => h9) rfl d_O_openRow_1 ?_
  refine lv_aload_n hx hb d_O_openRow_4 rfl (lv_at hl 0 rfl) ?_
  refine va_get (D := D) (ci := 8) (v := .int (gs.1 32)) (C := rc_O) (T := ft_O) (N := 42) hx hb hts in_O hown hK hP 0 rfl rfl 32 (by decide) (hts _ k_687) (fun _ h9 => h9) rfl d_O_openRow_5 ?_
  refine lv_iload_n hx hb d_O_openRow_8 rfl (lv_at hl 1 rfl) ?_
  have hi1 := (gd_ok hok).1
  replace hok := (gd_ok hok).2
  refine va_zast hx hb hK hP hD hS 18 17 rfl rfl hi1 d_O_openRow_9 (fun H locs hP hD hS => ?_)
  have hP : va_P D wcl (MO g ad ca (sA gs 33 (upd (gs.2 33) (gs.1 32).toNatClampNeg (vp_nar .boolean a1)))) H := hP
  have hD : va_D A (MO g ad ca (sA gs 33 (upd (gs.2 33) (gs.1 32).toNatClampNeg (vp_nar .boolean a1)))) := hD
  refine lv_aload_n hx hb d_O_openRow_10 rfl (lv_at hl 0 rfl) ?_
  refine lv_dup hx hb d_O_openRow_11 rfl ?_
  refine va_get (D := D) (ci := 8) (v := .int (gs.1 32)) (C := rc_O) (T := ft_O) (N := 42) hx hb hts in_O hown hK hP 0 rfl rfl 32 (by decide) (hts _ k_687) (fun _ h9 => h9) rfl d_O_openRow_12 ?_
  refine lv_iconst (v := 1) hx hb d_O_openRow_15 (by decide) ?_
  refine lv_iadd hx hb d_O_openRow_16 ?_
  refine va_put (D := D) (ci := 8) (v := .int ((gs.1 32) + 1)) (ty := .int) (C := rc_O) (T := ft_O) (N := 42) hx hb hts in_O ty_O tk_O nm_O hown hK hP hD hS 0 rfl rfl 32 (by decide) (hts _ k_687) (fun _ h9 => h9) rfl (by decide +kernel) rfl rfl (Nat.le_of_ble_eq_true rfl) d_O_openRow_17 (fun H locs hP hD hS => ?_)
  have hP : va_P D wcl (MO g ad ca (sA (sI gs 32 ((gs.1 32) + 1)) 33 (upd (gs.2 33) (gs.1 32).toNatClampNeg (vp_nar .boolean a1)))) H := hP
  have hD : va_D A (MO g ad ca (sA (sI gs 32 ((gs.1 32) + 1)) 33 (upd (gs.2 33) (gs.1 32).toNatClampNeg (vp_nar .boolean a1)))) := hD
  obtain ⟨e8, e9⟩ := rt_ok hok
  rw [e9] at hP hD
  have hK9 := hK.sub (tys' := []) [] rfl
  exact W.vret hx hb hr (fun t9 ht hW => ⟨⟨(), rfl, trivial, ⟨by rw [ht]; exact hP, va_K.moved hW.alike hK9, hD⟩⟩, hS.F ht⟩) hS.2.2 d_O_openRow_20

set_option maxHeartbeats 4000000 in
set_option maxRecDepth 100000 in
theorem a_put (l : Launch) (D : va_G) (sz : Nat) (g : Nat) (ad : Nat → Nat) (ca : Nat → ClassId) (F : Nat) (gs : OS) (a1 : Int32) (r0 : Int32) (gf : OS) (hok : rf_put F gs a1 = some (r0, gf)) : Met l y_O_put (Cond.code y_O_put b_O_put 2 none :: wal) ({ frames := 10, cells := 0, slots := 0, locals := 120 }) (va_Pc [.ref g, .int a1] (pr D sz (MO g ad ca gs) (MT ca) (fun _ => True))) (va_Qv (S := Unit) (fun u => True) (fun u t9 => po D (va_A (MO g ad ca gs) sz) ((fun u => (MO g ad ca gf)) u) ((fun u => []) u) t9) (va_A (MO g ad ca gs) sz)) 0 0 (va_A (MO g ad ca gs) sz) := by
  refine Met.ofW (cc := b_O_put) (maxL := 2) (ret := none) (by decide) rfl ?_
  intro p e s m args below meth c s₁ B hml hv
  obtain ⟨rfl, hsz, hP, hK, hD0, hE⟩ := hv
  have hx := B.exec
  have hb := B.bytes
  have hr := B.returns
  have hts0 := atoms_spec (ws := Cond.code y_O_put b_O_put 2 none :: wal) B.pre
  have hts : ∀ w ∈ wal, w.before _ s = true := fun w h => hts0 w (List.mem_cons_of_mem _ h)
  have hown : s.vm.findClass rc_O = some m.cls := findClass_of_methodNamed B.named
  have hlocks := B.notSynchronized
  subst hsz
  have hD := hD0.self (sz := s.heap.size)
  generalize hAe : va_A (MO g ad ca gs) s.heap.size = A at hD ⊢
  have hA : ∀ q : Nat, s.heap.size ≤ q → A q := fun q h => by rw [← hAe]; exact Or.inr h
  have hS : va_S A s.heap s.heap [] := va_S.rf
  have hl := lv_entry ([.ref g, .int a1]) (n := 2) (Nat.le_of_ble_eq_true rfl)
  rw [lg_entry_eq]
  generalize (lg_sl ([.ref g, .int a1]) ++ List.replicate (2 - (lg_sl ([.ref g, .int a1])).length) Slot.unset).toArray = ls at hl ⊢
  have hl : lv_has ls 2 [(0, .ref g), (1, .int a1)] := hl
  have j15 : ∀ (gs : OS) (x1 : Int32) (H : Heap) (locs : List Loc) (ls : Array Slot), rf_put_15 F gs x1 = some (r0, gf) → va_P D wcl (MO g ad ca gs) H → va_D A (MO g ad ca gs) → va_S A s.heap H locs → lv_has ls 2 [(0, .ref g), (1, .int x1)] → W p l e (headSpec (Cond.code y_O_put b_O_put 2 none :: wal) ({ frames := 10, cells := 0, slots := 0, locals := 120 })).room s m ([.ref g, .int a1] : List Value).toArray below meth c H locs 0 0 (MQ below (va_Qv (S := Unit) (fun u => True) (fun u t9 => po D (A) ((fun u => (MO g ad ca gf)) u) ((fun u => []) u) t9) (A)) ([.ref g, .int a1] : List Value).toArray s 0 0 A) (F0 m 15 ls []) := by
    intro gs x1 H locs ls hok hP hD hS hl
    rw [rf_put_15] at hok
    refine lv_aload_n hx hb d_O_put_15 rfl (lv_at hl 0 rfl) ?_
    refine va_get (D := D) (ci := 8) (v := .int (gs.1 40)) (C := rc_O) (T := ft_O) (N := 42) hx hb hts in_O hown hK hP 0 rfl rfl 40 (by decide) (hts _ k_695) (fun _ h9 => h9) rfl d_O_put_16 ?_
    refine lv_if_eq (tgt := 23) hx hb d_O_put_19 (by decide) (fun h1 => ?_) (fun h1 => ?_)
    · replace hok := ci_t h1 hok
      refine lv_aload_n hx hb d_O_put_23 rfl (lv_at hl 0 rfl) ?_
      refine va_get (D := D) (ci := 8) (v := .ref (ad 39)) (C := rc_O) (T := ft_O) (N := 42) hx hb hts in_O hown hK hP 0 rfl rfl 39 (by decide) (hts _ k_694) (fun _ h9 => h9) rfl d_O_put_24 ?_
      refine lv_aload_n hx hb d_O_put_27 rfl (lv_at hl 0 rfl) ?_
      refine va_get (D := D) (ci := 8) (v := .int (gs.1 38)) (C := rc_O) (T := ft_O) (N := 42) hx hb hts in_O hown hK hP 0 rfl rfl 38 (by decide) (hts _ k_693) (fun _ h9 => h9) rfl d_O_put_28 ?_
      refine lv_iload_n hx hb d_O_put_31 rfl (lv_at hl 1 rfl) ?_
      have hi2 := (gd_ok hok).1
      replace hok := (gd_ok hok).2
      refine va_iast hx hb hK hP hD hS 20 19 rfl rfl hi2 d_O_put_32 (fun H locs hP hD hS => ?_)
      have hP : va_P D wcl (MO g ad ca (sA gs 39 (upd (gs.2 39) (gs.1 38).toNatClampNeg x1))) H := hP
      have hD : va_D A (MO g ad ca (sA gs 39 (upd (gs.2 39) (gs.1 38).toNatClampNeg x1))) := hD
      refine lv_aload_n hx hb d_O_put_33 rfl (lv_at hl 0 rfl) ?_
      refine lv_dup hx hb d_O_put_34 rfl ?_
      refine va_get (D := D) (ci := 8) (v := .int (gs.1 38)) (C := rc_O) (T := ft_O) (N := 42) hx hb hts in_O hown hK hP 0 rfl rfl 38 (by decide) (hts _ k_693) (fun _ h9 => h9) rfl d_O_put_35 ?_
      refine lv_iconst (v := 1) hx hb d_O_put_38 (by decide) ?_
      refine lv_iadd hx hb d_O_put_39 ?_
      refine va_put (D := D) (ci := 8) (v := .int ((gs.1 38) + 1)) (ty := .int) (C := rc_O) (T := ft_O) (N := 42) hx hb hts in_O ty_O tk_O nm_O hown hK hP hD hS 0 rfl rfl 38 (by decide) (hts _ k_693) (fun _ h9 => h9) rfl (by decide +kernel) rfl rfl (Nat.le_of_ble_eq_true rfl) d_O_put_40 (fun H locs hP hD hS => ?_)
      have hP : va_P D wcl (MO g ad ca (sA (sI gs 38 ((gs.1 38) + 1)) 39 (upd (gs.2 39) (gs.1 38).toNatClampNeg x1))) H := hP
      have hD : va_D A (MO g ad ca (sA (sI gs 38 ((gs.1 38) + 1)) 39 (upd (gs.2 39) (gs.1 38).toNatClampNeg x1))) := hD
      obtain ⟨e8, e9⟩ := rt_ok hok
      rw [e9] at hP hD
      have hK9 := hK.sub (tys' := []) [] rfl
      exact W.vret hx hb hr (fun t9 ht hW => ⟨⟨(), rfl, trivial, ⟨by rw [ht]; exact hP, va_K.moved hW.alike hK9, hD⟩⟩, hS.F ht⟩) hS.2.2 d_O_put_43
    · replace hok := ci_f h1 hok
      obtain ⟨e8, e9⟩ := rt_ok hok
      rw [e9] at hP hD
      have hK9 := hK.sub (tys' := []) [] rfl
      exact W.vret hx hb hr (fun t9 ht hW => ⟨⟨(), rfl, trivial, ⟨by rw [ht]; exact hP, va_K.moved hW.alike hK9, hD⟩⟩, hS.F ht⟩) hS.2.2 d_O_put_22
  refine lv_aload_n hx hb d_O_put_0 rfl (lv_at hl 0 rfl) ?_
  refine va_get (D := D) (ci := 8) (v := .int (gs.1 38)) (C := rc_O) (T := ft_O) (N := 42) hx hb hts in_O hown hK hP 0 rfl rfl 38 (by decide) (hts _ k_693) (fun _ h9 => h9) rfl d_O_put_1 ?_
  refine lv_sipush (v := 150) hx hb d_O_put_4 (by decide) ?_
  refine lv_icmp_ne (tgt := 15) hx hb d_O_put_7 (by decide) (fun h3 => ?_) (fun h3 => ?_)
  · replace hok := ci_f h3 hok
    exact j15 gs a1 s.heap [] ls hok hP hD hS hl
  · replace hok := ci_t h3 hok
    refine lv_aload_n hx hb d_O_put_10 rfl (lv_at hl 0 rfl) ?_
    refine lv_iconst (v := 3) hx hb d_O_put_11 (by decide) ?_
    refine va_put (D := D) (ci := 8) (v := .int 3) (ty := .int) (C := rc_O) (T := ft_O) (N := 42) hx hb hts in_O ty_O tk_O nm_O hown hK hP hD hS 0 rfl rfl 40 (by decide) (hts _ k_695) (fun _ h9 => h9) rfl (by decide +kernel) rfl rfl (Nat.le_of_ble_eq_true rfl) d_O_put_12 (fun H locs hP hD hS => ?_)
    have hP : va_P D wcl (MO g ad ca (sI gs 40 3)) H := hP
    have hD : va_D A (MO g ad ca (sI gs 40 3)) := hD
    exact j15 (sI gs 40 3) a1 H locs ls hok hP hD hS hl

set_option maxHeartbeats 4000000 in
set_option maxRecDepth 100000 in
theorem a_replaced (l : Launch) (D : va_G) (sz : Nat) (g : Nat) (ad : Nat → Nat) (ca : Nat → ClassId) (F : Nat) (gs : OS) (r0 : Int32) (gf : OS) (hok : rf_replaced F gs = some (r0, gf)) : Met l y_O_replaced (Cond.code y_O_replaced b_O_replaced 1 (some .int) :: wal) ({ frames := 10, cells := 0, slots := 0, locals := 120 }) (va_Pc [.ref g] (pr D sz (MO g ad ca gs) (MT ca) (fun _ => True))) (va_Qi (S := Unit) (fun r u => r0 = r) (fun u t9 => po D (va_A (MO g ad ca gs) sz) ((fun u => (MO g ad ca gf)) u) ((fun u => []) u) t9) (va_A (MO g ad ca gs) sz)) 0 0 (va_A (MO g ad ca gs) sz) := by
  refine Met.ofW (cc := b_O_replaced) (maxL := 1) (ret := (some .int)) (by decide) rfl ?_
  intro p e s m args below meth c s₁ B hml hv
  obtain ⟨rfl, hsz, hP, hK, hD0, hE⟩ := hv
  have hx := B.exec
  have hb := B.bytes
  have hr := B.returns
  have hts0 := atoms_spec (ws := Cond.code y_O_replaced b_O_replaced 1 (some .int) :: wal) B.pre
  have hts : ∀ w ∈ wal, w.before _ s = true := fun w h => hts0 w (List.mem_cons_of_mem _ h)
  have hown : s.vm.findClass rc_O = some m.cls := findClass_of_methodNamed B.named
  have hlocks := B.notSynchronized
  subst hsz
  have hD := hD0.self (sz := s.heap.size)
  generalize hAe : va_A (MO g ad ca gs) s.heap.size = A at hD ⊢
  have hA : ∀ q : Nat, s.heap.size ≤ q → A q := fun q h => by rw [← hAe]; exact Or.inr h
  have hS : va_S A s.heap s.heap [] := va_S.rf
  have hl := lv_entry ([.ref g]) (n := 1) (Nat.le_of_ble_eq_true rfl)
  rw [lg_entry_eq]
  generalize (lg_sl ([.ref g]) ++ List.replicate (1 - (lg_sl ([.ref g])).length) Slot.unset).toArray = ls at hl ⊢
  have hl : lv_has ls 1 [(0, .ref g)] := hl
  refine lv_aload_n hx hb d_O_replaced_0 rfl (lv_at hl 0 rfl) ?_
  refine lv_iconst (v := 0) hx hb d_O_replaced_1 (by decide) ?_
  refine va_put (D := D) (ci := 8) (v := .int 0) (ty := .int) (C := rc_O) (T := ft_O) (N := 42) hx hb hts in_O ty_O tk_O nm_O hown hK hP hD hS 0 rfl rfl 0 (by decide) (hts _ k_655) (fun _ h9 => h9) rfl (by decide +kernel) rfl rfl (Nat.le_of_ble_eq_true rfl) d_O_replaced_2 (fun H locs hP hD hS => ?_)
  have hP : va_P D wcl (MO g ad ca (sI gs 0 0)) H := hP
  have hD : va_D A (MO g ad ca (sI gs 0 0)) := hD
  refine lv_aload_n hx hb d_O_replaced_5 rfl (lv_at hl 0 rfl) ?_
  refine va_get (D := D) (ci := 8) (v := .int (gs.1 37)) (C := rc_O) (T := ft_O) (N := 42) hx hb hts in_O hown hK hP 0 rfl rfl 37 (by decide) (hts _ k_692) (fun _ h9 => h9) rfl d_O_replaced_6 ?_
  obtain ⟨e8, e9⟩ := rt_ok hok
  rw [e9] at hP hD
  have hK9 := hK.sub (tys' := []) [] rfl
  exact W.iret (v := (gs.1 37)) hx hb hr (fun t9 ht hW => ⟨⟨(gs.1 37), (), rfl, e8, ⟨by rw [ht]; exact hP, va_K.moved hW.alike hK9, hD⟩⟩, hS.F ht⟩) hS.2.2 d_O_replaced_9

set_option maxHeartbeats 4000000 in
set_option maxRecDepth 100000 in
theorem a_rules (l : Launch) (D : va_G) (sz : Nat) (g : Nat) (ad : Nat → Nat) (ca : Nat → ClassId) (F : Nat) (gs : OS) (r0 : Int32) (gf : OS) (hok : rf_rules F gs = some (r0, gf)) : Met l y_O_rules (Cond.code y_O_rules b_O_rules 1 (some .int) :: wal) ({ frames := 10, cells := 0, slots := 0, locals := 120 }) (va_Pc [.ref g] (pr D sz (MO g ad ca gs) (MT ca) (fun _ => True))) (va_Qi (S := Unit) (fun r u => r0 = r) (fun u t9 => po D (va_A (MO g ad ca gs) sz) ((fun u => (MO g ad ca gf)) u) ((fun u => []) u) t9) (va_A (MO g ad ca gs) sz)) 0 0 (va_A (MO g ad ca gs) sz) := by
  refine Met.ofW (cc := b_O_rules) (maxL := 1) (ret := (some .int)) (by decide) rfl ?_
  intro p e s m args below meth c s₁ B hml hv
  obtain ⟨rfl, hsz, hP, hK, hD0, hE⟩ := hv
  have hx := B.exec
  have hb := B.bytes
  have hr := B.returns
  have hts0 := atoms_spec (ws := Cond.code y_O_rules b_O_rules 1 (some .int) :: wal) B.pre
  have hts : ∀ w ∈ wal, w.before _ s = true := fun w h => hts0 w (List.mem_cons_of_mem _ h)
  have hown : s.vm.findClass rc_O = some m.cls := findClass_of_methodNamed B.named
  have hlocks := B.notSynchronized
  subst hsz
  have hD := hD0.self (sz := s.heap.size)
  generalize hAe : va_A (MO g ad ca gs) s.heap.size = A at hD ⊢
  have hA : ∀ q : Nat, s.heap.size ≤ q → A q := fun q h => by rw [← hAe]; exact Or.inr h
  have hS : va_S A s.heap s.heap [] := va_S.rf
  have hl := lv_entry ([.ref g]) (n := 1) (Nat.le_of_ble_eq_true rfl)
  rw [lg_entry_eq]
  generalize (lg_sl ([.ref g]) ++ List.replicate (1 - (lg_sl ([.ref g])).length) Slot.unset).toArray = ls at hl ⊢
  have hl : lv_has ls 1 [(0, .ref g)] := hl
  refine lv_aload_n hx hb d_O_rules_0 rfl (lv_at hl 0 rfl) ?_
  refine lv_iconst (v := 0) hx hb d_O_rules_1 (by decide) ?_
  refine va_put (D := D) (ci := 8) (v := .int 0) (ty := .int) (C := rc_O) (T := ft_O) (N := 42) hx hb hts in_O ty_O tk_O nm_O hown hK hP hD hS 0 rfl rfl 0 (by decide) (hts _ k_655) (fun _ h9 => h9) rfl (by decide +kernel) rfl rfl (Nat.le_of_ble_eq_true rfl) d_O_rules_2 (fun H locs hP hD hS => ?_)
  have hP : va_P D wcl (MO g ad ca (sI gs 0 0)) H := hP
  have hD : va_D A (MO g ad ca (sI gs 0 0)) := hD
  refine lv_aload_n hx hb d_O_rules_5 rfl (lv_at hl 0 rfl) ?_
  refine va_get (D := D) (ci := 8) (v := .int (gs.1 5)) (C := rc_O) (T := ft_O) (N := 42) hx hb hts in_O hown hK hP 0 rfl rfl 5 (by decide) (hts _ k_660) (fun _ h9 => h9) rfl d_O_rules_6 ?_
  obtain ⟨e8, e9⟩ := rt_ok hok
  rw [e9] at hP hD
  have hK9 := hK.sub (tys' := []) [] rfl
  exact W.iret (v := (gs.1 5)) hx hb hr (fun t9 ht hW => ⟨⟨(gs.1 5), (), rfl, e8, ⟨by rw [ht]; exact hP, va_K.moved hW.alike hK9, hD⟩⟩, hS.F ht⟩) hS.2.2 d_O_rules_9

set_option maxHeartbeats 4000000 in
set_option maxRecDepth 100000 in
theorem a_setItem (l : Launch) (D : va_G) (sz : Nat) (g : Nat) (ad : Nat → Nat) (ca : Nat → ClassId) (F : Nat) (gs : OS) (a1 : Int32) (r0 : Int32) (gf : OS) (hok : rf_setItem F gs a1 = some (r0, gf)) : Met l y_O_setItem (Cond.code y_O_setItem b_O_setItem 2 none :: wal) ({ frames := 10, cells := 0, slots := 0, locals := 120 }) (va_Pc [.ref g, .int a1] (pr D sz (MO g ad ca gs) (MT ca) (fun _ => True))) (va_Qv (S := Unit) (fun u => True) (fun u t9 => po D (va_A (MO g ad ca gs) sz) ((fun u => (MO g ad ca gf)) u) ((fun u => []) u) t9) (va_A (MO g ad ca gs) sz)) 0 0 (va_A (MO g ad ca gs) sz) := by
  refine Met.ofW (cc := b_O_setItem) (maxL := 2) (ret := none) (by decide) rfl ?_
  intro p e s m args below meth c s₁ B hml hv
  obtain ⟨rfl, hsz, hP, hK, hD0, hE⟩ := hv
  have hx := B.exec
  have hb := B.bytes
  have hr := B.returns
  have hts0 := atoms_spec (ws := Cond.code y_O_setItem b_O_setItem 2 none :: wal) B.pre
  have hts : ∀ w ∈ wal, w.before _ s = true := fun w h => hts0 w (List.mem_cons_of_mem _ h)
  have hown : s.vm.findClass rc_O = some m.cls := findClass_of_methodNamed B.named
  have hlocks := B.notSynchronized
  subst hsz
  have hD := hD0.self (sz := s.heap.size)
  generalize hAe : va_A (MO g ad ca gs) s.heap.size = A at hD ⊢
  have hA : ∀ q : Nat, s.heap.size ≤ q → A q := fun q h => by rw [← hAe]; exact Or.inr h
  have hS : va_S A s.heap s.heap [] := va_S.rf
  have hl := lv_entry ([.ref g, .int a1]) (n := 2) (Nat.le_of_ble_eq_true rfl)
  rw [lg_entry_eq]
  generalize (lg_sl ([.ref g, .int a1]) ++ List.replicate (2 - (lg_sl ([.ref g, .int a1])).length) Slot.unset).toArray = ls at hl ⊢
  have hl : lv_has ls 2 [(0, .ref g), (1, .int a1)] := hl
  refine lv_aload_n hx hb d_O_setItem_0 rfl (lv_at hl 0 rfl) ?_
  refine lv_iload_n hx hb d_O_setItem_1 rfl (lv_at hl 1 rfl) ?_
  refine va_put (D := D) (ci := 8) (v := .int a1) (ty := .int) (C := rc_O) (T := ft_O) (N := 42) hx hb hts in_O ty_O tk_O nm_O hown hK hP hD hS 0 rfl rfl 16 (by decide) (hts _ k_671) (fun _ h9 => h9) rfl (by decide +kernel) rfl rfl (Nat.le_of_ble_eq_true rfl) d_O_setItem_2 (fun H locs hP hD hS => ?_)
  have hP : va_P D wcl (MO g ad ca (sI gs 16 a1)) H := hP
  have hD : va_D A (MO g ad ca (sI gs 16 a1)) := hD
  refine lv_aload_n hx hb d_O_setItem_5 rfl (lv_at hl 0 rfl) ?_
  refine lv_iconst (v := 0) hx hb d_O_setItem_6 (by decide) ?_
  refine va_put (D := D) (ci := 8) (v := .int 0) (ty := .boolean) (C := rc_O) (T := ft_O) (N := 42) hx hb hts in_O ty_O tk_O nm_O hown hK hP hD hS 0 rfl rfl 17 (by decide) (hts _ k_672) (fun _ h9 => h9) rfl (by decide +kernel) rfl rfl (Nat.le_of_ble_eq_true rfl) d_O_setItem_7 (fun H locs hP hD hS => ?_)
  have hP : va_P D wcl (MO g ad ca (sI (sI gs 16 a1) 17 0)) H := hP
  have hD : va_D A (MO g ad ca (sI (sI gs 16 a1) 17 0)) := hD
  obtain ⟨e8, e9⟩ := rt_ok hok
  rw [e9] at hP hD
  have hK9 := hK.sub (tys' := []) [] rfl
  exact W.vret hx hb hr (fun t9 ht hW => ⟨⟨(), rfl, trivial, ⟨by rw [ht]; exact hP, va_K.moved hW.alike hK9, hD⟩⟩, hS.F ht⟩) hS.2.2 d_O_setItem_10

set_option maxHeartbeats 4000000 in
set_option maxRecDepth 100000 in
theorem a_skip (l : Launch) (D : va_G) (sz : Nat) (g : Nat) (ad : Nat → Nat) (ca : Nat → ClassId) (F : Nat) (gs : OS) (a1 : Int32) (r0 : Int32) (gf : OS) (hok : rf_skip F gs a1 = some (r0, gf)) : Met l y_O_skip (Cond.code y_O_skip b_O_skip 4 (some .int) :: wal) ({ frames := 10, cells := 0, slots := 0, locals := 120 }) (va_Pc [.ref g, .int a1] (pr D sz (MO g ad ca gs) (MT ca) (fun _ => True))) (va_Qi (S := Unit) (fun r u => r0 = r) (fun u t9 => po D (va_A (MO g ad ca gs) sz) ((fun u => (MO g ad ca gf)) u) ((fun u => []) u) t9) (va_A (MO g ad ca gs) sz)) 0 0 (va_A (MO g ad ca gs) sz) := by
  refine Met.ofW (cc := b_O_skip) (maxL := 4) (ret := (some .int)) (by decide) rfl ?_
  intro p e s m args below meth c s₁ B hml hv
  obtain ⟨rfl, hsz, hP, hK, hD0, hE⟩ := hv
  have hx := B.exec
  have hb := B.bytes
  have hr := B.returns
  have hts0 := atoms_spec (ws := Cond.code y_O_skip b_O_skip 4 (some .int) :: wal) B.pre
  have hts : ∀ w ∈ wal, w.before _ s = true := fun w h => hts0 w (List.mem_cons_of_mem _ h)
  have hown : s.vm.findClass rc_O = some m.cls := findClass_of_methodNamed B.named
  have hlocks := B.notSynchronized
  subst hsz
  have hD := hD0.self (sz := s.heap.size)
  generalize hAe : va_A (MO g ad ca gs) s.heap.size = A at hD ⊢
  have hA : ∀ q : Nat, s.heap.size ≤ q → A q := fun q h => by rw [← hAe]; exact Or.inr h
  have hS : va_S A s.heap s.heap [] := va_S.rf
  have hl := lv_entry ([.ref g, .int a1]) (n := 4) (Nat.le_of_ble_eq_true rfl)
  rw [lg_entry_eq]
  generalize (lg_sl ([.ref g, .int a1]) ++ List.replicate (4 - (lg_sl ([.ref g, .int a1])).length) Slot.unset).toArray = ls at hl ⊢
  have hl : lv_has ls 4 [(0, .ref g), (1, .int a1)] := hl
  have j20 : ∀ (d20 : Nat) (gs : OS) (x2 : Int32) (x3 : Int32) (H : Heap) (locs : List Loc) (ls : Array Slot), rf_skip_20 F d20 gs x2 x3 = some (r0, gf) → va_P D wcl (MO g ad ca gs) H → va_D A (MO g ad ca gs) → va_S A s.heap H locs → lv_has ls 4 [(0, .ref g), (2, .int x2), (3, .int x3)] → W p l e (headSpec (Cond.code y_O_skip b_O_skip 4 (some .int) :: wal) ({ frames := 10, cells := 0, slots := 0, locals := 120 })).room s m ([.ref g, .int a1] : List Value).toArray below meth c H locs 0 0 (MQ below (va_Qi (S := Unit) (fun r u => r0 = r) (fun u t9 => po D (A) ((fun u => (MO g ad ca gf)) u) ((fun u => []) u) t9) (A)) ([.ref g, .int a1] : List Value).toArray s 0 0 A) (F0 m 20 ls []) := by
    intro d20
    induction d20 with
    | zero =>
      intro gs x2 x3 H locs ls hok
      have h9 : (none : RO) = some (r0, gf) := hok
      cases h9
    | succ d20 ih20 =>
      have j50 : ∀ (gs : OS) (x2 : Int32) (x3 : Int32) (H : Heap) (locs : List Loc) (ls : Array Slot), rf_skip_50 F (rf_skip_20 F d20) gs x2 x3 = some (r0, gf) → va_P D wcl (MO g ad ca gs) H → va_D A (MO g ad ca gs) → va_S A s.heap H locs → lv_has ls 4 [(0, .ref g), (2, .int x2), (3, .int x3)] → W p l e (headSpec (Cond.code y_O_skip b_O_skip 4 (some .int) :: wal) ({ frames := 10, cells := 0, slots := 0, locals := 120 })).room s m ([.ref g, .int a1] : List Value).toArray below meth c H locs 0 0 (MQ below (va_Qi (S := Unit) (fun r u => r0 = r) (fun u t9 => po D (A) ((fun u => (MO g ad ca gf)) u) ((fun u => []) u) t9) (A)) ([.ref g, .int a1] : List Value).toArray s 0 0 A) (F0 m 50 ls []) := by
        intro gs x2 x3 H locs ls hok hP hD hS hl
        rw [rf_skip_50] at hok
        refine lv_iinc (k := 1) (v := (x2 + 1)) hx hb d_O_skip_50 hl rfl (by rfl) (by decide) rfl (fun ls hl => ?_)
        have hl : lv_has ls 4 [(2, .int (x2 + 1)), (0, .ref g), (3, .int x3)] := hl
        refine lv_goto (tgt := 20) hx hb d_O_skip_53 (by decide) ?_
        exact ih20 gs (x2 + 1) x3 H locs ls hok hP hD hS (lv_sub hl [1, 0, 2] rfl)
      have j37 : ∀ (gs : OS) (x2 : Int32) (x3 : Int32) (H : Heap) (locs : List Loc) (ls : Array Slot), rf_skip_37 F (rf_skip_20 F d20) gs x2 x3 = some (r0, gf) → va_P D wcl (MO g ad ca gs) H → va_D A (MO g ad ca gs) → va_S A s.heap H locs → lv_has ls 4 [(0, .ref g), (2, .int x2), (3, .int x3)] → W p l e (headSpec (Cond.code y_O_skip b_O_skip 4 (some .int) :: wal) ({ frames := 10, cells := 0, slots := 0, locals := 120 })).room s m ([.ref g, .int a1] : List Value).toArray below meth c H locs 0 0 (MQ below (va_Qi (S := Unit) (fun r u => r0 = r) (fun u t9 => po D (A) ((fun u => (MO g ad ca gf)) u) ((fun u => []) u) t9) (A)) ([.ref g, .int a1] : List Value).toArray s 0 0 A) (F0 m 37 ls []) := by
        intro gs x2 x3 H locs ls hok hP hD hS hl
        rw [rf_skip_37] at hok
        refine lv_aload_n hx hb d_O_skip_37 rfl (lv_at hl 0 rfl) ?_
        refine va_get (D := D) (ci := 8) (v := .ref (ad 22)) (C := rc_O) (T := ft_O) (N := 42) hx hb hts in_O hown hK hP 0 rfl rfl 22 (by decide) (hts _ k_677) (fun _ h9 => h9) rfl d_O_skip_38 ?_
        refine lv_iload_n hx hb d_O_skip_41 rfl (lv_at hl 1 rfl) ?_
        have hi1 := (gd_ok hok).1
        replace hok := (gd_ok hok).2
        refine va_iald hx hb hK hP 13 12 rfl rfl (hi1) d_O_skip_42 ?_
        refine lv_iconst (v := 2) hx hb d_O_skip_43 (by decide) ?_
        refine lv_icmp_ne (tgt := 50) hx hb d_O_skip_44 (by decide) (fun h2 => ?_) (fun h2 => ?_)
        · replace hok := ci_f h2 hok
          exact j50 gs x2 x3 H locs ls hok hP hD hS hl
        · replace hok := ci_t h2 hok
          refine lv_iinc (k := 2) (v := (x3 + (-1))) hx hb d_O_skip_47 hl rfl (by rfl) (by decide) rfl (fun ls hl => ?_)
          have hl : lv_has ls 4 [(3, .int (x3 + (-1))), (0, .ref g), (2, .int x2)] := hl
          exact j50 gs x2 (x3 + (-1)) H locs ls hok hP hD hS (lv_sub hl [1, 2, 0] rfl)
      intro gs x2 x3 H locs ls hok hP hD hS hl
      rw [rf_skip_20] at hok
      refine lv_iload_n hx hb d_O_skip_20 rfl (lv_at hl 2 rfl) ?_
      refine lv_if_le (tgt := 56) hx hb d_O_skip_21 (by decide) (fun h3 => ?_) (fun h3 => ?_)
      · replace hok := ci_t h3 hok
        refine lv_iload_n hx hb d_O_skip_56 rfl (lv_at hl 1 rfl) ?_
        obtain ⟨e8, e9⟩ := rt_ok hok
        rw [e9] at hP hD
        have hK9 := hK.sub (tys' := []) [] rfl
        exact W.iret (v := x2) hx hb hr (fun t9 ht hW => ⟨⟨x2, (), rfl, e8, ⟨by rw [ht]; exact hP, va_K.moved hW.alike hK9, hD⟩⟩, hS.F ht⟩) hS.2.2 d_O_skip_57
      · replace hok := ci_f h3 hok
        refine lv_aload_n hx hb d_O_skip_24 rfl (lv_at hl 0 rfl) ?_
        refine va_get (D := D) (ci := 8) (v := .ref (ad 22)) (C := rc_O) (T := ft_O) (N := 42) hx hb hts in_O hown hK hP 0 rfl rfl 22 (by decide) (hts _ k_677) (fun _ h9 => h9) rfl d_O_skip_25 ?_
        refine lv_iload_n hx hb d_O_skip_28 rfl (lv_at hl 1 rfl) ?_
        have hi4 := (gd_ok hok).1
        replace hok := (gd_ok hok).2
        refine va_iald hx hb hK hP 13 12 rfl rfl (hi4) d_O_skip_29 ?_
        refine lv_iconst (v := 1) hx hb d_O_skip_30 (by decide) ?_
        refine lv_icmp_ne (tgt := 37) hx hb d_O_skip_31 (by decide) (fun h5 => ?_) (fun h5 => ?_)
        · replace hok := ci_f h5 hok
          exact j37 gs x2 x3 H locs ls hok hP hD hS hl
        · replace hok := ci_t h5 hok
          refine lv_iinc (k := 2) (v := (x3 + 1)) hx hb d_O_skip_34 hl rfl (by rfl) (by decide) rfl (fun ls hl => ?_)
          have hl : lv_has ls 4 [(3, .int (x3 + 1)), (0, .ref g), (2, .int x2)] := hl
          exact j37 gs x2 (x3 + 1) H locs ls hok hP hD hS (lv_sub hl [1, 2, 0] rfl)
  refine lv_aload_n hx hb d_O_skip_0 rfl (lv_at hl 0 rfl) ?_
  refine va_get (D := D) (ci := 8) (v := .ref (ad 22)) (C := rc_O) (T := ft_O) (N := 42) hx hb hts in_O hown hK hP 0 rfl rfl 22 (by decide) (hts _ k_677) (fun _ h9 => h9) rfl d_O_skip_1 ?_
  refine lv_iload_n hx hb d_O_skip_4 rfl (lv_at hl 1 rfl) ?_
  have hi6 := (gd_ok hok).1
  replace hok := (gd_ok hok).2
  refine va_iald hx hb hK hP 13 12 rfl rfl (hi6) d_O_skip_5 ?_
  refine lv_iconst (v := 1) hx hb d_O_skip_6 (by decide) ?_
  refine lv_icmp_eq (tgt := 14) hx hb d_O_skip_7 (by decide) (fun h7 => ?_) (fun h7 => ?_)
  · replace hok := ci_t h7 hok
    refine lv_iload_n hx hb d_O_skip_14 rfl (lv_at hl 1 rfl) ?_
    refine lv_iconst (v := 1) hx hb d_O_skip_15 (by decide) ?_
    refine lv_iadd hx hb d_O_skip_16 ?_
    refine lv_istore_n hx hb d_O_skip_17 rfl hl (by decide) rfl (fun ls hl => ?_)
    have hl : lv_has ls 4 [(2, .int (a1 + 1)), (0, .ref g), (1, .int a1)] := hl
    refine lv_iconst (v := 1) hx hb d_O_skip_18 (by decide) ?_
    refine lv_istore_n hx hb d_O_skip_19 rfl hl (by decide) rfl (fun ls hl => ?_)
    have hl : lv_has ls 4 [(3, .int 1), (2, .int (a1 + 1)), (0, .ref g), (1, .int a1)] := hl
    exact j20 F gs (a1 + 1) 1 s.heap [] ls hok hP hD hS (lv_sub hl [2, 1, 0] rfl)
  · replace hok := ci_f h7 hok
    refine lv_iload_n hx hb d_O_skip_10 rfl (lv_at hl 1 rfl) ?_
    refine lv_iconst (v := 1) hx hb d_O_skip_11 (by decide) ?_
    refine lv_iadd hx hb d_O_skip_12 ?_
    obtain ⟨e8, e9⟩ := rt_ok hok
    rw [e9] at hP hD
    have hK9 := hK.sub (tys' := []) [] rfl
    exact W.iret (v := (a1 + 1)) hx hb hr (fun t9 ht hW => ⟨⟨(a1 + 1), (), rfl, e8, ⟨by rw [ht]; exact hP, va_K.moved hW.alike hK9, hD⟩⟩, hS.F ht⟩) hS.2.2 d_O_skip_13

set_option maxHeartbeats 4000000 in
set_option maxRecDepth 100000 in
theorem a_thrown (l : Launch) (D : va_G) (sz : Nat) (g : Nat) (ad : Nat → Nat) (ca : Nat → ClassId) (F : Nat) (gs : OS) (r0 : Int32) (gf : OS) (hok : rf_thrown F gs = some (r0, gf)) : Met l y_O_thrown (Cond.code y_O_thrown b_O_thrown 1 (some .int) :: wal) ({ frames := 10, cells := 0, slots := 0, locals := 120 }) (va_Pc [.ref g] (pr D sz (MO g ad ca gs) (MT ca) (fun _ => True))) (va_Qi (S := Unit) (fun r u => r0 = r) (fun u t9 => po D (va_A (MO g ad ca gs) sz) ((fun u => (MO g ad ca gf)) u) ((fun u => []) u) t9) (va_A (MO g ad ca gs) sz)) 0 0 (va_A (MO g ad ca gs) sz) := by
  refine Met.ofW (cc := b_O_thrown) (maxL := 1) (ret := (some .int)) (by decide) rfl ?_
  intro p e s m args below meth c s₁ B hml hv
  obtain ⟨rfl, hsz, hP, hK, hD0, hE⟩ := hv
  have hx := B.exec
  have hb := B.bytes
  have hr := B.returns
  have hts0 := atoms_spec (ws := Cond.code y_O_thrown b_O_thrown 1 (some .int) :: wal) B.pre
  have hts : ∀ w ∈ wal, w.before _ s = true := fun w h => hts0 w (List.mem_cons_of_mem _ h)
  have hown : s.vm.findClass rc_O = some m.cls := findClass_of_methodNamed B.named
  have hlocks := B.notSynchronized
  subst hsz
  have hD := hD0.self (sz := s.heap.size)
  generalize hAe : va_A (MO g ad ca gs) s.heap.size = A at hD ⊢
  have hA : ∀ q : Nat, s.heap.size ≤ q → A q := fun q h => by rw [← hAe]; exact Or.inr h
  have hS : va_S A s.heap s.heap [] := va_S.rf
  have hl := lv_entry ([.ref g]) (n := 1) (Nat.le_of_ble_eq_true rfl)
  rw [lg_entry_eq]
  generalize (lg_sl ([.ref g]) ++ List.replicate (1 - (lg_sl ([.ref g])).length) Slot.unset).toArray = ls at hl ⊢
  have hl : lv_has ls 1 [(0, .ref g)] := hl
  refine lv_aload_n hx hb d_O_thrown_0 rfl (lv_at hl 0 rfl) ?_
  refine va_get (D := D) (ci := 8) (v := .int (gs.1 0)) (C := rc_O) (T := ft_O) (N := 42) hx hb hts in_O hown hK hP 0 rfl rfl 0 (by decide) (hts _ k_655) (fun _ h9 => h9) rfl d_O_thrown_1 ?_
  obtain ⟨e8, e9⟩ := rt_ok hok
  rw [e9] at hP hD
  have hK9 := hK.sub (tys' := []) [] rfl
  exact W.iret (v := (gs.1 0)) hx hb hr (fun t9 ht hW => ⟨⟨(gs.1 0), (), rfl, e8, ⟨by rw [ht]; exact hP, va_K.moved hW.alike hK9, hD⟩⟩, hS.F ht⟩) hS.2.2 d_O_thrown_4

set_option maxHeartbeats 4000000 in
set_option maxRecDepth 100000 in
theorem a_tilde (l : Launch) (D : va_G) (sz : Nat) (g : Nat) (ad : Nat → Nat) (ca : Nat → ClassId) (F : Nat) (gs : OS) (r0 : Int32) (gf : OS) (hok : rf_tilde F gs = some (r0, gf)) : Met l y_O_tilde (Cond.code y_O_tilde b_O_tilde 1 (some .boolean) :: wal) ({ frames := 10, cells := 0, slots := 0, locals := 120 }) (va_Pc [.ref g] (pr D sz (MO g ad ca gs) (MT ca) (fun _ => True))) (va_Qi (S := Unit) (fun r u => r0 = r) (fun u t9 => po D (va_A (MO g ad ca gs) sz) ((fun u => (MO g ad ca gf)) u) ((fun u => []) u) t9) (va_A (MO g ad ca gs) sz)) 0 0 (va_A (MO g ad ca gs) sz) := by
  refine Met.ofW (cc := b_O_tilde) (maxL := 1) (ret := (some .boolean)) (by decide) rfl ?_
  intro p e s m args below meth c s₁ B hml hv
  obtain ⟨rfl, hsz, hP, hK, hD0, hE⟩ := hv
  have hx := B.exec
  have hb := B.bytes
  have hr := B.returns
  have hts0 := atoms_spec (ws := Cond.code y_O_tilde b_O_tilde 1 (some .boolean) :: wal) B.pre
  have hts : ∀ w ∈ wal, w.before _ s = true := fun w h => hts0 w (List.mem_cons_of_mem _ h)
  have hown : s.vm.findClass rc_O = some m.cls := findClass_of_methodNamed B.named
  have hlocks := B.notSynchronized
  subst hsz
  have hD := hD0.self (sz := s.heap.size)
  generalize hAe : va_A (MO g ad ca gs) s.heap.size = A at hD ⊢
  have hA : ∀ q : Nat, s.heap.size ≤ q → A q := fun q h => by rw [← hAe]; exact Or.inr h
  have hS : va_S A s.heap s.heap [] := va_S.rf
  have hl := lv_entry ([.ref g]) (n := 1) (Nat.le_of_ble_eq_true rfl)
  rw [lg_entry_eq]
  generalize (lg_sl ([.ref g]) ++ List.replicate (1 - (lg_sl ([.ref g])).length) Slot.unset).toArray = ls at hl ⊢
  have hl : lv_has ls 1 [(0, .ref g)] := hl
  have j14 : ∀ (gs : OS)  (H : Heap) (locs : List Loc) (ls : Array Slot), rf_tilde_14 F gs = some (r0, gf) → va_P D wcl (MO g ad ca gs) H → va_D A (MO g ad ca gs) → va_S A s.heap H locs → lv_has ls 1 [(0, .ref g)] → W p l e (headSpec (Cond.code y_O_tilde b_O_tilde 1 (some .boolean) :: wal) ({ frames := 10, cells := 0, slots := 0, locals := 120 })).room s m ([.ref g] : List Value).toArray below meth c H locs 0 0 (MQ below (va_Qi (S := Unit) (fun r u => r0 = r) (fun u t9 => po D (A) ((fun u => (MO g ad ca gf)) u) ((fun u => []) u) t9) (A)) ([.ref g] : List Value).toArray s 0 0 A) (F0 m 14 ls []) := by
    intro gs  H locs ls hok hP hD hS hl
    rw [rf_tilde_14] at hok
    refine lv_iconst (v := 0) hx hb d_O_tilde_14 (by decide) ?_
    obtain ⟨e8, e9⟩ := rt_ok hok
    rw [e9] at hP hD
    have hK9 := hK.sub (tys' := []) [] rfl
    exact W.zret (v := 0) hx hb hr (rfl) (fun t9 ht hW => ⟨⟨0, (), rfl, e8, ⟨by rw [ht]; exact hP, va_K.moved hW.alike hK9, hD⟩⟩, hS.F ht⟩) hS.2.2 d_O_tilde_15
  refine lv_aload_n hx hb d_O_tilde_0 rfl (lv_at hl 0 rfl) ?_
  refine va_get (D := D) (ci := 8) (v := .int (gs.1 16)) (C := rc_O) (T := ft_O) (N := 42) hx hb hts in_O hown hK hP 0 rfl rfl 16 (by decide) (hts _ k_671) (fun _ h9 => h9) rfl d_O_tilde_1 ?_
  refine lv_if_lt (tgt := 14) hx hb d_O_tilde_4 (by decide) (fun h1 => ?_) (fun h1 => ?_)
  · replace hok := ci_t h1 hok
    exact j14 gs s.heap [] ls hok hP hD hS hl
  · replace hok := ci_f h1 hok
    refine lv_aload_n hx hb d_O_tilde_7 rfl (lv_at hl 0 rfl) ?_
    refine va_get (D := D) (ci := 8) (v := .int (gs.1 17)) (C := rc_O) (T := ft_O) (N := 42) hx hb hts in_O hown hK hP 0 rfl rfl 17 (by decide) (hts _ k_672) (fun _ h9 => h9) rfl d_O_tilde_8 ?_
    refine lv_if_eq (tgt := 16) hx hb d_O_tilde_11 (by decide) (fun h2 => ?_) (fun h2 => ?_)
    · replace hok := ci_t h2 hok
      refine lv_aload_n hx hb d_O_tilde_16 rfl (lv_at hl 0 rfl) ?_
      refine va_get (D := D) (ci := 8) (v := .ref (ad 15)) (C := rc_O) (T := ft_O) (N := 42) hx hb hts in_O hown hK hP 0 rfl rfl 15 (by decide) (hts _ k_670) (fun _ h9 => h9) rfl d_O_tilde_17 ?_
      refine lv_aload_n hx hb d_O_tilde_20 rfl (lv_at hl 0 rfl) ?_
      refine va_get (D := D) (ci := 8) (v := .int (gs.1 13)) (C := rc_O) (T := ft_O) (N := 42) hx hb hts in_O hown hK hP 0 rfl rfl 13 (by decide) (hts _ k_668) (fun _ h9 => h9) rfl d_O_tilde_21 ?_
      refine lv_iconst (v := 1) hx hb d_O_tilde_24 (by decide) ?_
      have hi3 := (gd_ok hok).1
      replace hok := (gd_ok hok).2
      refine va_zast hx hb hK hP hD hS 11 10 rfl rfl hi3 d_O_tilde_25 (fun H locs hP hD hS => ?_)
      have hP : va_P D wcl (MO g ad ca (sA gs 15 (upd (gs.2 15) (gs.1 13).toNatClampNeg (vp_nar .boolean 1)))) H := hP
      have hD : va_D A (MO g ad ca (sA gs 15 (upd (gs.2 15) (gs.1 13).toNatClampNeg (vp_nar .boolean 1)))) := hD
      refine lv_iconst (v := 1) hx hb d_O_tilde_26 (by decide) ?_
      obtain ⟨e8, e9⟩ := rt_ok hok
      rw [e9] at hP hD
      have hK9 := hK.sub (tys' := []) [] rfl
      exact W.zret (v := 1) hx hb hr (rfl) (fun t9 ht hW => ⟨⟨1, (), rfl, e8, ⟨by rw [ht]; exact hP, va_K.moved hW.alike hK9, hD⟩⟩, hS.F ht⟩) hS.2.2 d_O_tilde_27
    · replace hok := ci_f h2 hok
      exact j14 gs s.heap [] ls hok hP hD hS hl

set_option maxHeartbeats 4000000 in
set_option maxRecDepth 100000 in
theorem a_tokenOf (l : Launch) (D : va_G) (sz : Nat) (g : Nat) (ad : Nat → Nat) (ca : Nat → ClassId) (F : Nat) (gs : OS) (a0 : Int32) (r0 : Int32) (gf : OS) (hok : rf_tokenOf F gs a0 = some (r0, gf)) : Met l y_O_tokenOf (Cond.code y_O_tokenOf b_O_tokenOf 1 (some .int) :: wal) ({ frames := 10, cells := 0, slots := 0, locals := 120 }) (va_Pc [.int a0] (pr D sz (MO g ad ca gs) (MT ca) (fun _ => True))) (va_Qi (S := Unit) (fun r u => r0 = r) (fun u t9 => po D (va_A (MO g ad ca gs) sz) ((fun u => (MO g ad ca gf)) u) ((fun u => []) u) t9) (va_A (MO g ad ca gs) sz)) 0 0 (va_A (MO g ad ca gs) sz) := by
  refine Met.ofW (cc := b_O_tokenOf) (maxL := 1) (ret := (some .int)) (by decide) rfl ?_
  intro p e s m args below meth c s₁ B hml hv
  obtain ⟨rfl, hsz, hP, hK, hD0, hE⟩ := hv
  have hx := B.exec
  have hb := B.bytes
  have hr := B.returns
  have hts0 := atoms_spec (ws := Cond.code y_O_tokenOf b_O_tokenOf 1 (some .int) :: wal) B.pre
  have hts : ∀ w ∈ wal, w.before _ s = true := fun w h => hts0 w (List.mem_cons_of_mem _ h)
  have hown : s.vm.findClass rc_O = some m.cls := findClass_of_methodNamed B.named
  have hlocks := B.notSynchronized
  subst hsz
  have hD := hD0.self (sz := s.heap.size)
  generalize hAe : va_A (MO g ad ca gs) s.heap.size = A at hD ⊢
  have hA : ∀ q : Nat, s.heap.size ≤ q → A q := fun q h => by rw [← hAe]; exact Or.inr h
  have hS : va_S A s.heap s.heap [] := va_S.rf
  have hl := lv_entry ([.int a0]) (n := 1) (Nat.le_of_ble_eq_true rfl)
  rw [lg_entry_eq]
  generalize (lg_sl ([.int a0]) ++ List.replicate (1 - (lg_sl ([.int a0])).length) Slot.unset).toArray = ls at hl ⊢
  have hl : lv_has ls 1 [(0, .int a0)] := hl
  have j40 : ∀ (gs : OS) (x0 : Int32) (H : Heap) (locs : List Loc) (ls : Array Slot), rf_tokenOf_40 F gs x0 = some (r0, gf) → va_P D wcl (MO g ad ca gs) H → va_D A (MO g ad ca gs) → va_S A s.heap H locs → lv_has ls 1 [(0, .int x0)] → W p l e (headSpec (Cond.code y_O_tokenOf b_O_tokenOf 1 (some .int) :: wal) ({ frames := 10, cells := 0, slots := 0, locals := 120 })).room s m ([.int a0] : List Value).toArray below meth c H locs 0 0 (MQ below (va_Qi (S := Unit) (fun r u => r0 = r) (fun u t9 => po D (A) ((fun u => (MO g ad ca gf)) u) ((fun u => []) u) t9) (A)) ([.int a0] : List Value).toArray s 0 0 A) (F0 m 40 ls []) := by
    intro gs x0 H locs ls hok hP hD hS hl
    rw [rf_tokenOf_40] at hok
    refine lv_iload_n hx hb d_O_tokenOf_40 rfl (lv_at hl 0 rfl) ?_
    by_cases s40 : x0 = 40
    · replace hok := ci_t s40 hok
      refine lv_lookup (tgt := 116) hx hb d_O_tokenOf_41 (by decide) (show _ = 75 by rw [s40]; decide) (by decide) ?_
      refine lv_iconst (v := 1) hx hb d_O_tokenOf_116 (by decide) ?_
      obtain ⟨e8, e9⟩ := rt_ok hok
      rw [e9] at hP hD
      have hK9 := hK.sub (tys' := []) [] rfl
      exact W.iret (v := 1) hx hb hr (fun t9 ht hW => ⟨⟨1, (), rfl, e8, ⟨by rw [ht]; exact hP, va_K.moved hW.alike hK9, hD⟩⟩, hS.F ht⟩) hS.2.2 d_O_tokenOf_117
    replace hok := ci_f s40 hok
    by_cases s41 : x0 = 41
    · replace hok := ci_t s41 hok
      refine lv_lookup (tgt := 118) hx hb d_O_tokenOf_41 (by decide) (show _ = 77 by rw [s41]; decide) (by decide) ?_
      refine lv_iconst (v := 2) hx hb d_O_tokenOf_118 (by decide) ?_
      obtain ⟨e8, e9⟩ := rt_ok hok
      rw [e9] at hP hD
      have hK9 := hK.sub (tys' := []) [] rfl
      exact W.iret (v := 2) hx hb hr (fun t9 ht hW => ⟨⟨2, (), rfl, e8, ⟨by rw [ht]; exact hP, va_K.moved hW.alike hK9, hD⟩⟩, hS.F ht⟩) hS.2.2 d_O_tokenOf_119
    replace hok := ci_f s41 hok
    by_cases s61 : x0 = 61
    · replace hok := ci_t s61 hok
      refine lv_lookup (tgt := 132) hx hb d_O_tokenOf_41 (by decide) (show _ = 91 by rw [s61]; decide) (by decide) ?_
      refine lv_bipush (v := 8) hx hb d_O_tokenOf_132 (by decide) ?_
      obtain ⟨e8, e9⟩ := rt_ok hok
      rw [e9] at hP hD
      have hK9 := hK.sub (tys' := []) [] rfl
      exact W.iret (v := 8) hx hb hr (fun t9 ht hW => ⟨⟨8, (), rfl, e8, ⟨by rw [ht]; exact hP, va_K.moved hW.alike hK9, hD⟩⟩, hS.F ht⟩) hS.2.2 d_O_tokenOf_134
    replace hok := ci_f s61 hok
    by_cases s73 : x0 = 73
    · replace hok := ci_t s73 hok
      refine lv_lookup (tgt := 122) hx hb d_O_tokenOf_41 (by decide) (show _ = 81 by rw [s73]; decide) (by decide) ?_
      refine lv_iconst (v := 4) hx hb d_O_tokenOf_122 (by decide) ?_
      obtain ⟨e8, e9⟩ := rt_ok hok
      rw [e9] at hP hD
      have hK9 := hK.sub (tys' := []) [] rfl
      exact W.iret (v := 4) hx hb hr (fun t9 ht hW => ⟨⟨4, (), rfl, e8, ⟨by rw [ht]; exact hP, va_K.moved hW.alike hK9, hD⟩⟩, hS.F ht⟩) hS.2.2 d_O_tokenOf_123
    replace hok := ci_f s73 hok
    by_cases s76 : x0 = 76
    · replace hok := ci_t s76 hok
      refine lv_lookup (tgt := 120) hx hb d_O_tokenOf_41 (by decide) (show _ = 79 by rw [s76]; decide) (by decide) ?_
      refine lv_iconst (v := 3) hx hb d_O_tokenOf_120 (by decide) ?_
      obtain ⟨e8, e9⟩ := rt_ok hok
      rw [e9] at hP hD
      have hK9 := hK.sub (tys' := []) [] rfl
      exact W.iret (v := 3) hx hb hr (fun t9 ht hW => ⟨⟨3, (), rfl, e8, ⟨by rw [ht]; exact hP, va_K.moved hW.alike hK9, hD⟩⟩, hS.F ht⟩) hS.2.2 d_O_tokenOf_121
    replace hok := ci_f s76 hok
    by_cases s81 : x0 = 81
    · replace hok := ci_t s81 hok
      refine lv_lookup (tgt := 124) hx hb d_O_tokenOf_41 (by decide) (show _ = 83 by rw [s81]; decide) (by decide) ?_
      refine lv_iconst (v := 5) hx hb d_O_tokenOf_124 (by decide) ?_
      obtain ⟨e8, e9⟩ := rt_ok hok
      rw [e9] at hP hD
      have hK9 := hK.sub (tys' := []) [] rfl
      exact W.iret (v := 5) hx hb hr (fun t9 ht hW => ⟨⟨5, (), rfl, e8, ⟨by rw [ht]; exact hP, va_K.moved hW.alike hK9, hD⟩⟩, hS.F ht⟩) hS.2.2 d_O_tokenOf_125
    replace hok := ci_f s81 hok
    by_cases s95 : x0 = 95
    · replace hok := ci_t s95 hok
      refine lv_lookup (tgt := 126) hx hb d_O_tokenOf_41 (by decide) (show _ = 85 by rw [s95]; decide) (by decide) ?_
      refine lv_bipush (v := 6) hx hb d_O_tokenOf_126 (by decide) ?_
      obtain ⟨e8, e9⟩ := rt_ok hok
      rw [e9] at hP hD
      have hK9 := hK.sub (tys' := []) [] rfl
      exact W.iret (v := 6) hx hb hr (fun t9 ht hW => ⟨⟨6, (), rfl, e8, ⟨by rw [ht]; exact hP, va_K.moved hW.alike hK9, hD⟩⟩, hS.F ht⟩) hS.2.2 d_O_tokenOf_128
    replace hok := ci_f s95 hok
    by_cases s126 : x0 = 126
    · replace hok := ci_t s126 hok
      refine lv_lookup (tgt := 129) hx hb d_O_tokenOf_41 (by decide) (show _ = 88 by rw [s126]; decide) (by decide) ?_
      refine lv_bipush (v := 7) hx hb d_O_tokenOf_129 (by decide) ?_
      obtain ⟨e8, e9⟩ := rt_ok hok
      rw [e9] at hP hD
      have hK9 := hK.sub (tys' := []) [] rfl
      exact W.iret (v := 7) hx hb hr (fun t9 ht hW => ⟨⟨7, (), rfl, e8, ⟨by rw [ht]; exact hP, va_K.moved hW.alike hK9, hD⟩⟩, hS.F ht⟩) hS.2.2 d_O_tokenOf_131
    replace hok := ci_f s126 hok
    have ho : Op.lookupswitch.offset [(40, 75), (41, 77), (61, 91), (73, 81), (76, 79), (81, 83), (95, 85), (126, 88)] 94 x0.toInt = 94 := by rw [lv_osw (k := 40) s40 (by decide), lv_osw (k := 41) s41 (by decide), lv_osw (k := 61) s61 (by decide), lv_osw (k := 73) s73 (by decide), lv_osw (k := 76) s76 (by decide), lv_osw (k := 81) s81 (by decide), lv_osw (k := 95) s95 (by decide), lv_osw (k := 126) s126 (by decide)]; rfl
    refine lv_lookup (tgt := 135) hx hb d_O_tokenOf_41 (by decide) ho (by decide) ?_
    refine lv_iconst (v := 0) hx hb d_O_tokenOf_135 (by decide) ?_
    obtain ⟨e8, e9⟩ := rt_ok hok
    rw [e9] at hP hD
    have hK9 := hK.sub (tys' := []) [] rfl
    exact W.iret (v := 0) hx hb hr (fun t9 ht hW => ⟨⟨0, (), rfl, e8, ⟨by rw [ht]; exact hP, va_K.moved hW.alike hK9, hD⟩⟩, hS.F ht⟩) hS.2.2 d_O_tokenOf_136
  have j20 : ∀ (gs : OS) (x0 : Int32) (H : Heap) (locs : List Loc) (ls : Array Slot), rf_tokenOf_20 F gs x0 = some (r0, gf) → va_P D wcl (MO g ad ca gs) H → va_D A (MO g ad ca gs) → va_S A s.heap H locs → lv_has ls 1 [(0, .int x0)] → W p l e (headSpec (Cond.code y_O_tokenOf b_O_tokenOf 1 (some .int) :: wal) ({ frames := 10, cells := 0, slots := 0, locals := 120 })).room s m ([.int a0] : List Value).toArray below meth c H locs 0 0 (MQ below (va_Qi (S := Unit) (fun r u => r0 = r) (fun u t9 => po D (A) ((fun u => (MO g ad ca gf)) u) ((fun u => []) u) t9) (A)) ([.int a0] : List Value).toArray s 0 0 A) (F0 m 20 ls []) := by
    intro gs x0 H locs ls hok hP hD hS hl
    rw [rf_tokenOf_20] at hok
    refine lv_iload_n hx hb d_O_tokenOf_20 rfl (lv_at hl 0 rfl) ?_
    refine lv_bipush (v := 48) hx hb d_O_tokenOf_21 (by decide) ?_
    refine lv_icmp_lt (tgt := 40) hx hb d_O_tokenOf_23 (by decide) (fun h1 => ?_) (fun h1 => ?_)
    · replace hok := ci_t h1 hok
      exact j40 gs x0 H locs ls hok hP hD hS hl
    · replace hok := ci_f h1 hok
      refine lv_iload_n hx hb d_O_tokenOf_26 rfl (lv_at hl 0 rfl) ?_
      refine lv_bipush (v := 57) hx hb d_O_tokenOf_27 (by decide) ?_
      refine lv_icmp_gt (tgt := 40) hx hb d_O_tokenOf_29 (by decide) (fun h2 => ?_) (fun h2 => ?_)
      · replace hok := ci_t h2 hok
        exact j40 gs x0 H locs ls hok hP hD hS hl
      · replace hok := ci_f h2 hok
        refine lv_bipush (v := 10) hx hb d_O_tokenOf_32 (by decide) ?_
        refine lv_iload_n hx hb d_O_tokenOf_34 rfl (lv_at hl 0 rfl) ?_
        refine lv_iadd hx hb d_O_tokenOf_35 ?_
        refine lv_bipush (v := 48) hx hb d_O_tokenOf_36 (by decide) ?_
        refine lv_isub hx hb d_O_tokenOf_38 ?_
        obtain ⟨e8, e9⟩ := rt_ok hok
        rw [e9] at hP hD
        have hK9 := hK.sub (tys' := []) [] rfl
        exact W.iret (v := ((10 + x0) - 48)) hx hb hr (fun t9 ht hW => ⟨⟨((10 + x0) - 48), (), rfl, e8, ⟨by rw [ht]; exact hP, va_K.moved hW.alike hK9, hD⟩⟩, hS.F ht⟩) hS.2.2 d_O_tokenOf_39
  refine lv_iload_n hx hb d_O_tokenOf_0 rfl (lv_at hl 0 rfl) ?_
  refine lv_bipush (v := 97) hx hb d_O_tokenOf_1 (by decide) ?_
  refine lv_icmp_lt (tgt := 20) hx hb d_O_tokenOf_3 (by decide) (fun h3 => ?_) (fun h3 => ?_)
  · replace hok := ci_t h3 hok
    exact j20 gs a0 s.heap [] ls hok hP hD hS hl
  · replace hok := ci_f h3 hok
    refine lv_iload_n hx hb d_O_tokenOf_6 rfl (lv_at hl 0 rfl) ?_
    refine lv_bipush (v := 122) hx hb d_O_tokenOf_7 (by decide) ?_
    refine lv_icmp_gt (tgt := 20) hx hb d_O_tokenOf_9 (by decide) (fun h4 => ?_) (fun h4 => ?_)
    · replace hok := ci_t h4 hok
      exact j20 gs a0 s.heap [] ls hok hP hD hS hl
    · replace hok := ci_f h4 hok
      refine lv_bipush (v := 100) hx hb d_O_tokenOf_12 (by decide) ?_
      refine lv_iload_n hx hb d_O_tokenOf_14 rfl (lv_at hl 0 rfl) ?_
      refine lv_iadd hx hb d_O_tokenOf_15 ?_
      refine lv_bipush (v := 97) hx hb d_O_tokenOf_16 (by decide) ?_
      refine lv_isub hx hb d_O_tokenOf_18 ?_
      obtain ⟨e8, e9⟩ := rt_ok hok
      rw [e9] at hP hD
      have hK9 := hK.sub (tys' := []) [] rfl
      exact W.iret (v := ((100 + a0) - 97)) hx hb hr (fun t9 ht hW => ⟨⟨((100 + a0) - 97), (), rfl, e8, ⟨by rw [ht]; exact hP, va_K.moved hW.alike hK9, hD⟩⟩, hS.F ht⟩) hS.2.2 d_O_tokenOf_19

set_option maxHeartbeats 4000000 in
set_option maxRecDepth 100000 in
theorem a_type (l : Launch) (D : va_G) (sz : Nat) (g : Nat) (ad : Nat → Nat) (ca : Nat → ClassId) (F : Nat) (gs : OS) (a1 : Int32) (r0 : Int32) (gf : OS) (hok : rf_type F gs a1 = some (r0, gf)) : Met l y_O_type (Cond.code y_O_type b_O_type 2 (some .boolean) :: wal) ({ frames := 10, cells := 0, slots := 0, locals := 120 }) (va_Pc [.ref g, .int a1] (pr D sz (MO g ad ca gs) (MT ca) (fun _ => True))) (va_Qi (S := Unit) (fun r u => r0 = r) (fun u t9 => po D (va_A (MO g ad ca gs) sz) ((fun u => (MO g ad ca gf)) u) ((fun u => []) u) t9) (va_A (MO g ad ca gs) sz)) 0 0 (va_A (MO g ad ca gs) sz) := by
  refine Met.ofW (cc := b_O_type) (maxL := 2) (ret := (some .boolean)) (by decide) rfl ?_
  intro p e s m args below meth c s₁ B hml hv
  obtain ⟨rfl, hsz, hP, hK, hD0, hE⟩ := hv
  have hx := B.exec
  have hb := B.bytes
  have hr := B.returns
  have hts0 := atoms_spec (ws := Cond.code y_O_type b_O_type 2 (some .boolean) :: wal) B.pre
  have hts : ∀ w ∈ wal, w.before _ s = true := fun w h => hts0 w (List.mem_cons_of_mem _ h)
  have hown : s.vm.findClass rc_O = some m.cls := findClass_of_methodNamed B.named
  have hlocks := B.notSynchronized
  subst hsz
  have hD := hD0.self (sz := s.heap.size)
  generalize hAe : va_A (MO g ad ca gs) s.heap.size = A at hD ⊢
  have hA : ∀ q : Nat, s.heap.size ≤ q → A q := fun q h => by rw [← hAe]; exact Or.inr h
  have hS : va_S A s.heap s.heap [] := va_S.rf
  have hl := lv_entry ([.ref g, .int a1]) (n := 2) (Nat.le_of_ble_eq_true rfl)
  rw [lg_entry_eq]
  generalize (lg_sl ([.ref g, .int a1]) ++ List.replicate (2 - (lg_sl ([.ref g, .int a1])).length) Slot.unset).toArray = ls at hl ⊢
  have hl : lv_has ls 2 [(0, .ref g), (1, .int a1)] := hl
  have j26 : ∀ (gs : OS)  (H : Heap) (locs : List Loc) (ls : Array Slot), rf_type_26 F gs = some (r0, gf) → va_P D wcl (MO g ad ca gs) H → va_D A (MO g ad ca gs) → va_S A s.heap H locs → lv_has ls 2 [(0, .ref g)] → W p l e (headSpec (Cond.code y_O_type b_O_type 2 (some .boolean) :: wal) ({ frames := 10, cells := 0, slots := 0, locals := 120 })).room s m ([.ref g, .int a1] : List Value).toArray below meth c H locs 0 0 (MQ below (va_Qi (S := Unit) (fun r u => r0 = r) (fun u t9 => po D (A) ((fun u => (MO g ad ca gf)) u) ((fun u => []) u) t9) (A)) ([.ref g, .int a1] : List Value).toArray s 0 0 A) (F0 m 26 ls []) := by
    intro gs  H locs ls hok hP hD hS hl
    rw [rf_type_26] at hok
    refine lv_iconst (v := 0) hx hb d_O_type_26 (by decide) ?_
    obtain ⟨e8, e9⟩ := rt_ok hok
    rw [e9] at hP hD
    have hK9 := hK.sub (tys' := []) [] rfl
    exact W.zret (v := 0) hx hb hr (rfl) (fun t9 ht hW => ⟨⟨0, (), rfl, e8, ⟨by rw [ht]; exact hP, va_K.moved hW.alike hK9, hD⟩⟩, hS.F ht⟩) hS.2.2 d_O_type_27
  refine lv_aload_n hx hb d_O_type_0 rfl (lv_at hl 0 rfl) ?_
  refine lv_iconst (v := 0) hx hb d_O_type_1 (by decide) ?_
  refine va_put (D := D) (ci := 8) (v := .int 0) (ty := .int) (C := rc_O) (T := ft_O) (N := 42) hx hb hts in_O ty_O tk_O nm_O hown hK hP hD hS 0 rfl rfl 0 (by decide) (hts _ k_655) (fun _ h9 => h9) rfl (by decide +kernel) rfl rfl (Nat.le_of_ble_eq_true rfl) d_O_type_2 (fun H locs hP hD hS => ?_)
  have hP : va_P D wcl (MO g ad ca (sI gs 0 0)) H := hP
  have hD : va_D A (MO g ad ca (sI gs 0 0)) := hD
  refine lv_iload_n hx hb d_O_type_5 rfl (lv_at hl 1 rfl) ?_
  refine lv_bipush (v := 32) hx hb d_O_type_6 (by decide) ?_
  refine lv_icmp_lt (tgt := 26) hx hb d_O_type_8 (by decide) (fun h1 => ?_) (fun h1 => ?_)
  · replace hok := ci_t h1 hok
    exact j26 (sI gs 0 0) H locs ls hok hP hD hS (lv_sub hl [0] rfl)
  · replace hok := ci_f h1 hok
    refine lv_iload_n hx hb d_O_type_11 rfl (lv_at hl 1 rfl) ?_
    refine lv_bipush (v := 126) hx hb d_O_type_12 (by decide) ?_
    refine lv_icmp_gt (tgt := 26) hx hb d_O_type_14 (by decide) (fun h2 => ?_) (fun h2 => ?_)
    · replace hok := ci_t h2 hok
      exact j26 (sI gs 0 0) H locs ls hok hP hD hS (lv_sub hl [0] rfl)
    · replace hok := ci_f h2 hok
      refine lv_aload_n hx hb d_O_type_17 rfl (lv_at hl 0 rfl) ?_
      refine va_get (D := D) (ci := 8) (v := .int (gs.1 1)) (C := rc_O) (T := ft_O) (N := 42) hx hb hts in_O hown hK hP 0 rfl rfl 1 (by decide) (hts _ k_656) (fun _ h9 => h9) rfl d_O_type_18 ?_
      refine lv_bipush (v := 60) hx hb d_O_type_21 (by decide) ?_
      refine lv_icmp_ne (tgt := 28) hx hb d_O_type_23 (by decide) (fun h3 => ?_) (fun h3 => ?_)
      · replace hok := ci_f h3 hok
        refine lv_aload_n hx hb d_O_type_28 rfl (lv_at hl 0 rfl) ?_
        refine va_get (D := D) (ci := 8) (v := .ref (ad 2)) (C := rc_O) (T := ft_O) (N := 42) hx hb hts in_O hown hK hP 0 rfl rfl 2 (by decide) (hts _ k_657) (fun _ h9 => h9) rfl d_O_type_29 ?_
        refine lv_aload_n hx hb d_O_type_32 rfl (lv_at hl 0 rfl) ?_
        refine va_get (D := D) (ci := 8) (v := .int (gs.1 1)) (C := rc_O) (T := ft_O) (N := 42) hx hb hts in_O hown hK hP 0 rfl rfl 1 (by decide) (hts _ k_656) (fun _ h9 => h9) rfl d_O_type_33 ?_
        refine lv_iload_n hx hb d_O_type_36 rfl (lv_at hl 1 rfl) ?_
        have hi4 := (gd_ok hok).1
        replace hok := (gd_ok hok).2
        refine va_cast hx hb hK hP hD hS 1 0 rfl rfl hi4 d_O_type_37 (fun H locs hP hD hS => ?_)
        have hP : va_P D wcl (MO g ad ca (sA (sI gs 0 0) 2 (upd (gs.2 2) (gs.1 1).toNatClampNeg (vp_nar .char a1)))) H := hP
        have hD : va_D A (MO g ad ca (sA (sI gs 0 0) 2 (upd (gs.2 2) (gs.1 1).toNatClampNeg (vp_nar .char a1)))) := hD
        refine lv_aload_n hx hb d_O_type_38 rfl (lv_at hl 0 rfl) ?_
        refine lv_dup hx hb d_O_type_39 rfl ?_
        refine va_get (D := D) (ci := 8) (v := .int (gs.1 1)) (C := rc_O) (T := ft_O) (N := 42) hx hb hts in_O hown hK hP 0 rfl rfl 1 (by decide) (hts _ k_656) (fun _ h9 => h9) rfl d_O_type_40 ?_
        refine lv_iconst (v := 1) hx hb d_O_type_43 (by decide) ?_
        refine lv_iadd hx hb d_O_type_44 ?_
        refine va_put (D := D) (ci := 8) (v := .int ((gs.1 1) + 1)) (ty := .int) (C := rc_O) (T := ft_O) (N := 42) hx hb hts in_O ty_O tk_O nm_O hown hK hP hD hS 0 rfl rfl 1 (by decide) (hts _ k_656) (fun _ h9 => h9) rfl (by decide +kernel) rfl rfl (Nat.le_of_ble_eq_true rfl) d_O_type_45 (fun H locs hP hD hS => ?_)
        have hP : va_P D wcl (MO g ad ca (sA (sI (sI gs 0 0) 1 ((gs.1 1) + 1)) 2 (upd (gs.2 2) (gs.1 1).toNatClampNeg (vp_nar .char a1)))) H := hP
        have hD : va_D A (MO g ad ca (sA (sI (sI gs 0 0) 1 ((gs.1 1) + 1)) 2 (upd (gs.2 2) (gs.1 1).toNatClampNeg (vp_nar .char a1)))) := hD
        refine lv_iconst (v := 1) hx hb d_O_type_48 (by decide) ?_
        obtain ⟨e8, e9⟩ := rt_ok hok
        rw [e9] at hP hD
        have hK9 := hK.sub (tys' := []) [] rfl
        exact W.zret (v := 1) hx hb hr (rfl) (fun t9 ht hW => ⟨⟨1, (), rfl, e8, ⟨by rw [ht]; exact hP, va_K.moved hW.alike hK9, hD⟩⟩, hS.F ht⟩) hS.2.2 d_O_type_49
      · replace hok := ci_t h3 hok
        exact j26 (sI gs 0 0) H locs ls hok hP hD hS (lv_sub hl [0] rfl)
