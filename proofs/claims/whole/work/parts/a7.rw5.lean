set_option maxHeartbeats 4000000 in
set_option maxRecDepth 100000 in
theorem a_goThrough (l : Launch) (D : va_G) (sz : Nat) (g : Nat) (ad : Nat → Nat) (ca : Nat → ClassId) (F : Nat) (gs : OS) (a1 : Int32) (a2 : Int32) (r0 : Int32) (gf : OS) (hok : rf_goThrough F gs a1 a2 = some (r0, gf)) : Met l y_O_goThrough (Cond.code y_O_goThrough b_O_goThrough 9 (some .boolean) :: wal) ({ frames := 13, cells := 0, slots := 0, locals := 300 }) (va_Pc [.ref g, .int a1, .int a2] (pr D sz (MO g ad ca gs) (MT ca) (fun _ => True))) (va_Qi (S := Unit) (fun r u => r0 = r) (fun u t9 => po D (va_A (MO g ad ca gs) sz) ((fun u => (MO g ad ca gf)) u) ((fun u => []) u) t9) (va_A (MO g ad ca gs) sz)) 0 0 (va_A (MO g ad ca gs) sz) := by
  refine Met.ofW (cc := b_O_goThrough) (maxL := 9) (ret := (some .boolean)) (by decide) rfl ?_
  intro p e s m args below meth c s₁ B hml hv
  obtain ⟨rfl, hsz, hP, hK, hD0, hE⟩ := hv
  have hx := B.exec
  have hb := B.bytes
  have hr := B.returns
  have hts0 := atoms_spec (ws := Cond.code y_O_goThrough b_O_goThrough 9 (some .boolean) :: wal) B.pre
  have hts : ∀ w ∈ wal, w.before _ s = true := fun w h => hts0 w (List.mem_cons_of_mem _ h)
  have hown : s.vm.findClass rc_O = some m.cls := findClass_of_methodNamed B.named
  have hlocks := B.notSynchronized
  subst hsz
  have hD := hD0.self (sz := s.heap.size)
  generalize hAe : va_A (MO g ad ca gs) s.heap.size = A at hD ⊢
  have hA : ∀ q : Nat, s.heap.size ≤ q → A q := fun q h => by rw [← hAe]; exact Or.inr h
  have hS : va_S A s.heap s.heap [] := va_S.rf
  have hl := lv_entry ([.ref g, .int a1, .int a2]) (n := 9) (Nat.le_of_ble_eq_true rfl)
  rw [lg_entry_eq]
  generalize (lg_sl ([.ref g, .int a1, .int a2]) ++ List.replicate (9 - (lg_sl ([.ref g, .int a1, .int a2])).length) Slot.unset).toArray = ls at hl ⊢
  have hl : lv_has ls 9 [(0, .ref g), (1, .int a1), (2, .int a2)] := hl
  have j18 : ∀ (d18 : Nat) (gs : OS) (x1 : Int32) (x2 : Int32) (x3 : Int32) (x4 : Int32) (x5 : Int32) (H : Heap) (locs : List Loc) (ls : Array Slot), rf_goThrough_18 F d18 gs x1 x2 x3 x4 x5 = some (r0, gf) → va_P D wcl (MO g ad ca gs) H → va_D A (MO g ad ca gs) → va_S A s.heap H locs → lv_has ls 9 [(0, .ref g), (1, .int x1), (2, .int x2), (3, .int x3), (4, .int x4), (5, .int x5)] → W p l e (headSpec (Cond.code y_O_goThrough b_O_goThrough 9 (some .boolean) :: wal) ({ frames := 13, cells := 0, slots := 0, locals := 300 })).room s m ([.ref g, .int a1, .int a2] : List Value).toArray below meth c H locs 0 0 (MQ below (va_Qi (S := Unit) (fun r u => r0 = r) (fun u t9 => po D (A) ((fun u => (MO g ad ca gf)) u) ((fun u => []) u) t9) (A)) ([.ref g, .int a1, .int a2] : List Value).toArray s 0 0 A) (F0 m 18 ls []) := by
    intro d18
    induction d18 with
    | zero =>
      intro gs x1 x2 x3 x4 x5 H locs ls hok
      have h9 : (none : RO) = some (r0, gf) := hok
      cases h9
    | succ d18 ih18 =>
      have j145 : ∀ (gs : OS) (x1 : Int32) (x2 : Int32) (x4 : Int32) (x5 : Int32) (x6 : Int32) (H : Heap) (locs : List Loc) (ls : Array Slot), rf_goThrough_145 F (rf_goThrough_18 F d18) gs x1 x2 x4 x5 x6 = some (r0, gf) → va_P D wcl (MO g ad ca gs) H → va_D A (MO g ad ca gs) → va_S A s.heap H locs → lv_has ls 9 [(0, .ref g), (1, .int x1), (2, .int x2), (4, .int x4), (5, .int x5), (6, .int x6)] → W p l e (headSpec (Cond.code y_O_goThrough b_O_goThrough 9 (some .boolean) :: wal) ({ frames := 13, cells := 0, slots := 0, locals := 300 })).room s m ([.ref g, .int a1, .int a2] : List Value).toArray below meth c H locs 0 0 (MQ below (va_Qi (S := Unit) (fun r u => r0 = r) (fun u t9 => po D (A) ((fun u => (MO g ad ca gf)) u) ((fun u => []) u) t9) (A)) ([.ref g, .int a1, .int a2] : List Value).toArray s 0 0 A) (F0 m 145 ls []) := by
        intro gs x1 x2 x4 x5 x6 H locs ls hok hP hD hS hl
        rw [rf_goThrough_145] at hok
        refine lv_iload hx hb d_O_goThrough_145 (lv_at hl 5 rfl) ?_
        refine lv_iconst (v := 1) hx hb d_O_goThrough_147 (by decide) ?_
        refine lv_iadd hx hb d_O_goThrough_148 ?_
        refine lv_istore_n hx hb d_O_goThrough_149 rfl hl (by decide) rfl (fun ls hl => ?_)
        have hl : lv_has ls 9 [(3, .int (x6 + 1)), (0, .ref g), (1, .int x1), (2, .int x2), (4, .int x4), (5, .int x5), (6, .int x6)] := hl
        refine lv_goto (tgt := 18) hx hb d_O_goThrough_150 (by decide) ?_
        exact ih18 gs x1 x2 (x6 + 1) x4 x5 H locs ls hok hP hD hS (lv_sub hl [1, 2, 3, 0, 4, 5] rfl)
      have j118 : ∀ (d118 : Nat) (gs : OS) (x1 : Int32) (x2 : Int32) (x3 : Int32) (x4 : Int32) (x5 : Int32) (x6 : Int32) (x7 : Int32) (x8 : Int32) (H : Heap) (locs : List Loc) (ls : Array Slot), rf_goThrough_118 F (rf_goThrough_18 F d18) d118 gs x1 x2 x3 x4 x5 x6 x7 x8 = some (r0, gf) → va_P D wcl (MO g ad ca gs) H → va_D A (MO g ad ca gs) → va_S A s.heap H locs → lv_has ls 9 [(0, .ref g), (1, .int x1), (2, .int x2), (3, .int x3), (4, .int x4), (5, .int x5), (6, .int x6), (7, .int x7), (8, .int x8)] → W p l e (headSpec (Cond.code y_O_goThrough b_O_goThrough 9 (some .boolean) :: wal) ({ frames := 13, cells := 0, slots := 0, locals := 300 })).room s m ([.ref g, .int a1, .int a2] : List Value).toArray below meth c H locs 0 0 (MQ below (va_Qi (S := Unit) (fun r u => r0 = r) (fun u t9 => po D (A) ((fun u => (MO g ad ca gf)) u) ((fun u => []) u) t9) (A)) ([.ref g, .int a1, .int a2] : List Value).toArray s 0 0 A) (F0 m 118 ls []) := by
        intro d118
        induction d118 with
        | zero =>
          intro gs x1 x2 x3 x4 x5 x6 x7 x8 H locs ls hok
          have h9 : (none : RO) = some (r0, gf) := hok
          cases h9
        | succ d118 ih118 =>
          intro gs x1 x2 x3 x4 x5 x6 x7 x8 H locs ls hok hP hD hS hl
          rw [rf_goThrough_118] at hok
          refine lv_iload hx hb d_O_goThrough_118 (lv_at hl 8 rfl) ?_
          refine lv_iload hx hb d_O_goThrough_120 (lv_at hl 7 rfl) ?_
          refine lv_icmp_ge (tgt := 145) hx hb d_O_goThrough_122 (by decide) (fun h1 => ?_) (fun h1 => ?_)
          · replace hok := ci_t h1 hok
            exact j145 gs x1 x2 x4 x5 x6 H locs ls hok hP hD hS (lv_sub hl [0, 1, 2, 4, 5, 6] rfl)
          · replace hok := ci_f h1 hok
            refine lv_iload_n hx hb d_O_goThrough_125 rfl (lv_at hl 2 rfl) ?_
            refine lv_if_eq (tgt := 145) hx hb d_O_goThrough_126 (by decide) (fun h2 => ?_) (fun h2 => ?_)
            · replace hok := ci_t h2 hok
              exact j145 gs x1 x2 x4 x5 x6 H locs ls hok hP hD hS (lv_sub hl [0, 1, 2, 4, 5, 6] rfl)
            · replace hok := ci_f h2 hok
              refine lv_aload_n hx hb d_O_goThrough_129 rfl (lv_at hl 0 rfl) ?_
              refine lv_iload_n hx hb d_O_goThrough_130 rfl (lv_at hl 1 rfl) ?_
              refine lv_iload_n hx hb d_O_goThrough_131 rfl (lv_at hl 3 rfl) ?_
              refine lv_iload hx hb d_O_goThrough_132 (lv_at hl 6 rfl) ?_
              refine lv_iload hx hb d_O_goThrough_134 (lv_at hl 8 rfl) ?_
              replace hok := bd_ok hok
              obtain ⟨r3, gs4, hc5, hok⟩ := hok
              refine cl_v (wc := (MO g ad ca gs)) (wr := []) hP hD hK hS hA [0, 1, 2, 3, 4, 5, 6, 7, 8, 9, 10, 11, 12, 13, 14, 15, 16, 17, 18, 19, 20] [] rfl rfl (by decide) (by decide) (va_runV (As := [.int x1, .int x3, .int x6, .int x8]) (rest := []) ⟨hx, hb, hml, hown, hts⟩ (a_emitPlain l D H.size g ad ca F gs x1 x3 x6 x8 r3 gs4 hc5) (cw_V hts 4 k_948 k_9 k_945 k_947 sel_O_emitPlain (by decide +kernel) ⟨Nat.le_of_ble_eq_true rfl, Nat.le_of_ble_eq_true rfl⟩) (pr_V hP hD hK [0, 1, 2, 3, 4, 5, 6, 7, 8, 9, 10, 11, 12, 13, 14, 15, 16, 17, 18, 19, 20] [0, 1, 2, 3, 4, 5, 6, 7, 8, 9, 10, 11, 12, 13, 14, 15, 16, 17, 18, 19] (by decide) rfl rfl (fun U hU hW => trivial) (fun U g mk a h => h) (q0 := 0) (ci := 8) rfl rfl) rfl rfl hl.1 rfl (lv_room (Nat.le_of_ble_eq_true rfl)) d_O_goThrough_136 ⟨by decide, by decide⟩) (fun u H locs h6 hP hD hK hS => ?_)
              have hP : va_P D wcl (MO g ad ca gs4) H := hP
              have hD : va_D A (MO g ad ca gs4) := hD
              have hK : va_K D wcl (MT ca) s := hK
              refine lv_iinc (k := 8) (v := (x8 + 1)) hx hb d_O_goThrough_139 hl rfl (by rfl) (by decide) rfl (fun ls hl => ?_)
              have hl : lv_has ls 9 [(8, .int (x8 + 1)), (0, .ref g), (1, .int x1), (2, .int x2), (3, .int x3), (4, .int x4), (5, .int x5), (6, .int x6), (7, .int x7)] := hl
              refine lv_goto (tgt := 118) hx hb d_O_goThrough_142 (by decide) ?_
              exact ih118 gs4 x1 x2 x3 x4 x5 x6 x7 (x8 + 1) H locs ls hok hP hD hS (lv_sub hl [1, 2, 3, 4, 5, 6, 7, 8, 0] rfl)
      have j113 : ∀ (gs : OS) (x1 : Int32) (x2 : Int32) (x3 : Int32) (x4 : Int32) (x6 : Int32) (x7 : Int32) (y0 : Int32) (H : Heap) (locs : List Loc) (ls : Array Slot), rf_goThrough_113 F (rf_goThrough_18 F d18) gs x1 x2 x3 x4 x6 x7 y0 = some (r0, gf) → va_P D wcl (MO g ad ca gs) H → va_D A (MO g ad ca gs) → va_S A s.heap H locs → lv_has ls 9 [(0, .ref g), (1, .int x1), (2, .int x2), (3, .int x3), (4, .int x4), (6, .int x6), (7, .int x7)] → W p l e (headSpec (Cond.code y_O_goThrough b_O_goThrough 9 (some .boolean) :: wal) ({ frames := 13, cells := 0, slots := 0, locals := 300 })).room s m ([.ref g, .int a1, .int a2] : List Value).toArray below meth c H locs 0 0 (MQ below (va_Qi (S := Unit) (fun r u => r0 = r) (fun u t9 => po D (A) ((fun u => (MO g ad ca gf)) u) ((fun u => []) u) t9) (A)) ([.ref g, .int a1, .int a2] : List Value).toArray s 0 0 A) (F0 m 113 ls [.int y0]) := by
        intro gs x1 x2 x3 x4 x6 x7 y0 H locs ls hok hP hD hS hl
        rw [rf_goThrough_113] at hok
        refine lv_istore hx hb d_O_goThrough_113 hl (by decide) rfl (fun ls hl => ?_)
        have hl : lv_has ls 9 [(5, .int y0), (0, .ref g), (1, .int x1), (2, .int x2), (3, .int x3), (4, .int x4), (6, .int x6), (7, .int x7)] := hl
        refine lv_iconst (v := 0) hx hb d_O_goThrough_115 (by decide) ?_
        refine lv_istore hx hb d_O_goThrough_116 hl (by decide) rfl (fun ls hl => ?_)
        have hl : lv_has ls 9 [(8, .int 0), (5, .int y0), (0, .ref g), (1, .int x1), (2, .int x2), (3, .int x3), (4, .int x4), (6, .int x6), (7, .int x7)] := hl
        exact j118 F gs x1 x2 x3 x4 y0 x6 x7 0 H locs ls hok hP hD hS (lv_sub hl [2, 3, 4, 5, 6, 1, 7, 8, 0] rfl)
      have j112 : ∀ (gs : OS) (x1 : Int32) (x2 : Int32) (x3 : Int32) (x4 : Int32) (x6 : Int32) (x7 : Int32) (H : Heap) (locs : List Loc) (ls : Array Slot), rf_goThrough_112 F (rf_goThrough_18 F d18) gs x1 x2 x3 x4 x6 x7 = some (r0, gf) → va_P D wcl (MO g ad ca gs) H → va_D A (MO g ad ca gs) → va_S A s.heap H locs → lv_has ls 9 [(0, .ref g), (1, .int x1), (2, .int x2), (3, .int x3), (4, .int x4), (6, .int x6), (7, .int x7)] → W p l e (headSpec (Cond.code y_O_goThrough b_O_goThrough 9 (some .boolean) :: wal) ({ frames := 13, cells := 0, slots := 0, locals := 300 })).room s m ([.ref g, .int a1, .int a2] : List Value).toArray below meth c H locs 0 0 (MQ below (va_Qi (S := Unit) (fun r u => r0 = r) (fun u t9 => po D (A) ((fun u => (MO g ad ca gf)) u) ((fun u => []) u) t9) (A)) ([.ref g, .int a1, .int a2] : List Value).toArray s 0 0 A) (F0 m 112 ls []) := by
        intro gs x1 x2 x3 x4 x6 x7 H locs ls hok hP hD hS hl
        rw [rf_goThrough_112] at hok
        refine lv_iconst (v := 0) hx hb d_O_goThrough_112 (by decide) ?_
        exact j113 gs x1 x2 x3 x4 x6 x7 0 H locs ls hok hP hD hS hl
      have j82 : ∀ (gs : OS) (x1 : Int32) (x2 : Int32) (x3 : Int32) (x4 : Int32) (x5 : Int32) (H : Heap) (locs : List Loc) (ls : Array Slot), rf_goThrough_82 F (rf_goThrough_18 F d18) gs x1 x2 x3 x4 x5 = some (r0, gf) → va_P D wcl (MO g ad ca gs) H → va_D A (MO g ad ca gs) → va_S A s.heap H locs → lv_has ls 9 [(0, .ref g), (1, .int x1), (2, .int x2), (3, .int x3), (4, .int x4), (5, .int x5)] → W p l e (headSpec (Cond.code y_O_goThrough b_O_goThrough 9 (some .boolean) :: wal) ({ frames := 13, cells := 0, slots := 0, locals := 300 })).room s m ([.ref g, .int a1, .int a2] : List Value).toArray below meth c H locs 0 0 (MQ below (va_Qi (S := Unit) (fun r u => r0 = r) (fun u t9 => po D (A) ((fun u => (MO g ad ca gf)) u) ((fun u => []) u) t9) (A)) ([.ref g, .int a1, .int a2] : List Value).toArray s 0 0 A) (F0 m 82 ls []) := by
        intro gs x1 x2 x3 x4 x5 H locs ls hok hP hD hS hl
        rw [rf_goThrough_82] at hok
        refine lv_iinc (k := 3) (v := (x3 + 1)) hx hb d_O_goThrough_82 hl rfl (by rfl) (by decide) rfl (fun ls hl => ?_)
        have hl : lv_has ls 9 [(3, .int (x3 + 1)), (0, .ref g), (1, .int x1), (2, .int x2), (4, .int x4), (5, .int x5)] := hl
        refine lv_goto (tgt := 18) hx hb d_O_goThrough_85 (by decide) ?_
        exact ih18 gs x1 x2 (x3 + 1) x4 x5 H locs ls hok hP hD hS (lv_sub hl [1, 2, 3, 0, 4, 5] rfl)
      have j68 : ∀ (gs : OS) (x1 : Int32) (x2 : Int32) (x3 : Int32) (x4 : Int32) (x5 : Int32) (H : Heap) (locs : List Loc) (ls : Array Slot), rf_goThrough_68 F (rf_goThrough_18 F d18) gs x1 x2 x3 x4 x5 = some (r0, gf) → va_P D wcl (MO g ad ca gs) H → va_D A (MO g ad ca gs) → va_S A s.heap H locs → lv_has ls 9 [(0, .ref g), (1, .int x1), (2, .int x2), (3, .int x3), (4, .int x4), (5, .int x5)] → W p l e (headSpec (Cond.code y_O_goThrough b_O_goThrough 9 (some .boolean) :: wal) ({ frames := 13, cells := 0, slots := 0, locals := 300 })).room s m ([.ref g, .int a1, .int a2] : List Value).toArray below meth c H locs 0 0 (MQ below (va_Qi (S := Unit) (fun r u => r0 = r) (fun u t9 => po D (A) ((fun u => (MO g ad ca gf)) u) ((fun u => []) u) t9) (A)) ([.ref g, .int a1, .int a2] : List Value).toArray s 0 0 A) (F0 m 68 ls []) := by
        intro gs x1 x2 x3 x4 x5 H locs ls hok hP hD hS hl
        rw [rf_goThrough_68] at hok
        refine lv_iload_n hx hb d_O_goThrough_68 rfl (lv_at hl 2 rfl) ?_
        refine lv_if_eq (tgt := 82) hx hb d_O_goThrough_69 (by decide) (fun h8 => ?_) (fun h8 => ?_)
        · replace hok := ci_t h8 hok
          exact j82 gs x1 x2 x3 x4 x5 H locs ls hok hP hD hS hl
        · replace hok := ci_f h8 hok
          refine lv_aload_n hx hb d_O_goThrough_72 rfl (lv_at hl 0 rfl) ?_
          refine lv_iload_n hx hb d_O_goThrough_73 rfl (lv_at hl 1 rfl) ?_
          refine lv_iload_n hx hb d_O_goThrough_74 rfl (lv_at hl 3 rfl) ?_
          refine lv_iload_n hx hb d_O_goThrough_75 rfl (lv_at hl 3 rfl) ?_
          refine lv_iconst (v := 1) hx hb d_O_goThrough_76 (by decide) ?_
          refine lv_iadd hx hb d_O_goThrough_77 ?_
          refine lv_iconst (v := 0) hx hb d_O_goThrough_78 (by decide) ?_
          replace hok := bd_ok hok
          obtain ⟨r9, gs10, hc11, hok⟩ := hok
          refine cl_v (wc := (MO g ad ca gs)) (wr := []) hP hD hK hS hA [0, 1, 2, 3, 4, 5, 6, 7, 8, 9, 10, 11, 12, 13, 14, 15, 16, 17, 18, 19, 20] [] rfl rfl (by decide) (by decide) (va_runV (As := [.int x1, .int x3, .int (x3 + 1), .int 0]) (rest := []) ⟨hx, hb, hml, hown, hts⟩ (a_emitPlain l D H.size g ad ca F gs x1 x3 (x3 + 1) 0 r9 gs10 hc11) (cw_V hts 4 k_948 k_9 k_945 k_947 sel_O_emitPlain (by decide +kernel) ⟨Nat.le_of_ble_eq_true rfl, Nat.le_of_ble_eq_true rfl⟩) (pr_V hP hD hK [0, 1, 2, 3, 4, 5, 6, 7, 8, 9, 10, 11, 12, 13, 14, 15, 16, 17, 18, 19, 20] [0, 1, 2, 3, 4, 5, 6, 7, 8, 9, 10, 11, 12, 13, 14, 15, 16, 17, 18, 19] (by decide) rfl rfl (fun U hU hW => trivial) (fun U g mk a h => h) (q0 := 0) (ci := 8) rfl rfl) rfl rfl hl.1 rfl (lv_room (Nat.le_of_ble_eq_true rfl)) d_O_goThrough_79 ⟨by decide, by decide⟩) (fun u H locs h12 hP hD hK hS => ?_)
          have hP : va_P D wcl (MO g ad ca gs10) H := hP
          have hD : va_D A (MO g ad ca gs10) := hD
          have hK : va_K D wcl (MT ca) s := hK
          exact j82 gs10 x1 x2 x3 x4 x5 H locs ls hok hP hD hS hl
      have j44 : ∀ (gs : OS) (x1 : Int32) (x2 : Int32) (x3 : Int32) (x4 : Int32) (x5 : Int32) (y0 : Int32) (H : Heap) (locs : List Loc) (ls : Array Slot), rf_goThrough_44 F (rf_goThrough_18 F d18) gs x1 x2 x3 x4 x5 y0 = some (r0, gf) → va_P D wcl (MO g ad ca gs) H → va_D A (MO g ad ca gs) → va_S A s.heap H locs → lv_has ls 9 [(0, .ref g), (1, .int x1), (2, .int x2), (3, .int x3), (4, .int x4), (5, .int x5)] → W p l e (headSpec (Cond.code y_O_goThrough b_O_goThrough 9 (some .boolean) :: wal) ({ frames := 13, cells := 0, slots := 0, locals := 300 })).room s m ([.ref g, .int a1, .int a2] : List Value).toArray below meth c H locs 0 0 (MQ below (va_Qi (S := Unit) (fun r u => r0 = r) (fun u t9 => po D (A) ((fun u => (MO g ad ca gf)) u) ((fun u => []) u) t9) (A)) ([.ref g, .int a1, .int a2] : List Value).toArray s 0 0 A) (F0 m 44 ls [.int y0]) := by
        intro gs x1 x2 x3 x4 x5 y0 H locs ls hok hP hD hS hl
        rw [rf_goThrough_44] at hok
        refine lv_istore hx hb d_O_goThrough_44 hl (by decide) rfl (fun ls hl => ?_)
        have hl : lv_has ls 9 [(6, .int y0), (0, .ref g), (1, .int x1), (2, .int x2), (3, .int x3), (4, .int x4), (5, .int x5)] := hl
        refine lv_aload_n hx hb d_O_goThrough_46 rfl (lv_at hl 1 rfl) ?_
        refine va_get (D := D) (ci := 8) (v := .ref (ad 10)) (C := rc_O) (T := ft_O) (N := 42) hx hb hts in_O hown hK hP 0 rfl rfl 10 (by decide) (hts _ k_665) (fun _ h9 => h9) rfl d_O_goThrough_47 ?_
        refine lv_iload_n hx hb d_O_goThrough_50 rfl (lv_at hl 4 rfl) ?_
        have hi14 := (gd_ok hok).1
        replace hok := (gd_ok hok).2
        refine va_iald hx hb hK hP 7 6 rfl rfl (hi14) d_O_goThrough_51 ?_
        refine lv_iconst (v := 2) hx hb d_O_goThrough_52 (by decide) ?_
        refine lv_icmp_eq (tgt := 68) hx hb d_O_goThrough_53 (by decide) (fun h15 => ?_) (fun h15 => ?_)
        · replace hok := ci_t h15 hok
          exact j68 gs x1 x2 x3 x4 x5 H locs ls hok hP hD hS (lv_sub hl [1, 2, 3, 4, 5, 6] rfl)
        · replace hok := ci_f h15 hok
          refine lv_aload_n hx hb d_O_goThrough_56 rfl (lv_at hl 1 rfl) ?_
          refine va_get (D := D) (ci := 8) (v := .ref (ad 10)) (C := rc_O) (T := ft_O) (N := 42) hx hb hts in_O hown hK hP 0 rfl rfl 10 (by decide) (hts _ k_665) (fun _ h9 => h9) rfl d_O_goThrough_57 ?_
          refine lv_iload hx hb d_O_goThrough_60 (lv_at hl 0 rfl) ?_
          have hi16 := (gd_ok hok).1
          replace hok := (gd_ok hok).2
          refine va_iald hx hb hK hP 7 6 rfl rfl (hi16) d_O_goThrough_62 ?_
          refine lv_bipush (v := 7) hx hb d_O_goThrough_63 (by decide) ?_
          refine lv_icmp_eq (tgt := 88) hx hb d_O_goThrough_65 (by decide) (fun h17 => ?_) (fun h17 => ?_)
          · replace hok := ci_t h17 hok
            refine lv_aload_n hx hb d_O_goThrough_88 rfl (lv_at hl 1 rfl) ?_
            refine lv_iload_n hx hb d_O_goThrough_89 rfl (lv_at hl 2 rfl) ?_
            refine lv_iload_n hx hb d_O_goThrough_90 rfl (lv_at hl 4 rfl) ?_
            refine lv_iload hx hb d_O_goThrough_91 (lv_at hl 0 rfl) ?_
            replace hok := bd_ok hok
            obtain ⟨r18, gs19, hc20, hok⟩ := hok
            refine cl_i (wc := (MO g ad ca gs)) (wr := []) hP hD hK hS hA [0, 1, 2, 3, 4, 5, 6, 7, 8, 9, 10, 11, 12, 13, 14, 15, 16, 17, 18, 19, 20] [] rfl rfl (by decide) (by decide) (va_runV (As := [.int x1, .int x3, .int y0]) (rest := []) ⟨hx, hb, hml, hown, hts⟩ (a_copies l D H.size g ad ca F gs x1 x3 y0 r18 gs19 hc20) (cw_V hts 3 k_960 k_9 k_957 k_959 sel_O_copies (by decide +kernel) ⟨Nat.le_of_ble_eq_true rfl, Nat.le_of_ble_eq_true rfl⟩) (pr_V hP hD hK [0, 1, 2, 3, 4, 5, 6, 7, 8, 9, 10, 11, 12, 13, 14, 15, 16, 17, 18, 19, 20] [0, 1, 2, 3, 4, 5, 6, 7, 8, 9, 10, 11, 12, 13, 14, 15, 16, 17, 18, 19] (by decide) rfl rfl (fun U hU hW => trivial) (fun U g mk a h => h) (q0 := 0) (ci := 8) rfl rfl) rfl rfl hl.1 rfl (lv_room (Nat.le_of_ble_eq_true rfl)) d_O_goThrough_93 ⟨by decide, by decide⟩) (fun v22 u H locs h21 hP hD hK hS => ?_)
            have hP : va_P D wcl (MO g ad ca gs19) H := hP
            have hD : va_D A (MO g ad ca gs19) := hD
            have hK : va_K D wcl (MT ca) s := hK
            have h21 : r18 = v22 := h21
            subst h21
            refine lv_istore hx hb d_O_goThrough_96 hl (by decide) rfl (fun ls hl => ?_)
            have hl : lv_has ls 9 [(7, .int r18), (6, .int y0), (0, .ref g), (1, .int x1), (2, .int x2), (3, .int x3), (4, .int x4), (5, .int x5)] := hl
            refine lv_iload hx hb d_O_goThrough_98 (lv_at hl 7 rfl) ?_
            refine lv_if_eq (tgt := 112) hx hb d_O_goThrough_100 (by decide) (fun h23 => ?_) (fun h23 => ?_)
            · replace hok := ci_t h23 hok
              exact j112 gs19 x1 x2 x3 x4 y0 r18 H locs ls hok hP hD hS (lv_sub hl [2, 3, 4, 5, 6, 1, 0] rfl)
            · replace hok := ci_f h23 hok
              refine lv_iload hx hb d_O_goThrough_103 (lv_at hl 0 rfl) ?_
              refine lv_if_lt (tgt := 112) hx hb d_O_goThrough_105 (by decide) (fun h24 => ?_) (fun h24 => ?_)
              · replace hok := ci_t h24 hok
                exact j112 gs19 x1 x2 x3 x4 y0 r18 H locs ls hok hP hD hS (lv_sub hl [2, 3, 4, 5, 6, 1, 0] rfl)
              · replace hok := ci_f h24 hok
                refine lv_iconst (v := 1) hx hb d_O_goThrough_108 (by decide) ?_
                refine lv_goto (tgt := 113) hx hb d_O_goThrough_109 (by decide) ?_
                exact j113 gs19 x1 x2 x3 x4 y0 r18 1 H locs ls hok hP hD hS (lv_sub hl [2, 3, 4, 5, 6, 1, 0] rfl)
          · replace hok := ci_f h17 hok
            exact j68 gs x1 x2 x3 x4 x5 H locs ls hok hP hD hS (lv_sub hl [1, 2, 3, 4, 5, 6] rfl)
      intro gs x1 x2 x3 x4 x5 H locs ls hok hP hD hS hl
      rw [rf_goThrough_18] at hok
      refine lv_iload_n hx hb d_O_goThrough_18 rfl (lv_at hl 3 rfl) ?_
      refine lv_iload hx hb d_O_goThrough_19 (lv_at hl 4 rfl) ?_
      refine lv_icmp_ge (tgt := 153) hx hb d_O_goThrough_21 (by decide) (fun h25 => ?_) (fun h25 => ?_)
      · replace hok := ci_t h25 hok
        refine lv_iload hx hb d_O_goThrough_153 (lv_at hl 5 rfl) ?_
        have hn26 := (gd_ok hok).1
        replace hok := (gd_ok hok).2
        obtain ⟨e8, e9⟩ := rt_ok hok
        rw [e9] at hP hD
        have hK9 := hK.sub (tys' := []) [] rfl
        exact W.zret (v := x5) hx hb hr (nar_ib hn26) (fun t9 ht hW => ⟨⟨x5, (), rfl, e8, ⟨by rw [ht]; exact hP, va_K.moved hW.alike hK9, hD⟩⟩, hS.F ht⟩) hS.2.2 d_O_goThrough_155
      · replace hok := ci_f h25 hok
        refine lv_aload_n hx hb d_O_goThrough_24 rfl (lv_at hl 0 rfl) ?_
        refine va_get (D := D) (ci := 8) (v := .ref (ad 10)) (C := rc_O) (T := ft_O) (N := 42) hx hb hts in_O hown hK hP 0 rfl rfl 10 (by decide) (hts _ k_665) (fun _ h9 => h9) rfl d_O_goThrough_25 ?_
        refine lv_iload_n hx hb d_O_goThrough_28 rfl (lv_at hl 3 rfl) ?_
        have hi27 := (gd_ok hok).1
        replace hok := (gd_ok hok).2
        refine va_iald hx hb hK hP 7 6 rfl rfl (hi27) d_O_goThrough_29 ?_
        refine lv_iconst (v := 2) hx hb d_O_goThrough_30 (by decide) ?_
        refine lv_icmp_ne (tgt := 38) hx hb d_O_goThrough_31 (by decide) (fun h28 => ?_) (fun h28 => ?_)
        · replace hok := ci_f h28 hok
          refine lv_aload_n hx hb d_O_goThrough_38 rfl (lv_at hl 0 rfl) ?_
          refine lv_iconst (v := 1) hx hb d_O_goThrough_39 (by decide) ?_
          refine lv_iload_n hx hb d_O_goThrough_40 rfl (lv_at hl 3 rfl) ?_
          replace hok := bd_ok hok
          obtain ⟨r29, gs30, hc31, hok⟩ := hok
          refine cl_i (wc := (MO g ad ca gs)) (wr := []) hP hD hK hS hA [0, 1, 2, 3, 4, 5, 6, 7, 8, 9, 10, 11, 12, 13, 14, 15, 16, 17, 18, 19, 20] [] rfl rfl (by decide) (by decide) (va_runV (As := [.int 1, .int x3]) (rest := []) ⟨hx, hb, hml, hown, hts⟩ (a_itemEnd l D H.size g ad ca F gs 1 x3 r29 gs30 hc31) (cw_V hts 2 k_932 k_9 k_929 k_931 sel_O_itemEnd (by decide +kernel) ⟨Nat.le_of_ble_eq_true rfl, Nat.le_of_ble_eq_true rfl⟩) (pr_V hP hD hK [0, 1, 2, 3, 4, 5, 6, 7, 8, 9, 10, 11, 12, 13, 14, 15, 16, 17, 18, 19, 20] [0, 1, 2, 3, 4, 5, 6, 7, 8, 9, 10, 11, 12, 13, 14, 15, 16, 17, 18, 19] (by decide) rfl rfl (fun U hU hW => trivial) (fun U g mk a h => h) (q0 := 0) (ci := 8) rfl rfl) rfl rfl hl.1 rfl (lv_room (Nat.le_of_ble_eq_true rfl)) d_O_goThrough_41 ⟨by decide, by decide⟩) (fun v33 u H locs h32 hP hD hK hS => ?_)
          have hP : va_P D wcl (MO g ad ca gs30) H := hP
          have hD : va_D A (MO g ad ca gs30) := hD
          have hK : va_K D wcl (MT ca) s := hK
          have h32 : r29 = v33 := h32
          subst h32
          exact j44 gs30 x1 x2 x3 x4 x5 r29 H locs ls hok hP hD hS hl
        · replace hok := ci_t h28 hok
          refine lv_iload_n hx hb d_O_goThrough_34 rfl (lv_at hl 3 rfl) ?_
          refine lv_goto (tgt := 44) hx hb d_O_goThrough_35 (by decide) ?_
          exact j44 gs x1 x2 x3 x4 x5 x3 H locs ls hok hP hD hS hl
  refine lv_bipush (v := 64) hx hb d_O_goThrough_0 (by decide) ?_
  refine lv_iload_n hx hb d_O_goThrough_2 rfl (lv_at hl 1 rfl) ?_
  refine lv_imul hx hb d_O_goThrough_3 ?_
  refine lv_istore_n hx hb d_O_goThrough_4 rfl hl (by decide) rfl (fun ls hl => ?_)
  have hl : lv_has ls 9 [(3, .int (64 * a1)), (0, .ref g), (1, .int a1), (2, .int a2)] := hl
  refine lv_iload_n hx hb d_O_goThrough_5 rfl (lv_at hl 0 rfl) ?_
  refine lv_aload_n hx hb d_O_goThrough_6 rfl (lv_at hl 1 rfl) ?_
  refine va_get (D := D) (ci := 8) (v := .ref (ad 9)) (C := rc_O) (T := ft_O) (N := 42) hx hb hts in_O hown hK hP 0 rfl rfl 9 (by decide) (hts _ k_664) (fun _ h9 => h9) rfl d_O_goThrough_7 ?_
  refine lv_iload_n hx hb d_O_goThrough_10 rfl (lv_at hl 2 rfl) ?_
  have hi34 := (gd_ok hok).1
  replace hok := (gd_ok hok).2
  refine va_iald hx hb hK hP 6 5 rfl rfl (hi34) d_O_goThrough_11 ?_
  refine lv_iadd hx hb d_O_goThrough_12 ?_
  refine lv_istore hx hb d_O_goThrough_13 hl (by decide) rfl (fun ls hl => ?_)
  have hl : lv_has ls 9 [(4, .int ((64 * a1) + ((gs.2 9) a1.toNatClampNeg))), (3, .int (64 * a1)), (0, .ref g), (1, .int a1), (2, .int a2)] := hl
  refine lv_iconst (v := 1) hx hb d_O_goThrough_15 (by decide) ?_
  refine lv_istore hx hb d_O_goThrough_16 hl (by decide) rfl (fun ls hl => ?_)
  have hl : lv_has ls 9 [(5, .int 1), (4, .int ((64 * a1) + ((gs.2 9) a1.toNatClampNeg))), (3, .int (64 * a1)), (0, .ref g), (1, .int a1), (2, .int a2)] := hl
  exact j18 F gs a1 a2 (64 * a1) ((64 * a1) + ((gs.2 9) a1.toNatClampNeg)) 1 s.heap [] ls hok hP hD hS (lv_sub hl [3, 4, 5, 2, 1, 0] rfl)

set_option maxHeartbeats 4000000 in
set_option maxRecDepth 100000 in
theorem a_isTemplate (l : Launch) (D : va_G) (sz : Nat) (g : Nat) (ad : Nat → Nat) (ca : Nat → ClassId) (F : Nat) (gs : OS) (a1 : Int32) (r0 : Int32) (gf : OS) (hok : rf_isTemplate F gs a1 = some (r0, gf)) : Met l y_O_isTemplate (Cond.code y_O_isTemplate b_O_isTemplate 6 (some .boolean) :: wal) ({ frames := 13, cells := 0, slots := 0, locals := 300 }) (va_Pc [.ref g, .int a1] (pr D sz (MO g ad ca gs) (MT ca) (fun _ => True))) (va_Qi (S := Unit) (fun r u => r0 = r) (fun u t9 => po D (va_A (MO g ad ca gs) sz) ((fun u => (MO g ad ca gf)) u) ((fun u => []) u) t9) (va_A (MO g ad ca gs) sz)) 0 0 (va_A (MO g ad ca gs) sz) := by
  refine Met.ofW (cc := b_O_isTemplate) (maxL := 6) (ret := (some .boolean)) (by decide) rfl ?_
  intro p e s m args below meth c s₁ B hml hv
  obtain ⟨rfl, hsz, hP, hK, hD0, hE⟩ := hv
  have hx := B.exec
  have hb := B.bytes
  have hr := B.returns
  have hts0 := atoms_spec (ws := Cond.code y_O_isTemplate b_O_isTemplate 6 (some .boolean) :: wal) B.pre
  have hts : ∀ w ∈ wal, w.before _ s = true := fun w h => hts0 w (List.mem_cons_of_mem _ h)
  have hown : s.vm.findClass rc_O = some m.cls := findClass_of_methodNamed B.named
  have hlocks := B.notSynchronized
  subst hsz
  have hD := hD0.self (sz := s.heap.size)
  generalize hAe : va_A (MO g ad ca gs) s.heap.size = A at hD ⊢
  have hA : ∀ q : Nat, s.heap.size ≤ q → A q := fun q h => by rw [← hAe]; exact Or.inr h
  have hS : va_S A s.heap s.heap [] := va_S.rf
  have hl := lv_entry ([.ref g, .int a1]) (n := 6) (Nat.le_of_ble_eq_true rfl)
  rw [lg_entry_eq]
  generalize (lg_sl ([.ref g, .int a1]) ++ List.replicate (6 - (lg_sl ([.ref g, .int a1])).length) Slot.unset).toArray = ls at hl ⊢
  have hl : lv_has ls 6 [(0, .ref g), (1, .int a1)] := hl
  have j86 : ∀ (d86 : Nat) (gs : OS) (x4 : Int32) (x5 : Int32) (H : Heap) (locs : List Loc) (ls : Array Slot), rf_isTemplate_86 F d86 gs x4 x5 = some (r0, gf) → va_P D wcl (MO g ad ca gs) H → va_D A (MO g ad ca gs) → va_S A s.heap H locs → lv_has ls 6 [(0, .ref g), (4, .int x4), (5, .int x5)] → W p l e (headSpec (Cond.code y_O_isTemplate b_O_isTemplate 6 (some .boolean) :: wal) ({ frames := 13, cells := 0, slots := 0, locals := 300 })).room s m ([.ref g, .int a1] : List Value).toArray below meth c H locs 0 0 (MQ below (va_Qi (S := Unit) (fun r u => r0 = r) (fun u t9 => po D (A) ((fun u => (MO g ad ca gf)) u) ((fun u => []) u) t9) (A)) ([.ref g, .int a1] : List Value).toArray s 0 0 A) (F0 m 86 ls []) := by
    intro d86
    induction d86 with
    | zero =>
      intro gs x4 x5 H locs ls hok
      have h9 : (none : RO) = some (r0, gf) := hok
      cases h9
    | succ d86 ih86 =>
      have j148 : ∀ (gs : OS) (x5 : Int32) (y0 : Int32) (H : Heap) (locs : List Loc) (ls : Array Slot), rf_isTemplate_148 F (rf_isTemplate_86 F d86) gs x5 y0 = some (r0, gf) → va_P D wcl (MO g ad ca gs) H → va_D A (MO g ad ca gs) → va_S A s.heap H locs → lv_has ls 6 [(0, .ref g), (5, .int x5)] → W p l e (headSpec (Cond.code y_O_isTemplate b_O_isTemplate 6 (some .boolean) :: wal) ({ frames := 13, cells := 0, slots := 0, locals := 300 })).room s m ([.ref g, .int a1] : List Value).toArray below meth c H locs 0 0 (MQ below (va_Qi (S := Unit) (fun r u => r0 = r) (fun u t9 => po D (A) ((fun u => (MO g ad ca gf)) u) ((fun u => []) u) t9) (A)) ([.ref g, .int a1] : List Value).toArray s 0 0 A) (F0 m 148 ls [.int y0]) := by
        intro gs x5 y0 H locs ls hok hP hD hS hl
        rw [rf_isTemplate_148] at hok
        refine lv_istore hx hb d_O_isTemplate_148 hl (by decide) rfl (fun ls hl => ?_)
        have hl : lv_has ls 6 [(4, .int y0), (0, .ref g), (5, .int x5)] := hl
        refine lv_iinc (k := 2) (v := (x5 + 1)) hx hb d_O_isTemplate_150 hl rfl (by rfl) (by decide) rfl (fun ls hl => ?_)
        have hl : lv_has ls 6 [(5, .int (x5 + 1)), (4, .int y0), (0, .ref g)] := hl
        refine lv_goto (tgt := 86) hx hb d_O_isTemplate_153 (by decide) ?_
        exact ih86 gs y0 (x5 + 1) H locs ls hok hP hD hS (lv_sub hl [2, 1, 0] rfl)
      have j147 : ∀ (gs : OS) (x5 : Int32) (H : Heap) (locs : List Loc) (ls : Array Slot), rf_isTemplate_147 F (rf_isTemplate_86 F d86) gs x5 = some (r0, gf) → va_P D wcl (MO g ad ca gs) H → va_D A (MO g ad ca gs) → va_S A s.heap H locs → lv_has ls 6 [(0, .ref g), (5, .int x5)] → W p l e (headSpec (Cond.code y_O_isTemplate b_O_isTemplate 6 (some .boolean) :: wal) ({ frames := 13, cells := 0, slots := 0, locals := 300 })).room s m ([.ref g, .int a1] : List Value).toArray below meth c H locs 0 0 (MQ below (va_Qi (S := Unit) (fun r u => r0 = r) (fun u t9 => po D (A) ((fun u => (MO g ad ca gf)) u) ((fun u => []) u) t9) (A)) ([.ref g, .int a1] : List Value).toArray s 0 0 A) (F0 m 147 ls []) := by
        intro gs x5 H locs ls hok hP hD hS hl
        rw [rf_isTemplate_147] at hok
        refine lv_iconst (v := 0) hx hb d_O_isTemplate_147 (by decide) ?_
        exact j148 gs x5 0 H locs ls hok hP hD hS hl
      have j143 : ∀ (gs : OS) (x5 : Int32) (H : Heap) (locs : List Loc) (ls : Array Slot), rf_isTemplate_143 F (rf_isTemplate_86 F d86) gs x5 = some (r0, gf) → va_P D wcl (MO g ad ca gs) H → va_D A (MO g ad ca gs) → va_S A s.heap H locs → lv_has ls 6 [(0, .ref g), (5, .int x5)] → W p l e (headSpec (Cond.code y_O_isTemplate b_O_isTemplate 6 (some .boolean) :: wal) ({ frames := 13, cells := 0, slots := 0, locals := 300 })).room s m ([.ref g, .int a1] : List Value).toArray below meth c H locs 0 0 (MQ below (va_Qi (S := Unit) (fun r u => r0 = r) (fun u t9 => po D (A) ((fun u => (MO g ad ca gf)) u) ((fun u => []) u) t9) (A)) ([.ref g, .int a1] : List Value).toArray s 0 0 A) (F0 m 143 ls []) := by
        intro gs x5 H locs ls hok hP hD hS hl
        rw [rf_isTemplate_143] at hok
        refine lv_iconst (v := 1) hx hb d_O_isTemplate_143 (by decide) ?_
        refine lv_goto (tgt := 148) hx hb d_O_isTemplate_144 (by decide) ?_
        exact j148 gs x5 1 H locs ls hok hP hD hS hl
      intro gs x4 x5 H locs ls hok hP hD hS hl
      rw [rf_isTemplate_86] at hok
      refine lv_iload hx hb d_O_isTemplate_86 (lv_at hl 2 rfl) ?_
      refine lv_aload_n hx hb d_O_isTemplate_88 rfl (lv_at hl 0 rfl) ?_
      refine va_get (D := D) (ci := 8) (v := .int (gs.1 3)) (C := rc_O) (T := ft_O) (N := 42) hx hb hts in_O hown hK hP 0 rfl rfl 3 (by decide) (hts _ k_658) (fun _ h9 => h9) rfl d_O_isTemplate_89 ?_
      refine lv_icmp_ge (tgt := 156) hx hb d_O_isTemplate_92 (by decide) (fun h1 => ?_) (fun h1 => ?_)
      · replace hok := ci_t h1 hok
        refine lv_iload hx hb d_O_isTemplate_156 (lv_at hl 1 rfl) ?_
        have hn2 := (gd_ok hok).1
        replace hok := (gd_ok hok).2
        obtain ⟨e8, e9⟩ := rt_ok hok
        rw [e9] at hP hD
        have hK9 := hK.sub (tys' := []) [] rfl
        exact W.zret (v := x4) hx hb hr (nar_ib hn2) (fun t9 ht hW => ⟨⟨x4, (), rfl, e8, ⟨by rw [ht]; exact hP, va_K.moved hW.alike hK9, hD⟩⟩, hS.F ht⟩) hS.2.2 d_O_isTemplate_158
      · replace hok := ci_f h1 hok
        refine lv_iload hx hb d_O_isTemplate_95 (lv_at hl 1 rfl) ?_
        refine lv_if_eq (tgt := 147) hx hb d_O_isTemplate_97 (by decide) (fun h3 => ?_) (fun h3 => ?_)
        · replace hok := ci_t h3 hok
          exact j147 gs x5 H locs ls hok hP hD hS (lv_sub hl [0, 2] rfl)
        · replace hok := ci_f h3 hok
          refine lv_aload_n hx hb d_O_isTemplate_100 rfl (lv_at hl 0 rfl) ?_
          refine va_get (D := D) (ci := 8) (v := .ref (ad 20)) (C := rc_O) (T := ft_O) (N := 42) hx hb hts in_O hown hK hP 0 rfl rfl 20 (by decide) (hts _ k_675) (fun _ h9 => h9) rfl d_O_isTemplate_101 ?_
          refine lv_iload hx hb d_O_isTemplate_104 (lv_at hl 2 rfl) ?_
          have hi4 := (gd_ok hok).1
          replace hok := (gd_ok hok).2
          refine va_zald hx hb hK hP 12 11 rfl rfl (hi4) d_O_isTemplate_106 ?_
          refine lv_if_ne (tgt := 143) hx hb d_O_isTemplate_107 (by decide) (fun h5 => ?_) (fun h5 => ?_)
          · replace hok := ci_f h5 hok
            exact j143 gs x5 H locs ls hok hP hD hS (lv_sub hl [0, 2] rfl)
          · replace hok := ci_t h5 hok
            refine lv_aload_n hx hb d_O_isTemplate_110 rfl (lv_at hl 0 rfl) ?_
            refine va_get (D := D) (ci := 8) (v := .ref (ad 4)) (C := rc_O) (T := ft_O) (N := 42) hx hb hts in_O hown hK hP 0 rfl rfl 4 (by decide) (hts _ k_659) (fun _ h9 => h9) rfl d_O_isTemplate_111 ?_
            refine lv_iload hx hb d_O_isTemplate_114 (lv_at hl 2 rfl) ?_
            have hi6 := (gd_ok hok).1
            replace hok := (gd_ok hok).2
            refine va_iald hx hb hK hP 2 1 rfl rfl (hi6) d_O_isTemplate_116 ?_
            replace hok := bd_ok hok
            obtain ⟨r7, gs8, hc9, hok⟩ := hok
            refine cl_i (wc := (MO g ad ca gs)) (wr := []) hP hD hK hS hA [0, 1, 2, 3, 4, 5, 6, 7, 8, 9, 10, 11, 12, 13, 14, 15, 16, 17, 18, 19, 20] [] rfl rfl (by decide) (by decide) (va_runS (As := [.int ((gs.2 4) x5.toNatClampNeg)]) (rest := []) ⟨hx, hb, hml, hown, hts⟩ (a_isName l D H.size g ad ca F gs ((gs.2 4) x5.toNatClampNeg) r7 gs8 hc9) (cw_S hts 1 k_811 k_9 k_809 k_810 (by decide +kernel) ⟨Nat.le_of_ble_eq_true rfl, Nat.le_of_ble_eq_true rfl⟩) (pr_S hP hD hK [0, 1, 2, 3, 4, 5, 6, 7, 8, 9, 10, 11, 12, 13, 14, 15, 16, 17, 18, 19, 20] [0, 1, 2, 3, 4, 5, 6, 7, 8, 9, 10, 11, 12, 13, 14, 15, 16, 17, 18, 19] (by decide) rfl rfl (fun U hU hW => trivial) (fun U g mk a h => h)) rfl rfl hl.1 rfl (lv_room (Nat.le_of_ble_eq_true rfl)) d_O_isTemplate_117 ⟨by decide, by decide⟩) (fun v11 u H locs h10 hP hD hK hS => ?_)
            have hP : va_P D wcl (MO g ad ca gs8) H := hP
            have hD : va_D A (MO g ad ca gs8) := hD
            have hK : va_K D wcl (MT ca) s := hK
            have h10 : r7 = v11 := h10
            subst h10
            refine lv_if_eq (tgt := 143) hx hb d_O_isTemplate_120 (by decide) (fun h12 => ?_) (fun h12 => ?_)
            · replace hok := ci_t h12 hok
              exact j143 gs8 x5 H locs ls hok hP hD hS (lv_sub hl [0, 2] rfl)
            · replace hok := ci_f h12 hok
              refine lv_aload_n hx hb d_O_isTemplate_123 rfl (lv_at hl 0 rfl) ?_
              refine va_get (D := D) (ci := 8) (v := .int (gs8.1 19)) (C := rc_O) (T := ft_O) (N := 42) hx hb hts in_O hown hK hP 0 rfl rfl 19 (by decide) (hts _ k_674) (fun _ h9 => h9) rfl d_O_isTemplate_124 ?_
              refine lv_aload_n hx hb d_O_isTemplate_127 rfl (lv_at hl 0 rfl) ?_
              refine va_get (D := D) (ci := 8) (v := .ref (ad 4)) (C := rc_O) (T := ft_O) (N := 42) hx hb hts in_O hown hK hP 0 rfl rfl 4 (by decide) (hts _ k_659) (fun _ h9 => h9) rfl d_O_isTemplate_128 ?_
              refine lv_iload hx hb d_O_isTemplate_131 (lv_at hl 2 rfl) ?_
              have hi13 := (gd_ok hok).1
              replace hok := (gd_ok hok).2
              refine va_iald hx hb hK hP 2 1 rfl rfl (hi13) d_O_isTemplate_133 ?_
              replace hok := bd_ok hok
              obtain ⟨r14, gs15, hc16, hok⟩ := hok
              refine cl_i (wc := (MO g ad ca gs8)) (wr := []) hP hD hK hS hA [0, 1, 2, 3, 4, 5, 6, 7, 8, 9, 10, 11, 12, 13, 14, 15, 16, 17, 18, 19, 20] [] rfl rfl (by decide) (by decide) (va_runS (As := [.int ((gs8.2 4) x5.toNatClampNeg)]) (rest := [.int (gs8.1 19)]) ⟨hx, hb, hml, hown, hts⟩ (a_letterOf l D H.size g ad ca F gs8 ((gs8.2 4) x5.toNatClampNeg) r14 gs15 hc16) (cw_S hts 1 k_830 k_9 k_828 k_829 (by decide +kernel) ⟨Nat.le_of_ble_eq_true rfl, Nat.le_of_ble_eq_true rfl⟩) (pr_S hP hD hK [0, 1, 2, 3, 4, 5, 6, 7, 8, 9, 10, 11, 12, 13, 14, 15, 16, 17, 18, 19, 20] [0, 1, 2, 3, 4, 5, 6, 7, 8, 9, 10, 11, 12, 13, 14, 15, 16, 17, 18, 19] (by decide) rfl rfl (fun U hU hW => trivial) (fun U g mk a h => h)) rfl rfl hl.1 rfl (lv_room (Nat.le_of_ble_eq_true rfl)) d_O_isTemplate_134 ⟨by decide, by decide⟩) (fun v18 u H locs h17 hP hD hK hS => ?_)
              have hP : va_P D wcl (MO g ad ca gs15) H := hP
              have hD : va_D A (MO g ad ca gs15) := hD
              have hK : va_K D wcl (MT ca) s := hK
              have h17 : r14 = v18 := h17
              subst h17
              refine lv_ishr hx hb d_O_isTemplate_137 ?_
              refine lv_iconst (v := 1) hx hb d_O_isTemplate_138 (by decide) ?_
              refine lv_iand hx hb d_O_isTemplate_139 ?_
              refine lv_if_ne (tgt := 147) hx hb d_O_isTemplate_140 (by decide) (fun h19 => ?_) (fun h19 => ?_)
              · replace hok := ci_f h19 hok
                exact j147 gs15 x5 H locs ls hok hP hD hS (lv_sub hl [0, 2] rfl)
              · replace hok := ci_t h19 hok
                exact j143 gs15 x5 H locs ls hok hP hD hS (lv_sub hl [0, 2] rfl)
  have j49 : ∀ (gs : OS)  (H : Heap) (locs : List Loc) (ls : Array Slot), rf_isTemplate_49 F gs = some (r0, gf) → va_P D wcl (MO g ad ca gs) H → va_D A (MO g ad ca gs) → va_S A s.heap H locs → lv_has ls 6 [(0, .ref g)] → W p l e (headSpec (Cond.code y_O_isTemplate b_O_isTemplate 6 (some .boolean) :: wal) ({ frames := 13, cells := 0, slots := 0, locals := 300 })).room s m ([.ref g, .int a1] : List Value).toArray below meth c H locs 0 0 (MQ below (va_Qi (S := Unit) (fun r u => r0 = r) (fun u t9 => po D (A) ((fun u => (MO g ad ca gf)) u) ((fun u => []) u) t9) (A)) ([.ref g, .int a1] : List Value).toArray s 0 0 A) (F0 m 49 ls []) := by
    intro gs  H locs ls hok hP hD hS hl
    rw [rf_isTemplate_49] at hok
    refine lv_iconst (v := 0) hx hb d_O_isTemplate_49 (by decide) ?_
    obtain ⟨e8, e9⟩ := rt_ok hok
    rw [e9] at hP hD
    have hK9 := hK.sub (tys' := []) [] rfl
    exact W.zret (v := 0) hx hb hr (rfl) (fun t9 ht hW => ⟨⟨0, (), rfl, e8, ⟨by rw [ht]; exact hP, va_K.moved hW.alike hK9, hD⟩⟩, hS.F ht⟩) hS.2.2 d_O_isTemplate_50
  have j29 : ∀ (d29 : Nat) (gs : OS) (x1 : Int32) (x2 : Int32) (x3 : Int32) (H : Heap) (locs : List Loc) (ls : Array Slot), rf_isTemplate_29 F d29 gs x1 x2 x3 = some (r0, gf) → va_P D wcl (MO g ad ca gs) H → va_D A (MO g ad ca gs) → va_S A s.heap H locs → lv_has ls 6 [(0, .ref g), (1, .int x1), (2, .int x2), (3, .int x3)] → W p l e (headSpec (Cond.code y_O_isTemplate b_O_isTemplate 6 (some .boolean) :: wal) ({ frames := 13, cells := 0, slots := 0, locals := 300 })).room s m ([.ref g, .int a1] : List Value).toArray below meth c H locs 0 0 (MQ below (va_Qi (S := Unit) (fun r u => r0 = r) (fun u t9 => po D (A) ((fun u => (MO g ad ca gf)) u) ((fun u => []) u) t9) (A)) ([.ref g, .int a1] : List Value).toArray s 0 0 A) (F0 m 29 ls []) := by
    intro d29
    induction d29 with
    | zero =>
      intro gs x1 x2 x3 H locs ls hok
      have h9 : (none : RO) = some (r0, gf) := hok
      cases h9
    | succ d29 ih29 =>
      have j66 : ∀ (gs : OS) (x1 : Int32) (x2 : Int32) (y0 : Int32) (H : Heap) (locs : List Loc) (ls : Array Slot), rf_isTemplate_66 F (rf_isTemplate_29 F d29) gs x1 x2 y0 = some (r0, gf) → va_P D wcl (MO g ad ca gs) H → va_D A (MO g ad ca gs) → va_S A s.heap H locs → lv_has ls 6 [(0, .ref g), (1, .int x1), (2, .int x2)] → W p l e (headSpec (Cond.code y_O_isTemplate b_O_isTemplate 6 (some .boolean) :: wal) ({ frames := 13, cells := 0, slots := 0, locals := 300 })).room s m ([.ref g, .int a1] : List Value).toArray below meth c H locs 0 0 (MQ below (va_Qi (S := Unit) (fun r u => r0 = r) (fun u t9 => po D (A) ((fun u => (MO g ad ca gf)) u) ((fun u => []) u) t9) (A)) ([.ref g, .int a1] : List Value).toArray s 0 0 A) (F0 m 66 ls [.int y0]) := by
        intro gs x1 x2 y0 H locs ls hok hP hD hS hl
        rw [rf_isTemplate_66] at hok
        refine lv_istore_n hx hb d_O_isTemplate_66 rfl hl (by decide) rfl (fun ls hl => ?_)
        have hl : lv_has ls 6 [(3, .int y0), (0, .ref g), (1, .int x1), (2, .int x2)] := hl
        refine lv_goto (tgt := 29) hx hb d_O_isTemplate_67 (by decide) ?_
        exact ih29 gs x1 x2 y0 H locs ls hok hP hD hS (lv_sub hl [1, 2, 3, 0] rfl)
      intro gs x1 x2 x3 H locs ls hok hP hD hS hl
      rw [rf_isTemplate_29] at hok
      refine lv_iload_n hx hb d_O_isTemplate_29 rfl (lv_at hl 3 rfl) ?_
      refine lv_if_eq (tgt := 70) hx hb d_O_isTemplate_30 (by decide) (fun h20 => ?_) (fun h20 => ?_)
      · replace hok := ci_t h20 hok
        refine lv_iload_n hx hb d_O_isTemplate_70 rfl (lv_at hl 2 rfl) ?_
        refine lv_aload_n hx hb d_O_isTemplate_71 rfl (lv_at hl 0 rfl) ?_
        refine va_get (D := D) (ci := 8) (v := .int (gs.1 3)) (C := rc_O) (T := ft_O) (N := 42) hx hb hts in_O hown hK hP 0 rfl rfl 3 (by decide) (hts _ k_658) (fun _ h9 => h9) rfl d_O_isTemplate_72 ?_
        refine lv_icmp_eq (tgt := 80) hx hb d_O_isTemplate_75 (by decide) (fun h21 => ?_) (fun h21 => ?_)
        · replace hok := ci_t h21 hok
          refine lv_iconst (v := 1) hx hb d_O_isTemplate_80 (by decide) ?_
          refine lv_istore hx hb d_O_isTemplate_81 hl (by decide) rfl (fun ls hl => ?_)
          have hl : lv_has ls 6 [(4, .int 1), (0, .ref g), (1, .int x1), (2, .int x2), (3, .int x3)] := hl
          refine lv_iload_n hx hb d_O_isTemplate_83 rfl (lv_at hl 2 rfl) ?_
          refine lv_istore hx hb d_O_isTemplate_84 hl (by decide) rfl (fun ls hl => ?_)
          have hl : lv_has ls 6 [(5, .int x1), (4, .int 1), (0, .ref g), (1, .int x1), (2, .int x2), (3, .int x3)] := hl
          exact j86 F gs 1 x1 H locs ls hok hP hD hS (lv_sub hl [2, 1, 0] rfl)
        · replace hok := ci_f h21 hok
          refine lv_iconst (v := 0) hx hb d_O_isTemplate_78 (by decide) ?_
          obtain ⟨e8, e9⟩ := rt_ok hok
          rw [e9] at hP hD
          have hK9 := hK.sub (tys' := []) [] rfl
          exact W.zret (v := 0) hx hb hr (rfl) (fun t9 ht hW => ⟨⟨0, (), rfl, e8, ⟨by rw [ht]; exact hP, va_K.moved hW.alike hK9, hD⟩⟩, hS.F ht⟩) hS.2.2 d_O_isTemplate_79
      · replace hok := ci_f h20 hok
        refine lv_iload_n hx hb d_O_isTemplate_33 rfl (lv_at hl 2 rfl) ?_
        refine lv_aload_n hx hb d_O_isTemplate_34 rfl (lv_at hl 0 rfl) ?_
        refine va_get (D := D) (ci := 8) (v := .int (gs.1 3)) (C := rc_O) (T := ft_O) (N := 42) hx hb hts in_O hown hK hP 0 rfl rfl 3 (by decide) (hts _ k_658) (fun _ h9 => h9) rfl d_O_isTemplate_35 ?_
        refine lv_icmp_ge (tgt := 49) hx hb d_O_isTemplate_38 (by decide) (fun h22 => ?_) (fun h22 => ?_)
        · replace hok := ci_t h22 hok
          exact j49 gs H locs ls hok hP hD hS (lv_sub hl [0] rfl)
        · replace hok := ci_f h22 hok
          refine lv_aload_n hx hb d_O_isTemplate_41 rfl (lv_at hl 0 rfl) ?_
          refine lv_iload_n hx hb d_O_isTemplate_42 rfl (lv_at hl 2 rfl) ?_
          replace hok := bd_ok hok
          obtain ⟨r23, gs24, hc25, hok⟩ := hok
          refine cl_i (wc := (MO g ad ca gs)) (wr := []) hP hD hK hS hA [0, 1, 2, 3, 4, 5, 6, 7, 8, 9, 10, 11, 12, 13, 14, 15, 16, 17, 18, 19, 20] [] rfl rfl (by decide) (by decide) (va_runV (As := [.int x2]) (rest := []) ⟨hx, hb, hml, hown, hts⟩ (a_templateToken l D H.size g ad ca F gs x2 r23 gs24 hc25) (cw_V hts 1 k_860 k_9 k_857 k_859 sel_O_templateToken (by decide +kernel) ⟨Nat.le_of_ble_eq_true rfl, Nat.le_of_ble_eq_true rfl⟩) (pr_V hP hD hK [0, 1, 2, 3, 4, 5, 6, 7, 8, 9, 10, 11, 12, 13, 14, 15, 16, 17, 18, 19, 20] [0, 1, 2, 3, 4, 5, 6, 7, 8, 9, 10, 11, 12, 13, 14, 15, 16, 17, 18, 19] (by decide) rfl rfl (fun U hU hW => trivial) (fun U g mk a h => h) (q0 := 0) (ci := 8) rfl rfl) rfl rfl hl.1 rfl (lv_room (Nat.le_of_ble_eq_true rfl)) d_O_isTemplate_43 ⟨by decide, by decide⟩) (fun v27 u H locs h26 hP hD hK hS => ?_)
          have hP : va_P D wcl (MO g ad ca gs24) H := hP
          have hD : va_D A (MO g ad ca gs24) := hD
          have hK : va_K D wcl (MT ca) s := hK
          have h26 : r23 = v27 := h26
          subst h26
          refine lv_if_ne (tgt := 51) hx hb d_O_isTemplate_46 (by decide) (fun h28 => ?_) (fun h28 => ?_)
          · replace hok := ci_f h28 hok
            refine lv_iinc (k := 2) (v := (x2 + 1)) hx hb d_O_isTemplate_51 hl rfl (by rfl) (by decide) rfl (fun ls hl => ?_)
            have hl : lv_has ls 6 [(2, .int (x2 + 1)), (0, .ref g), (1, .int x1), (3, .int x3)] := hl
            refine lv_aload_n hx hb d_O_isTemplate_54 rfl (lv_at hl 1 rfl) ?_
            refine va_get (D := D) (ci := 8) (v := .int (gs24.1 13)) (C := rc_O) (T := ft_O) (N := 42) hx hb hts in_O hown hK hP 0 rfl rfl 13 (by decide) (hts _ k_668) (fun _ h9 => h9) rfl d_O_isTemplate_55 ?_
            refine lv_if_le (tgt := 65) hx hb d_O_isTemplate_58 (by decide) (fun h29 => ?_) (fun h29 => ?_)
            · replace hok := ci_t h29 hok
              refine lv_iconst (v := 0) hx hb d_O_isTemplate_65 (by decide) ?_
              exact j66 gs24 x1 (x2 + 1) 0 H locs ls hok hP hD hS (lv_sub hl [1, 2, 0] rfl)
            · replace hok := ci_f h29 hok
              refine lv_iconst (v := 1) hx hb d_O_isTemplate_61 (by decide) ?_
              refine lv_goto (tgt := 66) hx hb d_O_isTemplate_62 (by decide) ?_
              exact j66 gs24 x1 (x2 + 1) 1 H locs ls hok hP hD hS (lv_sub hl [1, 2, 0] rfl)
          · replace hok := ci_t h28 hok
            exact j49 gs24 H locs ls hok hP hD hS (lv_sub hl [0] rfl)
  have j6 : ∀ (d6 : Nat) (gs : OS) (x1 : Int32) (x2 : Int32) (H : Heap) (locs : List Loc) (ls : Array Slot), rf_isTemplate_6 F d6 gs x1 x2 = some (r0, gf) → va_P D wcl (MO g ad ca gs) H → va_D A (MO g ad ca gs) → va_S A s.heap H locs → lv_has ls 6 [(0, .ref g), (1, .int x1), (2, .int x2)] → W p l e (headSpec (Cond.code y_O_isTemplate b_O_isTemplate 6 (some .boolean) :: wal) ({ frames := 13, cells := 0, slots := 0, locals := 300 })).room s m ([.ref g, .int a1] : List Value).toArray below meth c H locs 0 0 (MQ below (va_Qi (S := Unit) (fun r u => r0 = r) (fun u t9 => po D (A) ((fun u => (MO g ad ca gf)) u) ((fun u => []) u) t9) (A)) ([.ref g, .int a1] : List Value).toArray s 0 0 A) (F0 m 6 ls []) := by
    intro d6
    induction d6 with
    | zero =>
      intro gs x1 x2 H locs ls hok
      have h9 : (none : RO) = some (r0, gf) := hok
      cases h9
    | succ d6 ih6 =>
      intro gs x1 x2 H locs ls hok hP hD hS hl
      rw [rf_isTemplate_6] at hok
      refine lv_iload_n hx hb d_O_isTemplate_6 rfl (lv_at hl 2 rfl) ?_
      refine lv_bipush (v := 60) hx hb d_O_isTemplate_7 (by decide) ?_
      refine lv_icmp_gt (tgt := 25) hx hb d_O_isTemplate_9 (by decide) (fun h30 => ?_) (fun h30 => ?_)
      · replace hok := ci_t h30 hok
        refine lv_iload_n hx hb d_O_isTemplate_25 rfl (lv_at hl 1 rfl) ?_
        refine lv_istore_n hx hb d_O_isTemplate_26 rfl hl (by decide) rfl (fun ls hl => ?_)
        have hl : lv_has ls 6 [(2, .int x1), (0, .ref g), (1, .int x1)] := hl
        refine lv_iconst (v := 1) hx hb d_O_isTemplate_27 (by decide) ?_
        refine lv_istore_n hx hb d_O_isTemplate_28 rfl hl (by decide) rfl (fun ls hl => ?_)
        have hl : lv_has ls 6 [(3, .int 1), (2, .int x1), (0, .ref g), (1, .int x1)] := hl
        exact j29 F gs x1 x1 1 H locs ls hok hP hD hS (lv_sub hl [2, 3, 1, 0] rfl)
      · replace hok := ci_f h30 hok
        refine lv_aload_n hx hb d_O_isTemplate_12 rfl (lv_at hl 0 rfl) ?_
        refine va_get (D := D) (ci := 8) (v := .ref (ad 20)) (C := rc_O) (T := ft_O) (N := 42) hx hb hts in_O hown hK hP 0 rfl rfl 20 (by decide) (hts _ k_675) (fun _ h9 => h9) rfl d_O_isTemplate_13 ?_
        refine lv_iload_n hx hb d_O_isTemplate_16 rfl (lv_at hl 2 rfl) ?_
        refine lv_iconst (v := 0) hx hb d_O_isTemplate_17 (by decide) ?_
        have hi31 := (gd_ok hok).1
        replace hok := (gd_ok hok).2
        refine va_zast hx hb hK hP hD hS 12 11 rfl rfl hi31 d_O_isTemplate_18 (fun H locs hP hD hS => ?_)
        have hP : va_P D wcl (MO g ad ca (sA gs 20 (upd (gs.2 20) x2.toNatClampNeg (vp_nar .boolean 0)))) H := hP
        have hD : va_D A (MO g ad ca (sA gs 20 (upd (gs.2 20) x2.toNatClampNeg (vp_nar .boolean 0)))) := hD
        refine lv_iinc (k := 2) (v := (x2 + 1)) hx hb d_O_isTemplate_19 hl rfl (by rfl) (by decide) rfl (fun ls hl => ?_)
        have hl : lv_has ls 6 [(2, .int (x2 + 1)), (0, .ref g), (1, .int x1)] := hl
        refine lv_goto (tgt := 6) hx hb d_O_isTemplate_22 (by decide) ?_
        exact ih6 (sA gs 20 (upd (gs.2 20) x2.toNatClampNeg (vp_nar .boolean 0))) x1 (x2 + 1) H locs ls hok hP hD hS (lv_sub hl [1, 2, 0] rfl)
  refine lv_aload_n hx hb d_O_isTemplate_0 rfl (lv_at hl 0 rfl) ?_
  replace hok := bd_ok hok
  obtain ⟨r32, gs33, hc34, hok⟩ := hok
  refine cl_v (wc := (MO g ad ca gs)) (wr := []) hP hD hK hS hA [0, 1, 2, 3, 4, 5, 6, 7, 8, 9, 10, 11, 12, 13, 14, 15, 16, 17, 18, 19, 20] [] rfl rfl (by decide) (by decide) (va_runV (As := []) (rest := []) ⟨hx, hb, hml, hown, hts⟩ (a_beginLists l D s.heap.size g ad ca F gs  r32 gs33 hc34) (cw_V hts 0 k_808 k_9 k_805 k_807 sel_O_beginLists (by decide +kernel) ⟨Nat.le_of_ble_eq_true rfl, Nat.le_of_ble_eq_true rfl⟩) (pr_V hP hD hK [0, 1, 2, 3, 4, 5, 6, 7, 8, 9, 10, 11, 12, 13, 14, 15, 16, 17, 18, 19, 20] [0, 1, 2, 3, 4, 5, 6, 7, 8, 9, 10, 11, 12, 13, 14, 15, 16, 17, 18, 19] (by decide) rfl rfl (fun U hU hW => trivial) (fun U g mk a h => h) (q0 := 0) (ci := 8) rfl rfl) rfl rfl hl.1 rfl (lv_room (Nat.le_of_ble_eq_true rfl)) d_O_isTemplate_1 ⟨by decide, by decide⟩) (fun u H locs h35 hP hD hK hS => ?_)
  have hP : va_P D wcl (MO g ad ca gs33) H := hP
  have hD : va_D A (MO g ad ca gs33) := hD
  have hK : va_K D wcl (MT ca) s := hK
  refine lv_iconst (v := 0) hx hb d_O_isTemplate_4 (by decide) ?_
  refine lv_istore_n hx hb d_O_isTemplate_5 rfl hl (by decide) rfl (fun ls hl => ?_)
  have hl : lv_has ls 6 [(2, .int 0), (0, .ref g), (1, .int a1)] := hl
  exact j6 F gs33 a1 0 H locs ls hok hP hD hS (lv_sub hl [1, 2, 0] rfl)

set_option maxHeartbeats 4000000 in
set_option maxRecDepth 100000 in
theorem a_matches (l : Launch) (D : va_G) (sz : Nat) (g : Nat) (ad : Nat → Nat) (ca : Nat → ClassId) (F : Nat) (gs : OS) (a1 : Int32) (r0 : Int32) (gf : OS) (hok : rf_matches F gs a1 = some (r0, gf)) : Met l y_O_matches (Cond.code y_O_matches b_O_matches 8 (some .boolean) :: wal) ({ frames := 13, cells := 0, slots := 0, locals := 300 }) (va_Pc [.ref g, .int a1] (pr D sz (MO g ad ca gs) (MT ca) (fun _ => True))) (va_Qi (S := Unit) (fun r u => r0 = r) (fun u t9 => po D (va_A (MO g ad ca gs) sz) ((fun u => (MO g ad ca gf)) u) ((fun u => []) u) t9) (va_A (MO g ad ca gs) sz)) 0 0 (va_A (MO g ad ca gs) sz) := by
  refine Met.ofW (cc := b_O_matches) (maxL := 8) (ret := (some .boolean)) (by decide) rfl ?_
  intro p e s m args below meth c s₁ B hml hv
  obtain ⟨rfl, hsz, hP, hK, hD0, hE⟩ := hv
  have hx := B.exec
  have hb := B.bytes
  have hr := B.returns
  have hts0 := atoms_spec (ws := Cond.code y_O_matches b_O_matches 8 (some .boolean) :: wal) B.pre
  have hts : ∀ w ∈ wal, w.before _ s = true := fun w h => hts0 w (List.mem_cons_of_mem _ h)
  have hown : s.vm.findClass rc_O = some m.cls := findClass_of_methodNamed B.named
  have hlocks := B.notSynchronized
  subst hsz
  have hD := hD0.self (sz := s.heap.size)
  generalize hAe : va_A (MO g ad ca gs) s.heap.size = A at hD ⊢
  have hA : ∀ q : Nat, s.heap.size ≤ q → A q := fun q h => by rw [← hAe]; exact Or.inr h
  have hS : va_S A s.heap s.heap [] := va_S.rf
  have hl := lv_entry ([.ref g, .int a1]) (n := 8) (Nat.le_of_ble_eq_true rfl)
  rw [lg_entry_eq]
  generalize (lg_sl ([.ref g, .int a1]) ++ List.replicate (8 - (lg_sl ([.ref g, .int a1])).length) Slot.unset).toArray = ls at hl ⊢
  have hl : lv_has ls 8 [(0, .ref g), (1, .int a1)] := hl
  have j20 : ∀ (d20 : Nat) (gs : OS) (x3 : Int32) (x4 : Int32) (x5 : Int32) (H : Heap) (locs : List Loc) (ls : Array Slot), rf_matches_20 F d20 gs x3 x4 x5 = some (r0, gf) → va_P D wcl (MO g ad ca gs) H → va_D A (MO g ad ca gs) → va_S A s.heap H locs → lv_has ls 8 [(0, .ref g), (3, .int x3), (4, .int x4), (5, .int x5)] → W p l e (headSpec (Cond.code y_O_matches b_O_matches 8 (some .boolean) :: wal) ({ frames := 13, cells := 0, slots := 0, locals := 300 })).room s m ([.ref g, .int a1] : List Value).toArray below meth c H locs 0 0 (MQ below (va_Qi (S := Unit) (fun r u => r0 = r) (fun u t9 => po D (A) ((fun u => (MO g ad ca gf)) u) ((fun u => []) u) t9) (A)) ([.ref g, .int a1] : List Value).toArray s 0 0 A) (F0 m 20 ls []) := by
    intro d20
    induction d20 with
    | zero =>
      intro gs x3 x4 x5 H locs ls hok
      have h9 : (none : RO) = some (r0, gf) := hok
      cases h9
    | succ d20 ih20 =>
      have j149 : ∀ (gs : OS) (x3 : Int32) (x4 : Int32) (y0 : Int32) (H : Heap) (locs : List Loc) (ls : Array Slot), rf_matches_149 F (rf_matches_20 F d20) gs x3 x4 y0 = some (r0, gf) → va_P D wcl (MO g ad ca gs) H → va_D A (MO g ad ca gs) → va_S A s.heap H locs → lv_has ls 8 [(0, .ref g), (3, .int x3), (4, .int x4)] → W p l e (headSpec (Cond.code y_O_matches b_O_matches 8 (some .boolean) :: wal) ({ frames := 13, cells := 0, slots := 0, locals := 300 })).room s m ([.ref g, .int a1] : List Value).toArray below meth c H locs 0 0 (MQ below (va_Qi (S := Unit) (fun r u => r0 = r) (fun u t9 => po D (A) ((fun u => (MO g ad ca gf)) u) ((fun u => []) u) t9) (A)) ([.ref g, .int a1] : List Value).toArray s 0 0 A) (F0 m 149 ls [.int y0]) := by
        intro gs x3 x4 y0 H locs ls hok hP hD hS hl
        rw [rf_matches_149] at hok
        refine lv_istore hx hb d_O_matches_149 hl (by decide) rfl (fun ls hl => ?_)
        have hl : lv_has ls 8 [(5, .int y0), (0, .ref g), (3, .int x3), (4, .int x4)] := hl
        refine lv_iinc (k := 2) (v := (x3 + 1)) hx hb d_O_matches_151 hl rfl (by rfl) (by decide) rfl (fun ls hl => ?_)
        have hl : lv_has ls 8 [(3, .int (x3 + 1)), (5, .int y0), (0, .ref g), (4, .int x4)] := hl
        refine lv_goto (tgt := 20) hx hb d_O_matches_154 (by decide) ?_
        exact ih20 gs (x3 + 1) x4 y0 H locs ls hok hP hD hS (lv_sub hl [2, 0, 3, 1] rfl)
      have j95 : ∀ (gs : OS) (x3 : Int32) (x4 : Int32) (x5 : Int32) (x6 : Int32) (H : Heap) (locs : List Loc) (ls : Array Slot), rf_matches_95 F (rf_matches_20 F d20) gs x3 x4 x5 x6 = some (r0, gf) → va_P D wcl (MO g ad ca gs) H → va_D A (MO g ad ca gs) → va_S A s.heap H locs → lv_has ls 8 [(0, .ref g), (3, .int x3), (4, .int x4), (5, .int x5), (6, .int x6)] → W p l e (headSpec (Cond.code y_O_matches b_O_matches 8 (some .boolean) :: wal) ({ frames := 13, cells := 0, slots := 0, locals := 300 })).room s m ([.ref g, .int a1] : List Value).toArray below meth c H locs 0 0 (MQ below (va_Qi (S := Unit) (fun r u => r0 = r) (fun u t9 => po D (A) ((fun u => (MO g ad ca gf)) u) ((fun u => []) u) t9) (A)) ([.ref g, .int a1] : List Value).toArray s 0 0 A) (F0 m 95 ls []) := by
        intro gs x3 x4 x5 x6 H locs ls hok hP hD hS hl
        rw [rf_matches_95] at hok
        refine lv_aload_n hx hb d_O_matches_95 rfl (lv_at hl 0 rfl) ?_
        refine lv_iload_n hx hb d_O_matches_96 rfl (lv_at hl 1 rfl) ?_
        refine lv_iload_n hx hb d_O_matches_97 rfl (lv_at hl 1 rfl) ?_
        refine lv_iconst (v := 1) hx hb d_O_matches_98 (by decide) ?_
        refine lv_iadd hx hb d_O_matches_99 ?_
        refine lv_iload hx hb d_O_matches_100 (lv_at hl 2 rfl) ?_
        refine lv_iconst (v := -1) hx hb d_O_matches_102 (by decide) ?_
        replace hok := bd_ok hok
        obtain ⟨r1, gs2, hc3, hok⟩ := hok
        refine cl_v (wc := (MO g ad ca gs)) (wr := []) hP hD hK hS hA [0, 1, 2, 3, 4, 5, 6, 7, 8, 9, 10, 11, 12, 13, 14, 15, 16, 17, 18, 19, 20] [] rfl rfl (by decide) (by decide) (va_runV (As := [.int x3, .int (x3 + 1), .int x4, .int (-1)]) (rest := []) ⟨hx, hb, hml, hown, hts⟩ (a_matchPlain l D H.size g ad ca F gs x3 (x3 + 1) x4 (-1) r1 gs2 hc3) (cw_V hts 4 k_940 k_9 k_937 k_939 sel_O_matchPlain (by decide +kernel) ⟨Nat.le_of_ble_eq_true rfl, Nat.le_of_ble_eq_true rfl⟩) (pr_V hP hD hK [0, 1, 2, 3, 4, 5, 6, 7, 8, 9, 10, 11, 12, 13, 14, 15, 16, 17, 18, 19, 20] [0, 1, 2, 3, 4, 5, 6, 7, 8, 9, 10, 11, 12, 13, 14, 15, 16, 17, 18, 19] (by decide) rfl rfl (fun U hU hW => trivial) (fun U g mk a h => h) (q0 := 0) (ci := 8) rfl rfl) rfl rfl hl.1 rfl (lv_room (Nat.le_of_ble_eq_true rfl)) d_O_matches_103 ⟨by decide, by decide⟩) (fun u H locs h4 hP hD hK hS => ?_)
        have hP : va_P D wcl (MO g ad ca gs2) H := hP
        have hD : va_D A (MO g ad ca gs2) := hD
        have hK : va_K D wcl (MT ca) s := hK
        refine lv_aload_n hx hb d_O_matches_106 rfl (lv_at hl 0 rfl) ?_
        refine va_get (D := D) (ci := 8) (v := .int (gs2.1 41)) (C := rc_O) (T := ft_O) (N := 42) hx hb hts in_O hown hK hP 0 rfl rfl 41 (by decide) (hts _ k_696) (fun _ h9 => h9) rfl d_O_matches_107 ?_
        refine lv_if_ge (tgt := 115) hx hb d_O_matches_110 (by decide) (fun h6 => ?_) (fun h6 => ?_)
        · replace hok := ci_t h6 hok
          refine lv_aload_n hx hb d_O_matches_115 rfl (lv_at hl 0 rfl) ?_
          refine va_get (D := D) (ci := 8) (v := .int (gs2.1 41)) (C := rc_O) (T := ft_O) (N := 42) hx hb hts in_O hown hK hP 0 rfl rfl 41 (by decide) (hts _ k_696) (fun _ h9 => h9) rfl d_O_matches_116 ?_
          refine lv_istore hx hb d_O_matches_119 hl (by decide) rfl (fun ls hl => ?_)
          have hl : lv_has ls 8 [(4, .int (gs2.1 41)), (0, .ref g), (3, .int x3), (5, .int x5), (6, .int x6)] := hl
          refine lv_iload hx hb d_O_matches_121 (lv_at hl 4 rfl) ?_
          refine lv_iconst (v := 1) hx hb d_O_matches_123 (by decide) ?_
          refine lv_icmp_ne (tgt := 134) hx hb d_O_matches_124 (by decide) (fun h7 => ?_) (fun h7 => ?_)
          · replace hok := ci_f h7 hok
            refine lv_iload hx hb d_O_matches_134 (lv_at hl 4 rfl) ?_
            refine lv_iconst (v := 2) hx hb d_O_matches_136 (by decide) ?_
            refine lv_icmp_ne (tgt := 147) hx hb d_O_matches_137 (by decide) (fun h8 => ?_) (fun h8 => ?_)
            · replace hok := ci_f h8 hok
              refine lv_iload hx hb d_O_matches_147 (lv_at hl 3 rfl) ?_
              exact j149 gs2 x3 (gs2.1 41) x5 H locs ls hok hP hD hS (lv_sub hl [1, 2, 0] rfl)
            · replace hok := ci_t h8 hok
              refine lv_iload hx hb d_O_matches_140 (lv_at hl 3 rfl) ?_
              refine lv_iconst (v := 1) hx hb d_O_matches_142 (by decide) ?_
              refine lv_isub hx hb d_O_matches_143 ?_
              refine lv_goto (tgt := 149) hx hb d_O_matches_144 (by decide) ?_
              exact j149 gs2 x3 (gs2.1 41) (x5 - 1) H locs ls hok hP hD hS (lv_sub hl [1, 2, 0] rfl)
          · replace hok := ci_t h7 hok
            refine lv_iload hx hb d_O_matches_127 (lv_at hl 3 rfl) ?_
            refine lv_iconst (v := 1) hx hb d_O_matches_129 (by decide) ?_
            refine lv_iadd hx hb d_O_matches_130 ?_
            refine lv_goto (tgt := 149) hx hb d_O_matches_131 (by decide) ?_
            exact j149 gs2 x3 (gs2.1 41) (x5 + 1) H locs ls hok hP hD hS (lv_sub hl [1, 2, 0] rfl)
        · replace hok := ci_f h6 hok
          refine lv_iconst (v := 0) hx hb d_O_matches_113 (by decide) ?_
          obtain ⟨e8, e9⟩ := rt_ok hok
          rw [e9] at hP hD
          have hK9 := hK.sub (tys' := []) [] rfl
          exact W.zret (v := 0) hx hb hr (rfl) (fun t9 ht hW => ⟨⟨0, (), rfl, e8, ⟨by rw [ht]; exact hP, va_K.moved hW.alike hK9, hD⟩⟩, hS.F ht⟩) hS.2.2 d_O_matches_114
      have j49 : ∀ (gs : OS) (x3 : Int32) (x4 : Int32) (x5 : Int32) (x6 : Int32) (y0 : Int32) (H : Heap) (locs : List Loc) (ls : Array Slot), rf_matches_49 F (rf_matches_20 F d20) gs x3 x4 x5 x6 y0 = some (r0, gf) → va_P D wcl (MO g ad ca gs) H → va_D A (MO g ad ca gs) → va_S A s.heap H locs → lv_has ls 8 [(0, .ref g), (3, .int x3), (4, .int x4), (5, .int x5), (6, .int x6)] → W p l e (headSpec (Cond.code y_O_matches b_O_matches 8 (some .boolean) :: wal) ({ frames := 13, cells := 0, slots := 0, locals := 300 })).room s m ([.ref g, .int a1] : List Value).toArray below meth c H locs 0 0 (MQ below (va_Qi (S := Unit) (fun r u => r0 = r) (fun u t9 => po D (A) ((fun u => (MO g ad ca gf)) u) ((fun u => []) u) t9) (A)) ([.ref g, .int a1] : List Value).toArray s 0 0 A) (F0 m 49 ls [.int y0]) := by
        intro gs x3 x4 x5 x6 y0 H locs ls hok hP hD hS hl
        rw [rf_matches_49] at hok
        refine lv_istore hx hb d_O_matches_49 hl (by decide) rfl (fun ls hl => ?_)
        have hl : lv_has ls 8 [(7, .int y0), (0, .ref g), (3, .int x3), (4, .int x4), (5, .int x5), (6, .int x6)] := hl
        refine lv_iload hx hb d_O_matches_51 (lv_at hl 5 rfl) ?_
        refine lv_iconst (v := 2) hx hb d_O_matches_53 (by decide) ?_
        refine lv_icmp_eq (tgt := 95) hx hb d_O_matches_54 (by decide) (fun h9 => ?_) (fun h9 => ?_)
        · replace hok := ci_t h9 hok
          exact j95 gs x3 x4 x5 x6 H locs ls hok hP hD hS (lv_sub hl [1, 2, 3, 4, 5] rfl)
        · replace hok := ci_f h9 hok
          refine lv_aload_n hx hb d_O_matches_57 rfl (lv_at hl 1 rfl) ?_
          refine va_get (D := D) (ci := 8) (v := .ref (ad 8)) (C := rc_O) (T := ft_O) (N := 42) hx hb hts in_O hown hK hP 0 rfl rfl 8 (by decide) (hts _ k_663) (fun _ h9 => h9) rfl d_O_matches_58 ?_
          refine lv_iload hx hb d_O_matches_61 (lv_at hl 0 rfl) ?_
          have hi10 := (gd_ok hok).1
          replace hok := (gd_ok hok).2
          refine va_iald hx hb hK hP 5 4 rfl rfl (hi10) d_O_matches_63 ?_
          refine lv_bipush (v := 7) hx hb d_O_matches_64 (by decide) ?_
          refine lv_icmp_ne (tgt := 95) hx hb d_O_matches_66 (by decide) (fun h11 => ?_) (fun h11 => ?_)
          · replace hok := ci_f h11 hok
            exact j95 gs x3 x4 x5 x6 H locs ls hok hP hD hS (lv_sub hl [1, 2, 3, 4, 5] rfl)
          · replace hok := ci_t h11 hok
            refine lv_aload_n hx hb d_O_matches_69 rfl (lv_at hl 1 rfl) ?_
            refine lv_iload_n hx hb d_O_matches_70 rfl (lv_at hl 2 rfl) ?_
            refine lv_iload hx hb d_O_matches_71 (lv_at hl 0 rfl) ?_
            refine lv_iload hx hb d_O_matches_73 (lv_at hl 3 rfl) ?_
            replace hok := bd_ok hok
            obtain ⟨r12, gs13, hc14, hok⟩ := hok
            refine cl_i (wc := (MO g ad ca gs)) (wr := []) hP hD hK hS hA [0, 1, 2, 3, 4, 5, 6, 7, 8, 9, 10, 11, 12, 13, 14, 15, 16, 17, 18, 19, 20] [] rfl rfl (by decide) (by decide) (va_runV (As := [.int x3, .int y0, .int x4]) (rest := []) ⟨hx, hb, hml, hown, hts⟩ (a_matchMany l D H.size g ad ca F gs x3 y0 x4 r12 gs13 hc14) (cw_V hts 3 k_936 k_9 k_933 k_935 sel_O_matchMany (by decide +kernel) ⟨Nat.le_of_ble_eq_true rfl, Nat.le_of_ble_eq_true rfl⟩) (pr_V hP hD hK [0, 1, 2, 3, 4, 5, 6, 7, 8, 9, 10, 11, 12, 13, 14, 15, 16, 17, 18, 19, 20] [0, 1, 2, 3, 4, 5, 6, 7, 8, 9, 10, 11, 12, 13, 14, 15, 16, 17, 18, 19] (by decide) rfl rfl (fun U hU hW => trivial) (fun U g mk a h => h) (q0 := 0) (ci := 8) rfl rfl) rfl rfl hl.1 rfl (lv_room (Nat.le_of_ble_eq_true rfl)) d_O_matches_75 ⟨by decide, by decide⟩) (fun v16 u H locs h15 hP hD hK hS => ?_)
            have hP : va_P D wcl (MO g ad ca gs13) H := hP
            have hD : va_D A (MO g ad ca gs13) := hD
            have hK : va_K D wcl (MT ca) s := hK
            have h15 : r12 = v16 := h15
            subst h15
            refine lv_istore hx hb d_O_matches_78 hl (by decide) rfl (fun ls hl => ?_)
            have hl : lv_has ls 8 [(4, .int r12), (7, .int y0), (0, .ref g), (3, .int x3), (5, .int x5), (6, .int x6)] := hl
            refine lv_iload hx hb d_O_matches_80 (lv_at hl 0 rfl) ?_
            refine lv_if_ge (tgt := 87) hx hb d_O_matches_82 (by decide) (fun h17 => ?_) (fun h17 => ?_)
            · replace hok := ci_t h17 hok
              refine lv_iload hx hb d_O_matches_87 (lv_at hl 1 rfl) ?_
              refine lv_iconst (v := 1) hx hb d_O_matches_89 (by decide) ?_
              refine lv_iadd hx hb d_O_matches_90 ?_
              refine lv_istore_n hx hb d_O_matches_91 rfl hl (by decide) rfl (fun ls hl => ?_)
              have hl : lv_has ls 8 [(3, .int (y0 + 1)), (4, .int r12), (7, .int y0), (0, .ref g), (5, .int x5), (6, .int x6)] := hl
              refine lv_goto (tgt := 20) hx hb d_O_matches_92 (by decide) ?_
              exact ih20 gs13 (y0 + 1) r12 x5 H locs ls hok hP hD hS (lv_sub hl [3, 0, 1, 4] rfl)
            · replace hok := ci_f h17 hok
              refine lv_iconst (v := 0) hx hb d_O_matches_85 (by decide) ?_
              obtain ⟨e8, e9⟩ := rt_ok hok
              rw [e9] at hP hD
              have hK9 := hK.sub (tys' := []) [] rfl
              exact W.zret (v := 0) hx hb hr (rfl) (fun t9 ht hW => ⟨⟨0, (), rfl, e8, ⟨by rw [ht]; exact hP, va_K.moved hW.alike hK9, hD⟩⟩, hS.F ht⟩) hS.2.2 d_O_matches_86
      intro gs x3 x4 x5 H locs ls hok hP hD hS hl
      rw [rf_matches_20] at hok
      refine lv_iload hx hb d_O_matches_20 (lv_at hl 3 rfl) ?_
      refine lv_if_le (tgt := 157) hx hb d_O_matches_22 (by decide) (fun h18 => ?_) (fun h18 => ?_)
      · replace hok := ci_t h18 hok
        refine lv_iconst (v := 1) hx hb d_O_matches_157 (by decide) ?_
        obtain ⟨e8, e9⟩ := rt_ok hok
        rw [e9] at hP hD
        have hK9 := hK.sub (tys' := []) [] rfl
        exact W.zret (v := 1) hx hb hr (rfl) (fun t9 ht hW => ⟨⟨1, (), rfl, e8, ⟨by rw [ht]; exact hP, va_K.moved hW.alike hK9, hD⟩⟩, hS.F ht⟩) hS.2.2 d_O_matches_158
      · replace hok := ci_f h18 hok
        refine lv_aload_n hx hb d_O_matches_25 rfl (lv_at hl 0 rfl) ?_
        refine va_get (D := D) (ci := 8) (v := .ref (ad 8)) (C := rc_O) (T := ft_O) (N := 42) hx hb hts in_O hown hK hP 0 rfl rfl 8 (by decide) (hts _ k_663) (fun _ h9 => h9) rfl d_O_matches_26 ?_
        refine lv_iload_n hx hb d_O_matches_29 rfl (lv_at hl 1 rfl) ?_
        have hi19 := (gd_ok hok).1
        replace hok := (gd_ok hok).2
        refine va_iald hx hb hK hP 5 4 rfl rfl (hi19) d_O_matches_30 ?_
        refine lv_istore hx hb d_O_matches_31 hl (by decide) rfl (fun ls hl => ?_)
        have hl : lv_has ls 8 [(6, .int ((gs.2 8) x3.toNatClampNeg)), (0, .ref g), (3, .int x3), (4, .int x4), (5, .int x5)] := hl
        refine lv_iload hx hb d_O_matches_33 (lv_at hl 0 rfl) ?_
        refine lv_iconst (v := 2) hx hb d_O_matches_35 (by decide) ?_
        refine lv_icmp_ne (tgt := 43) hx hb d_O_matches_36 (by decide) (fun h20 => ?_) (fun h20 => ?_)
        · replace hok := ci_f h20 hok
          refine lv_aload_n hx hb d_O_matches_43 rfl (lv_at hl 1 rfl) ?_
          refine lv_iconst (v := 0) hx hb d_O_matches_44 (by decide) ?_
          refine lv_iload_n hx hb d_O_matches_45 rfl (lv_at hl 2 rfl) ?_
          replace hok := bd_ok hok
          obtain ⟨r21, gs22, hc23, hok⟩ := hok
          refine cl_i (wc := (MO g ad ca gs)) (wr := []) hP hD hK hS hA [0, 1, 2, 3, 4, 5, 6, 7, 8, 9, 10, 11, 12, 13, 14, 15, 16, 17, 18, 19, 20] [] rfl rfl (by decide) (by decide) (va_runV (As := [.int 0, .int x3]) (rest := []) ⟨hx, hb, hml, hown, hts⟩ (a_itemEnd l D H.size g ad ca F gs 0 x3 r21 gs22 hc23) (cw_V hts 2 k_932 k_9 k_929 k_931 sel_O_itemEnd (by decide +kernel) ⟨Nat.le_of_ble_eq_true rfl, Nat.le_of_ble_eq_true rfl⟩) (pr_V hP hD hK [0, 1, 2, 3, 4, 5, 6, 7, 8, 9, 10, 11, 12, 13, 14, 15, 16, 17, 18, 19, 20] [0, 1, 2, 3, 4, 5, 6, 7, 8, 9, 10, 11, 12, 13, 14, 15, 16, 17, 18, 19] (by decide) rfl rfl (fun U hU hW => trivial) (fun U g mk a h => h) (q0 := 0) (ci := 8) rfl rfl) rfl rfl hl.1 rfl (lv_room (Nat.le_of_ble_eq_true rfl)) d_O_matches_46 ⟨by decide, by decide⟩) (fun v25 u H locs h24 hP hD hK hS => ?_)
          have hP : va_P D wcl (MO g ad ca gs22) H := hP
          have hD : va_D A (MO g ad ca gs22) := hD
          have hK : va_K D wcl (MT ca) s := hK
          have h24 : r21 = v25 := h24
          subst h24
          exact j49 gs22 x3 x4 x5 ((gs.2 8) x3.toNatClampNeg) r21 H locs ls hok hP hD hS (lv_sub hl [1, 2, 3, 4, 0] rfl)
        · replace hok := ci_t h20 hok
          refine lv_iload_n hx hb d_O_matches_39 rfl (lv_at hl 2 rfl) ?_
          refine lv_goto (tgt := 49) hx hb d_O_matches_40 (by decide) ?_
          exact j49 gs x3 x4 x5 ((gs.2 8) x3.toNatClampNeg) x3 H locs ls hok hP hD hS (lv_sub hl [1, 2, 3, 4, 0] rfl)
  refine lv_bipush (v := 64) hx hb d_O_matches_0 (by decide) ?_
  refine lv_iload_n hx hb d_O_matches_2 rfl (lv_at hl 1 rfl) ?_
  refine lv_imul hx hb d_O_matches_3 ?_
  refine lv_istore_n hx hb d_O_matches_4 rfl hl (by decide) rfl (fun ls hl => ?_)
  have hl : lv_has ls 8 [(2, .int (64 * a1)), (0, .ref g), (1, .int a1)] := hl
  refine lv_iload_n hx hb d_O_matches_5 rfl (lv_at hl 0 rfl) ?_
  refine lv_iconst (v := 2) hx hb d_O_matches_6 (by decide) ?_
  refine lv_iadd hx hb d_O_matches_7 ?_
  refine lv_istore_n hx hb d_O_matches_8 rfl hl (by decide) rfl (fun ls hl => ?_)
  have hl : lv_has ls 8 [(3, .int ((64 * a1) + 2)), (2, .int (64 * a1)), (0, .ref g), (1, .int a1)] := hl
  refine lv_aload_n hx hb d_O_matches_9 rfl (lv_at hl 2 rfl) ?_
  refine va_get (D := D) (ci := 8) (v := .int (gs.1 36)) (C := rc_O) (T := ft_O) (N := 42) hx hb hts in_O hown hK hP 0 rfl rfl 36 (by decide) (hts _ k_691) (fun _ h9 => h9) rfl d_O_matches_10 ?_
  refine lv_iconst (v := 2) hx hb d_O_matches_13 (by decide) ?_
  refine lv_iadd hx hb d_O_matches_14 ?_
  refine lv_istore hx hb d_O_matches_15 hl (by decide) rfl (fun ls hl => ?_)
  have hl : lv_has ls 8 [(4, .int ((gs.1 36) + 2)), (3, .int ((64 * a1) + 2)), (2, .int (64 * a1)), (0, .ref g), (1, .int a1)] := hl
  refine lv_iconst (v := 1) hx hb d_O_matches_17 (by decide) ?_
  refine lv_istore hx hb d_O_matches_18 hl (by decide) rfl (fun ls hl => ?_)
  have hl : lv_has ls 8 [(5, .int 1), (4, .int ((gs.1 36) + 2)), (3, .int ((64 * a1) + 2)), (2, .int (64 * a1)), (0, .ref g), (1, .int a1)] := hl
  exact j20 F gs ((64 * a1) + 2) ((gs.1 36) + 2) 1 s.heap [] ls hok hP hD hS (lv_sub hl [4, 2, 1, 0] rfl)

set_option maxHeartbeats 4000000 in
set_option maxRecDepth 100000 in
theorem a_patternEnd (l : Launch) (D : va_G) (sz : Nat) (g : Nat) (ad : Nat → Nat) (ca : Nat → ClassId) (F : Nat) (gs : OS) (r0 : Int32) (gf : OS) (hok : rf_patternEnd F gs = some (r0, gf)) : Met l y_O_patternEnd (Cond.code y_O_patternEnd b_O_patternEnd 2 (some .int) :: wal) ({ frames := 13, cells := 0, slots := 0, locals := 300 }) (va_Pc [.ref g] (pr D sz (MO g ad ca gs) (MT ca) (fun _ => True))) (va_Qi (S := Unit) (fun r u => r0 = r) (fun u t9 => po D (va_A (MO g ad ca gs) sz) ((fun u => (MO g ad ca gf)) u) ((fun u => []) u) t9) (va_A (MO g ad ca gs) sz)) 0 0 (va_A (MO g ad ca gs) sz) := by
  refine Met.ofW (cc := b_O_patternEnd) (maxL := 2) (ret := (some .int)) (by decide) rfl ?_
  intro p e s m args below meth c s₁ B hml hv
  obtain ⟨rfl, hsz, hP, hK, hD0, hE⟩ := hv
  have hx := B.exec
  have hb := B.bytes
  have hr := B.returns
  have hts0 := atoms_spec (ws := Cond.code y_O_patternEnd b_O_patternEnd 2 (some .int) :: wal) B.pre
  have hts : ∀ w ∈ wal, w.before _ s = true := fun w h => hts0 w (List.mem_cons_of_mem _ h)
  have hown : s.vm.findClass rc_O = some m.cls := findClass_of_methodNamed B.named
  have hlocks := B.notSynchronized
  subst hsz
  have hD := hD0.self (sz := s.heap.size)
  generalize hAe : va_A (MO g ad ca gs) s.heap.size = A at hD ⊢
  have hA : ∀ q : Nat, s.heap.size ≤ q → A q := fun q h => by rw [← hAe]; exact Or.inr h
  have hS : va_S A s.heap s.heap [] := va_S.rf
  have hl := lv_entry ([.ref g]) (n := 2) (Nat.le_of_ble_eq_true rfl)
  rw [lg_entry_eq]
  generalize (lg_sl ([.ref g]) ++ List.replicate (2 - (lg_sl ([.ref g])).length) Slot.unset).toArray = ls at hl ⊢
  have hl : lv_has ls 2 [(0, .ref g)] := hl
  have j77 : ∀ (gs : OS)  (H : Heap) (locs : List Loc) (ls : Array Slot), rf_patternEnd_77 F gs = some (r0, gf) → va_P D wcl (MO g ad ca gs) H → va_D A (MO g ad ca gs) → va_S A s.heap H locs → lv_has ls 2 [(0, .ref g)] → W p l e (headSpec (Cond.code y_O_patternEnd b_O_patternEnd 2 (some .int) :: wal) ({ frames := 13, cells := 0, slots := 0, locals := 300 })).room s m ([.ref g] : List Value).toArray below meth c H locs 0 0 (MQ below (va_Qi (S := Unit) (fun r u => r0 = r) (fun u t9 => po D (A) ((fun u => (MO g ad ca gf)) u) ((fun u => []) u) t9) (A)) ([.ref g] : List Value).toArray s 0 0 A) (F0 m 77 ls []) := by
    intro gs  H locs ls hok hP hD hS hl
    rw [rf_patternEnd_77] at hok
    refine lv_iconst (v := -1) hx hb d_O_patternEnd_77 (by decide) ?_
    obtain ⟨e8, e9⟩ := rt_ok hok
    rw [e9] at hP hD
    have hK9 := hK.sub (tys' := []) [] rfl
    exact W.iret (v := (-1)) hx hb hr (fun t9 ht hW => ⟨⟨(-1), (), rfl, e8, ⟨by rw [ht]; exact hP, va_K.moved hW.alike hK9, hD⟩⟩, hS.F ht⟩) hS.2.2 d_O_patternEnd_78
  have j54 : ∀ (d54 : Nat) (gs : OS) (x1 : Int32) (H : Heap) (locs : List Loc) (ls : Array Slot), rf_patternEnd_54 F d54 gs x1 = some (r0, gf) → va_P D wcl (MO g ad ca gs) H → va_D A (MO g ad ca gs) → va_S A s.heap H locs → lv_has ls 2 [(0, .ref g), (1, .int x1)] → W p l e (headSpec (Cond.code y_O_patternEnd b_O_patternEnd 2 (some .int) :: wal) ({ frames := 13, cells := 0, slots := 0, locals := 300 })).room s m ([.ref g] : List Value).toArray below meth c H locs 0 0 (MQ below (va_Qi (S := Unit) (fun r u => r0 = r) (fun u t9 => po D (A) ((fun u => (MO g ad ca gf)) u) ((fun u => []) u) t9) (A)) ([.ref g] : List Value).toArray s 0 0 A) (F0 m 54 ls []) := by
    intro d54
    induction d54 with
    | zero =>
      intro gs x1 H locs ls hok
      have h9 : (none : RO) = some (r0, gf) := hok
      cases h9
    | succ d54 ih54 =>
      intro gs x1 H locs ls hok hP hD hS hl
      rw [rf_patternEnd_54] at hok
      refine lv_aload_n hx hb d_O_patternEnd_54 rfl (lv_at hl 0 rfl) ?_
      refine va_get (D := D) (ci := 8) (v := .int (gs.1 13)) (C := rc_O) (T := ft_O) (N := 42) hx hb hts in_O hown hK hP 0 rfl rfl 13 (by decide) (hts _ k_668) (fun _ h9 => h9) rfl d_O_patternEnd_55 ?_
      refine lv_if_le (tgt := 85) hx hb d_O_patternEnd_58 (by decide) (fun h1 => ?_) (fun h1 => ?_)
      · replace hok := ci_t h1 hok
        refine lv_aload_n hx hb d_O_patternEnd_85 rfl (lv_at hl 0 rfl) ?_
        refine lv_dup hx hb d_O_patternEnd_86 rfl ?_
        refine va_get (D := D) (ci := 8) (v := .int (gs.1 18)) (C := rc_O) (T := ft_O) (N := 42) hx hb hts in_O hown hK hP 0 rfl rfl 18 (by decide) (hts _ k_673) (fun _ h9 => h9) rfl d_O_patternEnd_87 ?_
        refine lv_aload_n hx hb d_O_patternEnd_90 rfl (lv_at hl 0 rfl) ?_
        refine va_get (D := D) (ci := 8) (v := .int (gs.1 19)) (C := rc_O) (T := ft_O) (N := 42) hx hb hts in_O hown hK hP 0 rfl rfl 19 (by decide) (hts _ k_674) (fun _ h9 => h9) rfl d_O_patternEnd_91 ?_
        refine lv_iconst (v := -1) hx hb d_O_patternEnd_94 (by decide) ?_
        refine lv_ixor hx hb d_O_patternEnd_95 ?_
        refine lv_iand hx hb d_O_patternEnd_96 ?_
        refine va_put (D := D) (ci := 8) (v := .int ((gs.1 18) &&& ((gs.1 19) ^^^ (-1)))) (ty := .int) (C := rc_O) (T := ft_O) (N := 42) hx hb hts in_O ty_O tk_O nm_O hown hK hP hD hS 0 rfl rfl 18 (by decide) (hts _ k_673) (fun _ h9 => h9) rfl (by decide +kernel) rfl rfl (Nat.le_of_ble_eq_true rfl) d_O_patternEnd_97 (fun H locs hP hD hS => ?_)
        have hP : va_P D wcl (MO g ad ca (sI gs 18 ((gs.1 18) &&& ((gs.1 19) ^^^ (-1))))) H := hP
        have hD : va_D A (MO g ad ca (sI gs 18 ((gs.1 18) &&& ((gs.1 19) ^^^ (-1))))) := hD
        refine lv_iload_n hx hb d_O_patternEnd_100 rfl (lv_at hl 1 rfl) ?_
        obtain ⟨e8, e9⟩ := rt_ok hok
        rw [e9] at hP hD
        have hK9 := hK.sub (tys' := []) [] rfl
        exact W.iret (v := x1) hx hb hr (fun t9 ht hW => ⟨⟨x1, (), rfl, e8, ⟨by rw [ht]; exact hP, va_K.moved hW.alike hK9, hD⟩⟩, hS.F ht⟩) hS.2.2 d_O_patternEnd_101
      · replace hok := ci_f h1 hok
        refine lv_iload_n hx hb d_O_patternEnd_61 rfl (lv_at hl 1 rfl) ?_
        refine lv_aload_n hx hb d_O_patternEnd_62 rfl (lv_at hl 0 rfl) ?_
        refine va_get (D := D) (ci := 8) (v := .int (gs.1 3)) (C := rc_O) (T := ft_O) (N := 42) hx hb hts in_O hown hK hP 0 rfl rfl 3 (by decide) (hts _ k_658) (fun _ h9 => h9) rfl d_O_patternEnd_63 ?_
        refine lv_icmp_ge (tgt := 77) hx hb d_O_patternEnd_66 (by decide) (fun h2 => ?_) (fun h2 => ?_)
        · replace hok := ci_t h2 hok
          exact j77 gs H locs ls hok hP hD hS (lv_sub hl [0] rfl)
        · replace hok := ci_f h2 hok
          refine lv_aload_n hx hb d_O_patternEnd_69 rfl (lv_at hl 0 rfl) ?_
          refine lv_iload_n hx hb d_O_patternEnd_70 rfl (lv_at hl 1 rfl) ?_
          replace hok := bd_ok hok
          obtain ⟨r3, gs4, hc5, hok⟩ := hok
          refine cl_i (wc := (MO g ad ca gs)) (wr := []) hP hD hK hS hA [0, 1, 2, 3, 4, 5, 6, 7, 8, 9, 10, 11, 12, 13, 14, 15, 16, 17, 18, 19, 20] [] rfl rfl (by decide) (by decide) (va_runV (As := [.int x1]) (rest := []) ⟨hx, hb, hml, hown, hts⟩ (a_patternToken l D H.size g ad ca F gs x1 r3 gs4 hc5) (cw_V hts 1 k_819 k_9 k_816 k_818 sel_O_patternToken (by decide +kernel) ⟨Nat.le_of_ble_eq_true rfl, Nat.le_of_ble_eq_true rfl⟩) (pr_V hP hD hK [0, 1, 2, 3, 4, 5, 6, 7, 8, 9, 10, 11, 12, 13, 14, 15, 16, 17, 18, 19, 20] [0, 1, 2, 3, 4, 5, 6, 7, 8, 9, 10, 11, 12, 13, 14, 15, 16, 17, 18, 19] (by decide) rfl rfl (fun U hU hW => trivial) (fun U g mk a h => h) (q0 := 0) (ci := 8) rfl rfl) rfl rfl hl.1 rfl (lv_room (Nat.le_of_ble_eq_true rfl)) d_O_patternEnd_71 ⟨by decide, by decide⟩) (fun v7 u H locs h6 hP hD hK hS => ?_)
          have hP : va_P D wcl (MO g ad ca gs4) H := hP
          have hD : va_D A (MO g ad ca gs4) := hD
          have hK : va_K D wcl (MT ca) s := hK
          have h6 : r3 = v7 := h6
          subst h6
          refine lv_if_ne (tgt := 79) hx hb d_O_patternEnd_74 (by decide) (fun h8 => ?_) (fun h8 => ?_)
          · replace hok := ci_f h8 hok
            refine lv_iinc (k := 1) (v := (x1 + 1)) hx hb d_O_patternEnd_79 hl rfl (by rfl) (by decide) rfl (fun ls hl => ?_)
            have hl : lv_has ls 2 [(1, .int (x1 + 1)), (0, .ref g)] := hl
            refine lv_goto (tgt := 54) hx hb d_O_patternEnd_82 (by decide) ?_
            exact ih54 gs4 (x1 + 1) H locs ls hok hP hD hS (lv_sub hl [1, 0] rfl)
          · replace hok := ci_t h8 hok
            exact j77 gs4 H locs ls hok hP hD hS (lv_sub hl [0] rfl)
  have j44 : ∀ (gs : OS)  (H : Heap) (locs : List Loc) (ls : Array Slot), rf_patternEnd_44 F gs = some (r0, gf) → va_P D wcl (MO g ad ca gs) H → va_D A (MO g ad ca gs) → va_S A s.heap H locs → lv_has ls 2 [(0, .ref g)] → W p l e (headSpec (Cond.code y_O_patternEnd b_O_patternEnd 2 (some .int) :: wal) ({ frames := 13, cells := 0, slots := 0, locals := 300 })).room s m ([.ref g] : List Value).toArray below meth c H locs 0 0 (MQ below (va_Qi (S := Unit) (fun r u => r0 = r) (fun u t9 => po D (A) ((fun u => (MO g ad ca gf)) u) ((fun u => []) u) t9) (A)) ([.ref g] : List Value).toArray s 0 0 A) (F0 m 44 ls []) := by
    intro gs  H locs ls hok hP hD hS hl
    rw [rf_patternEnd_44] at hok
    refine lv_iconst (v := -1) hx hb d_O_patternEnd_44 (by decide) ?_
    obtain ⟨e8, e9⟩ := rt_ok hok
    rw [e9] at hP hD
    have hK9 := hK.sub (tys' := []) [] rfl
    exact W.iret (v := (-1)) hx hb hr (fun t9 ht hW => ⟨⟨(-1), (), rfl, e8, ⟨by rw [ht]; exact hP, va_K.moved hW.alike hK9, hD⟩⟩, hS.F ht⟩) hS.2.2 d_O_patternEnd_45
  refine lv_aload_n hx hb d_O_patternEnd_0 rfl (lv_at hl 0 rfl) ?_
  refine lv_iconst (v := 0) hx hb d_O_patternEnd_1 (by decide) ?_
  refine va_put (D := D) (ci := 8) (v := .int 0) (ty := .int) (C := rc_O) (T := ft_O) (N := 42) hx hb hts in_O ty_O tk_O nm_O hown hK hP hD hS 0 rfl rfl 18 (by decide) (hts _ k_673) (fun _ h9 => h9) rfl (by decide +kernel) rfl rfl (Nat.le_of_ble_eq_true rfl) d_O_patternEnd_2 (fun H locs hP hD hS => ?_)
  have hP : va_P D wcl (MO g ad ca (sI gs 18 0)) H := hP
  have hD : va_D A (MO g ad ca (sI gs 18 0)) := hD
  refine lv_aload_n hx hb d_O_patternEnd_5 rfl (lv_at hl 0 rfl) ?_
  refine lv_iconst (v := 0) hx hb d_O_patternEnd_6 (by decide) ?_
  refine va_put (D := D) (ci := 8) (v := .int 0) (ty := .int) (C := rc_O) (T := ft_O) (N := 42) hx hb hts in_O ty_O tk_O nm_O hown hK hP hD hS 0 rfl rfl 19 (by decide) (hts _ k_674) (fun _ h9 => h9) rfl (by decide +kernel) rfl rfl (Nat.le_of_ble_eq_true rfl) d_O_patternEnd_7 (fun H locs hP hD hS => ?_)
  have hP : va_P D wcl (MO g ad ca (sI (sI gs 18 0) 19 0)) H := hP
  have hD : va_D A (MO g ad ca (sI (sI gs 18 0) 19 0)) := hD
  refine lv_aload_n hx hb d_O_patternEnd_10 rfl (lv_at hl 0 rfl) ?_
  replace hok := bd_ok hok
  obtain ⟨r9, gs10, hc11, hok⟩ := hok
  refine cl_v (wc := (MO g ad ca (sI (sI gs 18 0) 19 0))) (wr := []) hP hD hK hS hA [0, 1, 2, 3, 4, 5, 6, 7, 8, 9, 10, 11, 12, 13, 14, 15, 16, 17, 18, 19, 20] [] rfl rfl (by decide) (by decide) (va_runV (As := []) (rest := []) ⟨hx, hb, hml, hown, hts⟩ (a_beginLists l D H.size g ad ca F (sI (sI gs 18 0) 19 0)  r9 gs10 hc11) (cw_V hts 0 k_808 k_9 k_805 k_807 sel_O_beginLists (by decide +kernel) ⟨Nat.le_of_ble_eq_true rfl, Nat.le_of_ble_eq_true rfl⟩) (pr_V hP hD hK [0, 1, 2, 3, 4, 5, 6, 7, 8, 9, 10, 11, 12, 13, 14, 15, 16, 17, 18, 19, 20] [0, 1, 2, 3, 4, 5, 6, 7, 8, 9, 10, 11, 12, 13, 14, 15, 16, 17, 18, 19] (by decide) rfl rfl (fun U hU hW => trivial) (fun U g mk a h => h) (q0 := 0) (ci := 8) rfl rfl) rfl rfl hl.1 rfl (lv_room (Nat.le_of_ble_eq_true rfl)) d_O_patternEnd_11 ⟨by decide, by decide⟩) (fun u H locs h12 hP hD hK hS => ?_)
  have hP : va_P D wcl (MO g ad ca gs10) H := hP
  have hD : va_D A (MO g ad ca gs10) := hD
  have hK : va_K D wcl (MT ca) s := hK
  refine lv_aload_n hx hb d_O_patternEnd_14 rfl (lv_at hl 0 rfl) ?_
  refine va_get (D := D) (ci := 8) (v := .int (gs10.1 3)) (C := rc_O) (T := ft_O) (N := 42) hx hb hts in_O hown hK hP 0 rfl rfl 3 (by decide) (hts _ k_658) (fun _ h9 => h9) rfl d_O_patternEnd_15 ?_
  refine lv_iconst (v := 2) hx hb d_O_patternEnd_18 (by decide) ?_
  refine lv_icmp_lt (tgt := 44) hx hb d_O_patternEnd_19 (by decide) (fun h14 => ?_) (fun h14 => ?_)
  · replace hok := ci_t h14 hok
    exact j44 gs10 H locs ls hok hP hD hS hl
  · replace hok := ci_f h14 hok
    refine lv_aload_n hx hb d_O_patternEnd_22 rfl (lv_at hl 0 rfl) ?_
    refine va_get (D := D) (ci := 8) (v := .ref (ad 4)) (C := rc_O) (T := ft_O) (N := 42) hx hb hts in_O hown hK hP 0 rfl rfl 4 (by decide) (hts _ k_659) (fun _ h9 => h9) rfl d_O_patternEnd_23 ?_
    refine lv_iconst (v := 0) hx hb d_O_patternEnd_26 (by decide) ?_
    have hi15 := (gd_ok hok).1
    replace hok := (gd_ok hok).2
    refine va_iald hx hb hK hP 2 1 rfl rfl (hi15) d_O_patternEnd_27 ?_
    refine lv_iconst (v := 1) hx hb d_O_patternEnd_28 (by decide) ?_
    refine lv_icmp_ne (tgt := 44) hx hb d_O_patternEnd_29 (by decide) (fun h16 => ?_) (fun h16 => ?_)
    · replace hok := ci_f h16 hok
      exact j44 gs10 H locs ls hok hP hD hS hl
    · replace hok := ci_t h16 hok
      refine lv_aload_n hx hb d_O_patternEnd_32 rfl (lv_at hl 0 rfl) ?_
      refine va_get (D := D) (ci := 8) (v := .ref (ad 4)) (C := rc_O) (T := ft_O) (N := 42) hx hb hts in_O hown hK hP 0 rfl rfl 4 (by decide) (hts _ k_659) (fun _ h9 => h9) rfl d_O_patternEnd_33 ?_
      refine lv_iconst (v := 1) hx hb d_O_patternEnd_36 (by decide) ?_
      have hi17 := (gd_ok hok).1
      replace hok := (gd_ok hok).2
      refine va_iald hx hb hK hP 2 1 rfl rfl (hi17) d_O_patternEnd_37 ?_
      replace hok := bd_ok hok
      obtain ⟨r18, gs19, hc20, hok⟩ := hok
      refine cl_i (wc := (MO g ad ca gs10)) (wr := []) hP hD hK hS hA [0, 1, 2, 3, 4, 5, 6, 7, 8, 9, 10, 11, 12, 13, 14, 15, 16, 17, 18, 19, 20] [] rfl rfl (by decide) (by decide) (va_runS (As := [.int ((gs10.2 4) (1 : Int32).toNatClampNeg)]) (rest := []) ⟨hx, hb, hml, hown, hts⟩ (a_isName l D H.size g ad ca F gs10 ((gs10.2 4) (1 : Int32).toNatClampNeg) r18 gs19 hc20) (cw_S hts 1 k_811 k_9 k_809 k_810 (by decide +kernel) ⟨Nat.le_of_ble_eq_true rfl, Nat.le_of_ble_eq_true rfl⟩) (pr_S hP hD hK [0, 1, 2, 3, 4, 5, 6, 7, 8, 9, 10, 11, 12, 13, 14, 15, 16, 17, 18, 19, 20] [0, 1, 2, 3, 4, 5, 6, 7, 8, 9, 10, 11, 12, 13, 14, 15, 16, 17, 18, 19] (by decide) rfl rfl (fun U hU hW => trivial) (fun U g mk a h => h)) rfl rfl hl.1 rfl (lv_room (Nat.le_of_ble_eq_true rfl)) d_O_patternEnd_38 ⟨by decide, by decide⟩) (fun v22 u H locs h21 hP hD hK hS => ?_)
      have hP : va_P D wcl (MO g ad ca gs19) H := hP
      have hD : va_D A (MO g ad ca gs19) := hD
      have hK : va_K D wcl (MT ca) s := hK
      have h21 : r18 = v22 := h21
      subst h21
      refine lv_if_ne (tgt := 46) hx hb d_O_patternEnd_41 (by decide) (fun h23 => ?_) (fun h23 => ?_)
      · replace hok := ci_f h23 hok
        refine lv_aload_n hx hb d_O_patternEnd_46 rfl (lv_at hl 0 rfl) ?_
        refine lv_iconst (v := 0) hx hb d_O_patternEnd_47 (by decide) ?_
        replace hok := bd_ok hok
        obtain ⟨r24, gs25, hc26, hok⟩ := hok
        refine cl_i (wc := (MO g ad ca gs19)) (wr := []) hP hD hK hS hA [0, 1, 2, 3, 4, 5, 6, 7, 8, 9, 10, 11, 12, 13, 14, 15, 16, 17, 18, 19, 20] [] rfl rfl (by decide) (by decide) (va_runV (As := [.int 0]) (rest := []) ⟨hx, hb, hml, hown, hts⟩ (a_openList l D H.size g ad ca F gs19 0 r24 gs25 hc26) (cw_V hts 1 k_815 k_9 k_812 k_814 sel_O_openList (by decide +kernel) ⟨Nat.le_of_ble_eq_true rfl, Nat.le_of_ble_eq_true rfl⟩) (pr_V hP hD hK [0, 1, 2, 3, 4, 5, 6, 7, 8, 9, 10, 11, 12, 13, 14, 15, 16, 17, 18, 19, 20] [0, 1, 2, 3, 4, 5, 6, 7, 8, 9, 10, 11, 12, 13, 14, 15, 16, 17, 18, 19] (by decide) rfl rfl (fun U hU hW => trivial) (fun U g mk a h => h) (q0 := 0) (ci := 8) rfl rfl) rfl rfl hl.1 rfl (lv_room (Nat.le_of_ble_eq_true rfl)) d_O_patternEnd_48 ⟨by decide, by decide⟩) (fun v28 u H locs h27 hP hD hK hS => ?_)
        have hP : va_P D wcl (MO g ad ca gs25) H := hP
        have hD : va_D A (MO g ad ca gs25) := hD
        have hK : va_K D wcl (MT ca) s := hK
        have h27 : r24 = v28 := h27
        subst h27
        refine lv_pop hx hb d_O_patternEnd_51 rfl ?_
        refine lv_iconst (v := 2) hx hb d_O_patternEnd_52 (by decide) ?_
        refine lv_istore_n hx hb d_O_patternEnd_53 rfl hl (by decide) rfl (fun ls hl => ?_)
        have hl : lv_has ls 2 [(1, .int 2), (0, .ref g)] := hl
        exact j54 F gs25 2 H locs ls hok hP hD hS (lv_sub hl [1, 0] rfl)
      · replace hok := ci_t h23 hok
        exact j44 gs19 H locs ls hok hP hD hS hl
