set_option maxHeartbeats 4000000 in
set_option maxRecDepth 100000 in
theorem a_replace (l : Launch) (D : va_G) (sz : Nat) (g : Nat) (ad : Nat → Nat) (ca : Nat → ClassId) (F : Nat) (gs : OS) (a1 : Int32) (r0 : Int32) (gf : OS) (hok : rf_replace F gs a1 = some (r0, gf)) : Met l y_O_replace (Cond.code y_O_replace b_O_replace 7 none :: wal) ({ frames := 14, cells := 0, slots := 0, locals := 360 }) (va_Pc [.ref g, .int a1] (pr D sz (MO g ad ca gs) (MT ca) (fun _ => True))) (va_Qv (S := Unit) (fun u => True) (fun u t9 => po D (va_A (MO g ad ca gs) sz) ((fun u => (MO g ad ca gf)) u) ((fun u => []) u) t9) (va_A (MO g ad ca gs) sz)) 0 0 (va_A (MO g ad ca gs) sz) := by
  refine Met.ofW (cc := b_O_replace) (maxL := 7) (ret := none) (by decide) rfl ?_
  intro p e s m args below meth c s₁ B hml hv
  obtain ⟨rfl, hsz, hP, hK, hD0, hE⟩ := hv
  have hx := B.exec
  have hb := B.bytes
  have hr := B.returns
  have hts0 := atoms_spec (ws := Cond.code y_O_replace b_O_replace 7 none :: wal) B.pre
  have hts : ∀ w ∈ wal, w.before _ s = true := fun w h => hts0 w (List.mem_cons_of_mem _ h)
  have hown : s.vm.findClass rc_O = some m.cls := findClass_of_methodNamed B.named
  have hlocks := B.notSynchronized
  subst hsz
  have hD := hD0.self (sz := s.heap.size)
  generalize hAe : va_A (MO g ad ca gs) s.heap.size = A at hD ⊢
  have hA : ∀ q : Nat, s.heap.size ≤ q → A q := fun q h => by rw [← hAe]; exact Or.inr h
  have hS : va_S A s.heap s.heap [] := va_S.rf
  have hl := lv_entry ([.ref g, .int a1]) (n := 7) (Nat.le_of_ble_eq_true rfl)
  rw [lg_entry_eq]
  generalize (lg_sl ([.ref g, .int a1]) ++ List.replicate (7 - (lg_sl ([.ref g, .int a1])).length) Slot.unset).toArray = ls at hl ⊢
  have hl : lv_has ls 7 [(0, .ref g), (1, .int a1)] := hl
  have j252 : ∀ (d252 : Nat) (gs : OS) (x5 : Int32) (x6 : Int32) (H : Heap) (locs : List Loc) (ls : Array Slot), rf_replace_252 F d252 gs x5 x6 = some (r0, gf) → va_P D wcl (MO g ad ca gs) H → va_D A (MO g ad ca gs) → va_S A s.heap H locs → lv_has ls 7 [(0, .ref g), (5, .int x5), (6, .int x6)] → W p l e (headSpec (Cond.code y_O_replace b_O_replace 7 none :: wal) ({ frames := 14, cells := 0, slots := 0, locals := 360 })).room s m ([.ref g, .int a1] : List Value).toArray below meth c H locs 0 0 (MQ below (va_Qv (S := Unit) (fun u => True) (fun u t9 => po D (A) ((fun u => (MO g ad ca gf)) u) ((fun u => []) u) t9) (A)) ([.ref g, .int a1] : List Value).toArray s 0 0 A) (F0 m 252 ls []) := by
    intro d252
    induction d252 with
    | zero =>
      intro gs x5 x6 H locs ls hok
      have h9 : (none : RO) = some (r0, gf) := hok
      cases h9
    | succ d252 ih252 =>
      intro gs x5 x6 H locs ls hok hP hD hS hl
      rw [rf_replace_252] at hok
      refine lv_iload hx hb d_O_replace_252 (lv_at hl 2 rfl) ?_
      refine lv_aload_n hx hb d_O_replace_254 rfl (lv_at hl 0 rfl) ?_
      refine va_get (D := D) (ci := 8) (v := .int (gs.1 23)) (C := rc_O) (T := ft_O) (N := 42) hx hb hts in_O hown hK hP 0 rfl rfl 23 (by decide) (hts _ k_678) (fun _ h9 => h9) rfl d_O_replace_255 ?_
      refine lv_icmp_ge (tgt := 281) hx hb d_O_replace_258 (by decide) (fun h1 => ?_) (fun h1 => ?_)
      · replace hok := ci_t h1 hok
        refine lv_aload_n hx hb d_O_replace_281 rfl (lv_at hl 0 rfl) ?_
        refine lv_aload_n hx hb d_O_replace_282 rfl (lv_at hl 0 rfl) ?_
        refine va_get (D := D) (ci := 8) (v := .int (gs.1 23)) (C := rc_O) (T := ft_O) (N := 42) hx hb hts in_O hown hK hP 0 rfl rfl 23 (by decide) (hts _ k_678) (fun _ h9 => h9) rfl d_O_replace_283 ?_
        refine lv_iload hx hb d_O_replace_286 (lv_at hl 1 rfl) ?_
        refine lv_iadd hx hb d_O_replace_288 ?_
        refine va_put (D := D) (ci := 8) (v := .int ((gs.1 23) + x5)) (ty := .int) (C := rc_O) (T := ft_O) (N := 42) hx hb hts in_O ty_O tk_O nm_O hown hK hP hD hS 0 rfl rfl 21 (by decide) (hts _ k_676) (fun _ h9 => h9) rfl (by decide +kernel) rfl rfl (Nat.le_of_ble_eq_true rfl) d_O_replace_289 (fun H locs hP hD hS => ?_)
        have hP : va_P D wcl (MO g ad ca (sI gs 21 ((gs.1 23) + x5))) H := hP
        have hD : va_D A (MO g ad ca (sI gs 21 ((gs.1 23) + x5))) := hD
        refine lv_aload_n hx hb d_O_replace_292 rfl (lv_at hl 0 rfl) ?_
        refine lv_iconst (v := 0) hx hb d_O_replace_293 (by decide) ?_
        refine va_put (D := D) (ci := 8) (v := .int 0) (ty := .int) (C := rc_O) (T := ft_O) (N := 42) hx hb hts in_O ty_O tk_O nm_O hown hK hP hD hS 0 rfl rfl 36 (by decide) (hts _ k_691) (fun _ h9 => h9) rfl (by decide +kernel) rfl rfl (Nat.le_of_ble_eq_true rfl) d_O_replace_294 (fun H locs hP hD hS => ?_)
        have hP : va_P D wcl (MO g ad ca (sI (sI gs 21 ((gs.1 23) + x5)) 36 0)) H := hP
        have hD : va_D A (MO g ad ca (sI (sI gs 21 ((gs.1 23) + x5)) 36 0)) := hD
        obtain ⟨e8, e9⟩ := rt_ok hok
        rw [e9] at hP hD
        have hK9 := hK.sub (tys' := []) [] rfl
        exact W.vret hx hb hr (fun t9 ht hW => ⟨⟨(), rfl, trivial, ⟨by rw [ht]; exact hP, va_K.moved hW.alike hK9, hD⟩⟩, hS.F ht⟩) hS.2.2 d_O_replace_297
      · replace hok := ci_f h1 hok
        refine lv_aload_n hx hb d_O_replace_261 rfl (lv_at hl 0 rfl) ?_
        refine va_get (D := D) (ci := 8) (v := .ref (ad 22)) (C := rc_O) (T := ft_O) (N := 42) hx hb hts in_O hown hK hP 0 rfl rfl 22 (by decide) (hts _ k_677) (fun _ h9 => h9) rfl d_O_replace_262 ?_
        refine lv_iload hx hb d_O_replace_265 (lv_at hl 2 rfl) ?_
        refine lv_aload_n hx hb d_O_replace_267 rfl (lv_at hl 0 rfl) ?_
        refine va_get (D := D) (ci := 8) (v := .ref (ad 24)) (C := rc_O) (T := ft_O) (N := 42) hx hb hts in_O hown hK hP 0 rfl rfl 24 (by decide) (hts _ k_679) (fun _ h9 => h9) rfl d_O_replace_268 ?_
        refine lv_iload hx hb d_O_replace_271 (lv_at hl 2 rfl) ?_
        have hi2 := (gd_ok hok).1
        replace hok := (gd_ok hok).2
        refine va_iald hx hb hK hP 14 13 rfl rfl (hi2) d_O_replace_273 ?_
        have hi3 := (gd_ok hok).1
        replace hok := (gd_ok hok).2
        refine va_iast hx hb hK hP hD hS 13 12 rfl rfl hi3 d_O_replace_274 (fun H locs hP hD hS => ?_)
        have hP : va_P D wcl (MO g ad ca (sA gs 22 (upd (gs.2 22) x6.toNatClampNeg ((gs.2 24) x6.toNatClampNeg)))) H := hP
        have hD : va_D A (MO g ad ca (sA gs 22 (upd (gs.2 22) x6.toNatClampNeg ((gs.2 24) x6.toNatClampNeg)))) := hD
        refine lv_iinc (k := 2) (v := (x6 + 1)) hx hb d_O_replace_275 hl rfl (by rfl) (by decide) rfl (fun ls hl => ?_)
        have hl : lv_has ls 7 [(6, .int (x6 + 1)), (0, .ref g), (5, .int x5)] := hl
        refine lv_goto (tgt := 252) hx hb d_O_replace_278 (by decide) ?_
        exact ih252 (sA gs 22 (upd (gs.2 22) x6.toNatClampNeg ((gs.2 24) x6.toNatClampNeg))) x5 (x6 + 1) H locs ls hok hP hD hS (lv_sub hl [1, 2, 0] rfl)
  have j249 : ∀ (gs : OS) (x5 : Int32) (H : Heap) (locs : List Loc) (ls : Array Slot), rf_replace_249 F gs x5 = some (r0, gf) → va_P D wcl (MO g ad ca gs) H → va_D A (MO g ad ca gs) → va_S A s.heap H locs → lv_has ls 7 [(0, .ref g), (5, .int x5)] → W p l e (headSpec (Cond.code y_O_replace b_O_replace 7 none :: wal) ({ frames := 14, cells := 0, slots := 0, locals := 360 })).room s m ([.ref g, .int a1] : List Value).toArray below meth c H locs 0 0 (MQ below (va_Qv (S := Unit) (fun u => True) (fun u t9 => po D (A) ((fun u => (MO g ad ca gf)) u) ((fun u => []) u) t9) (A)) ([.ref g, .int a1] : List Value).toArray s 0 0 A) (F0 m 249 ls []) := by
    intro gs x5 H locs ls hok hP hD hS hl
    rw [rf_replace_249] at hok
    refine lv_iconst (v := 0) hx hb d_O_replace_249 (by decide) ?_
    refine lv_istore hx hb d_O_replace_250 hl (by decide) rfl (fun ls hl => ?_)
    have hl : lv_has ls 7 [(6, .int 0), (0, .ref g), (5, .int x5)] := hl
    exact j252 F gs x5 0 H locs ls hok hP hD hS (lv_sub hl [1, 2, 0] rfl)
  have j216 : ∀ (d216 : Nat) (gs : OS) (x4 : Int32) (x5 : Int32) (x6 : Int32) (H : Heap) (locs : List Loc) (ls : Array Slot), rf_replace_216 F d216 gs x4 x5 x6 = some (r0, gf) → va_P D wcl (MO g ad ca gs) H → va_D A (MO g ad ca gs) → va_S A s.heap H locs → lv_has ls 7 [(0, .ref g), (4, .int x4), (5, .int x5), (6, .int x6)] → W p l e (headSpec (Cond.code y_O_replace b_O_replace 7 none :: wal) ({ frames := 14, cells := 0, slots := 0, locals := 360 })).room s m ([.ref g, .int a1] : List Value).toArray below meth c H locs 0 0 (MQ below (va_Qv (S := Unit) (fun u => True) (fun u t9 => po D (A) ((fun u => (MO g ad ca gf)) u) ((fun u => []) u) t9) (A)) ([.ref g, .int a1] : List Value).toArray s 0 0 A) (F0 m 216 ls []) := by
    intro d216
    induction d216 with
    | zero =>
      intro gs x4 x5 x6 H locs ls hok
      have h9 : (none : RO) = some (r0, gf) := hok
      cases h9
    | succ d216 ih216 =>
      intro gs x4 x5 x6 H locs ls hok hP hD hS hl
      rw [rf_replace_216] at hok
      refine lv_iload hx hb d_O_replace_216 (lv_at hl 3 rfl) ?_
      refine lv_if_lt (tgt := 249) hx hb d_O_replace_218 (by decide) (fun h4 => ?_) (fun h4 => ?_)
      · replace hok := ci_t h4 hok
        exact j249 gs x5 H locs ls hok hP hD hS (lv_sub hl [0, 2] rfl)
      · replace hok := ci_f h4 hok
        refine lv_aload_n hx hb d_O_replace_221 rfl (lv_at hl 0 rfl) ?_
        refine va_get (D := D) (ci := 8) (v := .ref (ad 22)) (C := rc_O) (T := ft_O) (N := 42) hx hb hts in_O hown hK hP 0 rfl rfl 22 (by decide) (hts _ k_677) (fun _ h9 => h9) rfl d_O_replace_222 ?_
        refine lv_aload_n hx hb d_O_replace_225 rfl (lv_at hl 0 rfl) ?_
        refine va_get (D := D) (ci := 8) (v := .int (gs.1 23)) (C := rc_O) (T := ft_O) (N := 42) hx hb hts in_O hown hK hP 0 rfl rfl 23 (by decide) (hts _ k_678) (fun _ h9 => h9) rfl d_O_replace_226 ?_
        refine lv_iload hx hb d_O_replace_229 (lv_at hl 3 rfl) ?_
        refine lv_iadd hx hb d_O_replace_231 ?_
        refine lv_aload_n hx hb d_O_replace_232 rfl (lv_at hl 0 rfl) ?_
        refine va_get (D := D) (ci := 8) (v := .ref (ad 22)) (C := rc_O) (T := ft_O) (N := 42) hx hb hts in_O hown hK hP 0 rfl rfl 22 (by decide) (hts _ k_677) (fun _ h9 => h9) rfl d_O_replace_233 ?_
        refine lv_iload hx hb d_O_replace_236 (lv_at hl 1 rfl) ?_
        refine lv_iload hx hb d_O_replace_238 (lv_at hl 3 rfl) ?_
        refine lv_iadd hx hb d_O_replace_240 ?_
        have hi5 := (gd_ok hok).1
        replace hok := (gd_ok hok).2
        refine va_iald hx hb hK hP 13 12 rfl rfl (hi5) d_O_replace_241 ?_
        have hi6 := (gd_ok hok).1
        replace hok := (gd_ok hok).2
        refine va_iast hx hb hK hP hD hS 13 12 rfl rfl hi6 d_O_replace_242 (fun H locs hP hD hS => ?_)
        have hP : va_P D wcl (MO g ad ca (sA gs 22 (upd (gs.2 22) ((gs.1 23) + x6).toNatClampNeg ((gs.2 22) (x4 + x6).toNatClampNeg)))) H := hP
        have hD : va_D A (MO g ad ca (sA gs 22 (upd (gs.2 22) ((gs.1 23) + x6).toNatClampNeg ((gs.2 22) (x4 + x6).toNatClampNeg)))) := hD
        refine lv_iinc (k := 3) (v := (x6 + (-1))) hx hb d_O_replace_243 hl rfl (by rfl) (by decide) rfl (fun ls hl => ?_)
        have hl : lv_has ls 7 [(6, .int (x6 + (-1))), (0, .ref g), (4, .int x4), (5, .int x5)] := hl
        refine lv_goto (tgt := 216) hx hb d_O_replace_246 (by decide) ?_
        exact ih216 (sA gs 22 (upd (gs.2 22) ((gs.1 23) + x6).toNatClampNeg ((gs.2 22) (x4 + x6).toNatClampNeg))) x4 x5 (x6 + (-1)) H locs ls hok hP hD hS (lv_sub hl [1, 2, 3, 0] rfl)
  have j172 : ∀ (d172 : Nat) (gs : OS) (x4 : Int32) (x5 : Int32) (x6 : Int32) (H : Heap) (locs : List Loc) (ls : Array Slot), rf_replace_172 F d172 gs x4 x5 x6 = some (r0, gf) → va_P D wcl (MO g ad ca gs) H → va_D A (MO g ad ca gs) → va_S A s.heap H locs → lv_has ls 7 [(0, .ref g), (4, .int x4), (5, .int x5), (6, .int x6)] → W p l e (headSpec (Cond.code y_O_replace b_O_replace 7 none :: wal) ({ frames := 14, cells := 0, slots := 0, locals := 360 })).room s m ([.ref g, .int a1] : List Value).toArray below meth c H locs 0 0 (MQ below (va_Qv (S := Unit) (fun u => True) (fun u t9 => po D (A) ((fun u => (MO g ad ca gf)) u) ((fun u => []) u) t9) (A)) ([.ref g, .int a1] : List Value).toArray s 0 0 A) (F0 m 172 ls []) := by
    intro d172
    induction d172 with
    | zero =>
      intro gs x4 x5 x6 H locs ls hok
      have h9 : (none : RO) = some (r0, gf) := hok
      cases h9
    | succ d172 ih172 =>
      intro gs x4 x5 x6 H locs ls hok hP hD hS hl
      rw [rf_replace_172] at hok
      refine lv_iload hx hb d_O_replace_172 (lv_at hl 3 rfl) ?_
      refine lv_iload hx hb d_O_replace_174 (lv_at hl 2 rfl) ?_
      refine lv_icmp_ge (tgt := 207) hx hb d_O_replace_176 (by decide) (fun h7 => ?_) (fun h7 => ?_)
      · replace hok := ci_t h7 hok
        refine lv_goto (tgt := 249) hx hb d_O_replace_207 (by decide) ?_
        exact j249 gs x5 H locs ls hok hP hD hS (lv_sub hl [0, 2] rfl)
      · replace hok := ci_f h7 hok
        refine lv_aload_n hx hb d_O_replace_179 rfl (lv_at hl 0 rfl) ?_
        refine va_get (D := D) (ci := 8) (v := .ref (ad 22)) (C := rc_O) (T := ft_O) (N := 42) hx hb hts in_O hown hK hP 0 rfl rfl 22 (by decide) (hts _ k_677) (fun _ h9 => h9) rfl d_O_replace_180 ?_
        refine lv_aload_n hx hb d_O_replace_183 rfl (lv_at hl 0 rfl) ?_
        refine va_get (D := D) (ci := 8) (v := .int (gs.1 23)) (C := rc_O) (T := ft_O) (N := 42) hx hb hts in_O hown hK hP 0 rfl rfl 23 (by decide) (hts _ k_678) (fun _ h9 => h9) rfl d_O_replace_184 ?_
        refine lv_iload hx hb d_O_replace_187 (lv_at hl 3 rfl) ?_
        refine lv_iadd hx hb d_O_replace_189 ?_
        refine lv_aload_n hx hb d_O_replace_190 rfl (lv_at hl 0 rfl) ?_
        refine va_get (D := D) (ci := 8) (v := .ref (ad 22)) (C := rc_O) (T := ft_O) (N := 42) hx hb hts in_O hown hK hP 0 rfl rfl 22 (by decide) (hts _ k_677) (fun _ h9 => h9) rfl d_O_replace_191 ?_
        refine lv_iload hx hb d_O_replace_194 (lv_at hl 1 rfl) ?_
        refine lv_iload hx hb d_O_replace_196 (lv_at hl 3 rfl) ?_
        refine lv_iadd hx hb d_O_replace_198 ?_
        have hi8 := (gd_ok hok).1
        replace hok := (gd_ok hok).2
        refine va_iald hx hb hK hP 13 12 rfl rfl (hi8) d_O_replace_199 ?_
        have hi9 := (gd_ok hok).1
        replace hok := (gd_ok hok).2
        refine va_iast hx hb hK hP hD hS 13 12 rfl rfl hi9 d_O_replace_200 (fun H locs hP hD hS => ?_)
        have hP : va_P D wcl (MO g ad ca (sA gs 22 (upd (gs.2 22) ((gs.1 23) + x6).toNatClampNeg ((gs.2 22) (x4 + x6).toNatClampNeg)))) H := hP
        have hD : va_D A (MO g ad ca (sA gs 22 (upd (gs.2 22) ((gs.1 23) + x6).toNatClampNeg ((gs.2 22) (x4 + x6).toNatClampNeg)))) := hD
        refine lv_iinc (k := 3) (v := (x6 + 1)) hx hb d_O_replace_201 hl rfl (by rfl) (by decide) rfl (fun ls hl => ?_)
        have hl : lv_has ls 7 [(6, .int (x6 + 1)), (0, .ref g), (4, .int x4), (5, .int x5)] := hl
        refine lv_goto (tgt := 172) hx hb d_O_replace_204 (by decide) ?_
        exact ih172 (sA gs 22 (upd (gs.2 22) ((gs.1 23) + x6).toNatClampNeg ((gs.2 22) (x4 + x6).toNatClampNeg))) x4 x5 (x6 + 1) H locs ls hok hP hD hS (lv_sub hl [1, 2, 3, 0] rfl)
  have j80 : ∀ (gs : OS)  (H : Heap) (locs : List Loc) (ls : Array Slot), rf_replace_80 F gs = some (r0, gf) → va_P D wcl (MO g ad ca gs) H → va_D A (MO g ad ca gs) → va_S A s.heap H locs → lv_has ls 7 [(0, .ref g)] → W p l e (headSpec (Cond.code y_O_replace b_O_replace 7 none :: wal) ({ frames := 14, cells := 0, slots := 0, locals := 360 })).room s m ([.ref g, .int a1] : List Value).toArray below meth c H locs 0 0 (MQ below (va_Qv (S := Unit) (fun u => True) (fun u t9 => po D (A) ((fun u => (MO g ad ca gf)) u) ((fun u => []) u) t9) (A)) ([.ref g, .int a1] : List Value).toArray s 0 0 A) (F0 m 80 ls []) := by
    intro gs  H locs ls hok hP hD hS hl
    rw [rf_replace_80] at hok
    refine lv_aload_n hx hb d_O_replace_80 rfl (lv_at hl 0 rfl) ?_
    refine lv_iconst (v := 2) hx hb d_O_replace_81 (by decide) ?_
    refine va_put (D := D) (ci := 8) (v := .int 2) (ty := .int) (C := rc_O) (T := ft_O) (N := 42) hx hb hts in_O ty_O tk_O nm_O hown hK hP hD hS 0 rfl rfl 40 (by decide) (hts _ k_695) (fun _ h9 => h9) rfl (by decide +kernel) rfl rfl (Nat.le_of_ble_eq_true rfl) d_O_replace_82 (fun H locs hP hD hS => ?_)
    have hP : va_P D wcl (MO g ad ca (sI gs 40 2)) H := hP
    have hD : va_D A (MO g ad ca (sI gs 40 2)) := hD
    obtain ⟨e8, e9⟩ := rt_ok hok
    rw [e9] at hP hD
    have hK9 := hK.sub (tys' := []) [] rfl
    exact W.vret hx hb hr (fun t9 ht hW => ⟨⟨(), rfl, trivial, ⟨by rw [ht]; exact hP, va_K.moved hW.alike hK9, hD⟩⟩, hS.F ht⟩) hS.2.2 d_O_replace_85
  have j63 : ∀ (gs : OS) (x3 : Int32) (H : Heap) (locs : List Loc) (ls : Array Slot), rf_replace_63 F gs x3 = some (r0, gf) → va_P D wcl (MO g ad ca gs) H → va_D A (MO g ad ca gs) → va_S A s.heap H locs → lv_has ls 7 [(0, .ref g), (3, .int x3)] → W p l e (headSpec (Cond.code y_O_replace b_O_replace 7 none :: wal) ({ frames := 14, cells := 0, slots := 0, locals := 360 })).room s m ([.ref g, .int a1] : List Value).toArray below meth c H locs 0 0 (MQ below (va_Qv (S := Unit) (fun u => True) (fun u t9 => po D (A) ((fun u => (MO g ad ca gf)) u) ((fun u => []) u) t9) (A)) ([.ref g, .int a1] : List Value).toArray s 0 0 A) (F0 m 63 ls []) := by
    intro gs x3 H locs ls hok hP hD hS hl
    rw [rf_replace_63] at hok
    refine lv_iload_n hx hb d_O_replace_63 rfl (lv_at hl 1 rfl) ?_
    refine lv_aload_n hx hb d_O_replace_64 rfl (lv_at hl 0 rfl) ?_
    refine va_get (D := D) (ci := 8) (v := .int (gs.1 5)) (C := rc_O) (T := ft_O) (N := 42) hx hb hts in_O hown hK hP 0 rfl rfl 5 (by decide) (hts _ k_660) (fun _ h9 => h9) rfl d_O_replace_65 ?_
    refine lv_icmp_eq (tgt := 80) hx hb d_O_replace_68 (by decide) (fun h10 => ?_) (fun h10 => ?_)
    · replace hok := ci_t h10 hok
      exact j80 gs H locs ls hok hP hD hS (lv_sub hl [0] rfl)
    · replace hok := ci_f h10 hok
      refine lv_aload_n hx hb d_O_replace_71 rfl (lv_at hl 0 rfl) ?_
      refine lv_iload_n hx hb d_O_replace_72 rfl (lv_at hl 1 rfl) ?_
      refine lv_iconst (v := 0) hx hb d_O_replace_73 (by decide) ?_
      replace hok := bd_ok hok
      obtain ⟨r11, gs12, hc13, hok⟩ := hok
      refine cl_i (wc := (MO g ad ca gs)) (wr := []) hP hD hK hS hA [0, 1, 2, 3, 4, 5, 6, 7, 8, 9, 10, 11, 12, 13, 14, 15, 16, 17, 18, 19, 20] [] rfl rfl (by decide) (by decide) (va_runV (As := [.int x3, .int 0]) (rest := []) ⟨hx, hb, hml, hown, hts⟩ (a_goThrough l D H.size g ad ca F gs x3 0 r11 gs12 hc13) (cw_V hts 2 k_944 k_9 k_941 k_943 sel_O_goThrough (by decide +kernel) ⟨Nat.le_of_ble_eq_true rfl, Nat.le_of_ble_eq_true rfl⟩) (pr_V hP hD hK [0, 1, 2, 3, 4, 5, 6, 7, 8, 9, 10, 11, 12, 13, 14, 15, 16, 17, 18, 19, 20] [0, 1, 2, 3, 4, 5, 6, 7, 8, 9, 10, 11, 12, 13, 14, 15, 16, 17, 18, 19] (by decide) rfl rfl (fun U hU hW => trivial) (fun U g mk a h => h) (q0 := 0) (ci := 8) rfl rfl) rfl rfl hl.1 rfl (lv_room (Nat.le_of_ble_eq_true rfl)) d_O_replace_74 ⟨by decide, by decide⟩) (fun v15 u H locs h14 hP hD hK hS => ?_)
      have hP : va_P D wcl (MO g ad ca gs12) H := hP
      have hD : va_D A (MO g ad ca gs12) := hD
      have hK : va_K D wcl (MT ca) s := hK
      have h14 : r11 = v15 := h14
      subst h14
      refine lv_if_ne (tgt := 86) hx hb d_O_replace_77 (by decide) (fun h16 => ?_) (fun h16 => ?_)
      · replace hok := ci_f h16 hok
        refine lv_aload_n hx hb d_O_replace_86 rfl (lv_at hl 0 rfl) ?_
        refine lv_iconst (v := 0) hx hb d_O_replace_87 (by decide) ?_
        refine va_put (D := D) (ci := 8) (v := .int 0) (ty := .int) (C := rc_O) (T := ft_O) (N := 42) hx hb hts in_O ty_O tk_O nm_O hown hK hP hD hS 0 rfl rfl 23 (by decide) (hts _ k_678) (fun _ h9 => h9) rfl (by decide +kernel) rfl rfl (Nat.le_of_ble_eq_true rfl) d_O_replace_88 (fun H locs hP hD hS => ?_)
        have hP : va_P D wcl (MO g ad ca (sI gs12 23 0)) H := hP
        have hD : va_D A (MO g ad ca (sI gs12 23 0)) := hD
        refine lv_aload_n hx hb d_O_replace_91 rfl (lv_at hl 0 rfl) ?_
        refine lv_iconst (v := 0) hx hb d_O_replace_92 (by decide) ?_
        refine va_put (D := D) (ci := 8) (v := .int 0) (ty := .int) (C := rc_O) (T := ft_O) (N := 42) hx hb hts in_O ty_O tk_O nm_O hown hK hP hD hS 0 rfl rfl 25 (by decide) (hts _ k_680) (fun _ h9 => h9) rfl (by decide +kernel) rfl rfl (Nat.le_of_ble_eq_true rfl) d_O_replace_93 (fun H locs hP hD hS => ?_)
        have hP : va_P D wcl (MO g ad ca (sI (sI gs12 23 0) 25 0)) H := hP
        have hD : va_D A (MO g ad ca (sI (sI gs12 23 0) 25 0)) := hD
        refine lv_aload_n hx hb d_O_replace_96 rfl (lv_at hl 0 rfl) ?_
        refine lv_iconst (v := 0) hx hb d_O_replace_97 (by decide) ?_
        refine va_put (D := D) (ci := 8) (v := .int 0) (ty := .int) (C := rc_O) (T := ft_O) (N := 42) hx hb hts in_O ty_O tk_O nm_O hown hK hP hD hS 0 rfl rfl 26 (by decide) (hts _ k_681) (fun _ h9 => h9) rfl (by decide +kernel) rfl rfl (Nat.le_of_ble_eq_true rfl) d_O_replace_98 (fun H locs hP hD hS => ?_)
        have hP : va_P D wcl (MO g ad ca (sI (sI (sI gs12 23 0) 25 0) 26 0)) H := hP
        have hD : va_D A (MO g ad ca (sI (sI (sI gs12 23 0) 25 0) 26 0)) := hD
        refine lv_aload_n hx hb d_O_replace_101 rfl (lv_at hl 0 rfl) ?_
        refine lv_iconst (v := 0) hx hb d_O_replace_102 (by decide) ?_
        refine va_put (D := D) (ci := 8) (v := .int 0) (ty := .int) (C := rc_O) (T := ft_O) (N := 42) hx hb hts in_O ty_O tk_O nm_O hown hK hP hD hS 0 rfl rfl 27 (by decide) (hts _ k_682) (fun _ h9 => h9) rfl (by decide +kernel) rfl rfl (Nat.le_of_ble_eq_true rfl) d_O_replace_103 (fun H locs hP hD hS => ?_)
        have hP : va_P D wcl (MO g ad ca (sI (sI (sI (sI gs12 23 0) 25 0) 26 0) 27 0)) H := hP
        have hD : va_D A (MO g ad ca (sI (sI (sI (sI gs12 23 0) 25 0) 26 0) 27 0)) := hD
        refine lv_aload_n hx hb d_O_replace_106 rfl (lv_at hl 0 rfl) ?_
        refine lv_iconst (v := 0) hx hb d_O_replace_107 (by decide) ?_
        refine va_put (D := D) (ci := 8) (v := .int 0) (ty := .boolean) (C := rc_O) (T := ft_O) (N := 42) hx hb hts in_O ty_O tk_O nm_O hown hK hP hD hS 0 rfl rfl 28 (by decide) (hts _ k_683) (fun _ h9 => h9) rfl (by decide +kernel) rfl rfl (Nat.le_of_ble_eq_true rfl) d_O_replace_108 (fun H locs hP hD hS => ?_)
        have hP : va_P D wcl (MO g ad ca (sI (sI (sI (sI (sI gs12 23 0) 25 0) 26 0) 27 0) 28 0)) H := hP
        have hD : va_D A (MO g ad ca (sI (sI (sI (sI (sI gs12 23 0) 25 0) 26 0) 27 0) 28 0)) := hD
        refine lv_aload_n hx hb d_O_replace_111 rfl (lv_at hl 0 rfl) ?_
        refine lv_iload_n hx hb d_O_replace_112 rfl (lv_at hl 1 rfl) ?_
        refine lv_iconst (v := 1) hx hb d_O_replace_113 (by decide) ?_
        replace hok := bd_ok hok
        obtain ⟨r17, gs18, hc19, hok⟩ := hok
        refine cl_i (wc := (MO g ad ca (sI (sI (sI (sI (sI gs12 23 0) 25 0) 26 0) 27 0) 28 0))) (wr := []) hP hD hK hS hA [0, 1, 2, 3, 4, 5, 6, 7, 8, 9, 10, 11, 12, 13, 14, 15, 16, 17, 18, 19, 20] [] rfl rfl (by decide) (by decide) (va_runV (As := [.int x3, .int 1]) (rest := []) ⟨hx, hb, hml, hown, hts⟩ (a_goThrough l D H.size g ad ca F (sI (sI (sI (sI (sI gs12 23 0) 25 0) 26 0) 27 0) 28 0) x3 1 r17 gs18 hc19) (cw_V hts 2 k_944 k_9 k_941 k_943 sel_O_goThrough (by decide +kernel) ⟨Nat.le_of_ble_eq_true rfl, Nat.le_of_ble_eq_true rfl⟩) (pr_V hP hD hK [0, 1, 2, 3, 4, 5, 6, 7, 8, 9, 10, 11, 12, 13, 14, 15, 16, 17, 18, 19, 20] [0, 1, 2, 3, 4, 5, 6, 7, 8, 9, 10, 11, 12, 13, 14, 15, 16, 17, 18, 19] (by decide) rfl rfl (fun U hU hW => trivial) (fun U g mk a h => h) (q0 := 0) (ci := 8) rfl rfl) rfl rfl hl.1 rfl (lv_room (Nat.le_of_ble_eq_true rfl)) d_O_replace_114 ⟨by decide, by decide⟩) (fun v21 u H locs h20 hP hD hK hS => ?_)
        have hP : va_P D wcl (MO g ad ca gs18) H := hP
        have hD : va_D A (MO g ad ca gs18) := hD
        have hK : va_K D wcl (MT ca) s := hK
        have h20 : r17 = v21 := h20
        subst h20
        refine lv_pop hx hb d_O_replace_117 rfl ?_
        refine lv_aload_n hx hb d_O_replace_118 rfl (lv_at hl 0 rfl) ?_
        refine va_get (D := D) (ci := 8) (v := .int (gs18.1 28)) (C := rc_O) (T := ft_O) (N := 42) hx hb hts in_O hown hK hP 0 rfl rfl 28 (by decide) (hts _ k_683) (fun _ h9 => h9) rfl d_O_replace_119 ?_
        refine lv_if_eq (tgt := 131) hx hb d_O_replace_122 (by decide) (fun h22 => ?_) (fun h22 => ?_)
        · replace hok := ci_t h22 hok
          refine lv_aload_n hx hb d_O_replace_131 rfl (lv_at hl 0 rfl) ?_
          refine lv_dup hx hb d_O_replace_132 rfl ?_
          refine va_get (D := D) (ci := 8) (v := .int (gs18.1 37)) (C := rc_O) (T := ft_O) (N := 42) hx hb hts in_O hown hK hP 0 rfl rfl 37 (by decide) (hts _ k_692) (fun _ h9 => h9) rfl d_O_replace_133 ?_
          refine lv_iconst (v := 1) hx hb d_O_replace_136 (by decide) ?_
          refine lv_iadd hx hb d_O_replace_137 ?_
          refine va_put (D := D) (ci := 8) (v := .int ((gs18.1 37) + 1)) (ty := .int) (C := rc_O) (T := ft_O) (N := 42) hx hb hts in_O ty_O tk_O nm_O hown hK hP hD hS 0 rfl rfl 37 (by decide) (hts _ k_692) (fun _ h9 => h9) rfl (by decide +kernel) rfl rfl (Nat.le_of_ble_eq_true rfl) d_O_replace_138 (fun H locs hP hD hS => ?_)
          have hP : va_P D wcl (MO g ad ca (sI gs18 37 ((gs18.1 37) + 1))) H := hP
          have hD : va_D A (MO g ad ca (sI gs18 37 ((gs18.1 37) + 1))) := hD
          refine lv_aload_n hx hb d_O_replace_141 rfl (lv_at hl 0 rfl) ?_
          refine lv_aload_n hx hb d_O_replace_142 rfl (lv_at hl 0 rfl) ?_
          refine va_get (D := D) (ci := 8) (v := .int (gs18.1 36)) (C := rc_O) (T := ft_O) (N := 42) hx hb hts in_O hown hK hP 0 rfl rfl 36 (by decide) (hts _ k_691) (fun _ h9 => h9) rfl d_O_replace_143 ?_
          replace hok := bd_ok hok
          obtain ⟨r23, gs24, hc25, hok⟩ := hok
          refine cl_i (wc := (MO g ad ca (sI gs18 37 ((gs18.1 37) + 1)))) (wr := []) hP hD hK hS hA [0, 1, 2, 3, 4, 5, 6, 7, 8, 9, 10, 11, 12, 13, 14, 15, 16, 17, 18, 19, 20] [] rfl rfl (by decide) (by decide) (va_runV (As := [.int (gs18.1 36)]) (rest := []) ⟨hx, hb, hml, hown, hts⟩ (a_skip l D H.size g ad ca F (sI gs18 37 ((gs18.1 37) + 1)) (gs18.1 36) r23 gs24 hc25) (cw_V hts 1 k_912 k_9 k_909 k_911 sel_O_skip (by decide +kernel) ⟨Nat.le_of_ble_eq_true rfl, Nat.le_of_ble_eq_true rfl⟩) (pr_V hP hD hK [0, 1, 2, 3, 4, 5, 6, 7, 8, 9, 10, 11, 12, 13, 14, 15, 16, 17, 18, 19, 20] [0, 1, 2, 3, 4, 5, 6, 7, 8, 9, 10, 11, 12, 13, 14, 15, 16, 17, 18, 19] (by decide) rfl rfl (fun U hU hW => trivial) (fun U g mk a h => h) (q0 := 0) (ci := 8) rfl rfl) rfl rfl hl.1 rfl (lv_room (Nat.le_of_ble_eq_true rfl)) d_O_replace_146 ⟨by decide, by decide⟩) (fun v27 u H locs h26 hP hD hK hS => ?_)
          have hP : va_P D wcl (MO g ad ca gs24) H := hP
          have hD : va_D A (MO g ad ca gs24) := hD
          have hK : va_K D wcl (MT ca) s := hK
          have h26 : r23 = v27 := h26
          subst h26
          refine lv_istore hx hb d_O_replace_149 hl (by decide) rfl (fun ls hl => ?_)
          have hl : lv_has ls 7 [(4, .int r23), (0, .ref g), (3, .int x3)] := hl
          refine lv_aload_n hx hb d_O_replace_151 rfl (lv_at hl 1 rfl) ?_
          refine va_get (D := D) (ci := 8) (v := .int (gs24.1 21)) (C := rc_O) (T := ft_O) (N := 42) hx hb hts in_O hown hK hP 0 rfl rfl 21 (by decide) (hts _ k_676) (fun _ h9 => h9) rfl d_O_replace_152 ?_
          refine lv_iload hx hb d_O_replace_155 (lv_at hl 0 rfl) ?_
          refine lv_isub hx hb d_O_replace_157 ?_
          refine lv_istore hx hb d_O_replace_158 hl (by decide) rfl (fun ls hl => ?_)
          have hl : lv_has ls 7 [(5, .int ((gs24.1 21) - r23)), (4, .int r23), (0, .ref g), (3, .int x3)] := hl
          refine lv_aload_n hx hb d_O_replace_160 rfl (lv_at hl 2 rfl) ?_
          refine va_get (D := D) (ci := 8) (v := .int (gs24.1 23)) (C := rc_O) (T := ft_O) (N := 42) hx hb hts in_O hown hK hP 0 rfl rfl 23 (by decide) (hts _ k_678) (fun _ h9 => h9) rfl d_O_replace_161 ?_
          refine lv_iload hx hb d_O_replace_164 (lv_at hl 1 rfl) ?_
          refine lv_icmp_gt (tgt := 210) hx hb d_O_replace_166 (by decide) (fun h28 => ?_) (fun h28 => ?_)
          · replace hok := ci_t h28 hok
            refine lv_iload hx hb d_O_replace_210 (lv_at hl 0 rfl) ?_
            refine lv_iconst (v := 1) hx hb d_O_replace_212 (by decide) ?_
            refine lv_isub hx hb d_O_replace_213 ?_
            refine lv_istore hx hb d_O_replace_214 hl (by decide) rfl (fun ls hl => ?_)
            have hl : lv_has ls 7 [(6, .int (((gs24.1 21) - r23) - 1)), (5, .int ((gs24.1 21) - r23)), (4, .int r23), (0, .ref g), (3, .int x3)] := hl
            exact j216 F gs24 r23 ((gs24.1 21) - r23) (((gs24.1 21) - r23) - 1) H locs ls hok hP hD hS (lv_sub hl [3, 2, 1, 0] rfl)
          · replace hok := ci_f h28 hok
            refine lv_iconst (v := 0) hx hb d_O_replace_169 (by decide) ?_
            refine lv_istore hx hb d_O_replace_170 hl (by decide) rfl (fun ls hl => ?_)
            have hl : lv_has ls 7 [(6, .int 0), (5, .int ((gs24.1 21) - r23)), (4, .int r23), (0, .ref g), (3, .int x3)] := hl
            exact j172 F gs24 r23 ((gs24.1 21) - r23) 0 H locs ls hok hP hD hS (lv_sub hl [3, 2, 1, 0] rfl)
        · replace hok := ci_f h22 hok
          refine lv_aload_n hx hb d_O_replace_125 rfl (lv_at hl 0 rfl) ?_
          refine lv_iconst (v := 3) hx hb d_O_replace_126 (by decide) ?_
          refine va_put (D := D) (ci := 8) (v := .int 3) (ty := .int) (C := rc_O) (T := ft_O) (N := 42) hx hb hts in_O ty_O tk_O nm_O hown hK hP hD hS 0 rfl rfl 40 (by decide) (hts _ k_695) (fun _ h9 => h9) rfl (by decide +kernel) rfl rfl (Nat.le_of_ble_eq_true rfl) d_O_replace_127 (fun H locs hP hD hS => ?_)
          have hP : va_P D wcl (MO g ad ca (sI gs18 40 3)) H := hP
          have hD : va_D A (MO g ad ca (sI gs18 40 3)) := hD
          obtain ⟨e8, e9⟩ := rt_ok hok
          rw [e9] at hP hD
          have hK9 := hK.sub (tys' := []) [] rfl
          exact W.vret hx hb hr (fun t9 ht hW => ⟨⟨(), rfl, trivial, ⟨by rw [ht]; exact hP, va_K.moved hW.alike hK9, hD⟩⟩, hS.F ht⟩) hS.2.2 d_O_replace_130
      · replace hok := ci_t h16 hok
        exact j80 gs12 H locs ls hok hP hD hS (lv_sub hl [0] rfl)
  have j31 : ∀ (d31 : Nat) (gs : OS) (x2 : Int32) (x3 : Int32) (H : Heap) (locs : List Loc) (ls : Array Slot), rf_replace_31 F d31 gs x2 x3 = some (r0, gf) → va_P D wcl (MO g ad ca gs) H → va_D A (MO g ad ca gs) → va_S A s.heap H locs → lv_has ls 7 [(0, .ref g), (2, .int x2), (3, .int x3)] → W p l e (headSpec (Cond.code y_O_replace b_O_replace 7 none :: wal) ({ frames := 14, cells := 0, slots := 0, locals := 360 })).room s m ([.ref g, .int a1] : List Value).toArray below meth c H locs 0 0 (MQ below (va_Qv (S := Unit) (fun u => True) (fun u t9 => po D (A) ((fun u => (MO g ad ca gf)) u) ((fun u => []) u) t9) (A)) ([.ref g, .int a1] : List Value).toArray s 0 0 A) (F0 m 31 ls []) := by
    intro d31
    induction d31 with
    | zero =>
      intro gs x2 x3 H locs ls hok
      have h9 : (none : RO) = some (r0, gf) := hok
      cases h9
    | succ d31 ih31 =>
      have j57 : ∀ (gs : OS) (x2 : Int32) (x3 : Int32) (H : Heap) (locs : List Loc) (ls : Array Slot), rf_replace_57 F (rf_replace_31 F d31) gs x2 x3 = some (r0, gf) → va_P D wcl (MO g ad ca gs) H → va_D A (MO g ad ca gs) → va_S A s.heap H locs → lv_has ls 7 [(0, .ref g), (2, .int x2), (3, .int x3)] → W p l e (headSpec (Cond.code y_O_replace b_O_replace 7 none :: wal) ({ frames := 14, cells := 0, slots := 0, locals := 360 })).room s m ([.ref g, .int a1] : List Value).toArray below meth c H locs 0 0 (MQ below (va_Qv (S := Unit) (fun u => True) (fun u t9 => po D (A) ((fun u => (MO g ad ca gf)) u) ((fun u => []) u) t9) (A)) ([.ref g, .int a1] : List Value).toArray s 0 0 A) (F0 m 57 ls []) := by
        intro gs x2 x3 H locs ls hok hP hD hS hl
        rw [rf_replace_57] at hok
        refine lv_iinc (k := 2) (v := (x3 + 1)) hx hb d_O_replace_57 hl rfl (by rfl) (by decide) rfl (fun ls hl => ?_)
        have hl : lv_has ls 7 [(3, .int (x3 + 1)), (0, .ref g), (2, .int x2)] := hl
        refine lv_goto (tgt := 31) hx hb d_O_replace_60 (by decide) ?_
        exact ih31 gs x2 (x3 + 1) H locs ls hok hP hD hS (lv_sub hl [1, 2, 0] rfl)
      intro gs x2 x3 H locs ls hok hP hD hS hl
      rw [rf_replace_31] at hok
      refine lv_iload_n hx hb d_O_replace_31 rfl (lv_at hl 2 rfl) ?_
      refine lv_aload_n hx hb d_O_replace_32 rfl (lv_at hl 0 rfl) ?_
      refine va_get (D := D) (ci := 8) (v := .int (gs.1 5)) (C := rc_O) (T := ft_O) (N := 42) hx hb hts in_O hown hK hP 0 rfl rfl 5 (by decide) (hts _ k_660) (fun _ h9 => h9) rfl d_O_replace_33 ?_
      refine lv_icmp_ge (tgt := 63) hx hb d_O_replace_36 (by decide) (fun h29 => ?_) (fun h29 => ?_)
      · replace hok := ci_t h29 hok
        exact j63 gs x3 H locs ls hok hP hD hS (lv_sub hl [0, 2] rfl)
      · replace hok := ci_f h29 hok
        refine lv_aload_n hx hb d_O_replace_39 rfl (lv_at hl 0 rfl) ?_
        refine va_get (D := D) (ci := 8) (v := .ref (ad 6)) (C := rc_O) (T := ft_O) (N := 42) hx hb hts in_O hown hK hP 0 rfl rfl 6 (by decide) (hts _ k_661) (fun _ h9 => h9) rfl d_O_replace_40 ?_
        refine lv_iload_n hx hb d_O_replace_43 rfl (lv_at hl 2 rfl) ?_
        have hi30 := (gd_ok hok).1
        replace hok := (gd_ok hok).2
        refine va_iald hx hb hK hP 3 2 rfl rfl (hi30) d_O_replace_44 ?_
        refine lv_iload_n hx hb d_O_replace_45 rfl (lv_at hl 1 rfl) ?_
        refine lv_icmp_ne (tgt := 57) hx hb d_O_replace_46 (by decide) (fun h31 => ?_) (fun h31 => ?_)
        · replace hok := ci_f h31 hok
          exact j57 gs x2 x3 H locs ls hok hP hD hS hl
        · replace hok := ci_t h31 hok
          refine lv_aload_n hx hb d_O_replace_49 rfl (lv_at hl 0 rfl) ?_
          refine lv_iload_n hx hb d_O_replace_50 rfl (lv_at hl 2 rfl) ?_
          replace hok := bd_ok hok
          obtain ⟨r32, gs33, hc34, hok⟩ := hok
          refine cl_i (wc := (MO g ad ca gs)) (wr := []) hP hD hK hS hA [0, 1, 2, 3, 4, 5, 6, 7, 8, 9, 10, 11, 12, 13, 14, 15, 16, 17, 18, 19, 20] [] rfl rfl (by decide) (by decide) (va_runV (As := [.int x3]) (rest := []) ⟨hx, hb, hml, hown, hts⟩ (a_matches l D H.size g ad ca F gs x3 r32 gs33 hc34) (cw_V hts 1 k_928 k_9 k_925 k_927 sel_O_matches (by decide +kernel) ⟨Nat.le_of_ble_eq_true rfl, Nat.le_of_ble_eq_true rfl⟩) (pr_V hP hD hK [0, 1, 2, 3, 4, 5, 6, 7, 8, 9, 10, 11, 12, 13, 14, 15, 16, 17, 18, 19, 20] [0, 1, 2, 3, 4, 5, 6, 7, 8, 9, 10, 11, 12, 13, 14, 15, 16, 17, 18, 19] (by decide) rfl rfl (fun U hU hW => trivial) (fun U g mk a h => h) (q0 := 0) (ci := 8) rfl rfl) rfl rfl hl.1 rfl (lv_room (Nat.le_of_ble_eq_true rfl)) d_O_replace_51 ⟨by decide, by decide⟩) (fun v36 u H locs h35 hP hD hK hS => ?_)
          have hP : va_P D wcl (MO g ad ca gs33) H := hP
          have hD : va_D A (MO g ad ca gs33) := hD
          have hK : va_K D wcl (MT ca) s := hK
          have h35 : r32 = v36 := h35
          subst h35
          refine lv_if_ne (tgt := 63) hx hb d_O_replace_54 (by decide) (fun h37 => ?_) (fun h37 => ?_)
          · replace hok := ci_f h37 hok
            exact j63 gs33 x3 H locs ls hok hP hD hS (lv_sub hl [0, 2] rfl)
          · replace hok := ci_t h37 hok
            exact j57 gs33 x2 x3 H locs ls hok hP hD hS hl
  refine lv_aload_n hx hb d_O_replace_0 rfl (lv_at hl 0 rfl) ?_
  refine va_get (D := D) (ci := 8) (v := .int (gs.1 37)) (C := rc_O) (T := ft_O) (N := 42) hx hb hts in_O hown hK hP 0 rfl rfl 37 (by decide) (hts _ k_692) (fun _ h9 => h9) rfl d_O_replace_1 ?_
  refine lv_iload_n hx hb d_O_replace_4 rfl (lv_at hl 1 rfl) ?_
  refine lv_icmp_ne (tgt := 14) hx hb d_O_replace_5 (by decide) (fun h38 => ?_) (fun h38 => ?_)
  · replace hok := ci_f h38 hok
    refine lv_aload_n hx hb d_O_replace_14 rfl (lv_at hl 0 rfl) ?_
    refine va_get (D := D) (ci := 8) (v := .ref (ad 22)) (C := rc_O) (T := ft_O) (N := 42) hx hb hts in_O hown hK hP 0 rfl rfl 22 (by decide) (hts _ k_677) (fun _ h9 => h9) rfl d_O_replace_15 ?_
    refine lv_aload_n hx hb d_O_replace_18 rfl (lv_at hl 0 rfl) ?_
    refine va_get (D := D) (ci := 8) (v := .int (gs.1 36)) (C := rc_O) (T := ft_O) (N := 42) hx hb hts in_O hown hK hP 0 rfl rfl 36 (by decide) (hts _ k_691) (fun _ h9 => h9) rfl d_O_replace_19 ?_
    refine lv_iconst (v := 1) hx hb d_O_replace_22 (by decide) ?_
    refine lv_iadd hx hb d_O_replace_23 ?_
    have hi39 := (gd_ok hok).1
    replace hok := (gd_ok hok).2
    refine va_iald hx hb hK hP 13 12 rfl rfl (hi39) d_O_replace_24 ?_
    replace hok := bd_ok hok
    obtain ⟨r40, gs41, hc42, hok⟩ := hok
    refine cl_i (wc := (MO g ad ca gs)) (wr := []) hP hD hK hS hA [0, 1, 2, 3, 4, 5, 6, 7, 8, 9, 10, 11, 12, 13, 14, 15, 16, 17, 18, 19, 20] [] rfl rfl (by decide) (by decide) (va_runS (As := [.int ((gs.2 22) ((gs.1 36) + 1).toNatClampNeg)]) (rest := []) ⟨hx, hb, hml, hown, hts⟩ (a_letterOf l D s.heap.size g ad ca F gs ((gs.2 22) ((gs.1 36) + 1).toNatClampNeg) r40 gs41 hc42) (cw_S hts 1 k_830 k_9 k_828 k_829 (by decide +kernel) ⟨Nat.le_of_ble_eq_true rfl, Nat.le_of_ble_eq_true rfl⟩) (pr_S hP hD hK [0, 1, 2, 3, 4, 5, 6, 7, 8, 9, 10, 11, 12, 13, 14, 15, 16, 17, 18, 19, 20] [0, 1, 2, 3, 4, 5, 6, 7, 8, 9, 10, 11, 12, 13, 14, 15, 16, 17, 18, 19] (by decide) rfl rfl (fun U hU hW => trivial) (fun U g mk a h => h)) rfl rfl hl.1 rfl (lv_room (Nat.le_of_ble_eq_true rfl)) d_O_replace_25 ⟨by decide, by decide⟩) (fun v44 u H locs h43 hP hD hK hS => ?_)
    have hP : va_P D wcl (MO g ad ca gs41) H := hP
    have hD : va_D A (MO g ad ca gs41) := hD
    have hK : va_K D wcl (MT ca) s := hK
    have h43 : r40 = v44 := h43
    subst h43
    refine lv_istore_n hx hb d_O_replace_28 rfl hl (by decide) rfl (fun ls hl => ?_)
    have hl : lv_has ls 7 [(2, .int r40), (0, .ref g), (1, .int a1)] := hl
    refine lv_iconst (v := 0) hx hb d_O_replace_29 (by decide) ?_
    refine lv_istore_n hx hb d_O_replace_30 rfl hl (by decide) rfl (fun ls hl => ?_)
    have hl : lv_has ls 7 [(3, .int 0), (2, .int r40), (0, .ref g), (1, .int a1)] := hl
    exact j31 F gs41 r40 0 H locs ls hok hP hD hS (lv_sub hl [2, 1, 0] rfl)
  · replace hok := ci_t h38 hok
    refine lv_aload_n hx hb d_O_replace_8 rfl (lv_at hl 0 rfl) ?_
    refine lv_iconst (v := 3) hx hb d_O_replace_9 (by decide) ?_
    refine va_put (D := D) (ci := 8) (v := .int 3) (ty := .int) (C := rc_O) (T := ft_O) (N := 42) hx hb hts in_O ty_O tk_O nm_O hown hK hP hD hS 0 rfl rfl 40 (by decide) (hts _ k_695) (fun _ h9 => h9) rfl (by decide +kernel) rfl rfl (Nat.le_of_ble_eq_true rfl) d_O_replace_10 (fun H locs hP hD hS => ?_)
    have hP : va_P D wcl (MO g ad ca (sI gs 40 3)) H := hP
    have hD : va_D A (MO g ad ca (sI gs 40 3)) := hD
    obtain ⟨e8, e9⟩ := rt_ok hok
    rw [e9] at hP hD
    have hK9 := hK.sub (tys' := []) [] rfl
    exact W.vret hx hb hr (fun t9 ht hW => ⟨⟨(), rfl, trivial, ⟨by rw [ht]; exact hP, va_K.moved hW.alike hK9, hD⟩⟩, hS.F ht⟩) hS.2.2 d_O_replace_13

set_option maxHeartbeats 4000000 in
set_option maxRecDepth 100000 in
theorem a_expandList (l : Launch) (D : va_G) (sz : Nat) (g : Nat) (ad : Nat → Nat) (ca : Nat → ClassId) (F : Nat) (gs : OS) (a1 : Int32) (r0 : Int32) (gf : OS) (hok : rf_expandList F gs a1 = some (r0, gf)) : Met l y_O_expandList (Cond.code y_O_expandList b_O_expandList 3 none :: wal) ({ frames := 15, cells := 0, slots := 0, locals := 420 }) (va_Pc [.ref g, .int a1] (pr D sz (MO g ad ca gs) (MT ca) (fun _ => True))) (va_Qv (S := Unit) (fun u => True) (fun u t9 => po D (va_A (MO g ad ca gs) sz) ((fun u => (MO g ad ca gf)) u) ((fun u => []) u) t9) (va_A (MO g ad ca gs) sz)) 0 0 (va_A (MO g ad ca gs) sz) := by
  refine Met.ofW (cc := b_O_expandList) (maxL := 3) (ret := none) (by decide) rfl ?_
  intro p e s m args below meth c s₁ B hml hv
  obtain ⟨rfl, hsz, hP, hK, hD0, hE⟩ := hv
  have hx := B.exec
  have hb := B.bytes
  have hr := B.returns
  have hts0 := atoms_spec (ws := Cond.code y_O_expandList b_O_expandList 3 none :: wal) B.pre
  have hts : ∀ w ∈ wal, w.before _ s = true := fun w h => hts0 w (List.mem_cons_of_mem _ h)
  have hown : s.vm.findClass rc_O = some m.cls := findClass_of_methodNamed B.named
  have hlocks := B.notSynchronized
  subst hsz
  have hD := hD0.self (sz := s.heap.size)
  generalize hAe : va_A (MO g ad ca gs) s.heap.size = A at hD ⊢
  have hA : ∀ q : Nat, s.heap.size ≤ q → A q := fun q h => by rw [← hAe]; exact Or.inr h
  have hS : va_S A s.heap s.heap [] := va_S.rf
  have hl := lv_entry ([.ref g, .int a1]) (n := 3) (Nat.le_of_ble_eq_true rfl)
  rw [lg_entry_eq]
  generalize (lg_sl ([.ref g, .int a1]) ++ List.replicate (3 - (lg_sl ([.ref g, .int a1])).length) Slot.unset).toArray = ls at hl ⊢
  have hl : lv_has ls 3 [(0, .ref g), (1, .int a1)] := hl
  have j93 : ∀ (gs : OS)  (H : Heap) (locs : List Loc) (ls : Array Slot), rf_expandList_93 F gs = some (r0, gf) → va_P D wcl (MO g ad ca gs) H → va_D A (MO g ad ca gs) → va_S A s.heap H locs → lv_has ls 3 [(0, .ref g)] → W p l e (headSpec (Cond.code y_O_expandList b_O_expandList 3 none :: wal) ({ frames := 15, cells := 0, slots := 0, locals := 420 })).room s m ([.ref g, .int a1] : List Value).toArray below meth c H locs 0 0 (MQ below (va_Qv (S := Unit) (fun u => True) (fun u t9 => po D (A) ((fun u => (MO g ad ca gf)) u) ((fun u => []) u) t9) (A)) ([.ref g, .int a1] : List Value).toArray s 0 0 A) (F0 m 93 ls []) := by
    intro gs  H locs ls hok hP hD hS hl
    rw [rf_expandList_93] at hok
    obtain ⟨e8, e9⟩ := rt_ok hok
    rw [e9] at hP hD
    have hK9 := hK.sub (tys' := []) [] rfl
    exact W.vret hx hb hr (fun t9 ht hW => ⟨⟨(), rfl, trivial, ⟨by rw [ht]; exact hP, va_K.moved hW.alike hK9, hD⟩⟩, hS.F ht⟩) hS.2.2 d_O_expandList_93
  have j73 : ∀ (gs : OS)  (H : Heap) (locs : List Loc) (ls : Array Slot), rf_expandList_73 F gs = some (r0, gf) → va_P D wcl (MO g ad ca gs) H → va_D A (MO g ad ca gs) → va_S A s.heap H locs → lv_has ls 3 [(0, .ref g)] → W p l e (headSpec (Cond.code y_O_expandList b_O_expandList 3 none :: wal) ({ frames := 15, cells := 0, slots := 0, locals := 420 })).room s m ([.ref g, .int a1] : List Value).toArray below meth c H locs 0 0 (MQ below (va_Qv (S := Unit) (fun u => True) (fun u t9 => po D (A) ((fun u => (MO g ad ca gf)) u) ((fun u => []) u) t9) (A)) ([.ref g, .int a1] : List Value).toArray s 0 0 A) (F0 m 73 ls []) := by
    intro gs  H locs ls hok hP hD hS hl
    rw [rf_expandList_73] at hok
    refine lv_aload_n hx hb d_O_expandList_73 rfl (lv_at hl 0 rfl) ?_
    refine lv_iconst (v := 1) hx hb d_O_expandList_74 (by decide) ?_
    replace hok := bd_ok hok
    obtain ⟨r1, gs2, hc3, hok⟩ := hok
    refine cl_v (wc := (MO g ad ca gs)) (wr := []) hP hD hK hS hA [0, 1, 2, 3, 4, 5, 6, 7, 8, 9, 10, 11, 12, 13, 14, 15, 16, 17, 18, 19, 20] [] rfl rfl (by decide) (by decide) (va_runV (As := [.int 1]) (rest := []) ⟨hx, hb, hml, hown, hts⟩ (a_put l D H.size g ad ca F gs 1 r1 gs2 hc3) (cw_V hts 1 k_900 k_9 k_897 k_899 sel_O_put (by decide +kernel) ⟨Nat.le_of_ble_eq_true rfl, Nat.le_of_ble_eq_true rfl⟩) (pr_V hP hD hK [0, 1, 2, 3, 4, 5, 6, 7, 8, 9, 10, 11, 12, 13, 14, 15, 16, 17, 18, 19, 20] [0, 1, 2, 3, 4, 5, 6, 7, 8, 9, 10, 11, 12, 13, 14, 15, 16, 17, 18, 19] (by decide) rfl rfl (fun U hU hW => trivial) (fun U g mk a h => h) (q0 := 0) (ci := 8) rfl rfl) rfl rfl hl.1 rfl (lv_room (Nat.le_of_ble_eq_true rfl)) d_O_expandList_75 ⟨by decide, by decide⟩) (fun u H locs h4 hP hD hK hS => ?_)
    have hP : va_P D wcl (MO g ad ca gs2) H := hP
    have hD : va_D A (MO g ad ca gs2) := hD
    have hK : va_K D wcl (MT ca) s := hK
    refine lv_aload_n hx hb d_O_expandList_78 rfl (lv_at hl 0 rfl) ?_
    refine lv_iconst (v := 0) hx hb d_O_expandList_79 (by decide) ?_
    replace hok := bd_ok hok
    obtain ⟨r6, gs7, hc8, hok⟩ := hok
    refine cl_v (wc := (MO g ad ca gs2)) (wr := []) hP hD hK hS hA [0, 1, 2, 3, 4, 5, 6, 7, 8, 9, 10, 11, 12, 13, 14, 15, 16, 17, 18, 19, 20] [] rfl rfl (by decide) (by decide) (va_runV (As := [.int 0]) (rest := []) ⟨hx, hb, hml, hown, hts⟩ (a_openRow l D H.size g ad ca F gs2 0 r6 gs7 hc8) (cw_V hts 1 k_916 k_9 k_913 k_915 sel_O_openRow (by decide +kernel) ⟨Nat.le_of_ble_eq_true rfl, Nat.le_of_ble_eq_true rfl⟩) (pr_V hP hD hK [0, 1, 2, 3, 4, 5, 6, 7, 8, 9, 10, 11, 12, 13, 14, 15, 16, 17, 18, 19, 20] [0, 1, 2, 3, 4, 5, 6, 7, 8, 9, 10, 11, 12, 13, 14, 15, 16, 17, 18, 19] (by decide) rfl rfl (fun U hU hW => trivial) (fun U g mk a h => h) (q0 := 0) (ci := 8) rfl rfl) rfl rfl hl.1 rfl (lv_room (Nat.le_of_ble_eq_true rfl)) d_O_expandList_80 ⟨by decide, by decide⟩) (fun u H locs h9 hP hD hK hS => ?_)
    have hP : va_P D wcl (MO g ad ca gs7) H := hP
    have hD : va_D A (MO g ad ca gs7) := hD
    have hK : va_K D wcl (MT ca) s := hK
    refine lv_aload_n hx hb d_O_expandList_83 rfl (lv_at hl 0 rfl) ?_
    refine lv_dup hx hb d_O_expandList_84 rfl ?_
    refine va_get (D := D) (ci := 8) (v := .int (gs7.1 36)) (C := rc_O) (T := ft_O) (N := 42) hx hb hts in_O hown hK hP 0 rfl rfl 36 (by decide) (hts _ k_691) (fun _ h9 => h9) rfl d_O_expandList_85 ?_
    refine lv_iconst (v := 1) hx hb d_O_expandList_88 (by decide) ?_
    refine lv_iadd hx hb d_O_expandList_89 ?_
    refine va_put (D := D) (ci := 8) (v := .int ((gs7.1 36) + 1)) (ty := .int) (C := rc_O) (T := ft_O) (N := 42) hx hb hts in_O ty_O tk_O nm_O hown hK hP hD hS 0 rfl rfl 36 (by decide) (hts _ k_691) (fun _ h9 => h9) rfl (by decide +kernel) rfl rfl (Nat.le_of_ble_eq_true rfl) d_O_expandList_90 (fun H locs hP hD hS => ?_)
    have hP : va_P D wcl (MO g ad ca (sI gs7 36 ((gs7.1 36) + 1))) H := hP
    have hD : va_D A (MO g ad ca (sI gs7 36 ((gs7.1 36) + 1))) := hD
    exact j93 (sI gs7 36 ((gs7.1 36) + 1)) H locs ls hok hP hD hS hl
  refine lv_aload_n hx hb d_O_expandList_0 rfl (lv_at hl 0 rfl) ?_
  refine va_get (D := D) (ci := 8) (v := .ref (ad 22)) (C := rc_O) (T := ft_O) (N := 42) hx hb hts in_O hown hK hP 0 rfl rfl 22 (by decide) (hts _ k_677) (fun _ h9 => h9) rfl d_O_expandList_1 ?_
  refine lv_aload_n hx hb d_O_expandList_4 rfl (lv_at hl 0 rfl) ?_
  refine va_get (D := D) (ci := 8) (v := .int (gs.1 36)) (C := rc_O) (T := ft_O) (N := 42) hx hb hts in_O hown hK hP 0 rfl rfl 36 (by decide) (hts _ k_691) (fun _ h9 => h9) rfl d_O_expandList_5 ?_
  refine lv_iconst (v := 1) hx hb d_O_expandList_8 (by decide) ?_
  refine lv_iadd hx hb d_O_expandList_9 ?_
  have hi11 := (gd_ok hok).1
  replace hok := (gd_ok hok).2
  refine va_iald hx hb hK hP 13 12 rfl rfl (hi11) d_O_expandList_10 ?_
  refine lv_istore_n hx hb d_O_expandList_11 rfl hl (by decide) rfl (fun ls hl => ?_)
  have hl : lv_has ls 3 [(2, .int ((gs.2 22) ((gs.1 36) + 1).toNatClampNeg)), (0, .ref g), (1, .int a1)] := hl
  refine lv_iload_n hx hb d_O_expandList_12 rfl (lv_at hl 0 rfl) ?_
  refine lv_iconst (v := 2) hx hb d_O_expandList_13 (by decide) ?_
  refine lv_icmp_ne (tgt := 25) hx hb d_O_expandList_14 (by decide) (fun h12 => ?_) (fun h12 => ?_)
  · replace hok := ci_f h12 hok
    refine lv_iload_n hx hb d_O_expandList_25 rfl (lv_at hl 0 rfl) ?_
    replace hok := bd_ok hok
    obtain ⟨r13, gs14, hc15, hok⟩ := hok
    refine cl_i (wc := (MO g ad ca gs)) (wr := []) hP hD hK hS hA [0, 1, 2, 3, 4, 5, 6, 7, 8, 9, 10, 11, 12, 13, 14, 15, 16, 17, 18, 19, 20] [] rfl rfl (by decide) (by decide) (va_runS (As := [.int ((gs.2 22) ((gs.1 36) + 1).toNatClampNeg)]) (rest := []) ⟨hx, hb, hml, hown, hts⟩ (a_isKeyword l D s.heap.size g ad ca F gs ((gs.2 22) ((gs.1 36) + 1).toNatClampNeg) r13 gs14 hc15) (cw_S hts 1 k_848 k_9 k_846 k_847 (by decide +kernel) ⟨Nat.le_of_ble_eq_true rfl, Nat.le_of_ble_eq_true rfl⟩) (pr_S hP hD hK [0, 1, 2, 3, 4, 5, 6, 7, 8, 9, 10, 11, 12, 13, 14, 15, 16, 17, 18, 19, 20] [0, 1, 2, 3, 4, 5, 6, 7, 8, 9, 10, 11, 12, 13, 14, 15, 16, 17, 18, 19] (by decide) rfl rfl (fun U hU hW => trivial) (fun U g mk a h => h)) rfl rfl hl.1 rfl (lv_room (Nat.le_of_ble_eq_true rfl)) d_O_expandList_26 ⟨by decide, by decide⟩) (fun v17 u H locs h16 hP hD hK hS => ?_)
    have hP : va_P D wcl (MO g ad ca gs14) H := hP
    have hD : va_D A (MO g ad ca gs14) := hD
    have hK : va_K D wcl (MT ca) s := hK
    have h16 : r13 = v17 := h16
    subst h16
    refine lv_if_eq (tgt := 39) hx hb d_O_expandList_29 (by decide) (fun h18 => ?_) (fun h18 => ?_)
    · replace hok := ci_t h18 hok
      refine lv_iload_n hx hb d_O_expandList_39 rfl (lv_at hl 0 rfl) ?_
      replace hok := bd_ok hok
      obtain ⟨r19, gs20, hc21, hok⟩ := hok
      refine cl_i (wc := (MO g ad ca gs14)) (wr := []) hP hD hK hS hA [0, 1, 2, 3, 4, 5, 6, 7, 8, 9, 10, 11, 12, 13, 14, 15, 16, 17, 18, 19, 20] [] rfl rfl (by decide) (by decide) (va_runS (As := [.int ((gs.2 22) ((gs.1 36) + 1).toNatClampNeg)]) (rest := []) ⟨hx, hb, hml, hown, hts⟩ (a_isName l D H.size g ad ca F gs14 ((gs.2 22) ((gs.1 36) + 1).toNatClampNeg) r19 gs20 hc21) (cw_S hts 1 k_811 k_9 k_809 k_810 (by decide +kernel) ⟨Nat.le_of_ble_eq_true rfl, Nat.le_of_ble_eq_true rfl⟩) (pr_S hP hD hK [0, 1, 2, 3, 4, 5, 6, 7, 8, 9, 10, 11, 12, 13, 14, 15, 16, 17, 18, 19, 20] [0, 1, 2, 3, 4, 5, 6, 7, 8, 9, 10, 11, 12, 13, 14, 15, 16, 17, 18, 19] (by decide) rfl rfl (fun U hU hW => trivial) (fun U g mk a h => h)) rfl rfl hl.1 rfl (lv_room (Nat.le_of_ble_eq_true rfl)) d_O_expandList_40 ⟨by decide, by decide⟩) (fun v23 u H locs h22 hP hD hK hS => ?_)
      have hP : va_P D wcl (MO g ad ca gs20) H := hP
      have hD : va_D A (MO g ad ca gs20) := hD
      have hK : va_K D wcl (MT ca) s := hK
      have h22 : r19 = v23 := h22
      subst h22
      refine lv_if_eq (tgt := 73) hx hb d_O_expandList_43 (by decide) (fun h24 => ?_) (fun h24 => ?_)
      · replace hok := ci_t h24 hok
        exact j73 gs20 H locs ls hok hP hD hS (lv_sub hl [1] rfl)
      · replace hok := ci_f h24 hok
        refine lv_aload_n hx hb d_O_expandList_46 rfl (lv_at hl 1 rfl) ?_
        refine lv_iload_n hx hb d_O_expandList_47 rfl (lv_at hl 0 rfl) ?_
        replace hok := bd_ok hok
        obtain ⟨r25, gs26, hc27, hok⟩ := hok
        refine cl_i (wc := (MO g ad ca gs20)) (wr := []) hP hD hK hS hA [0, 1, 2, 3, 4, 5, 6, 7, 8, 9, 10, 11, 12, 13, 14, 15, 16, 17, 18, 19, 20] [] rfl rfl (by decide) (by decide) (va_runV (As := [.int ((gs.2 22) ((gs.1 36) + 1).toNatClampNeg)]) (rest := []) ⟨hx, hb, hml, hown, hts⟩ (a_levelOf l D H.size g ad ca F gs20 ((gs.2 22) ((gs.1 36) + 1).toNatClampNeg) r25 gs26 hc27) (cw_V hts 1 k_920 k_9 k_917 k_919 sel_O_levelOf (by decide +kernel) ⟨Nat.le_of_ble_eq_true rfl, Nat.le_of_ble_eq_true rfl⟩) (pr_V hP hD hK [0, 1, 2, 3, 4, 5, 6, 7, 8, 9, 10, 11, 12, 13, 14, 15, 16, 17, 18, 19, 20] [0, 1, 2, 3, 4, 5, 6, 7, 8, 9, 10, 11, 12, 13, 14, 15, 16, 17, 18, 19] (by decide) rfl rfl (fun U hU hW => trivial) (fun U g mk a h => h) (q0 := 0) (ci := 8) rfl rfl) rfl rfl hl.1 rfl (lv_room (Nat.le_of_ble_eq_true rfl)) d_O_expandList_48 ⟨by decide, by decide⟩) (fun v29 u H locs h28 hP hD hK hS => ?_)
        have hP : va_P D wcl (MO g ad ca gs26) H := hP
        have hD : va_D A (MO g ad ca gs26) := hD
        have hK : va_K D wcl (MT ca) s := hK
        have h28 : r25 = v29 := h28
        subst h28
        refine lv_if_ge (tgt := 73) hx hb d_O_expandList_51 (by decide) (fun h30 => ?_) (fun h30 => ?_)
        · replace hok := ci_t h30 hok
          exact j73 gs26 H locs ls hok hP hD hS (lv_sub hl [1] rfl)
        · replace hok := ci_f h30 hok
          refine lv_aload_n hx hb d_O_expandList_54 rfl (lv_at hl 1 rfl) ?_
          refine lv_iload_n hx hb d_O_expandList_55 rfl (lv_at hl 0 rfl) ?_
          replace hok := bd_ok hok
          obtain ⟨r31, gs32, hc33, hok⟩ := hok
          refine cl_i (wc := (MO g ad ca gs26)) (wr := []) hP hD hK hS hA [0, 1, 2, 3, 4, 5, 6, 7, 8, 9, 10, 11, 12, 13, 14, 15, 16, 17, 18, 19, 20] [] rfl rfl (by decide) (by decide) (va_runS (As := [.int ((gs.2 22) ((gs.1 36) + 1).toNatClampNeg)]) (rest := [.ref g]) ⟨hx, hb, hml, hown, hts⟩ (a_letterOf l D H.size g ad ca F gs26 ((gs.2 22) ((gs.1 36) + 1).toNatClampNeg) r31 gs32 hc33) (cw_S hts 1 k_830 k_9 k_828 k_829 (by decide +kernel) ⟨Nat.le_of_ble_eq_true rfl, Nat.le_of_ble_eq_true rfl⟩) (pr_S hP hD hK [0, 1, 2, 3, 4, 5, 6, 7, 8, 9, 10, 11, 12, 13, 14, 15, 16, 17, 18, 19, 20] [0, 1, 2, 3, 4, 5, 6, 7, 8, 9, 10, 11, 12, 13, 14, 15, 16, 17, 18, 19] (by decide) rfl rfl (fun U hU hW => trivial) (fun U g mk a h => h)) rfl rfl hl.1 rfl (lv_room (Nat.le_of_ble_eq_true rfl)) d_O_expandList_56 ⟨by decide, by decide⟩) (fun v35 u H locs h34 hP hD hK hS => ?_)
          have hP : va_P D wcl (MO g ad ca gs32) H := hP
          have hD : va_D A (MO g ad ca gs32) := hD
          have hK : va_K D wcl (MT ca) s := hK
          have h34 : r31 = v35 := h34
          subst h34
          replace hok := bd_ok hok
          obtain ⟨r36, gs37, hc38, hok⟩ := hok
          refine cl_i (wc := (MO g ad ca gs32)) (wr := []) hP hD hK hS hA [0, 1, 2, 3, 4, 5, 6, 7, 8, 9, 10, 11, 12, 13, 14, 15, 16, 17, 18, 19, 20] [] rfl rfl (by decide) (by decide) (va_runV (As := [.int r31]) (rest := []) ⟨hx, hb, hml, hown, hts⟩ (a_countOf l D H.size g ad ca F gs32 r31 r36 gs37 hc38) (cw_V hts 1 k_868 k_9 k_865 k_867 sel_O_countOf (by decide +kernel) ⟨Nat.le_of_ble_eq_true rfl, Nat.le_of_ble_eq_true rfl⟩) (pr_V hP hD hK [0, 1, 2, 3, 4, 5, 6, 7, 8, 9, 10, 11, 12, 13, 14, 15, 16, 17, 18, 19, 20] [0, 1, 2, 3, 4, 5, 6, 7, 8, 9, 10, 11, 12, 13, 14, 15, 16, 17, 18, 19] (by decide) rfl rfl (fun U hU hW => trivial) (fun U g mk a h => h) (q0 := 0) (ci := 8) rfl rfl) rfl rfl hl.1 rfl (lv_room (Nat.le_of_ble_eq_true rfl)) d_O_expandList_59 ⟨by decide, by decide⟩) (fun v40 u H locs h39 hP hD hK hS => ?_)
          have hP : va_P D wcl (MO g ad ca gs37) H := hP
          have hD : va_D A (MO g ad ca gs37) := hD
          have hK : va_K D wcl (MT ca) s := hK
          have h39 : r36 = v40 := h39
          subst h39
          refine lv_if_le (tgt := 73) hx hb d_O_expandList_62 (by decide) (fun h41 => ?_) (fun h41 => ?_)
          · replace hok := ci_t h41 hok
            exact j73 gs37 H locs ls hok hP hD hS (lv_sub hl [1] rfl)
          · replace hok := ci_f h41 hok
            refine lv_aload_n hx hb d_O_expandList_65 rfl (lv_at hl 1 rfl) ?_
            refine lv_iload_n hx hb d_O_expandList_66 rfl (lv_at hl 2 rfl) ?_
            replace hok := bd_ok hok
            obtain ⟨r42, gs43, hc44, hok⟩ := hok
            refine cl_v (wc := (MO g ad ca gs37)) (wr := []) hP hD hK hS hA [0, 1, 2, 3, 4, 5, 6, 7, 8, 9, 10, 11, 12, 13, 14, 15, 16, 17, 18, 19, 20] [] rfl rfl (by decide) (by decide) (va_runV (As := [.int a1]) (rest := []) ⟨hx, hb, hml, hown, hts⟩ (a_replace l D H.size g ad ca F gs37 a1 r42 gs43 hc44) (cw_V hts 1 k_924 k_9 k_921 k_923 sel_O_replace (by decide +kernel) ⟨Nat.le_of_ble_eq_true rfl, Nat.le_of_ble_eq_true rfl⟩) (pr_V hP hD hK [0, 1, 2, 3, 4, 5, 6, 7, 8, 9, 10, 11, 12, 13, 14, 15, 16, 17, 18, 19, 20] [0, 1, 2, 3, 4, 5, 6, 7, 8, 9, 10, 11, 12, 13, 14, 15, 16, 17, 18, 19] (by decide) rfl rfl (fun U hU hW => trivial) (fun U g mk a h => h) (q0 := 0) (ci := 8) rfl rfl) rfl rfl hl.1 rfl (lv_room (Nat.le_of_ble_eq_true rfl)) d_O_expandList_67 ⟨by decide, by decide⟩) (fun u H locs h45 hP hD hK hS => ?_)
            have hP : va_P D wcl (MO g ad ca gs43) H := hP
            have hD : va_D A (MO g ad ca gs43) := hD
            have hK : va_K D wcl (MT ca) s := hK
            refine lv_goto (tgt := 93) hx hb d_O_expandList_70 (by decide) ?_
            exact j93 gs43 H locs ls hok hP hD hS (lv_sub hl [1] rfl)
    · replace hok := ci_f h18 hok
      refine lv_aload_n hx hb d_O_expandList_32 rfl (lv_at hl 1 rfl) ?_
      replace hok := bd_ok hok
      obtain ⟨r47, gs48, hc49, hok⟩ := hok
      refine cl_v (wc := (MO g ad ca gs14)) (wr := []) hP hD hK hS hA [0, 1, 2, 3, 4, 5, 6, 7, 8, 9, 10, 11, 12, 13, 14, 15, 16, 17, 18, 19, 20] [] rfl rfl (by decide) (by decide) (va_runV (As := []) (rest := []) ⟨hx, hb, hml, hown, hts⟩ (a_expandForm l D H.size g ad ca F gs14  r47 gs48 hc49) (cw_V hts 0 k_908 k_9 k_905 k_907 sel_O_expandForm (by decide +kernel) ⟨Nat.le_of_ble_eq_true rfl, Nat.le_of_ble_eq_true rfl⟩) (pr_V hP hD hK [0, 1, 2, 3, 4, 5, 6, 7, 8, 9, 10, 11, 12, 13, 14, 15, 16, 17, 18, 19, 20] [0, 1, 2, 3, 4, 5, 6, 7, 8, 9, 10, 11, 12, 13, 14, 15, 16, 17, 18, 19] (by decide) rfl rfl (fun U hU hW => trivial) (fun U g mk a h => h) (q0 := 0) (ci := 8) rfl rfl) rfl rfl hl.1 rfl (lv_room (Nat.le_of_ble_eq_true rfl)) d_O_expandList_33 ⟨by decide, by decide⟩) (fun u H locs h50 hP hD hK hS => ?_)
      have hP : va_P D wcl (MO g ad ca gs48) H := hP
      have hD : va_D A (MO g ad ca gs48) := hD
      have hK : va_K D wcl (MT ca) s := hK
      refine lv_goto (tgt := 93) hx hb d_O_expandList_36 (by decide) ?_
      exact j93 gs48 H locs ls hok hP hD hS (lv_sub hl [1] rfl)
  · replace hok := ci_t h12 hok
    refine lv_aload_n hx hb d_O_expandList_17 rfl (lv_at hl 1 rfl) ?_
    refine lv_iconst (v := 2) hx hb d_O_expandList_18 (by decide) ?_
    refine va_put (D := D) (ci := 8) (v := .int 2) (ty := .int) (C := rc_O) (T := ft_O) (N := 42) hx hb hts in_O ty_O tk_O nm_O hown hK hP hD hS 0 rfl rfl 40 (by decide) (hts _ k_695) (fun _ h9 => h9) rfl (by decide +kernel) rfl rfl (Nat.le_of_ble_eq_true rfl) d_O_expandList_19 (fun H locs hP hD hS => ?_)
    have hP : va_P D wcl (MO g ad ca (sI gs 40 2)) H := hP
    have hD : va_D A (MO g ad ca (sI gs 40 2)) := hD
    refine lv_goto (tgt := 93) hx hb d_O_expandList_22 (by decide) ?_
    exact j93 (sI gs 40 2) H locs ls hok hP hD hS (lv_sub hl [1] rfl)

set_option maxHeartbeats 4000000 in
set_option maxRecDepth 100000 in
theorem a_expandAll (l : Launch) (D : va_G) (sz : Nat) (g : Nat) (ad : Nat → Nat) (ca : Nat → ClassId) (F : Nat) (gs : OS) (a1 : Int32) (r0 : Int32) (gf : OS) (hok : rf_expandAll F gs a1 = some (r0, gf)) : Met l y_O_expandAll (Cond.code y_O_expandAll b_O_expandAll 3 none :: wal) ({ frames := 16, cells := 0, slots := 0, locals := 480 }) (va_Pc [.ref g, .int a1] (pr D sz (MO g ad ca gs) (MT ca) (fun _ => True))) (va_Qv (S := Unit) (fun u => True) (fun u t9 => po D (va_A (MO g ad ca gs) sz) ((fun u => (MO g ad ca gf)) u) ((fun u => []) u) t9) (va_A (MO g ad ca gs) sz)) 0 0 (va_A (MO g ad ca gs) sz) := by
  refine Met.ofW (cc := b_O_expandAll) (maxL := 3) (ret := none) (by decide) rfl ?_
  intro p e s m args below meth c s₁ B hml hv
  obtain ⟨rfl, hsz, hP, hK, hD0, hE⟩ := hv
  have hx := B.exec
  have hb := B.bytes
  have hr := B.returns
  have hts0 := atoms_spec (ws := Cond.code y_O_expandAll b_O_expandAll 3 none :: wal) B.pre
  have hts : ∀ w ∈ wal, w.before _ s = true := fun w h => hts0 w (List.mem_cons_of_mem _ h)
  have hown : s.vm.findClass rc_O = some m.cls := findClass_of_methodNamed B.named
  have hlocks := B.notSynchronized
  subst hsz
  have hD := hD0.self (sz := s.heap.size)
  generalize hAe : va_A (MO g ad ca gs) s.heap.size = A at hD ⊢
  have hA : ∀ q : Nat, s.heap.size ≤ q → A q := fun q h => by rw [← hAe]; exact Or.inr h
  have hS : va_S A s.heap s.heap [] := va_S.rf
  have hl := lv_entry ([.ref g, .int a1]) (n := 3) (Nat.le_of_ble_eq_true rfl)
  rw [lg_entry_eq]
  generalize (lg_sl ([.ref g, .int a1]) ++ List.replicate (3 - (lg_sl ([.ref g, .int a1])).length) Slot.unset).toArray = ls at hl ⊢
  have hl : lv_has ls 3 [(0, .ref g), (1, .int a1)] := hl
  have j118 : ∀ (gs : OS)  (H : Heap) (locs : List Loc) (ls : Array Slot), rf_expandAll_118 F gs = some (r0, gf) → va_P D wcl (MO g ad ca gs) H → va_D A (MO g ad ca gs) → va_S A s.heap H locs → lv_has ls 3 [(0, .ref g)] → W p l e (headSpec (Cond.code y_O_expandAll b_O_expandAll 3 none :: wal) ({ frames := 16, cells := 0, slots := 0, locals := 480 })).room s m ([.ref g, .int a1] : List Value).toArray below meth c H locs 0 0 (MQ below (va_Qv (S := Unit) (fun u => True) (fun u t9 => po D (A) ((fun u => (MO g ad ca gf)) u) ((fun u => []) u) t9) (A)) ([.ref g, .int a1] : List Value).toArray s 0 0 A) (F0 m 118 ls []) := by
    intro gs  H locs ls hok hP hD hS hl
    rw [rf_expandAll_118] at hok
    obtain ⟨e8, e9⟩ := rt_ok hok
    rw [e9] at hP hD
    have hK9 := hK.sub (tys' := []) [] rfl
    exact W.vret hx hb hr (fun t9 ht hW => ⟨⟨(), rfl, trivial, ⟨by rw [ht]; exact hP, va_K.moved hW.alike hK9, hD⟩⟩, hS.F ht⟩) hS.2.2 d_O_expandAll_118
  have j0 : ∀ (d0 : Nat) (gs : OS) (x1 : Int32) (H : Heap) (locs : List Loc) (ls : Array Slot), rf_expandAll_0 F d0 gs x1 = some (r0, gf) → va_P D wcl (MO g ad ca gs) H → va_D A (MO g ad ca gs) → va_S A s.heap H locs → lv_has ls 3 [(0, .ref g), (1, .int x1)] → W p l e (headSpec (Cond.code y_O_expandAll b_O_expandAll 3 none :: wal) ({ frames := 16, cells := 0, slots := 0, locals := 480 })).room s m ([.ref g, .int a1] : List Value).toArray below meth c H locs 0 0 (MQ below (va_Qv (S := Unit) (fun u => True) (fun u t9 => po D (A) ((fun u => (MO g ad ca gf)) u) ((fun u => []) u) t9) (A)) ([.ref g, .int a1] : List Value).toArray s 0 0 A) (F0 m 0 ls []) := by
    intro d0
    induction d0 with
    | zero =>
      intro gs x1 H locs ls hok
      have h9 : (none : RO) = some (r0, gf) := hok
      cases h9
    | succ d0 ih0 =>
      have j115 : ∀ (gs : OS) (x1 : Int32) (H : Heap) (locs : List Loc) (ls : Array Slot), rf_expandAll_115 F (rf_expandAll_0 F d0) gs x1 = some (r0, gf) → va_P D wcl (MO g ad ca gs) H → va_D A (MO g ad ca gs) → va_S A s.heap H locs → lv_has ls 3 [(0, .ref g), (1, .int x1)] → W p l e (headSpec (Cond.code y_O_expandAll b_O_expandAll 3 none :: wal) ({ frames := 16, cells := 0, slots := 0, locals := 480 })).room s m ([.ref g, .int a1] : List Value).toArray below meth c H locs 0 0 (MQ below (va_Qv (S := Unit) (fun u => True) (fun u t9 => po D (A) ((fun u => (MO g ad ca gf)) u) ((fun u => []) u) t9) (A)) ([.ref g, .int a1] : List Value).toArray s 0 0 A) (F0 m 115 ls []) := by
        intro gs x1 H locs ls hok hP hD hS hl
        rw [rf_expandAll_115] at hok
        refine lv_goto (tgt := 0) hx hb d_O_expandAll_115 (by decide) ?_
        exact ih0 gs x1 H locs ls hok hP hD hS hl
      intro gs x1 H locs ls hok hP hD hS hl
      rw [rf_expandAll_0] at hok
      refine lv_aload_n hx hb d_O_expandAll_0 rfl (lv_at hl 0 rfl) ?_
      refine va_get (D := D) (ci := 8) (v := .int (gs.1 36)) (C := rc_O) (T := ft_O) (N := 42) hx hb hts in_O hown hK hP 0 rfl rfl 36 (by decide) (hts _ k_691) (fun _ h9 => h9) rfl d_O_expandAll_1 ?_
      refine lv_aload_n hx hb d_O_expandAll_4 rfl (lv_at hl 0 rfl) ?_
      refine va_get (D := D) (ci := 8) (v := .int (gs.1 21)) (C := rc_O) (T := ft_O) (N := 42) hx hb hts in_O hown hK hP 0 rfl rfl 21 (by decide) (hts _ k_676) (fun _ h9 => h9) rfl d_O_expandAll_5 ?_
      refine lv_icmp_ge (tgt := 118) hx hb d_O_expandAll_8 (by decide) (fun h1 => ?_) (fun h1 => ?_)
      · replace hok := ci_t h1 hok
        exact j118 gs H locs ls hok hP hD hS (lv_sub hl [0] rfl)
      · replace hok := ci_f h1 hok
        refine lv_aload_n hx hb d_O_expandAll_11 rfl (lv_at hl 0 rfl) ?_
        refine va_get (D := D) (ci := 8) (v := .int (gs.1 40)) (C := rc_O) (T := ft_O) (N := 42) hx hb hts in_O hown hK hP 0 rfl rfl 40 (by decide) (hts _ k_695) (fun _ h9 => h9) rfl d_O_expandAll_12 ?_
        refine lv_if_ne (tgt := 118) hx hb d_O_expandAll_15 (by decide) (fun h2 => ?_) (fun h2 => ?_)
        · replace hok := ci_f h2 hok
          exact j118 gs H locs ls hok hP hD hS (lv_sub hl [0] rfl)
        · replace hok := ci_t h2 hok
          refine lv_aload_n hx hb d_O_expandAll_18 rfl (lv_at hl 0 rfl) ?_
          refine va_get (D := D) (ci := 8) (v := .ref (ad 22)) (C := rc_O) (T := ft_O) (N := 42) hx hb hts in_O hown hK hP 0 rfl rfl 22 (by decide) (hts _ k_677) (fun _ h9 => h9) rfl d_O_expandAll_19 ?_
          refine lv_aload_n hx hb d_O_expandAll_22 rfl (lv_at hl 0 rfl) ?_
          refine va_get (D := D) (ci := 8) (v := .int (gs.1 36)) (C := rc_O) (T := ft_O) (N := 42) hx hb hts in_O hown hK hP 0 rfl rfl 36 (by decide) (hts _ k_691) (fun _ h9 => h9) rfl d_O_expandAll_23 ?_
          have hi3 := (gd_ok hok).1
          replace hok := (gd_ok hok).2
          refine va_iald hx hb hK hP 13 12 rfl rfl (hi3) d_O_expandAll_26 ?_
          refine lv_istore_n hx hb d_O_expandAll_27 rfl hl (by decide) rfl (fun ls hl => ?_)
          have hl : lv_has ls 3 [(2, .int ((gs.2 22) (gs.1 36).toNatClampNeg)), (0, .ref g), (1, .int x1)] := hl
          refine lv_iload_n hx hb d_O_expandAll_28 rfl (lv_at hl 0 rfl) ?_
          refine lv_iconst (v := 2) hx hb d_O_expandAll_29 (by decide) ?_
          refine lv_icmp_ne (tgt := 40) hx hb d_O_expandAll_30 (by decide) (fun h4 => ?_) (fun h4 => ?_)
          · replace hok := ci_f h4 hok
            refine lv_aload_n hx hb d_O_expandAll_40 rfl (lv_at hl 1 rfl) ?_
            refine va_get (D := D) (ci := 8) (v := .int (gs.1 32)) (C := rc_O) (T := ft_O) (N := 42) hx hb hts in_O hown hK hP 0 rfl rfl 32 (by decide) (hts _ k_687) (fun _ h9 => h9) rfl d_O_expandAll_41 ?_
            refine lv_bipush (v := 12) hx hb d_O_expandAll_44 (by decide) ?_
            refine lv_icmp_ne (tgt := 57) hx hb d_O_expandAll_46 (by decide) (fun h5 => ?_) (fun h5 => ?_)
            · replace hok := ci_f h5 hok
              refine lv_iload_n hx hb d_O_expandAll_57 rfl (lv_at hl 0 rfl) ?_
              refine lv_iconst (v := 1) hx hb d_O_expandAll_58 (by decide) ?_
              refine lv_icmp_ne (tgt := 70) hx hb d_O_expandAll_59 (by decide) (fun h6 => ?_) (fun h6 => ?_)
              · replace hok := ci_f h6 hok
                refine lv_iload_n hx hb d_O_expandAll_70 rfl (lv_at hl 0 rfl) ?_
                replace hok := bd_ok hok
                obtain ⟨r7, gs8, hc9, hok⟩ := hok
                refine cl_i (wc := (MO g ad ca gs)) (wr := []) hP hD hK hS hA [0, 1, 2, 3, 4, 5, 6, 7, 8, 9, 10, 11, 12, 13, 14, 15, 16, 17, 18, 19, 20] [] rfl rfl (by decide) (by decide) (va_runS (As := [.int ((gs.2 22) (gs.1 36).toNatClampNeg)]) (rest := []) ⟨hx, hb, hml, hown, hts⟩ (a_isName l D H.size g ad ca F gs ((gs.2 22) (gs.1 36).toNatClampNeg) r7 gs8 hc9) (cw_S hts 1 k_811 k_9 k_809 k_810 (by decide +kernel) ⟨Nat.le_of_ble_eq_true rfl, Nat.le_of_ble_eq_true rfl⟩) (pr_S hP hD hK [0, 1, 2, 3, 4, 5, 6, 7, 8, 9, 10, 11, 12, 13, 14, 15, 16, 17, 18, 19, 20] [0, 1, 2, 3, 4, 5, 6, 7, 8, 9, 10, 11, 12, 13, 14, 15, 16, 17, 18, 19] (by decide) rfl rfl (fun U hU hW => trivial) (fun U g mk a h => h)) rfl rfl hl.1 rfl (lv_room (Nat.le_of_ble_eq_true rfl)) d_O_expandAll_71 ⟨by decide, by decide⟩) (fun v11 u H locs h10 hP hD hK hS => ?_)
                have hP : va_P D wcl (MO g ad ca gs8) H := hP
                have hD : va_D A (MO g ad ca gs8) := hD
                have hK : va_K D wcl (MT ca) s := hK
                have h10 : r7 = v11 := h10
                subst h10
                refine lv_if_eq (tgt := 85) hx hb d_O_expandAll_74 (by decide) (fun h12 => ?_) (fun h12 => ?_)
                · replace hok := ci_t h12 hok
                  refine lv_iload_n hx hb d_O_expandAll_85 rfl (lv_at hl 0 rfl) ?_
                  replace hok := bd_ok hok
                  obtain ⟨r13, gs14, hc15, hok⟩ := hok
                  refine cl_i (wc := (MO g ad ca gs8)) (wr := []) hP hD hK hS hA [0, 1, 2, 3, 4, 5, 6, 7, 8, 9, 10, 11, 12, 13, 14, 15, 16, 17, 18, 19, 20] [] rfl rfl (by decide) (by decide) (va_runS (As := [.int ((gs.2 22) (gs.1 36).toNatClampNeg)]) (rest := []) ⟨hx, hb, hml, hown, hts⟩ (a_isKeyword l D H.size g ad ca F gs8 ((gs.2 22) (gs.1 36).toNatClampNeg) r13 gs14 hc15) (cw_S hts 1 k_848 k_9 k_846 k_847 (by decide +kernel) ⟨Nat.le_of_ble_eq_true rfl, Nat.le_of_ble_eq_true rfl⟩) (pr_S hP hD hK [0, 1, 2, 3, 4, 5, 6, 7, 8, 9, 10, 11, 12, 13, 14, 15, 16, 17, 18, 19, 20] [0, 1, 2, 3, 4, 5, 6, 7, 8, 9, 10, 11, 12, 13, 14, 15, 16, 17, 18, 19] (by decide) rfl rfl (fun U hU hW => trivial) (fun U g mk a h => h)) rfl rfl hl.1 rfl (lv_room (Nat.le_of_ble_eq_true rfl)) d_O_expandAll_86 ⟨by decide, by decide⟩) (fun v17 u H locs h16 hP hD hK hS => ?_)
                  have hP : va_P D wcl (MO g ad ca gs14) H := hP
                  have hD : va_D A (MO g ad ca gs14) := hD
                  have hK : va_K D wcl (MT ca) s := hK
                  have h16 : r13 = v17 := h16
                  subst h16
                  refine lv_if_eq (tgt := 100) hx hb d_O_expandAll_89 (by decide) (fun h18 => ?_) (fun h18 => ?_)
                  · replace hok := ci_t h18 hok
                    refine lv_aload_n hx hb d_O_expandAll_100 rfl (lv_at hl 1 rfl) ?_
                    refine lv_iload_n hx hb d_O_expandAll_101 rfl (lv_at hl 0 rfl) ?_
                    replace hok := bd_ok hok
                    obtain ⟨r19, gs20, hc21, hok⟩ := hok
                    refine cl_v (wc := (MO g ad ca gs14)) (wr := []) hP hD hK hS hA [0, 1, 2, 3, 4, 5, 6, 7, 8, 9, 10, 11, 12, 13, 14, 15, 16, 17, 18, 19, 20] [] rfl rfl (by decide) (by decide) (va_runV (As := [.int ((gs.2 22) (gs.1 36).toNatClampNeg)]) (rest := []) ⟨hx, hb, hml, hown, hts⟩ (a_put l D H.size g ad ca F gs14 ((gs.2 22) (gs.1 36).toNatClampNeg) r19 gs20 hc21) (cw_V hts 1 k_900 k_9 k_897 k_899 sel_O_put (by decide +kernel) ⟨Nat.le_of_ble_eq_true rfl, Nat.le_of_ble_eq_true rfl⟩) (pr_V hP hD hK [0, 1, 2, 3, 4, 5, 6, 7, 8, 9, 10, 11, 12, 13, 14, 15, 16, 17, 18, 19, 20] [0, 1, 2, 3, 4, 5, 6, 7, 8, 9, 10, 11, 12, 13, 14, 15, 16, 17, 18, 19] (by decide) rfl rfl (fun U hU hW => trivial) (fun U g mk a h => h) (q0 := 0) (ci := 8) rfl rfl) rfl rfl hl.1 rfl (lv_room (Nat.le_of_ble_eq_true rfl)) d_O_expandAll_102 ⟨by decide, by decide⟩) (fun u H locs h22 hP hD hK hS => ?_)
                    have hP : va_P D wcl (MO g ad ca gs20) H := hP
                    have hD : va_D A (MO g ad ca gs20) := hD
                    have hK : va_K D wcl (MT ca) s := hK
                    refine lv_aload_n hx hb d_O_expandAll_105 rfl (lv_at hl 1 rfl) ?_
                    refine lv_dup hx hb d_O_expandAll_106 rfl ?_
                    refine va_get (D := D) (ci := 8) (v := .int (gs20.1 36)) (C := rc_O) (T := ft_O) (N := 42) hx hb hts in_O hown hK hP 0 rfl rfl 36 (by decide) (hts _ k_691) (fun _ h9 => h9) rfl d_O_expandAll_107 ?_
                    refine lv_iconst (v := 1) hx hb d_O_expandAll_110 (by decide) ?_
                    refine lv_iadd hx hb d_O_expandAll_111 ?_
                    refine va_put (D := D) (ci := 8) (v := .int ((gs20.1 36) + 1)) (ty := .int) (C := rc_O) (T := ft_O) (N := 42) hx hb hts in_O ty_O tk_O nm_O hown hK hP hD hS 0 rfl rfl 36 (by decide) (hts _ k_691) (fun _ h9 => h9) rfl (by decide +kernel) rfl rfl (Nat.le_of_ble_eq_true rfl) d_O_expandAll_112 (fun H locs hP hD hS => ?_)
                    have hP : va_P D wcl (MO g ad ca (sI gs20 36 ((gs20.1 36) + 1))) H := hP
                    have hD : va_D A (MO g ad ca (sI gs20 36 ((gs20.1 36) + 1))) := hD
                    exact j115 (sI gs20 36 ((gs20.1 36) + 1)) x1 H locs ls hok hP hD hS (lv_sub hl [1, 2] rfl)
                  · replace hok := ci_f h18 hok
                    refine lv_aload_n hx hb d_O_expandAll_92 rfl (lv_at hl 1 rfl) ?_
                    refine lv_iconst (v := 2) hx hb d_O_expandAll_93 (by decide) ?_
                    refine va_put (D := D) (ci := 8) (v := .int 2) (ty := .int) (C := rc_O) (T := ft_O) (N := 42) hx hb hts in_O ty_O tk_O nm_O hown hK hP hD hS 0 rfl rfl 40 (by decide) (hts _ k_695) (fun _ h9 => h9) rfl (by decide +kernel) rfl rfl (Nat.le_of_ble_eq_true rfl) d_O_expandAll_94 (fun H locs hP hD hS => ?_)
                    have hP : va_P D wcl (MO g ad ca (sI gs14 40 2)) H := hP
                    have hD : va_D A (MO g ad ca (sI gs14 40 2)) := hD
                    refine lv_goto (tgt := 115) hx hb d_O_expandAll_97 (by decide) ?_
                    exact j115 (sI gs14 40 2) x1 H locs ls hok hP hD hS (lv_sub hl [1, 2] rfl)
                · replace hok := ci_f h12 hok
                  refine lv_aload_n hx hb d_O_expandAll_77 rfl (lv_at hl 1 rfl) ?_
                  refine lv_iload_n hx hb d_O_expandAll_78 rfl (lv_at hl 0 rfl) ?_
                  replace hok := bd_ok hok
                  obtain ⟨r24, gs25, hc26, hok⟩ := hok
                  refine cl_v (wc := (MO g ad ca gs8)) (wr := []) hP hD hK hS hA [0, 1, 2, 3, 4, 5, 6, 7, 8, 9, 10, 11, 12, 13, 14, 15, 16, 17, 18, 19, 20] [] rfl rfl (by decide) (by decide) (va_runV (As := [.int ((gs.2 22) (gs.1 36).toNatClampNeg)]) (rest := []) ⟨hx, hb, hml, hown, hts⟩ (a_expandName l D H.size g ad ca F gs8 ((gs.2 22) (gs.1 36).toNatClampNeg) r24 gs25 hc26) (cw_V hts 1 k_964 k_9 k_961 k_963 sel_O_expandName (by decide +kernel) ⟨Nat.le_of_ble_eq_true rfl, Nat.le_of_ble_eq_true rfl⟩) (pr_V hP hD hK [0, 1, 2, 3, 4, 5, 6, 7, 8, 9, 10, 11, 12, 13, 14, 15, 16, 17, 18, 19, 20] [0, 1, 2, 3, 4, 5, 6, 7, 8, 9, 10, 11, 12, 13, 14, 15, 16, 17, 18, 19] (by decide) rfl rfl (fun U hU hW => trivial) (fun U g mk a h => h) (q0 := 0) (ci := 8) rfl rfl) rfl rfl hl.1 rfl (lv_room (Nat.le_of_ble_eq_true rfl)) d_O_expandAll_79 ⟨by decide, by decide⟩) (fun u H locs h27 hP hD hK hS => ?_)
                  have hP : va_P D wcl (MO g ad ca gs25) H := hP
                  have hD : va_D A (MO g ad ca gs25) := hD
                  have hK : va_K D wcl (MT ca) s := hK
                  refine lv_goto (tgt := 115) hx hb d_O_expandAll_82 (by decide) ?_
                  exact j115 gs25 x1 H locs ls hok hP hD hS (lv_sub hl [1, 2] rfl)
              · replace hok := ci_t h6 hok
                refine lv_aload_n hx hb d_O_expandAll_62 rfl (lv_at hl 1 rfl) ?_
                refine lv_iload_n hx hb d_O_expandAll_63 rfl (lv_at hl 2 rfl) ?_
                replace hok := bd_ok hok
                obtain ⟨r29, gs30, hc31, hok⟩ := hok
                refine cl_v (wc := (MO g ad ca gs)) (wr := []) hP hD hK hS hA [0, 1, 2, 3, 4, 5, 6, 7, 8, 9, 10, 11, 12, 13, 14, 15, 16, 17, 18, 19, 20] [] rfl rfl (by decide) (by decide) (va_runV (As := [.int x1]) (rest := []) ⟨hx, hb, hml, hown, hts⟩ (a_expandList l D H.size g ad ca F gs x1 r29 gs30 hc31) (cw_V hts 1 k_904 k_9 k_901 k_903 sel_O_expandList (by decide +kernel) ⟨Nat.le_of_ble_eq_true rfl, Nat.le_of_ble_eq_true rfl⟩) (pr_V hP hD hK [0, 1, 2, 3, 4, 5, 6, 7, 8, 9, 10, 11, 12, 13, 14, 15, 16, 17, 18, 19, 20] [0, 1, 2, 3, 4, 5, 6, 7, 8, 9, 10, 11, 12, 13, 14, 15, 16, 17, 18, 19] (by decide) rfl rfl (fun U hU hW => trivial) (fun U g mk a h => h) (q0 := 0) (ci := 8) rfl rfl) rfl rfl hl.1 rfl (lv_room (Nat.le_of_ble_eq_true rfl)) d_O_expandAll_64 ⟨by decide, by decide⟩) (fun u H locs h32 hP hD hK hS => ?_)
                have hP : va_P D wcl (MO g ad ca gs30) H := hP
                have hD : va_D A (MO g ad ca gs30) := hD
                have hK : va_K D wcl (MT ca) s := hK
                refine lv_goto (tgt := 115) hx hb d_O_expandAll_67 (by decide) ?_
                exact j115 gs30 x1 H locs ls hok hP hD hS (lv_sub hl [1, 2] rfl)
            · replace hok := ci_t h5 hok
              refine lv_aload_n hx hb d_O_expandAll_49 rfl (lv_at hl 1 rfl) ?_
              refine lv_iconst (v := 3) hx hb d_O_expandAll_50 (by decide) ?_
              refine va_put (D := D) (ci := 8) (v := .int 3) (ty := .int) (C := rc_O) (T := ft_O) (N := 42) hx hb hts in_O ty_O tk_O nm_O hown hK hP hD hS 0 rfl rfl 40 (by decide) (hts _ k_695) (fun _ h9 => h9) rfl (by decide +kernel) rfl rfl (Nat.le_of_ble_eq_true rfl) d_O_expandAll_51 (fun H locs hP hD hS => ?_)
              have hP : va_P D wcl (MO g ad ca (sI gs 40 3)) H := hP
              have hD : va_D A (MO g ad ca (sI gs 40 3)) := hD
              refine lv_goto (tgt := 115) hx hb d_O_expandAll_54 (by decide) ?_
              exact j115 (sI gs 40 3) x1 H locs ls hok hP hD hS (lv_sub hl [1, 2] rfl)
          · replace hok := ci_t h4 hok
            refine lv_aload_n hx hb d_O_expandAll_33 rfl (lv_at hl 1 rfl) ?_
            replace hok := bd_ok hok
            obtain ⟨r34, gs35, hc36, hok⟩ := hok
            refine cl_v (wc := (MO g ad ca gs)) (wr := []) hP hD hK hS hA [0, 1, 2, 3, 4, 5, 6, 7, 8, 9, 10, 11, 12, 13, 14, 15, 16, 17, 18, 19, 20] [] rfl rfl (by decide) (by decide) (va_runV (As := []) (rest := []) ⟨hx, hb, hml, hown, hts⟩ (a_closeRow l D H.size g ad ca F gs  r34 gs35 hc36) (cw_V hts 0 k_896 k_9 k_893 k_895 sel_O_closeRow (by decide +kernel) ⟨Nat.le_of_ble_eq_true rfl, Nat.le_of_ble_eq_true rfl⟩) (pr_V hP hD hK [0, 1, 2, 3, 4, 5, 6, 7, 8, 9, 10, 11, 12, 13, 14, 15, 16, 17, 18, 19, 20] [0, 1, 2, 3, 4, 5, 6, 7, 8, 9, 10, 11, 12, 13, 14, 15, 16, 17, 18, 19] (by decide) rfl rfl (fun U hU hW => trivial) (fun U g mk a h => h) (q0 := 0) (ci := 8) rfl rfl) rfl rfl hl.1 rfl (lv_room (Nat.le_of_ble_eq_true rfl)) d_O_expandAll_34 ⟨by decide, by decide⟩) (fun u H locs h37 hP hD hK hS => ?_)
            have hP : va_P D wcl (MO g ad ca gs35) H := hP
            have hD : va_D A (MO g ad ca gs35) := hD
            have hK : va_K D wcl (MT ca) s := hK
            refine lv_goto (tgt := 115) hx hb d_O_expandAll_37 (by decide) ?_
            exact j115 gs35 x1 H locs ls hok hP hD hS (lv_sub hl [1, 2] rfl)
  exact j0 F gs a1 s.heap [] ls hok hP hD hS hl

set_option maxHeartbeats 4000000 in
set_option maxRecDepth 100000 in
theorem a_expand (l : Launch) (D : va_G) (sz : Nat) (g : Nat) (ad : Nat → Nat) (ca : Nat → ClassId) (F : Nat) (gs : OS) (a1 : Int32) (r0 : Int32) (gf : OS) (hok : rf_expand F gs a1 = some (r0, gf)) : Met l y_O_expand (Cond.code y_O_expand b_O_expand 4 (some .int) :: wal) ({ frames := 17, cells := 0, slots := 0, locals := 540 }) (va_Pc [.ref g, .int a1] (pr D sz (MO g ad ca gs) (MT ca) (fun _ => True))) (va_Qi (S := Unit) (fun r u => r0 = r) (fun u t9 => po D (va_A (MO g ad ca gs) sz) ((fun u => (MO g ad ca gf)) u) ((fun u => []) u) t9) (va_A (MO g ad ca gs) sz)) 0 0 (va_A (MO g ad ca gs) sz) := by
  refine Met.ofW (cc := b_O_expand) (maxL := 4) (ret := (some .int)) (by decide) rfl ?_
  intro p e s m args below meth c s₁ B hml hv
  obtain ⟨rfl, hsz, hP, hK, hD0, hE⟩ := hv
  have hx := B.exec
  have hb := B.bytes
  have hr := B.returns
  have hts0 := atoms_spec (ws := Cond.code y_O_expand b_O_expand 4 (some .int) :: wal) B.pre
  have hts : ∀ w ∈ wal, w.before _ s = true := fun w h => hts0 w (List.mem_cons_of_mem _ h)
  have hown : s.vm.findClass rc_O = some m.cls := findClass_of_methodNamed B.named
  have hlocks := B.notSynchronized
  subst hsz
  have hD := hD0.self (sz := s.heap.size)
  generalize hAe : va_A (MO g ad ca gs) s.heap.size = A at hD ⊢
  have hA : ∀ q : Nat, s.heap.size ≤ q → A q := fun q h => by rw [← hAe]; exact Or.inr h
  have hS : va_S A s.heap s.heap [] := va_S.rf
  have hl := lv_entry ([.ref g, .int a1]) (n := 4) (Nat.le_of_ble_eq_true rfl)
  rw [lg_entry_eq]
  generalize (lg_sl ([.ref g, .int a1]) ++ List.replicate (4 - (lg_sl ([.ref g, .int a1])).length) Slot.unset).toArray = ls at hl ⊢
  have hl : lv_has ls 4 [(0, .ref g), (1, .int a1)] := hl
  have j44 : ∀ (d44 : Nat) (gs : OS) (x1 : Int32) (x3 : Int32) (H : Heap) (locs : List Loc) (ls : Array Slot), rf_expand_44 F d44 gs x1 x3 = some (r0, gf) → va_P D wcl (MO g ad ca gs) H → va_D A (MO g ad ca gs) → va_S A s.heap H locs → lv_has ls 4 [(0, .ref g), (1, .int x1), (3, .int x3)] → W p l e (headSpec (Cond.code y_O_expand b_O_expand 4 (some .int) :: wal) ({ frames := 17, cells := 0, slots := 0, locals := 540 })).room s m ([.ref g, .int a1] : List Value).toArray below meth c H locs 0 0 (MQ below (va_Qi (S := Unit) (fun r u => r0 = r) (fun u t9 => po D (A) ((fun u => (MO g ad ca gf)) u) ((fun u => []) u) t9) (A)) ([.ref g, .int a1] : List Value).toArray s 0 0 A) (F0 m 44 ls []) := by
    intro d44
    induction d44 with
    | zero =>
      intro gs x1 x3 H locs ls hok
      have h9 : (none : RO) = some (r0, gf) := hok
      cases h9
    | succ d44 ih44 =>
      intro gs x1 x3 H locs ls hok hP hD hS hl
      rw [rf_expand_44] at hok
      refine lv_iload_n hx hb d_O_expand_44 rfl (lv_at hl 2 rfl) ?_
      refine lv_aload_n hx hb d_O_expand_45 rfl (lv_at hl 0 rfl) ?_
      refine va_get (D := D) (ci := 8) (v := .int (gs.1 3)) (C := rc_O) (T := ft_O) (N := 42) hx hb hts in_O hown hK hP 0 rfl rfl 3 (by decide) (hts _ k_658) (fun _ h9 => h9) rfl d_O_expand_46 ?_
      refine lv_icmp_ge (tgt := 70) hx hb d_O_expand_49 (by decide) (fun h1 => ?_) (fun h1 => ?_)
      · replace hok := ci_t h1 hok
        refine lv_aload_n hx hb d_O_expand_70 rfl (lv_at hl 0 rfl) ?_
        refine lv_aload_n hx hb d_O_expand_71 rfl (lv_at hl 0 rfl) ?_
        refine va_get (D := D) (ci := 8) (v := .int (gs.1 3)) (C := rc_O) (T := ft_O) (N := 42) hx hb hts in_O hown hK hP 0 rfl rfl 3 (by decide) (hts _ k_658) (fun _ h9 => h9) rfl d_O_expand_72 ?_
        refine va_put (D := D) (ci := 8) (v := .int (gs.1 3)) (ty := .int) (C := rc_O) (T := ft_O) (N := 42) hx hb hts in_O ty_O tk_O nm_O hown hK hP hD hS 0 rfl rfl 21 (by decide) (hts _ k_676) (fun _ h9 => h9) rfl (by decide +kernel) rfl rfl (Nat.le_of_ble_eq_true rfl) d_O_expand_75 (fun H locs hP hD hS => ?_)
        have hP : va_P D wcl (MO g ad ca (sI gs 21 (gs.1 3))) H := hP
        have hD : va_D A (MO g ad ca (sI gs 21 (gs.1 3))) := hD
        refine lv_aload_n hx hb d_O_expand_78 rfl (lv_at hl 0 rfl) ?_
        refine lv_iconst (v := 0) hx hb d_O_expand_79 (by decide) ?_
        refine va_put (D := D) (ci := 8) (v := .int 0) (ty := .int) (C := rc_O) (T := ft_O) (N := 42) hx hb hts in_O ty_O tk_O nm_O hown hK hP hD hS 0 rfl rfl 36 (by decide) (hts _ k_691) (fun _ h9 => h9) rfl (by decide +kernel) rfl rfl (Nat.le_of_ble_eq_true rfl) d_O_expand_80 (fun H locs hP hD hS => ?_)
        have hP : va_P D wcl (MO g ad ca (sI (sI gs 21 (gs.1 3)) 36 0)) H := hP
        have hD : va_D A (MO g ad ca (sI (sI gs 21 (gs.1 3)) 36 0)) := hD
        refine lv_aload_n hx hb d_O_expand_83 rfl (lv_at hl 0 rfl) ?_
        refine lv_iconst (v := 0) hx hb d_O_expand_84 (by decide) ?_
        refine va_put (D := D) (ci := 8) (v := .int 0) (ty := .int) (C := rc_O) (T := ft_O) (N := 42) hx hb hts in_O ty_O tk_O nm_O hown hK hP hD hS 0 rfl rfl 32 (by decide) (hts _ k_687) (fun _ h9 => h9) rfl (by decide +kernel) rfl rfl (Nat.le_of_ble_eq_true rfl) d_O_expand_85 (fun H locs hP hD hS => ?_)
        have hP : va_P D wcl (MO g ad ca (sI (sI (sI gs 21 (gs.1 3)) 32 0) 36 0)) H := hP
        have hD : va_D A (MO g ad ca (sI (sI (sI gs 21 (gs.1 3)) 32 0) 36 0)) := hD
        refine lv_aload_n hx hb d_O_expand_88 rfl (lv_at hl 0 rfl) ?_
        refine lv_iconst (v := 0) hx hb d_O_expand_89 (by decide) ?_
        refine va_put (D := D) (ci := 8) (v := .int 0) (ty := .int) (C := rc_O) (T := ft_O) (N := 42) hx hb hts in_O ty_O tk_O nm_O hown hK hP hD hS 0 rfl rfl 34 (by decide) (hts _ k_689) (fun _ h9 => h9) rfl (by decide +kernel) rfl rfl (Nat.le_of_ble_eq_true rfl) d_O_expand_90 (fun H locs hP hD hS => ?_)
        have hP : va_P D wcl (MO g ad ca (sI (sI (sI (sI gs 21 (gs.1 3)) 32 0) 34 0) 36 0)) H := hP
        have hD : va_D A (MO g ad ca (sI (sI (sI (sI gs 21 (gs.1 3)) 32 0) 34 0) 36 0)) := hD
        refine lv_aload_n hx hb d_O_expand_93 rfl (lv_at hl 0 rfl) ?_
        refine lv_iconst (v := 0) hx hb d_O_expand_94 (by decide) ?_
        refine va_put (D := D) (ci := 8) (v := .int 0) (ty := .int) (C := rc_O) (T := ft_O) (N := 42) hx hb hts in_O ty_O tk_O nm_O hown hK hP hD hS 0 rfl rfl 37 (by decide) (hts _ k_692) (fun _ h9 => h9) rfl (by decide +kernel) rfl rfl (Nat.le_of_ble_eq_true rfl) d_O_expand_95 (fun H locs hP hD hS => ?_)
        have hP : va_P D wcl (MO g ad ca (sI (sI (sI (sI (sI gs 21 (gs.1 3)) 32 0) 34 0) 36 0) 37 0)) H := hP
        have hD : va_D A (MO g ad ca (sI (sI (sI (sI (sI gs 21 (gs.1 3)) 32 0) 34 0) 36 0) 37 0)) := hD
        refine lv_aload_n hx hb d_O_expand_98 rfl (lv_at hl 0 rfl) ?_
        refine lv_iconst (v := 0) hx hb d_O_expand_99 (by decide) ?_
        refine va_put (D := D) (ci := 8) (v := .int 0) (ty := .int) (C := rc_O) (T := ft_O) (N := 42) hx hb hts in_O ty_O tk_O nm_O hown hK hP hD hS 0 rfl rfl 38 (by decide) (hts _ k_693) (fun _ h9 => h9) rfl (by decide +kernel) rfl rfl (Nat.le_of_ble_eq_true rfl) d_O_expand_100 (fun H locs hP hD hS => ?_)
        have hP : va_P D wcl (MO g ad ca (sI (sI (sI (sI (sI (sI gs 21 (gs.1 3)) 32 0) 34 0) 36 0) 37 0) 38 0)) H := hP
        have hD : va_D A (MO g ad ca (sI (sI (sI (sI (sI (sI gs 21 (gs.1 3)) 32 0) 34 0) 36 0) 37 0) 38 0)) := hD
        refine lv_aload_n hx hb d_O_expand_103 rfl (lv_at hl 0 rfl) ?_
        refine lv_iconst (v := 0) hx hb d_O_expand_104 (by decide) ?_
        refine va_put (D := D) (ci := 8) (v := .int 0) (ty := .int) (C := rc_O) (T := ft_O) (N := 42) hx hb hts in_O ty_O tk_O nm_O hown hK hP hD hS 0 rfl rfl 40 (by decide) (hts _ k_695) (fun _ h9 => h9) rfl (by decide +kernel) rfl rfl (Nat.le_of_ble_eq_true rfl) d_O_expand_105 (fun H locs hP hD hS => ?_)
        have hP : va_P D wcl (MO g ad ca (sI (sI (sI (sI (sI (sI (sI gs 21 (gs.1 3)) 32 0) 34 0) 36 0) 37 0) 38 0) 40 0)) H := hP
        have hD : va_D A (MO g ad ca (sI (sI (sI (sI (sI (sI (sI gs 21 (gs.1 3)) 32 0) 34 0) 36 0) 37 0) 38 0) 40 0)) := hD
        refine lv_aload_n hx hb d_O_expand_108 rfl (lv_at hl 0 rfl) ?_
        refine lv_iload_n hx hb d_O_expand_109 rfl (lv_at hl 1 rfl) ?_
        replace hok := bd_ok hok
        obtain ⟨r2, gs3, hc4, hok⟩ := hok
        refine cl_v (wc := (MO g ad ca (sI (sI (sI (sI (sI (sI (sI gs 21 (gs.1 3)) 32 0) 34 0) 36 0) 37 0) 38 0) 40 0))) (wr := []) hP hD hK hS hA [0, 1, 2, 3, 4, 5, 6, 7, 8, 9, 10, 11, 12, 13, 14, 15, 16, 17, 18, 19, 20] [] rfl rfl (by decide) (by decide) (va_runV (As := [.int x1]) (rest := []) ⟨hx, hb, hml, hown, hts⟩ (a_expandAll l D H.size g ad ca F (sI (sI (sI (sI (sI (sI (sI gs 21 (gs.1 3)) 32 0) 34 0) 36 0) 37 0) 38 0) 40 0) x1 r2 gs3 hc4) (cw_V hts 1 k_892 k_9 k_889 k_891 sel_O_expandAll (by decide +kernel) ⟨Nat.le_of_ble_eq_true rfl, Nat.le_of_ble_eq_true rfl⟩) (pr_V hP hD hK [0, 1, 2, 3, 4, 5, 6, 7, 8, 9, 10, 11, 12, 13, 14, 15, 16, 17, 18, 19, 20] [0, 1, 2, 3, 4, 5, 6, 7, 8, 9, 10, 11, 12, 13, 14, 15, 16, 17, 18, 19] (by decide) rfl rfl (fun U hU hW => trivial) (fun U g mk a h => h) (q0 := 0) (ci := 8) rfl rfl) rfl rfl hl.1 rfl (lv_room (Nat.le_of_ble_eq_true rfl)) d_O_expand_110 ⟨by decide, by decide⟩) (fun u H locs h5 hP hD hK hS => ?_)
        have hP : va_P D wcl (MO g ad ca gs3) H := hP
        have hD : va_D A (MO g ad ca gs3) := hD
        have hK : va_K D wcl (MT ca) s := hK
        refine lv_aload_n hx hb d_O_expand_113 rfl (lv_at hl 0 rfl) ?_
        refine va_get (D := D) (ci := 8) (v := .int (gs3.1 40)) (C := rc_O) (T := ft_O) (N := 42) hx hb hts in_O hown hK hP 0 rfl rfl 40 (by decide) (hts _ k_695) (fun _ h9 => h9) rfl d_O_expand_114 ?_
        refine lv_if_ne (tgt := 125) hx hb d_O_expand_117 (by decide) (fun h7 => ?_) (fun h7 => ?_)
        · replace hok := ci_f h7 hok
          refine lv_aload_n hx hb d_O_expand_125 rfl (lv_at hl 0 rfl) ?_
          refine lv_iconst (v := 0) hx hb d_O_expand_126 (by decide) ?_
          refine va_put (D := D) (ci := 8) (v := .int 0) (ty := .int) (C := rc_O) (T := ft_O) (N := 42) hx hb hts in_O ty_O tk_O nm_O hown hK hP hD hS 0 rfl rfl 38 (by decide) (hts _ k_693) (fun _ h9 => h9) rfl (by decide +kernel) rfl rfl (Nat.le_of_ble_eq_true rfl) d_O_expand_127 (fun H locs hP hD hS => ?_)
          have hP : va_P D wcl (MO g ad ca (sI gs3 38 0)) H := hP
          have hD : va_D A (MO g ad ca (sI gs3 38 0)) := hD
          refine lv_aload_n hx hb d_O_expand_130 rfl (lv_at hl 0 rfl) ?_
          refine lv_aload_n hx hb d_O_expand_131 rfl (lv_at hl 0 rfl) ?_
          refine va_get (D := D) (ci := 8) (v := .int (gs3.1 40)) (C := rc_O) (T := ft_O) (N := 42) hx hb hts in_O hown hK hP 0 rfl rfl 40 (by decide) (hts _ k_695) (fun _ h9 => h9) rfl d_O_expand_132 ?_
          replace hok := bd_ok hok
          obtain ⟨r8, gs9, hc10, hok⟩ := hok
          refine cl_i (wc := (MO g ad ca (sI gs3 38 0))) (wr := []) hP hD hK hS hA [0, 1, 2, 3, 4, 5, 6, 7, 8, 9, 10, 11, 12, 13, 14, 15, 16, 17, 18, 19, 20] [] rfl rfl (by decide) (by decide) (va_runV (As := [.int (gs3.1 40)]) (rest := []) ⟨hx, hb, hml, hown, hts⟩ (a_fail l D H.size g ad ca F (sI gs3 38 0) (gs3.1 40) r8 gs9 hc10) (cw_V hts 1 k_852 k_9 k_849 k_851 sel_O_fail (by decide +kernel) ⟨Nat.le_of_ble_eq_true rfl, Nat.le_of_ble_eq_true rfl⟩) (pr_V hP hD hK [0, 1, 2, 3, 4, 5, 6, 7, 8, 9, 10, 11, 12, 13, 14, 15, 16, 17, 18, 19, 20] [0, 1, 2, 3, 4, 5, 6, 7, 8, 9, 10, 11, 12, 13, 14, 15, 16, 17, 18, 19] (by decide) rfl rfl (fun U hU hW => trivial) (fun U g mk a h => h) (q0 := 0) (ci := 8) rfl rfl) rfl rfl hl.1 rfl (lv_room (Nat.le_of_ble_eq_true rfl)) d_O_expand_135 ⟨by decide, by decide⟩) (fun v12 u H locs h11 hP hD hK hS => ?_)
          have hP : va_P D wcl (MO g ad ca gs9) H := hP
          have hD : va_D A (MO g ad ca gs9) := hD
          have hK : va_K D wcl (MT ca) s := hK
          have h11 : r8 = v12 := h11
          subst h11
          obtain ⟨e8, e9⟩ := rt_ok hok
          rw [e9] at hP hD
          have hK9 := hK.sub (tys' := []) [] rfl
          exact W.iret (v := r8) hx hb hr (fun t9 ht hW => ⟨⟨r8, (), rfl, e8, ⟨by rw [ht]; exact hP, va_K.moved hW.alike hK9, hD⟩⟩, hS.F ht⟩) hS.2.2 d_O_expand_138
        · replace hok := ci_t h7 hok
          refine lv_aload_n hx hb d_O_expand_120 rfl (lv_at hl 0 rfl) ?_
          refine va_get (D := D) (ci := 8) (v := .int (gs3.1 38)) (C := rc_O) (T := ft_O) (N := 42) hx hb hts in_O hown hK hP 0 rfl rfl 38 (by decide) (hts _ k_693) (fun _ h9 => h9) rfl d_O_expand_121 ?_
          obtain ⟨e8, e9⟩ := rt_ok hok
          rw [e9] at hP hD
          have hK9 := hK.sub (tys' := []) [] rfl
          exact W.iret (v := (gs3.1 38)) hx hb hr (fun t9 ht hW => ⟨⟨(gs3.1 38), (), rfl, e8, ⟨by rw [ht]; exact hP, va_K.moved hW.alike hK9, hD⟩⟩, hS.F ht⟩) hS.2.2 d_O_expand_124
      · replace hok := ci_f h1 hok
        refine lv_aload_n hx hb d_O_expand_52 rfl (lv_at hl 0 rfl) ?_
        refine va_get (D := D) (ci := 8) (v := .ref (ad 22)) (C := rc_O) (T := ft_O) (N := 42) hx hb hts in_O hown hK hP 0 rfl rfl 22 (by decide) (hts _ k_677) (fun _ h9 => h9) rfl d_O_expand_53 ?_
        refine lv_iload_n hx hb d_O_expand_56 rfl (lv_at hl 2 rfl) ?_
        refine lv_aload_n hx hb d_O_expand_57 rfl (lv_at hl 0 rfl) ?_
        refine va_get (D := D) (ci := 8) (v := .ref (ad 4)) (C := rc_O) (T := ft_O) (N := 42) hx hb hts in_O hown hK hP 0 rfl rfl 4 (by decide) (hts _ k_659) (fun _ h9 => h9) rfl d_O_expand_58 ?_
        refine lv_iload_n hx hb d_O_expand_61 rfl (lv_at hl 2 rfl) ?_
        have hi13 := (gd_ok hok).1
        replace hok := (gd_ok hok).2
        refine va_iald hx hb hK hP 2 1 rfl rfl (hi13) d_O_expand_62 ?_
        have hi14 := (gd_ok hok).1
        replace hok := (gd_ok hok).2
        refine va_iast hx hb hK hP hD hS 13 12 rfl rfl hi14 d_O_expand_63 (fun H locs hP hD hS => ?_)
        have hP : va_P D wcl (MO g ad ca (sA gs 22 (upd (gs.2 22) x3.toNatClampNeg ((gs.2 4) x3.toNatClampNeg)))) H := hP
        have hD : va_D A (MO g ad ca (sA gs 22 (upd (gs.2 22) x3.toNatClampNeg ((gs.2 4) x3.toNatClampNeg)))) := hD
        refine lv_iinc (k := 2) (v := (x3 + 1)) hx hb d_O_expand_64 hl rfl (by rfl) (by decide) rfl (fun ls hl => ?_)
        have hl : lv_has ls 4 [(3, .int (x3 + 1)), (0, .ref g), (1, .int x1)] := hl
        refine lv_goto (tgt := 44) hx hb d_O_expand_67 (by decide) ?_
        exact ih44 (sA gs 22 (upd (gs.2 22) x3.toNatClampNeg ((gs.2 4) x3.toNatClampNeg))) x1 (x3 + 1) H locs ls hok hP hD hS (lv_sub hl [1, 2, 0] rfl)
  have j36 : ∀ (gs : OS)  (H : Heap) (locs : List Loc) (ls : Array Slot), rf_expand_36 F gs = some (r0, gf) → va_P D wcl (MO g ad ca gs) H → va_D A (MO g ad ca gs) → va_S A s.heap H locs → lv_has ls 4 [(0, .ref g)] → W p l e (headSpec (Cond.code y_O_expand b_O_expand 4 (some .int) :: wal) ({ frames := 17, cells := 0, slots := 0, locals := 540 })).room s m ([.ref g, .int a1] : List Value).toArray below meth c H locs 0 0 (MQ below (va_Qi (S := Unit) (fun r u => r0 = r) (fun u t9 => po D (A) ((fun u => (MO g ad ca gf)) u) ((fun u => []) u) t9) (A)) ([.ref g, .int a1] : List Value).toArray s 0 0 A) (F0 m 36 ls []) := by
    intro gs  H locs ls hok hP hD hS hl
    rw [rf_expand_36] at hok
    refine lv_aload_n hx hb d_O_expand_36 rfl (lv_at hl 0 rfl) ?_
    refine lv_iconst (v := 1) hx hb d_O_expand_37 (by decide) ?_
    replace hok := bd_ok hok
    obtain ⟨r15, gs16, hc17, hok⟩ := hok
    refine cl_i (wc := (MO g ad ca gs)) (wr := []) hP hD hK hS hA [0, 1, 2, 3, 4, 5, 6, 7, 8, 9, 10, 11, 12, 13, 14, 15, 16, 17, 18, 19, 20] [] rfl rfl (by decide) (by decide) (va_runV (As := [.int 1]) (rest := []) ⟨hx, hb, hml, hown, hts⟩ (a_fail l D H.size g ad ca F gs 1 r15 gs16 hc17) (cw_V hts 1 k_852 k_9 k_849 k_851 sel_O_fail (by decide +kernel) ⟨Nat.le_of_ble_eq_true rfl, Nat.le_of_ble_eq_true rfl⟩) (pr_V hP hD hK [0, 1, 2, 3, 4, 5, 6, 7, 8, 9, 10, 11, 12, 13, 14, 15, 16, 17, 18, 19, 20] [0, 1, 2, 3, 4, 5, 6, 7, 8, 9, 10, 11, 12, 13, 14, 15, 16, 17, 18, 19] (by decide) rfl rfl (fun U hU hW => trivial) (fun U g mk a h => h) (q0 := 0) (ci := 8) rfl rfl) rfl rfl hl.1 rfl (lv_room (Nat.le_of_ble_eq_true rfl)) d_O_expand_38 ⟨by decide, by decide⟩) (fun v19 u H locs h18 hP hD hK hS => ?_)
    have hP : va_P D wcl (MO g ad ca gs16) H := hP
    have hD : va_D A (MO g ad ca gs16) := hD
    have hK : va_K D wcl (MT ca) s := hK
    have h18 : r15 = v19 := h18
    subst h18
    obtain ⟨e8, e9⟩ := rt_ok hok
    rw [e9] at hP hD
    have hK9 := hK.sub (tys' := []) [] rfl
    exact W.iret (v := r15) hx hb hr (fun t9 ht hW => ⟨⟨r15, (), rfl, e8, ⟨by rw [ht]; exact hP, va_K.moved hW.alike hK9, hD⟩⟩, hS.F ht⟩) hS.2.2 d_O_expand_41
  refine lv_aload_n hx hb d_O_expand_0 rfl (lv_at hl 0 rfl) ?_
  refine lv_iconst (v := 0) hx hb d_O_expand_1 (by decide) ?_
  refine va_put (D := D) (ci := 8) (v := .int 0) (ty := .int) (C := rc_O) (T := ft_O) (N := 42) hx hb hts in_O ty_O tk_O nm_O hown hK hP hD hS 0 rfl rfl 0 (by decide) (hts _ k_655) (fun _ h9 => h9) rfl (by decide +kernel) rfl rfl (Nat.le_of_ble_eq_true rfl) d_O_expand_2 (fun H locs hP hD hS => ?_)
  have hP : va_P D wcl (MO g ad ca (sI gs 0 0)) H := hP
  have hD : va_D A (MO g ad ca (sI gs 0 0)) := hD
  refine lv_aload_n hx hb d_O_expand_5 rfl (lv_at hl 0 rfl) ?_
  replace hok := bd_ok hok
  obtain ⟨r20, gs21, hc22, hok⟩ := hok
  refine cl_i (wc := (MO g ad ca (sI gs 0 0))) (wr := []) hP hD hK hS hA [0, 1, 2, 3, 4, 5, 6, 7, 8, 9, 10, 11, 12, 13, 14, 15, 16, 17, 18, 19, 20] [] rfl rfl (by decide) (by decide) (va_runV (As := []) (rest := []) ⟨hx, hb, hml, hown, hts⟩ (a_takeDraft l D H.size g ad ca F (sI gs 0 0)  r20 gs21 hc22) (cw_V hts 0 k_797 k_9 k_794 k_796 sel_O_takeDraft (by decide +kernel) ⟨Nat.le_of_ble_eq_true rfl, Nat.le_of_ble_eq_true rfl⟩) (pr_V hP hD hK [0, 1, 2, 3, 4, 5, 6, 7, 8, 9, 10, 11, 12, 13, 14, 15, 16, 17, 18, 19, 20] [0, 1, 2, 3, 4, 5, 6, 7, 8, 9, 10, 11, 12, 13, 14, 15, 16, 17, 18, 19] (by decide) rfl rfl (fun U hU hW => trivial) (fun U g mk a h => h) (q0 := 0) (ci := 8) rfl rfl) rfl rfl hl.1 rfl (lv_room (Nat.le_of_ble_eq_true rfl)) d_O_expand_6 ⟨by decide, by decide⟩) (fun v24 u H locs h23 hP hD hK hS => ?_)
  have hP : va_P D wcl (MO g ad ca gs21) H := hP
  have hD : va_D A (MO g ad ca gs21) := hD
  have hK : va_K D wcl (MT ca) s := hK
  have h23 : r20 = v24 := h23
  subst h23
  refine lv_istore_n hx hb d_O_expand_9 rfl hl (by decide) rfl (fun ls hl => ?_)
  have hl : lv_has ls 4 [(2, .int r20), (0, .ref g), (1, .int a1)] := hl
  refine lv_iload_n hx hb d_O_expand_10 rfl (lv_at hl 0 rfl) ?_
  refine lv_if_eq (tgt := 36) hx hb d_O_expand_11 (by decide) (fun h25 => ?_) (fun h25 => ?_)
  · replace hok := ci_t h25 hok
    exact j36 gs21 H locs ls hok hP hD hS (lv_sub hl [1] rfl)
  · replace hok := ci_f h25 hok
    refine lv_aload_n hx hb d_O_expand_14 rfl (lv_at hl 1 rfl) ?_
    refine lv_iconst (v := 0) hx hb d_O_expand_15 (by decide) ?_
    replace hok := bd_ok hok
    obtain ⟨r26, gs27, hc28, hok⟩ := hok
    refine cl_i (wc := (MO g ad ca gs21)) (wr := []) hP hD hK hS hA [0, 1, 2, 3, 4, 5, 6, 7, 8, 9, 10, 11, 12, 13, 14, 15, 16, 17, 18, 19, 20] [] rfl rfl (by decide) (by decide) (va_runV (As := [.int 0]) (rest := []) ⟨hx, hb, hml, hown, hts⟩ (a_termEnd l D H.size g ad ca F gs21 0 r26 gs27 hc28) (cw_V hts 1 k_888 k_9 k_885 k_887 sel_O_termEnd (by decide +kernel) ⟨Nat.le_of_ble_eq_true rfl, Nat.le_of_ble_eq_true rfl⟩) (pr_V hP hD hK [0, 1, 2, 3, 4, 5, 6, 7, 8, 9, 10, 11, 12, 13, 14, 15, 16, 17, 18, 19, 20] [0, 1, 2, 3, 4, 5, 6, 7, 8, 9, 10, 11, 12, 13, 14, 15, 16, 17, 18, 19] (by decide) rfl rfl (fun U hU hW => trivial) (fun U g mk a h => h) (q0 := 0) (ci := 8) rfl rfl) rfl rfl hl.1 rfl (lv_room (Nat.le_of_ble_eq_true rfl)) d_O_expand_16 ⟨by decide, by decide⟩) (fun v30 u H locs h29 hP hD hK hS => ?_)
    have hP : va_P D wcl (MO g ad ca gs27) H := hP
    have hD : va_D A (MO g ad ca gs27) := hD
    have hK : va_K D wcl (MT ca) s := hK
    have h29 : r26 = v30 := h29
    subst h29
    refine lv_aload_n hx hb d_O_expand_19 rfl (lv_at hl 1 rfl) ?_
    refine va_get (D := D) (ci := 8) (v := .int (gs27.1 3)) (C := rc_O) (T := ft_O) (N := 42) hx hb hts in_O hown hK hP 0 rfl rfl 3 (by decide) (hts _ k_658) (fun _ h9 => h9) rfl d_O_expand_20 ?_
    refine lv_icmp_ne (tgt := 36) hx hb d_O_expand_23 (by decide) (fun h31 => ?_) (fun h31 => ?_)
    · replace hok := ci_f h31 hok
      exact j36 gs27 H locs ls hok hP hD hS (lv_sub hl [1] rfl)
    · replace hok := ci_t h31 hok
      refine lv_iload_n hx hb d_O_expand_26 rfl (lv_at hl 2 rfl) ?_
      refine lv_if_lt (tgt := 36) hx hb d_O_expand_27 (by decide) (fun h32 => ?_) (fun h32 => ?_)
      · replace hok := ci_t h32 hok
        exact j36 gs27 H locs ls hok hP hD hS (lv_sub hl [1] rfl)
      · replace hok := ci_f h32 hok
        refine lv_iload_n hx hb d_O_expand_30 rfl (lv_at hl 2 rfl) ?_
        refine lv_bipush (v := 12) hx hb d_O_expand_31 (by decide) ?_
        refine lv_icmp_le (tgt := 42) hx hb d_O_expand_33 (by decide) (fun h33 => ?_) (fun h33 => ?_)
        · replace hok := ci_t h33 hok
          refine lv_iconst (v := 0) hx hb d_O_expand_42 (by decide) ?_
          refine lv_istore_n hx hb d_O_expand_43 rfl hl (by decide) rfl (fun ls hl => ?_)
          have hl : lv_has ls 4 [(3, .int 0), (2, .int r20), (0, .ref g), (1, .int a1)] := hl
          exact j44 F gs27 a1 0 H locs ls hok hP hD hS (lv_sub hl [2, 3, 0] rfl)
        · replace hok := ci_f h33 hok
          exact j36 gs27 H locs ls hok hP hD hS (lv_sub hl [1] rfl)
