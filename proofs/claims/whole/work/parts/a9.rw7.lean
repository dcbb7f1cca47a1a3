set_option maxHeartbeats 4000000 in
set_option maxRecDepth 100000 in
theorem a_rule (l : Launch) (D : va_G) (sz : Nat) (g : Nat) (ad : Nat → Nat) (ca : Nat → ClassId) (F : Nat) (gs : OS) (r0 : Int32) (gf : OS) (hok : rf_rule F gs = some (r0, gf)) : Met l y_O_rule (Cond.code y_O_rule b_O_rule 4 (some .int) :: wal) ({ frames := 14, cells := 0, slots := 0, locals := 360 }) (va_Pc [.ref g] (pr D sz (MO g ad ca gs) (MT ca) (fun _ => True))) (va_Qi (S := Unit) (fun r u => r0 = r) (fun u t9 => po D (va_A (MO g ad ca gs) sz) ((fun u => (MO g ad ca gf)) u) ((fun u => []) u) t9) (va_A (MO g ad ca gs) sz)) 0 0 (va_A (MO g ad ca gs) sz) := by
  refine Met.ofW (cc := b_O_rule) (maxL := 4) (ret := (some .int)) (by decide) rfl ?_
  intro p e s m args below meth c s₁ B hml hv
  obtain ⟨rfl, hsz, hP, hK, hD0, hE⟩ := hv
  have hx := B.exec
  have hb := B.bytes
  have hr := B.returns
  have hts0 := atoms_spec (ws := Cond.code y_O_rule b_O_rule 4 (some .int) :: wal) B.pre
  have hts : ∀ w ∈ wal, w.before _ s = true := fun w h => hts0 w (List.mem_cons_of_mem _ h)
  have hown : s.vm.findClass rc_O = some m.cls := findClass_of_methodNamed B.named
  have hlocks := B.notSynchronized
  subst hsz
  have hD := hD0.self (sz := s.heap.size)
  generalize hAe : va_A (MO g ad ca gs) s.heap.size = A at hD ⊢
  have hA : ∀ q : Nat, s.heap.size ≤ q → A q := fun q h => by rw [← hAe]; exact Or.inr h
  have hS : va_S A s.heap s.heap [] := va_S.rf
  have hl := lv_entry ([.ref g]) (n := 4) (Nat.le_of_ble_eq_true rfl)
  rw [lg_entry_eq]
  generalize (lg_sl ([.ref g]) ++ List.replicate (4 - (lg_sl ([.ref g])).length) Slot.unset).toArray = ls at hl ⊢
  have hl : lv_has ls 4 [(0, .ref g)] := hl
  have j243 : ∀ (gs : OS)  (H : Heap) (locs : List Loc) (ls : Array Slot), rf_rule_243 F gs = some (r0, gf) → va_P D wcl (MO g ad ca gs) H → va_D A (MO g ad ca gs) → va_S A s.heap H locs → lv_has ls 4 [(0, .ref g)] → W p l e (headSpec (Cond.code y_O_rule b_O_rule 4 (some .int) :: wal) ({ frames := 14, cells := 0, slots := 0, locals := 360 })).room s m ([.ref g] : List Value).toArray below meth c H locs 0 0 (MQ below (va_Qi (S := Unit) (fun r u => r0 = r) (fun u t9 => po D (A) ((fun u => (MO g ad ca gf)) u) ((fun u => []) u) t9) (A)) ([.ref g] : List Value).toArray s 0 0 A) (F0 m 243 ls []) := by
    intro gs  H locs ls hok hP hD hS hl
    rw [rf_rule_243] at hok
    refine lv_aload_n hx hb d_O_rule_243 rfl (lv_at hl 0 rfl) ?_
    refine lv_dup hx hb d_O_rule_244 rfl ?_
    refine va_get (D := D) (ci := 8) (v := .int (gs.1 5)) (C := rc_O) (T := ft_O) (N := 42) hx hb hts in_O hown hK hP 0 rfl rfl 5 (by decide) (hts _ k_660) (fun _ h9 => h9) rfl d_O_rule_245 ?_
    refine lv_iconst (v := 1) hx hb d_O_rule_248 (by decide) ?_
    refine lv_iadd hx hb d_O_rule_249 ?_
    refine va_put (D := D) (ci := 8) (v := .int ((gs.1 5) + 1)) (ty := .int) (C := rc_O) (T := ft_O) (N := 42) hx hb hts in_O ty_O tk_O nm_O hown hK hP hD hS 0 rfl rfl 5 (by decide) (hts _ k_660) (fun _ h9 => h9) rfl (by decide +kernel) rfl rfl (Nat.le_of_ble_eq_true rfl) d_O_rule_250 (fun H locs hP hD hS => ?_)
    have hP : va_P D wcl (MO g ad ca (sI gs 5 ((gs.1 5) + 1))) H := hP
    have hD : va_D A (MO g ad ca (sI gs 5 ((gs.1 5) + 1))) := hD
    refine lv_aload_n hx hb d_O_rule_253 rfl (lv_at hl 0 rfl) ?_
    refine lv_aload_n hx hb d_O_rule_254 rfl (lv_at hl 0 rfl) ?_
    refine va_get (D := D) (ci := 8) (v := .ref (ad 6)) (C := rc_O) (T := ft_O) (N := 42) hx hb hts in_O hown hK hP 0 rfl rfl 6 (by decide) (hts _ k_661) (fun _ h9 => h9) rfl d_O_rule_255 ?_
    refine lv_aload_n hx hb d_O_rule_258 rfl (lv_at hl 0 rfl) ?_
    refine va_get (D := D) (ci := 8) (v := .int ((gs.1 5) + 1)) (C := rc_O) (T := ft_O) (N := 42) hx hb hts in_O hown hK hP 0 rfl rfl 5 (by decide) (hts _ k_660) (fun _ h9 => h9) rfl d_O_rule_259 ?_
    refine lv_iconst (v := 1) hx hb d_O_rule_262 (by decide) ?_
    refine lv_isub hx hb d_O_rule_263 ?_
    have hi1 := (gd_ok hok).1
    replace hok := (gd_ok hok).2
    refine va_iald hx hb hK hP 3 2 rfl rfl (hi1) d_O_rule_264 ?_
    replace hok := bd_ok hok
    obtain ⟨r2, gs3, hc4, hok⟩ := hok
    refine cl_i (wc := (MO g ad ca (sI gs 5 ((gs.1 5) + 1)))) (wr := []) hP hD hK hS hA [0, 1, 2, 3, 4, 5, 6, 7, 8, 9, 10, 11, 12, 13, 14, 15, 16, 17, 18, 19, 20] [] rfl rfl (by decide) (by decide) (va_runV (As := [.int ((gs.2 6) (((gs.1 5) + 1) - 1).toNatClampNeg)]) (rest := []) ⟨hx, hb, hml, hown, hts⟩ (a_countOf l D H.size g ad ca F (sI gs 5 ((gs.1 5) + 1)) ((gs.2 6) (((gs.1 5) + 1) - 1).toNatClampNeg) r2 gs3 hc4) (cw_V hts 1 k_868 k_9 k_865 k_867 sel_O_countOf (by decide +kernel) ⟨Nat.le_of_ble_eq_true rfl, Nat.le_of_ble_eq_true rfl⟩) (pr_V hP hD hK [0, 1, 2, 3, 4, 5, 6, 7, 8, 9, 10, 11, 12, 13, 14, 15, 16, 17, 18, 19, 20] [0, 1, 2, 3, 4, 5, 6, 7, 8, 9, 10, 11, 12, 13, 14, 15, 16, 17, 18, 19] (by decide) rfl rfl (fun U hU hW => trivial) (fun U g mk a h => h) (q0 := 0) (ci := 8) rfl rfl) rfl rfl hl.1 rfl (lv_room (Nat.le_of_ble_eq_true rfl)) d_O_rule_265 ⟨by decide, by decide⟩) (fun v6 u H locs h5 hP hD hK hS => ?_)
    have hP : va_P D wcl (MO g ad ca gs3) H := hP
    have hD : va_D A (MO g ad ca gs3) := hD
    have hK : va_K D wcl (MT ca) s := hK
    have h5 : r2 = v6 := h5
    subst h5
    obtain ⟨e8, e9⟩ := rt_ok hok
    rw [e9] at hP hD
    have hK9 := hK.sub (tys' := []) [] rfl
    exact W.iret (v := r2) hx hb hr (fun t9 ht hW => ⟨⟨r2, (), rfl, e8, ⟨by rw [ht]; exact hP, va_K.moved hW.alike hK9, hD⟩⟩, hS.F ht⟩) hS.2.2 d_O_rule_268
  have j217 : ∀ (gs : OS)  (H : Heap) (locs : List Loc) (ls : Array Slot), rf_rule_217 F gs = some (r0, gf) → va_P D wcl (MO g ad ca gs) H → va_D A (MO g ad ca gs) → va_S A s.heap H locs → lv_has ls 4 [(0, .ref g)] → W p l e (headSpec (Cond.code y_O_rule b_O_rule 4 (some .int) :: wal) ({ frames := 14, cells := 0, slots := 0, locals := 360 })).room s m ([.ref g] : List Value).toArray below meth c H locs 0 0 (MQ below (va_Qi (S := Unit) (fun r u => r0 = r) (fun u t9 => po D (A) ((fun u => (MO g ad ca gf)) u) ((fun u => []) u) t9) (A)) ([.ref g] : List Value).toArray s 0 0 A) (F0 m 217 ls []) := by
    intro gs  H locs ls hok hP hD hS hl
    rw [rf_rule_217] at hok
    refine lv_aload_n hx hb d_O_rule_217 rfl (lv_at hl 0 rfl) ?_
    refine va_get (D := D) (ci := 8) (v := .ref (ad 11)) (C := rc_O) (T := ft_O) (N := 42) hx hb hts in_O hown hK hP 0 rfl rfl 11 (by decide) (hts _ k_666) (fun _ h9 => h9) rfl d_O_rule_218 ?_
    refine lv_aload_n hx hb d_O_rule_221 rfl (lv_at hl 0 rfl) ?_
    refine va_get (D := D) (ci := 8) (v := .int (gs.1 5)) (C := rc_O) (T := ft_O) (N := 42) hx hb hts in_O hown hK hP 0 rfl rfl 5 (by decide) (hts _ k_660) (fun _ h9 => h9) rfl d_O_rule_222 ?_
    refine lv_aload_n hx hb d_O_rule_225 rfl (lv_at hl 0 rfl) ?_
    refine va_get (D := D) (ci := 8) (v := .int (gs.1 18)) (C := rc_O) (T := ft_O) (N := 42) hx hb hts in_O hown hK hP 0 rfl rfl 18 (by decide) (hts _ k_673) (fun _ h9 => h9) rfl d_O_rule_226 ?_
    have hi7 := (gd_ok hok).1
    replace hok := (gd_ok hok).2
    refine va_iast hx hb hK hP hD hS 8 7 rfl rfl hi7 d_O_rule_229 (fun H locs hP hD hS => ?_)
    have hP : va_P D wcl (MO g ad ca (sA gs 11 (upd (gs.2 11) (gs.1 5).toNatClampNeg (gs.1 18)))) H := hP
    have hD : va_D A (MO g ad ca (sA gs 11 (upd (gs.2 11) (gs.1 5).toNatClampNeg (gs.1 18)))) := hD
    refine lv_aload_n hx hb d_O_rule_230 rfl (lv_at hl 0 rfl) ?_
    refine va_get (D := D) (ci := 8) (v := .ref (ad 12)) (C := rc_O) (T := ft_O) (N := 42) hx hb hts in_O hown hK hP 0 rfl rfl 12 (by decide) (hts _ k_667) (fun _ h9 => h9) rfl d_O_rule_231 ?_
    refine lv_aload_n hx hb d_O_rule_234 rfl (lv_at hl 0 rfl) ?_
    refine va_get (D := D) (ci := 8) (v := .int (gs.1 5)) (C := rc_O) (T := ft_O) (N := 42) hx hb hts in_O hown hK hP 0 rfl rfl 5 (by decide) (hts _ k_660) (fun _ h9 => h9) rfl d_O_rule_235 ?_
    refine lv_aload_n hx hb d_O_rule_238 rfl (lv_at hl 0 rfl) ?_
    refine va_get (D := D) (ci := 8) (v := .int (gs.1 19)) (C := rc_O) (T := ft_O) (N := 42) hx hb hts in_O hown hK hP 0 rfl rfl 19 (by decide) (hts _ k_674) (fun _ h9 => h9) rfl d_O_rule_239 ?_
    have hi8 := (gd_ok hok).1
    replace hok := (gd_ok hok).2
    refine va_iast hx hb hK hP hD hS 9 8 rfl rfl hi8 d_O_rule_242 (fun H locs hP hD hS => ?_)
    have hP : va_P D wcl (MO g ad ca (sA (sA gs 11 (upd (gs.2 11) (gs.1 5).toNatClampNeg (gs.1 18))) 12 (upd (gs.2 12) (gs.1 5).toNatClampNeg (gs.1 19)))) H := hP
    have hD : va_D A (MO g ad ca (sA (sA gs 11 (upd (gs.2 11) (gs.1 5).toNatClampNeg (gs.1 18))) 12 (upd (gs.2 12) (gs.1 5).toNatClampNeg (gs.1 19)))) := hD
    exact j243 (sA (sA gs 11 (upd (gs.2 11) (gs.1 5).toNatClampNeg (gs.1 18))) 12 (upd (gs.2 12) (gs.1 5).toNatClampNeg (gs.1 19))) H locs ls hok hP hD hS hl
  have j195 : ∀ (gs : OS) (x2 : Int32) (H : Heap) (locs : List Loc) (ls : Array Slot), rf_rule_195 F gs x2 = some (r0, gf) → va_P D wcl (MO g ad ca gs) H → va_D A (MO g ad ca gs) → va_S A s.heap H locs → lv_has ls 4 [(0, .ref g), (2, .int x2)] → W p l e (headSpec (Cond.code y_O_rule b_O_rule 4 (some .int) :: wal) ({ frames := 14, cells := 0, slots := 0, locals := 360 })).room s m ([.ref g] : List Value).toArray below meth c H locs 0 0 (MQ below (va_Qi (S := Unit) (fun r u => r0 = r) (fun u t9 => po D (A) ((fun u => (MO g ad ca gf)) u) ((fun u => []) u) t9) (A)) ([.ref g] : List Value).toArray s 0 0 A) (F0 m 195 ls []) := by
    intro gs x2 H locs ls hok hP hD hS hl
    rw [rf_rule_195] at hok
    refine lv_aload_n hx hb d_O_rule_195 rfl (lv_at hl 0 rfl) ?_
    refine va_get (D := D) (ci := 8) (v := .ref (ad 10)) (C := rc_O) (T := ft_O) (N := 42) hx hb hts in_O hown hK hP 0 rfl rfl 10 (by decide) (hts _ k_665) (fun _ h9 => h9) rfl d_O_rule_196 ?_
    refine lv_bipush (v := 64) hx hb d_O_rule_199 (by decide) ?_
    refine lv_aload_n hx hb d_O_rule_201 rfl (lv_at hl 0 rfl) ?_
    refine va_get (D := D) (ci := 8) (v := .int (gs.1 5)) (C := rc_O) (T := ft_O) (N := 42) hx hb hts in_O hown hK hP 0 rfl rfl 5 (by decide) (hts _ k_660) (fun _ h9 => h9) rfl d_O_rule_202 ?_
    refine lv_imul hx hb d_O_rule_205 ?_
    refine lv_aload_n hx hb d_O_rule_206 rfl (lv_at hl 0 rfl) ?_
    refine va_get (D := D) (ci := 8) (v := .int (gs.1 3)) (C := rc_O) (T := ft_O) (N := 42) hx hb hts in_O hown hK hP 0 rfl rfl 3 (by decide) (hts _ k_658) (fun _ h9 => h9) rfl d_O_rule_207 ?_
    refine lv_iadd hx hb d_O_rule_210 ?_
    refine lv_iload_n hx hb d_O_rule_211 rfl (lv_at hl 1 rfl) ?_
    refine lv_isub hx hb d_O_rule_212 ?_
    refine lv_iconst (v := 1) hx hb d_O_rule_213 (by decide) ?_
    refine lv_isub hx hb d_O_rule_214 ?_
    refine lv_iconst (v := 0) hx hb d_O_rule_215 (by decide) ?_
    have hi9 := (gd_ok hok).1
    replace hok := (gd_ok hok).2
    refine va_iast hx hb hK hP hD hS 7 6 rfl rfl hi9 d_O_rule_216 (fun H locs hP hD hS => ?_)
    have hP : va_P D wcl (MO g ad ca (sA gs 10 (upd (gs.2 10) ((((64 * (gs.1 5)) + (gs.1 3)) - x2) - 1).toNatClampNeg 0))) H := hP
    have hD : va_D A (MO g ad ca (sA gs 10 (upd (gs.2 10) ((((64 * (gs.1 5)) + (gs.1 3)) - x2) - 1).toNatClampNeg 0))) := hD
    exact j217 (sA gs 10 (upd (gs.2 10) ((((64 * (gs.1 5)) + (gs.1 3)) - x2) - 1).toNatClampNeg 0)) H locs ls hok hP hD hS (lv_sub hl [0] rfl)
  have j157 : ∀ (d157 : Nat) (gs : OS) (x2 : Int32) (x3 : Int32) (H : Heap) (locs : List Loc) (ls : Array Slot), rf_rule_157 F d157 gs x2 x3 = some (r0, gf) → va_P D wcl (MO g ad ca gs) H → va_D A (MO g ad ca gs) → va_S A s.heap H locs → lv_has ls 4 [(0, .ref g), (2, .int x2), (3, .int x3)] → W p l e (headSpec (Cond.code y_O_rule b_O_rule 4 (some .int) :: wal) ({ frames := 14, cells := 0, slots := 0, locals := 360 })).room s m ([.ref g] : List Value).toArray below meth c H locs 0 0 (MQ below (va_Qi (S := Unit) (fun r u => r0 = r) (fun u t9 => po D (A) ((fun u => (MO g ad ca gf)) u) ((fun u => []) u) t9) (A)) ([.ref g] : List Value).toArray s 0 0 A) (F0 m 157 ls []) := by
    intro d157
    induction d157 with
    | zero =>
      intro gs x2 x3 H locs ls hok
      have h9 : (none : RO) = some (r0, gf) := hok
      cases h9
    | succ d157 ih157 =>
      intro gs x2 x3 H locs ls hok hP hD hS hl
      rw [rf_rule_157] at hok
      refine lv_iload_n hx hb d_O_rule_157 rfl (lv_at hl 2 rfl) ?_
      refine lv_aload_n hx hb d_O_rule_158 rfl (lv_at hl 0 rfl) ?_
      refine va_get (D := D) (ci := 8) (v := .int (gs.1 3)) (C := rc_O) (T := ft_O) (N := 42) hx hb hts in_O hown hK hP 0 rfl rfl 3 (by decide) (hts _ k_658) (fun _ h9 => h9) rfl d_O_rule_159 ?_
      refine lv_icmp_ge (tgt := 195) hx hb d_O_rule_162 (by decide) (fun h10 => ?_) (fun h10 => ?_)
      · replace hok := ci_t h10 hok
        exact j195 gs x2 H locs ls hok hP hD hS (lv_sub hl [0, 1] rfl)
      · replace hok := ci_f h10 hok
        refine lv_aload_n hx hb d_O_rule_165 rfl (lv_at hl 0 rfl) ?_
        refine va_get (D := D) (ci := 8) (v := .ref (ad 10)) (C := rc_O) (T := ft_O) (N := 42) hx hb hts in_O hown hK hP 0 rfl rfl 10 (by decide) (hts _ k_665) (fun _ h9 => h9) rfl d_O_rule_166 ?_
        refine lv_bipush (v := 64) hx hb d_O_rule_169 (by decide) ?_
        refine lv_aload_n hx hb d_O_rule_171 rfl (lv_at hl 0 rfl) ?_
        refine va_get (D := D) (ci := 8) (v := .int (gs.1 5)) (C := rc_O) (T := ft_O) (N := 42) hx hb hts in_O hown hK hP 0 rfl rfl 5 (by decide) (hts _ k_660) (fun _ h9 => h9) rfl d_O_rule_172 ?_
        refine lv_imul hx hb d_O_rule_175 ?_
        refine lv_iload_n hx hb d_O_rule_176 rfl (lv_at hl 2 rfl) ?_
        refine lv_iadd hx hb d_O_rule_177 ?_
        refine lv_iload_n hx hb d_O_rule_178 rfl (lv_at hl 1 rfl) ?_
        refine lv_isub hx hb d_O_rule_179 ?_
        refine lv_iconst (v := 1) hx hb d_O_rule_180 (by decide) ?_
        refine lv_isub hx hb d_O_rule_181 ?_
        refine lv_aload_n hx hb d_O_rule_182 rfl (lv_at hl 0 rfl) ?_
        refine va_get (D := D) (ci := 8) (v := .ref (ad 4)) (C := rc_O) (T := ft_O) (N := 42) hx hb hts in_O hown hK hP 0 rfl rfl 4 (by decide) (hts _ k_659) (fun _ h9 => h9) rfl d_O_rule_183 ?_
        refine lv_iload_n hx hb d_O_rule_186 rfl (lv_at hl 2 rfl) ?_
        have hi11 := (gd_ok hok).1
        replace hok := (gd_ok hok).2
        refine va_iald hx hb hK hP 2 1 rfl rfl (hi11) d_O_rule_187 ?_
        have hi12 := (gd_ok hok).1
        replace hok := (gd_ok hok).2
        refine va_iast hx hb hK hP hD hS 7 6 rfl rfl hi12 d_O_rule_188 (fun H locs hP hD hS => ?_)
        have hP : va_P D wcl (MO g ad ca (sA gs 10 (upd (gs.2 10) ((((64 * (gs.1 5)) + x3) - x2) - 1).toNatClampNeg ((gs.2 4) x3.toNatClampNeg)))) H := hP
        have hD : va_D A (MO g ad ca (sA gs 10 (upd (gs.2 10) ((((64 * (gs.1 5)) + x3) - x2) - 1).toNatClampNeg ((gs.2 4) x3.toNatClampNeg)))) := hD
        refine lv_iinc (k := 2) (v := (x3 + 1)) hx hb d_O_rule_189 hl rfl (by rfl) (by decide) rfl (fun ls hl => ?_)
        have hl : lv_has ls 4 [(3, .int (x3 + 1)), (0, .ref g), (2, .int x2)] := hl
        refine lv_goto (tgt := 157) hx hb d_O_rule_192 (by decide) ?_
        exact ih157 (sA gs 10 (upd (gs.2 10) ((((64 * (gs.1 5)) + x3) - x2) - 1).toNatClampNeg ((gs.2 4) x3.toNatClampNeg))) x2 (x3 + 1) H locs ls hok hP hD hS (lv_sub hl [1, 2, 0] rfl)
  have j136 : ∀ (gs : OS) (x2 : Int32) (H : Heap) (locs : List Loc) (ls : Array Slot), rf_rule_136 F gs x2 = some (r0, gf) → va_P D wcl (MO g ad ca gs) H → va_D A (MO g ad ca gs) → va_S A s.heap H locs → lv_has ls 4 [(0, .ref g), (2, .int x2)] → W p l e (headSpec (Cond.code y_O_rule b_O_rule 4 (some .int) :: wal) ({ frames := 14, cells := 0, slots := 0, locals := 360 })).room s m ([.ref g] : List Value).toArray below meth c H locs 0 0 (MQ below (va_Qi (S := Unit) (fun r u => r0 = r) (fun u t9 => po D (A) ((fun u => (MO g ad ca gf)) u) ((fun u => []) u) t9) (A)) ([.ref g] : List Value).toArray s 0 0 A) (F0 m 136 ls []) := by
    intro gs x2 H locs ls hok hP hD hS hl
    rw [rf_rule_136] at hok
    refine lv_aload_n hx hb d_O_rule_136 rfl (lv_at hl 0 rfl) ?_
    refine va_get (D := D) (ci := 8) (v := .ref (ad 9)) (C := rc_O) (T := ft_O) (N := 42) hx hb hts in_O hown hK hP 0 rfl rfl 9 (by decide) (hts _ k_664) (fun _ h9 => h9) rfl d_O_rule_137 ?_
    refine lv_aload_n hx hb d_O_rule_140 rfl (lv_at hl 0 rfl) ?_
    refine va_get (D := D) (ci := 8) (v := .int (gs.1 5)) (C := rc_O) (T := ft_O) (N := 42) hx hb hts in_O hown hK hP 0 rfl rfl 5 (by decide) (hts _ k_660) (fun _ h9 => h9) rfl d_O_rule_141 ?_
    refine lv_aload_n hx hb d_O_rule_144 rfl (lv_at hl 0 rfl) ?_
    refine va_get (D := D) (ci := 8) (v := .int (gs.1 3)) (C := rc_O) (T := ft_O) (N := 42) hx hb hts in_O hown hK hP 0 rfl rfl 3 (by decide) (hts _ k_658) (fun _ h9 => h9) rfl d_O_rule_145 ?_
    refine lv_iload_n hx hb d_O_rule_148 rfl (lv_at hl 1 rfl) ?_
    refine lv_isub hx hb d_O_rule_149 ?_
    refine lv_iconst (v := 1) hx hb d_O_rule_150 (by decide) ?_
    refine lv_isub hx hb d_O_rule_151 ?_
    have hi13 := (gd_ok hok).1
    replace hok := (gd_ok hok).2
    refine va_iast hx hb hK hP hD hS 6 5 rfl rfl hi13 d_O_rule_152 (fun H locs hP hD hS => ?_)
    have hP : va_P D wcl (MO g ad ca (sA gs 9 (upd (gs.2 9) (gs.1 5).toNatClampNeg (((gs.1 3) - x2) - 1)))) H := hP
    have hD : va_D A (MO g ad ca (sA gs 9 (upd (gs.2 9) (gs.1 5).toNatClampNeg (((gs.1 3) - x2) - 1)))) := hD
    refine lv_iload_n hx hb d_O_rule_153 rfl (lv_at hl 1 rfl) ?_
    refine lv_iconst (v := 1) hx hb d_O_rule_154 (by decide) ?_
    refine lv_iadd hx hb d_O_rule_155 ?_
    refine lv_istore_n hx hb d_O_rule_156 rfl hl (by decide) rfl (fun ls hl => ?_)
    have hl : lv_has ls 4 [(3, .int (x2 + 1)), (0, .ref g), (2, .int x2)] := hl
    exact j157 F (sA gs 9 (upd (gs.2 9) (gs.1 5).toNatClampNeg (((gs.1 3) - x2) - 1))) x2 (x2 + 1) H locs ls hok hP hD hS (lv_sub hl [1, 2, 0] rfl)
  have j105 : ∀ (d105 : Nat) (gs : OS) (x2 : Int32) (x3 : Int32) (H : Heap) (locs : List Loc) (ls : Array Slot), rf_rule_105 F d105 gs x2 x3 = some (r0, gf) → va_P D wcl (MO g ad ca gs) H → va_D A (MO g ad ca gs) → va_S A s.heap H locs → lv_has ls 4 [(0, .ref g), (2, .int x2), (3, .int x3)] → W p l e (headSpec (Cond.code y_O_rule b_O_rule 4 (some .int) :: wal) ({ frames := 14, cells := 0, slots := 0, locals := 360 })).room s m ([.ref g] : List Value).toArray below meth c H locs 0 0 (MQ below (va_Qi (S := Unit) (fun r u => r0 = r) (fun u t9 => po D (A) ((fun u => (MO g ad ca gf)) u) ((fun u => []) u) t9) (A)) ([.ref g] : List Value).toArray s 0 0 A) (F0 m 105 ls []) := by
    intro d105
    induction d105 with
    | zero =>
      intro gs x2 x3 H locs ls hok
      have h9 : (none : RO) = some (r0, gf) := hok
      cases h9
    | succ d105 ih105 =>
      intro gs x2 x3 H locs ls hok hP hD hS hl
      rw [rf_rule_105] at hok
      refine lv_iload_n hx hb d_O_rule_105 rfl (lv_at hl 2 rfl) ?_
      refine lv_iload_n hx hb d_O_rule_106 rfl (lv_at hl 1 rfl) ?_
      refine lv_icmp_ge (tgt := 136) hx hb d_O_rule_107 (by decide) (fun h14 => ?_) (fun h14 => ?_)
      · replace hok := ci_t h14 hok
        exact j136 gs x2 H locs ls hok hP hD hS (lv_sub hl [0, 1] rfl)
      · replace hok := ci_f h14 hok
        refine lv_aload_n hx hb d_O_rule_110 rfl (lv_at hl 0 rfl) ?_
        refine va_get (D := D) (ci := 8) (v := .ref (ad 8)) (C := rc_O) (T := ft_O) (N := 42) hx hb hts in_O hown hK hP 0 rfl rfl 8 (by decide) (hts _ k_663) (fun _ h9 => h9) rfl d_O_rule_111 ?_
        refine lv_bipush (v := 64) hx hb d_O_rule_114 (by decide) ?_
        refine lv_aload_n hx hb d_O_rule_116 rfl (lv_at hl 0 rfl) ?_
        refine va_get (D := D) (ci := 8) (v := .int (gs.1 5)) (C := rc_O) (T := ft_O) (N := 42) hx hb hts in_O hown hK hP 0 rfl rfl 5 (by decide) (hts _ k_660) (fun _ h9 => h9) rfl d_O_rule_117 ?_
        refine lv_imul hx hb d_O_rule_120 ?_
        refine lv_iload_n hx hb d_O_rule_121 rfl (lv_at hl 2 rfl) ?_
        refine lv_iadd hx hb d_O_rule_122 ?_
        refine lv_aload_n hx hb d_O_rule_123 rfl (lv_at hl 0 rfl) ?_
        refine va_get (D := D) (ci := 8) (v := .ref (ad 4)) (C := rc_O) (T := ft_O) (N := 42) hx hb hts in_O hown hK hP 0 rfl rfl 4 (by decide) (hts _ k_659) (fun _ h9 => h9) rfl d_O_rule_124 ?_
        refine lv_iload_n hx hb d_O_rule_127 rfl (lv_at hl 2 rfl) ?_
        have hi15 := (gd_ok hok).1
        replace hok := (gd_ok hok).2
        refine va_iald hx hb hK hP 2 1 rfl rfl (hi15) d_O_rule_128 ?_
        have hi16 := (gd_ok hok).1
        replace hok := (gd_ok hok).2
        refine va_iast hx hb hK hP hD hS 5 4 rfl rfl hi16 d_O_rule_129 (fun H locs hP hD hS => ?_)
        have hP : va_P D wcl (MO g ad ca (sA gs 8 (upd (gs.2 8) ((64 * (gs.1 5)) + x3).toNatClampNeg ((gs.2 4) x3.toNatClampNeg)))) H := hP
        have hD : va_D A (MO g ad ca (sA gs 8 (upd (gs.2 8) ((64 * (gs.1 5)) + x3).toNatClampNeg ((gs.2 4) x3.toNatClampNeg)))) := hD
        refine lv_iinc (k := 2) (v := (x3 + 1)) hx hb d_O_rule_130 hl rfl (by rfl) (by decide) rfl (fun ls hl => ?_)
        have hl : lv_has ls 4 [(3, .int (x3 + 1)), (0, .ref g), (2, .int x2)] := hl
        refine lv_goto (tgt := 105) hx hb d_O_rule_133 (by decide) ?_
        exact ih105 (sA gs 8 (upd (gs.2 8) ((64 * (gs.1 5)) + x3).toNatClampNeg ((gs.2 4) x3.toNatClampNeg))) x2 (x3 + 1) H locs ls hok hP hD hS (lv_sub hl [1, 2, 0] rfl)
  have j93 : ∀ (gs : OS) (x2 : Int32) (H : Heap) (locs : List Loc) (ls : Array Slot), rf_rule_93 F gs x2 = some (r0, gf) → va_P D wcl (MO g ad ca gs) H → va_D A (MO g ad ca gs) → va_S A s.heap H locs → lv_has ls 4 [(0, .ref g), (2, .int x2)] → W p l e (headSpec (Cond.code y_O_rule b_O_rule 4 (some .int) :: wal) ({ frames := 14, cells := 0, slots := 0, locals := 360 })).room s m ([.ref g] : List Value).toArray below meth c H locs 0 0 (MQ below (va_Qi (S := Unit) (fun r u => r0 = r) (fun u t9 => po D (A) ((fun u => (MO g ad ca gf)) u) ((fun u => []) u) t9) (A)) ([.ref g] : List Value).toArray s 0 0 A) (F0 m 93 ls []) := by
    intro gs x2 H locs ls hok hP hD hS hl
    rw [rf_rule_93] at hok
    refine lv_aload_n hx hb d_O_rule_93 rfl (lv_at hl 0 rfl) ?_
    refine va_get (D := D) (ci := 8) (v := .ref (ad 7)) (C := rc_O) (T := ft_O) (N := 42) hx hb hts in_O hown hK hP 0 rfl rfl 7 (by decide) (hts _ k_662) (fun _ h9 => h9) rfl d_O_rule_94 ?_
    refine lv_aload_n hx hb d_O_rule_97 rfl (lv_at hl 0 rfl) ?_
    refine va_get (D := D) (ci := 8) (v := .int (gs.1 5)) (C := rc_O) (T := ft_O) (N := 42) hx hb hts in_O hown hK hP 0 rfl rfl 5 (by decide) (hts _ k_660) (fun _ h9 => h9) rfl d_O_rule_98 ?_
    refine lv_iload_n hx hb d_O_rule_101 rfl (lv_at hl 1 rfl) ?_
    have hi17 := (gd_ok hok).1
    replace hok := (gd_ok hok).2
    refine va_iast hx hb hK hP hD hS 4 3 rfl rfl hi17 d_O_rule_102 (fun H locs hP hD hS => ?_)
    have hP : va_P D wcl (MO g ad ca (sA gs 7 (upd (gs.2 7) (gs.1 5).toNatClampNeg x2))) H := hP
    have hD : va_D A (MO g ad ca (sA gs 7 (upd (gs.2 7) (gs.1 5).toNatClampNeg x2))) := hD
    refine lv_iconst (v := 0) hx hb d_O_rule_103 (by decide) ?_
    refine lv_istore_n hx hb d_O_rule_104 rfl hl (by decide) rfl (fun ls hl => ?_)
    have hl : lv_has ls 4 [(3, .int 0), (0, .ref g), (2, .int x2)] := hl
    exact j105 F (sA gs 7 (upd (gs.2 7) (gs.1 5).toNatClampNeg x2)) x2 0 H locs ls hok hP hD hS (lv_sub hl [1, 2, 0] rfl)
  have j92 : ∀ (gs : OS) (x2 : Int32) (y0 : Int32) (y1 : Int32) (H : Heap) (locs : List Loc) (ls : Array Slot), rf_rule_92 F gs x2 y0 y1 = some (r0, gf) → va_P D wcl (MO g ad ca gs) H → va_D A (MO g ad ca gs) → va_S A s.heap H locs → lv_has ls 4 [(0, .ref g), (2, .int x2)] → W p l e (headSpec (Cond.code y_O_rule b_O_rule 4 (some .int) :: wal) ({ frames := 14, cells := 0, slots := 0, locals := 360 })).room s m ([.ref g] : List Value).toArray below meth c H locs 0 0 (MQ below (va_Qi (S := Unit) (fun r u => r0 = r) (fun u t9 => po D (A) ((fun u => (MO g ad ca gf)) u) ((fun u => []) u) t9) (A)) ([.ref g] : List Value).toArray s 0 0 A) (F0 m 92 ls [.int y0, .int y1, .ref (ad 6)]) := by
    intro gs x2 y0 y1 H locs ls hok hP hD hS hl
    rw [rf_rule_92] at hok
    have hi18 := (gd_ok hok).1
    replace hok := (gd_ok hok).2
    refine va_iast hx hb hK hP hD hS 3 2 rfl rfl hi18 d_O_rule_92 (fun H locs hP hD hS => ?_)
    have hP : va_P D wcl (MO g ad ca (sA gs 6 (upd (gs.2 6) y1.toNatClampNeg y0))) H := hP
    have hD : va_D A (MO g ad ca (sA gs 6 (upd (gs.2 6) y1.toNatClampNeg y0))) := hD
    exact j93 (sA gs 6 (upd (gs.2 6) y1.toNatClampNeg y0)) x2 H locs ls hok hP hD hS hl
  have j75 : ∀ (gs : OS) (x2 : Int32) (H : Heap) (locs : List Loc) (ls : Array Slot), rf_rule_75 F gs x2 = some (r0, gf) → va_P D wcl (MO g ad ca gs) H → va_D A (MO g ad ca gs) → va_S A s.heap H locs → lv_has ls 4 [(0, .ref g), (2, .int x2)] → W p l e (headSpec (Cond.code y_O_rule b_O_rule 4 (some .int) :: wal) ({ frames := 14, cells := 0, slots := 0, locals := 360 })).room s m ([.ref g] : List Value).toArray below meth c H locs 0 0 (MQ below (va_Qi (S := Unit) (fun r u => r0 = r) (fun u t9 => po D (A) ((fun u => (MO g ad ca gf)) u) ((fun u => []) u) t9) (A)) ([.ref g] : List Value).toArray s 0 0 A) (F0 m 75 ls []) := by
    intro gs x2 H locs ls hok hP hD hS hl
    rw [rf_rule_75] at hok
    refine lv_aload_n hx hb d_O_rule_75 rfl (lv_at hl 0 rfl) ?_
    refine va_get (D := D) (ci := 8) (v := .ref (ad 6)) (C := rc_O) (T := ft_O) (N := 42) hx hb hts in_O hown hK hP 0 rfl rfl 6 (by decide) (hts _ k_661) (fun _ h9 => h9) rfl d_O_rule_76 ?_
    refine lv_aload_n hx hb d_O_rule_79 rfl (lv_at hl 0 rfl) ?_
    refine va_get (D := D) (ci := 8) (v := .int (gs.1 5)) (C := rc_O) (T := ft_O) (N := 42) hx hb hts in_O hown hK hP 0 rfl rfl 5 (by decide) (hts _ k_660) (fun _ h9 => h9) rfl d_O_rule_80 ?_
    refine lv_aload_n hx hb d_O_rule_83 rfl (lv_at hl 0 rfl) ?_
    refine va_get (D := D) (ci := 8) (v := .ref (ad 4)) (C := rc_O) (T := ft_O) (N := 42) hx hb hts in_O hown hK hP 0 rfl rfl 4 (by decide) (hts _ k_659) (fun _ h9 => h9) rfl d_O_rule_84 ?_
    refine lv_iconst (v := 1) hx hb d_O_rule_87 (by decide) ?_
    have hi19 := (gd_ok hok).1
    replace hok := (gd_ok hok).2
    refine va_iald hx hb hK hP 2 1 rfl rfl (hi19) d_O_rule_88 ?_
    replace hok := bd_ok hok
    obtain ⟨r20, gs21, hc22, hok⟩ := hok
    refine cl_i (wc := (MO g ad ca gs)) (wr := []) hP hD hK hS hA [0, 1, 2, 3, 4, 5, 6, 7, 8, 9, 10, 11, 12, 13, 14, 15, 16, 17, 18, 19, 20] [] rfl rfl (by decide) (by decide) (va_runS (As := [.int ((gs.2 4) (1 : Int32).toNatClampNeg)]) (rest := [.int (gs.1 5), .ref (ad 6)]) ⟨hx, hb, hml, hown, hts⟩ (a_letterOf l D H.size g ad ca F gs ((gs.2 4) (1 : Int32).toNatClampNeg) r20 gs21 hc22) (cw_S hts 1 k_830 k_9 k_828 k_829 (by decide +kernel) ⟨Nat.le_of_ble_eq_true rfl, Nat.le_of_ble_eq_true rfl⟩) (pr_S hP hD hK [0, 1, 2, 3, 4, 5, 6, 7, 8, 9, 10, 11, 12, 13, 14, 15, 16, 17, 18, 19, 20] [0, 1, 2, 3, 4, 5, 6, 7, 8, 9, 10, 11, 12, 13, 14, 15, 16, 17, 18, 19] (by decide) rfl rfl (fun U hU hW => trivial) (fun U g mk a h => h)) rfl rfl hl.1 rfl (lv_room (Nat.le_of_ble_eq_true rfl)) d_O_rule_89 ⟨by decide, by decide⟩) (fun v24 u H locs h23 hP hD hK hS => ?_)
    have hP : va_P D wcl (MO g ad ca gs21) H := hP
    have hD : va_D A (MO g ad ca gs21) := hD
    have hK : va_K D wcl (MT ca) s := hK
    have h23 : r20 = v24 := h23
    subst h23
    exact j92 gs21 x2 r20 (gs.1 5) H locs ls hok hP hD hS hl
  have j38 : ∀ (gs : OS)  (H : Heap) (locs : List Loc) (ls : Array Slot), rf_rule_38 F gs = some (r0, gf) → va_P D wcl (MO g ad ca gs) H → va_D A (MO g ad ca gs) → va_S A s.heap H locs → lv_has ls 4 [(0, .ref g)] → W p l e (headSpec (Cond.code y_O_rule b_O_rule 4 (some .int) :: wal) ({ frames := 14, cells := 0, slots := 0, locals := 360 })).room s m ([.ref g] : List Value).toArray below meth c H locs 0 0 (MQ below (va_Qi (S := Unit) (fun r u => r0 = r) (fun u t9 => po D (A) ((fun u => (MO g ad ca gf)) u) ((fun u => []) u) t9) (A)) ([.ref g] : List Value).toArray s 0 0 A) (F0 m 38 ls []) := by
    intro gs  H locs ls hok hP hD hS hl
    rw [rf_rule_38] at hok
    refine lv_aload_n hx hb d_O_rule_38 rfl (lv_at hl 0 rfl) ?_
    refine lv_iconst (v := 1) hx hb d_O_rule_39 (by decide) ?_
    replace hok := bd_ok hok
    obtain ⟨r25, gs26, hc27, hok⟩ := hok
    refine cl_i (wc := (MO g ad ca gs)) (wr := []) hP hD hK hS hA [0, 1, 2, 3, 4, 5, 6, 7, 8, 9, 10, 11, 12, 13, 14, 15, 16, 17, 18, 19, 20] [] rfl rfl (by decide) (by decide) (va_runV (As := [.int 1]) (rest := []) ⟨hx, hb, hml, hown, hts⟩ (a_fail l D H.size g ad ca F gs 1 r25 gs26 hc27) (cw_V hts 1 k_852 k_9 k_849 k_851 sel_O_fail (by decide +kernel) ⟨Nat.le_of_ble_eq_true rfl, Nat.le_of_ble_eq_true rfl⟩) (pr_V hP hD hK [0, 1, 2, 3, 4, 5, 6, 7, 8, 9, 10, 11, 12, 13, 14, 15, 16, 17, 18, 19, 20] [0, 1, 2, 3, 4, 5, 6, 7, 8, 9, 10, 11, 12, 13, 14, 15, 16, 17, 18, 19] (by decide) rfl rfl (fun U hU hW => trivial) (fun U g mk a h => h) (q0 := 0) (ci := 8) rfl rfl) rfl rfl hl.1 rfl (lv_room (Nat.le_of_ble_eq_true rfl)) d_O_rule_40 ⟨by decide, by decide⟩) (fun v29 u H locs h28 hP hD hK hS => ?_)
    have hP : va_P D wcl (MO g ad ca gs26) H := hP
    have hD : va_D A (MO g ad ca gs26) := hD
    have hK : va_K D wcl (MT ca) s := hK
    have h28 : r25 = v29 := h28
    subst h28
    obtain ⟨e8, e9⟩ := rt_ok hok
    rw [e9] at hP hD
    have hK9 := hK.sub (tys' := []) [] rfl
    exact W.iret (v := r25) hx hb hr (fun t9 ht hW => ⟨⟨r25, (), rfl, e8, ⟨by rw [ht]; exact hP, va_K.moved hW.alike hK9, hD⟩⟩, hS.F ht⟩) hS.2.2 d_O_rule_43
  have j22 : ∀ (gs : OS) (y0 : Int32) (H : Heap) (locs : List Loc) (ls : Array Slot), rf_rule_22 F gs y0 = some (r0, gf) → va_P D wcl (MO g ad ca gs) H → va_D A (MO g ad ca gs) → va_S A s.heap H locs → lv_has ls 4 [(0, .ref g)] → W p l e (headSpec (Cond.code y_O_rule b_O_rule 4 (some .int) :: wal) ({ frames := 14, cells := 0, slots := 0, locals := 360 })).room s m ([.ref g] : List Value).toArray below meth c H locs 0 0 (MQ below (va_Qi (S := Unit) (fun r u => r0 = r) (fun u t9 => po D (A) ((fun u => (MO g ad ca gf)) u) ((fun u => []) u) t9) (A)) ([.ref g] : List Value).toArray s 0 0 A) (F0 m 22 ls [.int y0]) := by
    intro gs y0 H locs ls hok hP hD hS hl
    rw [rf_rule_22] at hok
    refine lv_istore_n hx hb d_O_rule_22 rfl hl (by decide) rfl (fun ls hl => ?_)
    have hl : lv_has ls 4 [(2, .int y0), (0, .ref g)] := hl
    refine lv_iload_n hx hb d_O_rule_23 rfl (lv_at hl 0 rfl) ?_
    refine lv_if_lt (tgt := 38) hx hb d_O_rule_24 (by decide) (fun h30 => ?_) (fun h30 => ?_)
    · replace hok := ci_t h30 hok
      exact j38 gs H locs ls hok hP hD hS (lv_sub hl [1] rfl)
    · replace hok := ci_f h30 hok
      refine lv_aload_n hx hb d_O_rule_27 rfl (lv_at hl 1 rfl) ?_
      refine va_get (D := D) (ci := 8) (v := .ref (ad 4)) (C := rc_O) (T := ft_O) (N := 42) hx hb hts in_O hown hK hP 0 rfl rfl 4 (by decide) (hts _ k_659) (fun _ h9 => h9) rfl d_O_rule_28 ?_
      refine lv_iload_n hx hb d_O_rule_31 rfl (lv_at hl 0 rfl) ?_
      have hi31 := (gd_ok hok).1
      replace hok := (gd_ok hok).2
      refine va_iald hx hb hK hP 2 1 rfl rfl (hi31) d_O_rule_32 ?_
      refine lv_bipush (v := 8) hx hb d_O_rule_33 (by decide) ?_
      refine lv_icmp_eq (tgt := 44) hx hb d_O_rule_35 (by decide) (fun h32 => ?_) (fun h32 => ?_)
      · replace hok := ci_t h32 hok
        refine lv_aload_n hx hb d_O_rule_44 rfl (lv_at hl 1 rfl) ?_
        refine lv_iload_n hx hb d_O_rule_45 rfl (lv_at hl 0 rfl) ?_
        refine lv_iconst (v := 1) hx hb d_O_rule_46 (by decide) ?_
        refine lv_iadd hx hb d_O_rule_47 ?_
        replace hok := bd_ok hok
        obtain ⟨r33, gs34, hc35, hok⟩ := hok
        refine cl_i (wc := (MO g ad ca gs)) (wr := []) hP hD hK hS hA [0, 1, 2, 3, 4, 5, 6, 7, 8, 9, 10, 11, 12, 13, 14, 15, 16, 17, 18, 19, 20] [] rfl rfl (by decide) (by decide) (va_runV (As := [.int (y0 + 1)]) (rest := []) ⟨hx, hb, hml, hown, hts⟩ (a_isTemplate l D H.size g ad ca F gs (y0 + 1) r33 gs34 hc35) (cw_V hts 1 k_856 k_9 k_853 k_855 sel_O_isTemplate (by decide +kernel) ⟨Nat.le_of_ble_eq_true rfl, Nat.le_of_ble_eq_true rfl⟩) (pr_V hP hD hK [0, 1, 2, 3, 4, 5, 6, 7, 8, 9, 10, 11, 12, 13, 14, 15, 16, 17, 18, 19, 20] [0, 1, 2, 3, 4, 5, 6, 7, 8, 9, 10, 11, 12, 13, 14, 15, 16, 17, 18, 19] (by decide) rfl rfl (fun U hU hW => trivial) (fun U g mk a h => h) (q0 := 0) (ci := 8) rfl rfl) rfl rfl hl.1 rfl (lv_room (Nat.le_of_ble_eq_true rfl)) d_O_rule_48 ⟨by decide, by decide⟩) (fun v37 u H locs h36 hP hD hK hS => ?_)
        have hP : va_P D wcl (MO g ad ca gs34) H := hP
        have hD : va_D A (MO g ad ca gs34) := hD
        have hK : va_K D wcl (MT ca) s := hK
        have h36 : r33 = v37 := h36
        subst h36
        refine lv_if_ne (tgt := 60) hx hb d_O_rule_51 (by decide) (fun h38 => ?_) (fun h38 => ?_)
        · replace hok := ci_f h38 hok
          refine lv_aload_n hx hb d_O_rule_60 rfl (lv_at hl 1 rfl) ?_
          refine va_get (D := D) (ci := 8) (v := .int (gs34.1 5)) (C := rc_O) (T := ft_O) (N := 42) hx hb hts in_O hown hK hP 0 rfl rfl 5 (by decide) (hts _ k_660) (fun _ h9 => h9) rfl d_O_rule_61 ?_
          refine lv_bipush (v := 12) hx hb d_O_rule_64 (by decide) ?_
          refine lv_icmp_ne (tgt := 75) hx hb d_O_rule_66 (by decide) (fun h39 => ?_) (fun h39 => ?_)
          · replace hok := ci_f h39 hok
            exact j75 gs34 y0 H locs ls hok hP hD hS (lv_sub hl [1, 0] rfl)
          · replace hok := ci_t h39 hok
            refine lv_aload_n hx hb d_O_rule_69 rfl (lv_at hl 1 rfl) ?_
            refine lv_iconst (v := 2) hx hb d_O_rule_70 (by decide) ?_
            replace hok := bd_ok hok
            obtain ⟨r40, gs41, hc42, hok⟩ := hok
            refine cl_i (wc := (MO g ad ca gs34)) (wr := []) hP hD hK hS hA [0, 1, 2, 3, 4, 5, 6, 7, 8, 9, 10, 11, 12, 13, 14, 15, 16, 17, 18, 19, 20] [] rfl rfl (by decide) (by decide) (va_runV (As := [.int 2]) (rest := []) ⟨hx, hb, hml, hown, hts⟩ (a_fail l D H.size g ad ca F gs34 2 r40 gs41 hc42) (cw_V hts 1 k_852 k_9 k_849 k_851 sel_O_fail (by decide +kernel) ⟨Nat.le_of_ble_eq_true rfl, Nat.le_of_ble_eq_true rfl⟩) (pr_V hP hD hK [0, 1, 2, 3, 4, 5, 6, 7, 8, 9, 10, 11, 12, 13, 14, 15, 16, 17, 18, 19, 20] [0, 1, 2, 3, 4, 5, 6, 7, 8, 9, 10, 11, 12, 13, 14, 15, 16, 17, 18, 19] (by decide) rfl rfl (fun U hU hW => trivial) (fun U g mk a h => h) (q0 := 0) (ci := 8) rfl rfl) rfl rfl hl.1 rfl (lv_room (Nat.le_of_ble_eq_true rfl)) d_O_rule_71 ⟨by decide, by decide⟩) (fun v44 u H locs h43 hP hD hK hS => ?_)
            have hP : va_P D wcl (MO g ad ca gs41) H := hP
            have hD : va_D A (MO g ad ca gs41) := hD
            have hK : va_K D wcl (MT ca) s := hK
            have h43 : r40 = v44 := h43
            subst h43
            obtain ⟨e8, e9⟩ := rt_ok hok
            rw [e9] at hP hD
            have hK9 := hK.sub (tys' := []) [] rfl
            exact W.iret (v := r40) hx hb hr (fun t9 ht hW => ⟨⟨r40, (), rfl, e8, ⟨by rw [ht]; exact hP, va_K.moved hW.alike hK9, hD⟩⟩, hS.F ht⟩) hS.2.2 d_O_rule_74
        · replace hok := ci_t h38 hok
          refine lv_aload_n hx hb d_O_rule_54 rfl (lv_at hl 1 rfl) ?_
          refine lv_iconst (v := 1) hx hb d_O_rule_55 (by decide) ?_
          replace hok := bd_ok hok
          obtain ⟨r45, gs46, hc47, hok⟩ := hok
          refine cl_i (wc := (MO g ad ca gs34)) (wr := []) hP hD hK hS hA [0, 1, 2, 3, 4, 5, 6, 7, 8, 9, 10, 11, 12, 13, 14, 15, 16, 17, 18, 19, 20] [] rfl rfl (by decide) (by decide) (va_runV (As := [.int 1]) (rest := []) ⟨hx, hb, hml, hown, hts⟩ (a_fail l D H.size g ad ca F gs34 1 r45 gs46 hc47) (cw_V hts 1 k_852 k_9 k_849 k_851 sel_O_fail (by decide +kernel) ⟨Nat.le_of_ble_eq_true rfl, Nat.le_of_ble_eq_true rfl⟩) (pr_V hP hD hK [0, 1, 2, 3, 4, 5, 6, 7, 8, 9, 10, 11, 12, 13, 14, 15, 16, 17, 18, 19, 20] [0, 1, 2, 3, 4, 5, 6, 7, 8, 9, 10, 11, 12, 13, 14, 15, 16, 17, 18, 19] (by decide) rfl rfl (fun U hU hW => trivial) (fun U g mk a h => h) (q0 := 0) (ci := 8) rfl rfl) rfl rfl hl.1 rfl (lv_room (Nat.le_of_ble_eq_true rfl)) d_O_rule_56 ⟨by decide, by decide⟩) (fun v49 u H locs h48 hP hD hK hS => ?_)
          have hP : va_P D wcl (MO g ad ca gs46) H := hP
          have hD : va_D A (MO g ad ca gs46) := hD
          have hK : va_K D wcl (MT ca) s := hK
          have h48 : r45 = v49 := h48
          subst h48
          obtain ⟨e8, e9⟩ := rt_ok hok
          rw [e9] at hP hD
          have hK9 := hK.sub (tys' := []) [] rfl
          exact W.iret (v := r45) hx hb hr (fun t9 ht hW => ⟨⟨r45, (), rfl, e8, ⟨by rw [ht]; exact hP, va_K.moved hW.alike hK9, hD⟩⟩, hS.F ht⟩) hS.2.2 d_O_rule_59
      · replace hok := ci_f h32 hok
        exact j38 gs H locs ls hok hP hD hS (lv_sub hl [1] rfl)
  refine lv_aload_n hx hb d_O_rule_0 rfl (lv_at hl 0 rfl) ?_
  refine lv_iconst (v := 0) hx hb d_O_rule_1 (by decide) ?_
  refine va_put (D := D) (ci := 8) (v := .int 0) (ty := .int) (C := rc_O) (T := ft_O) (N := 42) hx hb hts in_O ty_O tk_O nm_O hown hK hP hD hS 0 rfl rfl 0 (by decide) (hts _ k_655) (fun _ h9 => h9) rfl (by decide +kernel) rfl rfl (Nat.le_of_ble_eq_true rfl) d_O_rule_2 (fun H locs hP hD hS => ?_)
  have hP : va_P D wcl (MO g ad ca (sI gs 0 0)) H := hP
  have hD : va_D A (MO g ad ca (sI gs 0 0)) := hD
  refine lv_aload_n hx hb d_O_rule_5 rfl (lv_at hl 0 rfl) ?_
  replace hok := bd_ok hok
  obtain ⟨r50, gs51, hc52, hok⟩ := hok
  refine cl_i (wc := (MO g ad ca (sI gs 0 0))) (wr := []) hP hD hK hS hA [0, 1, 2, 3, 4, 5, 6, 7, 8, 9, 10, 11, 12, 13, 14, 15, 16, 17, 18, 19, 20] [] rfl rfl (by decide) (by decide) (va_runV (As := []) (rest := []) ⟨hx, hb, hml, hown, hts⟩ (a_takeDraft l D H.size g ad ca F (sI gs 0 0)  r50 gs51 hc52) (cw_V hts 0 k_797 k_9 k_794 k_796 sel_O_takeDraft (by decide +kernel) ⟨Nat.le_of_ble_eq_true rfl, Nat.le_of_ble_eq_true rfl⟩) (pr_V hP hD hK [0, 1, 2, 3, 4, 5, 6, 7, 8, 9, 10, 11, 12, 13, 14, 15, 16, 17, 18, 19, 20] [0, 1, 2, 3, 4, 5, 6, 7, 8, 9, 10, 11, 12, 13, 14, 15, 16, 17, 18, 19] (by decide) rfl rfl (fun U hU hW => trivial) (fun U g mk a h => h) (q0 := 0) (ci := 8) rfl rfl) rfl rfl hl.1 rfl (lv_room (Nat.le_of_ble_eq_true rfl)) d_O_rule_6 ⟨by decide, by decide⟩) (fun v54 u H locs h53 hP hD hK hS => ?_)
  have hP : va_P D wcl (MO g ad ca gs51) H := hP
  have hD : va_D A (MO g ad ca gs51) := hD
  have hK : va_K D wcl (MT ca) s := hK
  have h53 : r50 = v54 := h53
  subst h53
  refine lv_istore_n hx hb d_O_rule_9 rfl hl (by decide) rfl (fun ls hl => ?_)
  have hl : lv_has ls 4 [(1, .int r50), (0, .ref g)] := hl
  refine lv_iload_n hx hb d_O_rule_10 rfl (lv_at hl 0 rfl) ?_
  refine lv_if_eq (tgt := 21) hx hb d_O_rule_11 (by decide) (fun h55 => ?_) (fun h55 => ?_)
  · replace hok := ci_t h55 hok
    refine lv_iconst (v := -1) hx hb d_O_rule_21 (by decide) ?_
    exact j22 gs51 (-1) H locs ls hok hP hD hS (lv_sub hl [1] rfl)
  · replace hok := ci_f h55 hok
    refine lv_aload_n hx hb d_O_rule_14 rfl (lv_at hl 1 rfl) ?_
    replace hok := bd_ok hok
    obtain ⟨r56, gs57, hc58, hok⟩ := hok
    refine cl_i (wc := (MO g ad ca gs51)) (wr := []) hP hD hK hS hA [0, 1, 2, 3, 4, 5, 6, 7, 8, 9, 10, 11, 12, 13, 14, 15, 16, 17, 18, 19, 20] [] rfl rfl (by decide) (by decide) (va_runV (As := []) (rest := []) ⟨hx, hb, hml, hown, hts⟩ (a_patternEnd l D H.size g ad ca F gs51  r56 gs57 hc58) (cw_V hts 0 k_804 k_9 k_801 k_803 sel_O_patternEnd (by decide +kernel) ⟨Nat.le_of_ble_eq_true rfl, Nat.le_of_ble_eq_true rfl⟩) (pr_V hP hD hK [0, 1, 2, 3, 4, 5, 6, 7, 8, 9, 10, 11, 12, 13, 14, 15, 16, 17, 18, 19, 20] [0, 1, 2, 3, 4, 5, 6, 7, 8, 9, 10, 11, 12, 13, 14, 15, 16, 17, 18, 19] (by decide) rfl rfl (fun U hU hW => trivial) (fun U g mk a h => h) (q0 := 0) (ci := 8) rfl rfl) rfl rfl hl.1 rfl (lv_room (Nat.le_of_ble_eq_true rfl)) d_O_rule_15 ⟨by decide, by decide⟩) (fun v60 u H locs h59 hP hD hK hS => ?_)
    have hP : va_P D wcl (MO g ad ca gs57) H := hP
    have hD : va_D A (MO g ad ca gs57) := hD
    have hK : va_K D wcl (MT ca) s := hK
    have h59 : r56 = v60 := h59
    subst h59
    refine lv_goto (tgt := 22) hx hb d_O_rule_18 (by decide) ?_
    exact j22 gs57 r56 H locs ls hok hP hD hS (lv_sub hl [1] rfl)
