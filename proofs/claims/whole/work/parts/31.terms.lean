set_option maxHeartbeats 4000000 in
set_option maxRecDepth 100000 in
/-- MacroForge.isName(k) -/
theorem c_F_isName (l : Launch) (D : va_G) (sz : Nat) (k : Int32) : Met l y_F_isName (Cond.code y_F_isName b_F_isName 1 (some .boolean) :: wal) ({ frames := 10, cells := 0, slots := 0, locals := 120 }) (va_Pc [.int k] (pr D sz [] [] (fun _ => True))) (va_Qi (S := Unit) (fun r u => (r = 1 ∧ ¬ k < 97 ∧ ¬ 122 < k) ∨ (r = 0 ∧ (k < 97 ∨ 122 < k))) (fun u t9 => po D (va_A ([]) sz) ((fun u => []) u) ((fun u => []) u) t9) (va_A ([]) sz)) 0 0 (va_A ([]) sz) := by
  refine Met.ofW (cc := b_F_isName) (maxL := 1) (ret := (some .boolean)) (by decide) rfl ?_
  intro p e s m args below meth c s₁ B hml hv
  obtain ⟨rfl, hsz, hP, hK, hD0, hE⟩ := hv
  have hx := B.exec
  have hb := B.bytes
  have hr := B.returns
  have hts0 := atoms_spec (ws := Cond.code y_F_isName b_F_isName 1 (some .boolean) :: wal) B.pre
  have hts : ∀ w ∈ wal, w.before _ s = true := fun w h => hts0 w (List.mem_cons_of_mem _ h)
  have hown : s.vm.findClass rc_F = some m.cls := findClass_of_methodNamed B.named
  have hlocks := B.notSynchronized
  subst hsz
  have hD := hD0.self (sz := s.heap.size)
  generalize hAe : va_A ([]) s.heap.size = A at hD ⊢
  have hA : ∀ q : Nat, s.heap.size ≤ q → A q := fun q h => by rw [← hAe]; exact Or.inr h
  have hS : va_S A s.heap s.heap [] := va_S.rf
  have hl := lv_entry ([.int k]) (n := 1) (Nat.le_of_ble_eq_true rfl)
  rw [lg_entry_eq]
  generalize (lg_sl ([.int k]) ++ List.replicate (1 - (lg_sl ([.int k])).length) Slot.unset).toArray = ls at hl ⊢
  have hl : lv_has ls 1 [(0, .int k)] := hl
  refine lv_iload_n hx hb d_F_isName_0 rfl (lv_at hl 0 rfl) ?_
  refine lv_bipush (v := 97) hx hb d_F_isName_1 (by decide) ?_
  refine lv_icmp_lt (tgt := 16) hx hb d_F_isName_3 (by decide) (fun h1 => ?_) (fun h1 => ?_)
  · refine lv_iconst (v := 0) hx hb d_F_isName_16 (by decide) ?_
    have hP9 := hP.sub (ws' := []) [] rfl
    have hD9 := hD.sub (ws' := []) [] (by decide) rfl
    have hK9 := hK.sub (tys' := []) [] rfl
    exact W.zret (v := 0) hx hb hr (by decide) (fun t9 ht hW => ⟨⟨0, (), rfl, Or.inr ⟨rfl, Or.inl h1⟩, ⟨by rw [ht]; exact hP9, va_K.moved hW.alike hK9, hD9⟩⟩, hS.F ht⟩) hS.2.2 d_F_isName_17
  · refine lv_iload_n hx hb d_F_isName_6 rfl (lv_at hl 0 rfl) ?_
    refine lv_bipush (v := 122) hx hb d_F_isName_7 (by decide) ?_
    refine lv_icmp_gt (tgt := 16) hx hb d_F_isName_9 (by decide) (fun h2 => ?_) (fun h2 => ?_)
    · refine lv_iconst (v := 0) hx hb d_F_isName_16 (by decide) ?_
      have hP9 := hP.sub (ws' := []) [] rfl
      have hD9 := hD.sub (ws' := []) [] (by decide) rfl
      have hK9 := hK.sub (tys' := []) [] rfl
      exact W.zret (v := 0) hx hb hr (by decide) (fun t9 ht hW => ⟨⟨0, (), rfl, Or.inr ⟨rfl, Or.inr h2⟩, ⟨by rw [ht]; exact hP9, va_K.moved hW.alike hK9, hD9⟩⟩, hS.F ht⟩) hS.2.2 d_F_isName_17
    · refine lv_iconst (v := 1) hx hb d_F_isName_12 (by decide) ?_
      refine lv_goto (tgt := 17) hx hb d_F_isName_13 (by decide) ?_
      have hP9 := hP.sub (ws' := []) [] rfl
      have hD9 := hD.sub (ws' := []) [] (by decide) rfl
      have hK9 := hK.sub (tys' := []) [] rfl
      exact W.zret (v := 1) hx hb hr (by decide) (fun t9 ht hW => ⟨⟨1, (), rfl, Or.inl ⟨rfl, h1, h2⟩, ⟨by rw [ht]; exact hP9, va_K.moved hW.alike hK9, hD9⟩⟩, hS.F ht⟩) hS.2.2 d_F_isName_17

set_option maxHeartbeats 4000000 in
set_option maxRecDepth 100000 in
/-- MacroForge.isNumeral(k) -/
theorem c_F_isNumeral (l : Launch) (D : va_G) (sz : Nat) (k : Int32) : Met l y_F_isNumeral (Cond.code y_F_isNumeral b_F_isNumeral 1 (some .boolean) :: wal) ({ frames := 10, cells := 0, slots := 0, locals := 120 }) (va_Pc [.int k] (pr D sz [] [] (fun _ => True))) (va_Qi (S := Unit) (fun r u => (r = 1 ∧ ¬ k < 48 ∧ ¬ 57 < k) ∨ (r = 0 ∧ (k < 48 ∨ 57 < k))) (fun u t9 => po D (va_A ([]) sz) ((fun u => []) u) ((fun u => []) u) t9) (va_A ([]) sz)) 0 0 (va_A ([]) sz) := by
  refine Met.ofW (cc := b_F_isNumeral) (maxL := 1) (ret := (some .boolean)) (by decide) rfl ?_
  intro p e s m args below meth c s₁ B hml hv
  obtain ⟨rfl, hsz, hP, hK, hD0, hE⟩ := hv
  have hx := B.exec
  have hb := B.bytes
  have hr := B.returns
  have hts0 := atoms_spec (ws := Cond.code y_F_isNumeral b_F_isNumeral 1 (some .boolean) :: wal) B.pre
  have hts : ∀ w ∈ wal, w.before _ s = true := fun w h => hts0 w (List.mem_cons_of_mem _ h)
  have hown : s.vm.findClass rc_F = some m.cls := findClass_of_methodNamed B.named
  have hlocks := B.notSynchronized
  subst hsz
  have hD := hD0.self (sz := s.heap.size)
  generalize hAe : va_A ([]) s.heap.size = A at hD ⊢
  have hA : ∀ q : Nat, s.heap.size ≤ q → A q := fun q h => by rw [← hAe]; exact Or.inr h
  have hS : va_S A s.heap s.heap [] := va_S.rf
  have hl := lv_entry ([.int k]) (n := 1) (Nat.le_of_ble_eq_true rfl)
  rw [lg_entry_eq]
  generalize (lg_sl ([.int k]) ++ List.replicate (1 - (lg_sl ([.int k])).length) Slot.unset).toArray = ls at hl ⊢
  have hl : lv_has ls 1 [(0, .int k)] := hl
  refine lv_iload_n hx hb d_F_isNumeral_0 rfl (lv_at hl 0 rfl) ?_
  refine lv_bipush (v := 48) hx hb d_F_isNumeral_1 (by decide) ?_
  refine lv_icmp_lt (tgt := 16) hx hb d_F_isNumeral_3 (by decide) (fun h1 => ?_) (fun h1 => ?_)
  · refine lv_iconst (v := 0) hx hb d_F_isNumeral_16 (by decide) ?_
    have hP9 := hP.sub (ws' := []) [] rfl
    have hD9 := hD.sub (ws' := []) [] (by decide) rfl
    have hK9 := hK.sub (tys' := []) [] rfl
    exact W.zret (v := 0) hx hb hr (by decide) (fun t9 ht hW => ⟨⟨0, (), rfl, Or.inr ⟨rfl, Or.inl h1⟩, ⟨by rw [ht]; exact hP9, va_K.moved hW.alike hK9, hD9⟩⟩, hS.F ht⟩) hS.2.2 d_F_isNumeral_17
  · refine lv_iload_n hx hb d_F_isNumeral_6 rfl (lv_at hl 0 rfl) ?_
    refine lv_bipush (v := 57) hx hb d_F_isNumeral_7 (by decide) ?_
    refine lv_icmp_gt (tgt := 16) hx hb d_F_isNumeral_9 (by decide) (fun h2 => ?_) (fun h2 => ?_)
    · refine lv_iconst (v := 0) hx hb d_F_isNumeral_16 (by decide) ?_
      have hP9 := hP.sub (ws' := []) [] rfl
      have hD9 := hD.sub (ws' := []) [] (by decide) rfl
      have hK9 := hK.sub (tys' := []) [] rfl
      exact W.zret (v := 0) hx hb hr (by decide) (fun t9 ht hW => ⟨⟨0, (), rfl, Or.inr ⟨rfl, Or.inr h2⟩, ⟨by rw [ht]; exact hP9, va_K.moved hW.alike hK9, hD9⟩⟩, hS.F ht⟩) hS.2.2 d_F_isNumeral_17
    · refine lv_iconst (v := 1) hx hb d_F_isNumeral_12 (by decide) ?_
      refine lv_goto (tgt := 17) hx hb d_F_isNumeral_13 (by decide) ?_
      have hP9 := hP.sub (ws' := []) [] rfl
      have hD9 := hD.sub (ws' := []) [] (by decide) rfl
      have hK9 := hK.sub (tys' := []) [] rfl
      exact W.zret (v := 1) hx hb hr (by decide) (fun t9 ht hW => ⟨⟨1, (), rfl, Or.inl ⟨rfl, h1, h2⟩, ⟨by rw [ht]; exact hP9, va_K.moved hW.alike hK9, hD9⟩⟩, hS.F ht⟩) hS.2.2 d_F_isNumeral_17

set_option maxHeartbeats 4000000 in
set_option maxRecDepth 100000 in
/-- MacroForge.isKeyword(k) -/
theorem c_F_isKeyword (l : Launch) (D : va_G) (sz : Nat) (k : Int32) : Met l y_F_isKeyword (Cond.code y_F_isKeyword b_F_isKeyword 1 (some .boolean) :: wal) ({ frames := 10, cells := 0, slots := 0, locals := 120 }) (va_Pc [.int k] (pr D sz [] [] (fun _ => True))) (va_Qi (S := Unit) (fun r u => (r = 1 ∧ (k = 76 ∨ k = 73 ∨ k = 81)) ∨ (r = 0 ∧ ¬ k = 76 ∧ ¬ k = 73 ∧ ¬ k = 81)) (fun u t9 => po D (va_A ([]) sz) ((fun u => []) u) ((fun u => []) u) t9) (va_A ([]) sz)) 0 0 (va_A ([]) sz) := by
  refine Met.ofW (cc := b_F_isKeyword) (maxL := 1) (ret := (some .boolean)) (by decide) rfl ?_
  intro p e s m args below meth c s₁ B hml hv
  obtain ⟨rfl, hsz, hP, hK, hD0, hE⟩ := hv
  have hx := B.exec
  have hb := B.bytes
  have hr := B.returns
  have hts0 := atoms_spec (ws := Cond.code y_F_isKeyword b_F_isKeyword 1 (some .boolean) :: wal) B.pre
  have hts : ∀ w ∈ wal, w.before _ s = true := fun w h => hts0 w (List.mem_cons_of_mem _ h)
  have hown : s.vm.findClass rc_F = some m.cls := findClass_of_methodNamed B.named
  have hlocks := B.notSynchronized
  subst hsz
  have hD := hD0.self (sz := s.heap.size)
  generalize hAe : va_A ([]) s.heap.size = A at hD ⊢
  have hA : ∀ q : Nat, s.heap.size ≤ q → A q := fun q h => by rw [← hAe]; exact Or.inr h
  have hS : va_S A s.heap s.heap [] := va_S.rf
  have hl := lv_entry ([.int k]) (n := 1) (Nat.le_of_ble_eq_true rfl)
  rw [lg_entry_eq]
  generalize (lg_sl ([.int k]) ++ List.replicate (1 - (lg_sl ([.int k])).length) Slot.unset).toArray = ls at hl ⊢
  have hl : lv_has ls 1 [(0, .int k)] := hl
  refine lv_iload_n hx hb d_F_isKeyword_0 rfl (lv_at hl 0 rfl) ?_
  refine lv_bipush (v := 76) hx hb d_F_isKeyword_1 (by decide) ?_
  refine lv_icmp_eq (tgt := 18) hx hb d_F_isKeyword_3 (by decide) (fun h1 => ?_) (fun h1 => ?_)
  · refine lv_iconst (v := 1) hx hb d_F_isKeyword_18 (by decide) ?_
    refine lv_goto (tgt := 23) hx hb d_F_isKeyword_19 (by decide) ?_
    have hP9 := hP.sub (ws' := []) [] rfl
    have hD9 := hD.sub (ws' := []) [] (by decide) rfl
    have hK9 := hK.sub (tys' := []) [] rfl
    exact W.zret (v := 1) hx hb hr (by decide) (fun t9 ht hW => ⟨⟨1, (), rfl, Or.inl ⟨rfl, Or.inl h1⟩, ⟨by rw [ht]; exact hP9, va_K.moved hW.alike hK9, hD9⟩⟩, hS.F ht⟩) hS.2.2 d_F_isKeyword_23
  · refine lv_iload_n hx hb d_F_isKeyword_6 rfl (lv_at hl 0 rfl) ?_
    refine lv_bipush (v := 73) hx hb d_F_isKeyword_7 (by decide) ?_
    refine lv_icmp_eq (tgt := 18) hx hb d_F_isKeyword_9 (by decide) (fun h2 => ?_) (fun h2 => ?_)
    · refine lv_iconst (v := 1) hx hb d_F_isKeyword_18 (by decide) ?_
      refine lv_goto (tgt := 23) hx hb d_F_isKeyword_19 (by decide) ?_
      have hP9 := hP.sub (ws' := []) [] rfl
      have hD9 := hD.sub (ws' := []) [] (by decide) rfl
      have hK9 := hK.sub (tys' := []) [] rfl
      exact W.zret (v := 1) hx hb hr (by decide) (fun t9 ht hW => ⟨⟨1, (), rfl, Or.inl ⟨rfl, Or.inr (Or.inl h2)⟩, ⟨by rw [ht]; exact hP9, va_K.moved hW.alike hK9, hD9⟩⟩, hS.F ht⟩) hS.2.2 d_F_isKeyword_23
    · refine lv_iload_n hx hb d_F_isKeyword_12 rfl (lv_at hl 0 rfl) ?_
      refine lv_bipush (v := 81) hx hb d_F_isKeyword_13 (by decide) ?_
      refine lv_icmp_ne (tgt := 22) hx hb d_F_isKeyword_15 (by decide) (fun h3 => ?_) (fun h3 => ?_)
      · refine lv_iconst (v := 0) hx hb d_F_isKeyword_22 (by decide) ?_
        have hP9 := hP.sub (ws' := []) [] rfl
        have hD9 := hD.sub (ws' := []) [] (by decide) rfl
        have hK9 := hK.sub (tys' := []) [] rfl
        exact W.zret (v := 0) hx hb hr (by decide) (fun t9 ht hW => ⟨⟨0, (), rfl, Or.inr ⟨rfl, h1, h2, h3⟩, ⟨by rw [ht]; exact hP9, va_K.moved hW.alike hK9, hD9⟩⟩, hS.F ht⟩) hS.2.2 d_F_isKeyword_23
      · refine lv_iconst (v := 1) hx hb d_F_isKeyword_18 (by decide) ?_
        refine lv_goto (tgt := 23) hx hb d_F_isKeyword_19 (by decide) ?_
        have hP9 := hP.sub (ws' := []) [] rfl
        have hD9 := hD.sub (ws' := []) [] (by decide) rfl
        have hK9 := hK.sub (tys' := []) [] rfl
        exact W.zret (v := 1) hx hb hr (by decide) (fun t9 ht hW => ⟨⟨1, (), rfl, Or.inl ⟨rfl, Or.inr (Or.inr h3)⟩, ⟨by rw [ht]; exact hP9, va_K.moved hW.alike hK9, hD9⟩⟩, hS.F ht⟩) hS.2.2 d_F_isKeyword_23

set_option maxHeartbeats 4000000 in
set_option maxRecDepth 100000 in
/-- Draft.at(j) -/
theorem c_D_at (l : Launch) (D : va_G) (sz : Nat) (h : Nat) (a1 : Nat) (cC : ClassId) (sg : Nat → Nat) (n : Nat) (y : Int32) (j : Nat) (hn : n ≤ 60) (hj : j < 2 ^ 31) (hs : ∀ i, sg i < 65536) : Met l y_D_at (Cond.code y_D_at b_D_at 2 (some .char) :: wal) ({ frames := 10, cells := 0, slots := 0, locals := 120 }) (va_Pc [.ref h, .int (nI j)] (pr D sz [(h, .inr (0, [.ref a1, .int (nI n), .int y])), (a1, .inl (cC, 60, .inl (nf sg)))] [(cC, .char)] (fun _ => True))) (va_Qi (S := Unit) (fun r u => r = nI (if j < n then sg j else 32)) (fun u t9 => po D (va_A ([(h, .inr (0, [.ref a1, .int (nI n), .int y])), (a1, .inl (cC, 60, .inl (nf sg)))]) sz) ((fun u => [(h, .inr (0, [.ref a1, .int (nI n), .int y])), (a1, .inl (cC, 60, .inl (nf sg)))]) u) ((fun u => [(cC, .char)]) u) t9) (va_A ([(h, .inr (0, [.ref a1, .int (nI n), .int y])), (a1, .inl (cC, 60, .inl (nf sg)))]) sz)) 0 0 (va_A ([(h, .inr (0, [.ref a1, .int (nI n), .int y])), (a1, .inl (cC, 60, .inl (nf sg)))]) sz) := by
  refine Met.ofW (cc := b_D_at) (maxL := 2) (ret := (some .char)) (by decide) rfl ?_
  intro p e s m args below meth c s₁ B hml hv
  obtain ⟨rfl, hsz, hP, hK, hD0, hE⟩ := hv
  have hx := B.exec
  have hb := B.bytes
  have hr := B.returns
  have hts0 := atoms_spec (ws := Cond.code y_D_at b_D_at 2 (some .char) :: wal) B.pre
  have hts : ∀ w ∈ wal, w.before _ s = true := fun w h => hts0 w (List.mem_cons_of_mem _ h)
  have hown : s.vm.findClass rc_D = some m.cls := findClass_of_methodNamed B.named
  have hlocks := B.notSynchronized
  subst hsz
  have hD := hD0.self (sz := s.heap.size)
  generalize hAe : va_A ([(h, .inr (0, [.ref a1, .int (nI n), .int y])), (a1, .inl (cC, 60, .inl (nf sg)))]) s.heap.size = A at hD ⊢
  have hA : ∀ q : Nat, s.heap.size ≤ q → A q := fun q h => by rw [← hAe]; exact Or.inr h
  have hS : va_S A s.heap s.heap [] := va_S.rf
  have hl := lv_entry ([.ref h, .int (nI j)]) (n := 2) (Nat.le_of_ble_eq_true rfl)
  rw [lg_entry_eq]
  generalize (lg_sl ([.ref h, .int (nI j)]) ++ List.replicate (2 - (lg_sl ([.ref h, .int (nI j)])).length) Slot.unset).toArray = ls at hl ⊢
  have hl : lv_has ls 2 [(0, .ref h), (1, .int (nI j))] := hl
  refine lv_iload_n hx hb d_D_at_0 rfl (lv_at hl 1 rfl) ?_
  refine lv_if_lt (tgt := 21) hx hb d_D_at_1 (by decide) (fun h9 => absurd h9 (nI_pos hj)) (fun _ => ?_)
  refine lv_iload_n hx hb d_D_at_4 rfl (lv_at hl 1 rfl) ?_
  refine lv_aload_n hx hb d_D_at_5 rfl (lv_at hl 0 rfl) ?_
  refine va_get (D := D) (ci := 0) (v := .int (nI n)) (C := rc_D) (T := ft_D) (N := 3) hx hb hts in_D hown hK hP 0 rfl rfl 1 (by decide) (hts _ k_33) (fun _ h9 => h9) rfl d_D_at_6 ?_
  refine lv_icmp_ge (tgt := 21) hx hb d_D_at_9 (by decide) (fun h1 => ?_) (fun h1 => ?_)
  · have h2 : ¬ j < n := fun h => absurd h1 (nI_ge h (by omega))
    refine lv_bipush (v := 32) hx hb d_D_at_21 (by decide) ?_
    have hP9 := hP.sub (ws' := [(h, .inr (0, [.ref a1, .int (nI n), .int y])), (a1, .inl (cC, 60, .inl (nf sg)))]) [0, 1] rfl
    have hD9 := hD.sub (ws' := [(h, .inr (0, [.ref a1, .int (nI n), .int y])), (a1, .inl (cC, 60, .inl (nf sg)))]) [0, 1] (by decide) rfl
    have hK9 := hK.sub (tys' := [(cC, .char)]) [0] rfl
    exact W.zret (v := 32) hx hb hr (by decide) (fun t9 ht hW => ⟨⟨32, (), rfl, by rw [if_neg h2]; rfl, ⟨by rw [ht]; exact hP9, va_K.moved hW.alike hK9, hD9⟩⟩, hS.F ht⟩) hS.2.2 d_D_at_23
  · have h2 : j < n := Nat.not_le.mp (fun h => h1 (nI_le h hj))
    refine lv_aload_n hx hb d_D_at_12 rfl (lv_at hl 0 rfl) ?_
    refine va_get (D := D) (ci := 0) (v := .ref a1) (C := rc_D) (T := ft_D) (N := 3) hx hb hts in_D hown hK hP 0 rfl rfl 0 (by decide) (hts _ k_32) (fun _ h9 => h9) rfl d_D_at_13 ?_
    refine lv_iload_n hx hb d_D_at_16 rfl (lv_at hl 1 rfl) ?_
    refine va_cald hx hb hK hP 1 0 rfl rfl (vp_in_nI (show j < 60 by omega) (by decide)) d_D_at_17 ?_
    refine lv_topi (fun z9 ez9 => ?_)
    have ez9 : z9 = (nI (sg j)) := ez9.trans (nf_at _ (Nat.lt_trans (show j < 60 by omega) (by decide)))
    subst ez9
    refine lv_goto (tgt := 23) hx hb d_D_at_18 (by decide) ?_
    have hP9 := hP.sub (ws' := [(h, .inr (0, [.ref a1, .int (nI n), .int y])), (a1, .inl (cC, 60, .inl (nf sg)))]) [0, 1] rfl
    have hD9 := hD.sub (ws' := [(h, .inr (0, [.ref a1, .int (nI n), .int y])), (a1, .inl (cC, 60, .inl (nf sg)))]) [0, 1] (by decide) rfl
    have hK9 := hK.sub (tys' := [(cC, .char)]) [0] rfl
    exact W.zret (v := (nI (sg j))) hx hb hr ((pk_charN (hs j)).1) (fun t9 ht hW => ⟨⟨(nI (sg j)), (), rfl, by rw [if_pos h2], ⟨by rw [ht]; exact hP9, va_K.moved hW.alike hK9, hD9⟩⟩, hS.F ht⟩) hS.2.2 d_D_at_23

set_option maxHeartbeats 4000000 in
set_option maxRecDepth 100000 in
/-- Terms.sign(j) -/
theorem c_T_sign (l : Launch) (D : va_G) (sz : Nat) (h : Nat) (ad : Nat → Nat) (ca : Nat → ClassId) (cap : Nat) (sg : Nat → Nat) (v1 : Int32) (v2 : Int32) (v3 : Int32) (v4 : Int32) (v5 : Int32) (j : Nat) (hj : j < cap) (hc : cap < 2 ^ 31) (hbd : sg j < 65536) : Met l y_T_sign (Cond.code y_T_sign b_T_sign 2 (some .char) :: wal) ({ frames := 10, cells := 0, slots := 0, locals := 120 }) (va_Pc [.ref h, .int (nI j)] (pr D sz [(h, .inr (6, [.ref (ad 0), .ref (ad 1), .ref (ad 2), .ref (ad 3), .ref (ad 4), .ref (ad 5), .int v1, .int v2, .int v3, .int v4, .int v5])), ((ad 0), .inl ((ca 0), cap, .inl (nf sg)))] [((ca 0), .char)] (fun _ => True))) (va_Qi (S := Unit) (fun r u => r = nI (sg j)) (fun u t9 => po D (va_A ([(h, .inr (6, [.ref (ad 0), .ref (ad 1), .ref (ad 2), .ref (ad 3), .ref (ad 4), .ref (ad 5), .int v1, .int v2, .int v3, .int v4, .int v5])), ((ad 0), .inl ((ca 0), cap, .inl (nf sg)))]) sz) ((fun u => [(h, .inr (6, [.ref (ad 0), .ref (ad 1), .ref (ad 2), .ref (ad 3), .ref (ad 4), .ref (ad 5), .int v1, .int v2, .int v3, .int v4, .int v5])), ((ad 0), .inl ((ca 0), cap, .inl (nf sg)))]) u) ((fun u => [((ca 0), .char)]) u) t9) (va_A ([(h, .inr (6, [.ref (ad 0), .ref (ad 1), .ref (ad 2), .ref (ad 3), .ref (ad 4), .ref (ad 5), .int v1, .int v2, .int v3, .int v4, .int v5])), ((ad 0), .inl ((ca 0), cap, .inl (nf sg)))]) sz)) 0 0 (va_A ([(h, .inr (6, [.ref (ad 0), .ref (ad 1), .ref (ad 2), .ref (ad 3), .ref (ad 4), .ref (ad 5), .int v1, .int v2, .int v3, .int v4, .int v5])), ((ad 0), .inl ((ca 0), cap, .inl (nf sg)))]) sz) := by
  refine Met.ofW (cc := b_T_sign) (maxL := 2) (ret := (some .char)) (by decide) rfl ?_
  intro p e s m args below meth c s₁ B hml hv
  obtain ⟨rfl, hsz, hP, hK, hD0, hE⟩ := hv
  have hx := B.exec
  have hb := B.bytes
  have hr := B.returns
  have hts0 := atoms_spec (ws := Cond.code y_T_sign b_T_sign 2 (some .char) :: wal) B.pre
  have hts : ∀ w ∈ wal, w.before _ s = true := fun w h => hts0 w (List.mem_cons_of_mem _ h)
  have hown : s.vm.findClass rc_T = some m.cls := findClass_of_methodNamed B.named
  have hlocks := B.notSynchronized
  subst hsz
  have hD := hD0.self (sz := s.heap.size)
  generalize hAe : va_A ([(h, .inr (6, [.ref (ad 0), .ref (ad 1), .ref (ad 2), .ref (ad 3), .ref (ad 4), .ref (ad 5), .int v1, .int v2, .int v3, .int v4, .int v5])), ((ad 0), .inl ((ca 0), cap, .inl (nf sg)))]) s.heap.size = A at hD ⊢
  have hA : ∀ q : Nat, s.heap.size ≤ q → A q := fun q h => by rw [← hAe]; exact Or.inr h
  have hS : va_S A s.heap s.heap [] := va_S.rf
  have hl := lv_entry ([.ref h, .int (nI j)]) (n := 2) (Nat.le_of_ble_eq_true rfl)
  rw [lg_entry_eq]
  generalize (lg_sl ([.ref h, .int (nI j)]) ++ List.replicate (2 - (lg_sl ([.ref h, .int (nI j)])).length) Slot.unset).toArray = ls at hl ⊢
  have hl : lv_has ls 2 [(0, .ref h), (1, .int (nI j))] := hl
  refine lv_aload_n hx hb d_T_sign_0 rfl (lv_at hl 0 rfl) ?_
  refine va_get (D := D) (ci := 6) (v := .ref (ad 0)) (C := rc_T) (T := ft_T) (N := 11) hx hb hts in_T hown hK hP 0 rfl rfl 0 (by decide) (hts _ k_62) (fun _ h9 => h9) rfl d_T_sign_1 ?_
  refine lv_iload_n hx hb d_T_sign_4 rfl (lv_at hl 1 rfl) ?_
  refine va_cald hx hb hK hP 1 0 rfl rfl (vp_in_nI (hj) (hc)) d_T_sign_5 ?_
  refine lv_topi (fun z9 ez9 => ?_)
  have ez9 : z9 = (nI (sg j)) := ez9.trans (nf_at _ (Nat.lt_trans (hj) (hc)))
  subst ez9
  have hP9 := hP.sub (ws' := [(h, .inr (6, [.ref (ad 0), .ref (ad 1), .ref (ad 2), .ref (ad 3), .ref (ad 4), .ref (ad 5), .int v1, .int v2, .int v3, .int v4, .int v5])), ((ad 0), .inl ((ca 0), cap, .inl (nf sg)))]) [0, 1] rfl
  have hD9 := hD.sub (ws' := [(h, .inr (6, [.ref (ad 0), .ref (ad 1), .ref (ad 2), .ref (ad 3), .ref (ad 4), .ref (ad 5), .int v1, .int v2, .int v3, .int v4, .int v5])), ((ad 0), .inl ((ca 0), cap, .inl (nf sg)))]) [0, 1] (by decide) rfl
  have hK9 := hK.sub (tys' := [((ca 0), .char)]) [0] rfl
  exact W.zret (v := (nI (sg j))) hx hb hr ((pk_charN hbd).1) (fun t9 ht hW => ⟨⟨(nI (sg j)), (), rfl, rfl, ⟨by rw [ht]; exact hP9, va_K.moved hW.alike hK9, hD9⟩⟩, hS.F ht⟩) hS.2.2 d_T_sign_6

set_option maxHeartbeats 4000000 in
set_option maxRecDepth 100000 in
/-- Terms.stamp(j) -/
theorem c_T_stamp (l : Launch) (D : va_G) (sz : Nat) (h : Nat) (ad : Nat → Nat) (ca : Nat → ClassId) (cap : Nat) (st : Nat → Nat) (v1 : Int32) (v2 : Int32) (v3 : Int32) (v4 : Int32) (v5 : Int32) (j : Nat) (hj : j < cap) (hc : cap < 2 ^ 31) : Met l y_T_stamp (Cond.code y_T_stamp b_T_stamp 2 (some .int) :: wal) ({ frames := 10, cells := 0, slots := 0, locals := 120 }) (va_Pc [.ref h, .int (nI j)] (pr D sz [(h, .inr (6, [.ref (ad 0), .ref (ad 1), .ref (ad 2), .ref (ad 3), .ref (ad 4), .ref (ad 5), .int v1, .int v2, .int v3, .int v4, .int v5])), ((ad 1), .inl ((ca 1), cap, .inl (nf st)))] [((ca 1), .int)] (fun _ => True))) (va_Qi (S := Unit) (fun r u => r = nI (st j)) (fun u t9 => po D (va_A ([(h, .inr (6, [.ref (ad 0), .ref (ad 1), .ref (ad 2), .ref (ad 3), .ref (ad 4), .ref (ad 5), .int v1, .int v2, .int v3, .int v4, .int v5])), ((ad 1), .inl ((ca 1), cap, .inl (nf st)))]) sz) ((fun u => [(h, .inr (6, [.ref (ad 0), .ref (ad 1), .ref (ad 2), .ref (ad 3), .ref (ad 4), .ref (ad 5), .int v1, .int v2, .int v3, .int v4, .int v5])), ((ad 1), .inl ((ca 1), cap, .inl (nf st)))]) u) ((fun u => [((ca 1), .int)]) u) t9) (va_A ([(h, .inr (6, [.ref (ad 0), .ref (ad 1), .ref (ad 2), .ref (ad 3), .ref (ad 4), .ref (ad 5), .int v1, .int v2, .int v3, .int v4, .int v5])), ((ad 1), .inl ((ca 1), cap, .inl (nf st)))]) sz)) 0 0 (va_A ([(h, .inr (6, [.ref (ad 0), .ref (ad 1), .ref (ad 2), .ref (ad 3), .ref (ad 4), .ref (ad 5), .int v1, .int v2, .int v3, .int v4, .int v5])), ((ad 1), .inl ((ca 1), cap, .inl (nf st)))]) sz) := by
  refine Met.ofW (cc := b_T_stamp) (maxL := 2) (ret := (some .int)) (by decide) rfl ?_
  intro p e s m args below meth c s₁ B hml hv
  obtain ⟨rfl, hsz, hP, hK, hD0, hE⟩ := hv
  have hx := B.exec
  have hb := B.bytes
  have hr := B.returns
  have hts0 := atoms_spec (ws := Cond.code y_T_stamp b_T_stamp 2 (some .int) :: wal) B.pre
  have hts : ∀ w ∈ wal, w.before _ s = true := fun w h => hts0 w (List.mem_cons_of_mem _ h)
  have hown : s.vm.findClass rc_T = some m.cls := findClass_of_methodNamed B.named
  have hlocks := B.notSynchronized
  subst hsz
  have hD := hD0.self (sz := s.heap.size)
  generalize hAe : va_A ([(h, .inr (6, [.ref (ad 0), .ref (ad 1), .ref (ad 2), .ref (ad 3), .ref (ad 4), .ref (ad 5), .int v1, .int v2, .int v3, .int v4, .int v5])), ((ad 1), .inl ((ca 1), cap, .inl (nf st)))]) s.heap.size = A at hD ⊢
  have hA : ∀ q : Nat, s.heap.size ≤ q → A q := fun q h => by rw [← hAe]; exact Or.inr h
  have hS : va_S A s.heap s.heap [] := va_S.rf
  have hl := lv_entry ([.ref h, .int (nI j)]) (n := 2) (Nat.le_of_ble_eq_true rfl)
  rw [lg_entry_eq]
  generalize (lg_sl ([.ref h, .int (nI j)]) ++ List.replicate (2 - (lg_sl ([.ref h, .int (nI j)])).length) Slot.unset).toArray = ls at hl ⊢
  have hl : lv_has ls 2 [(0, .ref h), (1, .int (nI j))] := hl
  refine lv_aload_n hx hb d_T_stamp_0 rfl (lv_at hl 0 rfl) ?_
  refine va_get (D := D) (ci := 6) (v := .ref (ad 1)) (C := rc_T) (T := ft_T) (N := 11) hx hb hts in_T hown hK hP 0 rfl rfl 1 (by decide) (hts _ k_63) (fun _ h9 => h9) rfl d_T_stamp_1 ?_
  refine lv_iload_n hx hb d_T_stamp_4 rfl (lv_at hl 1 rfl) ?_
  refine va_iald hx hb hK hP 1 0 rfl rfl (vp_in_nI (hj) (hc)) d_T_stamp_5 ?_
  refine lv_topi (fun z9 ez9 => ?_)
  have ez9 : z9 = (nI (st j)) := ez9.trans (nf_at _ (Nat.lt_trans (hj) (hc)))
  subst ez9
  have hP9 := hP.sub (ws' := [(h, .inr (6, [.ref (ad 0), .ref (ad 1), .ref (ad 2), .ref (ad 3), .ref (ad 4), .ref (ad 5), .int v1, .int v2, .int v3, .int v4, .int v5])), ((ad 1), .inl ((ca 1), cap, .inl (nf st)))]) [0, 1] rfl
  have hD9 := hD.sub (ws' := [(h, .inr (6, [.ref (ad 0), .ref (ad 1), .ref (ad 2), .ref (ad 3), .ref (ad 4), .ref (ad 5), .int v1, .int v2, .int v3, .int v4, .int v5])), ((ad 1), .inl ((ca 1), cap, .inl (nf st)))]) [0, 1] (by decide) rfl
  have hK9 := hK.sub (tys' := [((ca 1), .int)]) [0] rfl
  exact W.iret (v := (nI (st j))) hx hb hr (fun t9 ht hW => ⟨⟨(nI (st j)), (), rfl, rfl, ⟨by rw [ht]; exact hP9, va_K.moved hW.alike hK9, hD9⟩⟩, hS.F ht⟩) hS.2.2 d_T_stamp_6

set_option maxHeartbeats 4000000 in
set_option maxRecDepth 100000 in
/-- Terms.items(j) -/
theorem c_T_items (l : Launch) (D : va_G) (sz : Nat) (h : Nat) (ad : Nat → Nat) (ca : Nat → ClassId) (cap : Nat) (it : Nat → Nat) (v1 : Int32) (v2 : Int32) (v3 : Int32) (v4 : Int32) (v5 : Int32) (j : Nat) (hj : j < cap) (hc : cap < 2 ^ 31) : Met l y_T_items (Cond.code y_T_items b_T_items 2 (some .int) :: wal) ({ frames := 10, cells := 0, slots := 0, locals := 120 }) (va_Pc [.ref h, .int (nI j)] (pr D sz [(h, .inr (6, [.ref (ad 0), .ref (ad 1), .ref (ad 2), .ref (ad 3), .ref (ad 4), .ref (ad 5), .int v1, .int v2, .int v3, .int v4, .int v5])), ((ad 3), .inl ((ca 3), cap, .inl (nf it)))] [((ca 3), .int)] (fun _ => True))) (va_Qi (S := Unit) (fun r u => r = nI (it j)) (fun u t9 => po D (va_A ([(h, .inr (6, [.ref (ad 0), .ref (ad 1), .ref (ad 2), .ref (ad 3), .ref (ad 4), .ref (ad 5), .int v1, .int v2, .int v3, .int v4, .int v5])), ((ad 3), .inl ((ca 3), cap, .inl (nf it)))]) sz) ((fun u => [(h, .inr (6, [.ref (ad 0), .ref (ad 1), .ref (ad 2), .ref (ad 3), .ref (ad 4), .ref (ad 5), .int v1, .int v2, .int v3, .int v4, .int v5])), ((ad 3), .inl ((ca 3), cap, .inl (nf it)))]) u) ((fun u => [((ca 3), .int)]) u) t9) (va_A ([(h, .inr (6, [.ref (ad 0), .ref (ad 1), .ref (ad 2), .ref (ad 3), .ref (ad 4), .ref (ad 5), .int v1, .int v2, .int v3, .int v4, .int v5])), ((ad 3), .inl ((ca 3), cap, .inl (nf it)))]) sz)) 0 0 (va_A ([(h, .inr (6, [.ref (ad 0), .ref (ad 1), .ref (ad 2), .ref (ad 3), .ref (ad 4), .ref (ad 5), .int v1, .int v2, .int v3, .int v4, .int v5])), ((ad 3), .inl ((ca 3), cap, .inl (nf it)))]) sz) := by
  refine Met.ofW (cc := b_T_items) (maxL := 2) (ret := (some .int)) (by decide) rfl ?_
  intro p e s m args below meth c s₁ B hml hv
  obtain ⟨rfl, hsz, hP, hK, hD0, hE⟩ := hv
  have hx := B.exec
  have hb := B.bytes
  have hr := B.returns
  have hts0 := atoms_spec (ws := Cond.code y_T_items b_T_items 2 (some .int) :: wal) B.pre
  have hts : ∀ w ∈ wal, w.before _ s = true := fun w h => hts0 w (List.mem_cons_of_mem _ h)
  have hown : s.vm.findClass rc_T = some m.cls := findClass_of_methodNamed B.named
  have hlocks := B.notSynchronized
  subst hsz
  have hD := hD0.self (sz := s.heap.size)
  generalize hAe : va_A ([(h, .inr (6, [.ref (ad 0), .ref (ad 1), .ref (ad 2), .ref (ad 3), .ref (ad 4), .ref (ad 5), .int v1, .int v2, .int v3, .int v4, .int v5])), ((ad 3), .inl ((ca 3), cap, .inl (nf it)))]) s.heap.size = A at hD ⊢
  have hA : ∀ q : Nat, s.heap.size ≤ q → A q := fun q h => by rw [← hAe]; exact Or.inr h
  have hS : va_S A s.heap s.heap [] := va_S.rf
  have hl := lv_entry ([.ref h, .int (nI j)]) (n := 2) (Nat.le_of_ble_eq_true rfl)
  rw [lg_entry_eq]
  generalize (lg_sl ([.ref h, .int (nI j)]) ++ List.replicate (2 - (lg_sl ([.ref h, .int (nI j)])).length) Slot.unset).toArray = ls at hl ⊢
  have hl : lv_has ls 2 [(0, .ref h), (1, .int (nI j))] := hl
  refine lv_aload_n hx hb d_T_items_0 rfl (lv_at hl 0 rfl) ?_
  refine va_get (D := D) (ci := 6) (v := .ref (ad 3)) (C := rc_T) (T := ft_T) (N := 11) hx hb hts in_T hown hK hP 0 rfl rfl 3 (by decide) (hts _ k_65) (fun _ h9 => h9) rfl d_T_items_1 ?_
  refine lv_iload_n hx hb d_T_items_4 rfl (lv_at hl 1 rfl) ?_
  refine va_iald hx hb hK hP 1 0 rfl rfl (vp_in_nI (hj) (hc)) d_T_items_5 ?_
  refine lv_topi (fun z9 ez9 => ?_)
  have ez9 : z9 = (nI (it j)) := ez9.trans (nf_at _ (Nat.lt_trans (hj) (hc)))
  subst ez9
  have hP9 := hP.sub (ws' := [(h, .inr (6, [.ref (ad 0), .ref (ad 1), .ref (ad 2), .ref (ad 3), .ref (ad 4), .ref (ad 5), .int v1, .int v2, .int v3, .int v4, .int v5])), ((ad 3), .inl ((ca 3), cap, .inl (nf it)))]) [0, 1] rfl
  have hD9 := hD.sub (ws' := [(h, .inr (6, [.ref (ad 0), .ref (ad 1), .ref (ad 2), .ref (ad 3), .ref (ad 4), .ref (ad 5), .int v1, .int v2, .int v3, .int v4, .int v5])), ((ad 3), .inl ((ca 3), cap, .inl (nf it)))]) [0, 1] (by decide) rfl
  have hK9 := hK.sub (tys' := [((ca 3), .int)]) [0] rfl
  exact W.iret (v := (nI (it j))) hx hb hr (fun t9 ht hW => ⟨⟨(nI (it j)), (), rfl, rfl, ⟨by rw [ht]; exact hP9, va_K.moved hW.alike hK9, hD9⟩⟩, hS.F ht⟩) hS.2.2 d_T_items_6

set_option maxHeartbeats 4000000 in
set_option maxRecDepth 100000 in
/-- Terms.isRepeated(j) -/
theorem c_T_isRepeated (l : Launch) (D : va_G) (sz : Nat) (h : Nat) (ad : Nat → Nat) (ca : Nat → ClassId) (cap : Nat) (rp : Nat → Nat) (v1 : Int32) (v2 : Int32) (v3 : Int32) (v4 : Int32) (v5 : Int32) (j : Nat) (hj : j < cap) (hc : cap < 2 ^ 31) (hbd : rp j < 2) : Met l y_T_isRepeated (Cond.code y_T_isRepeated b_T_isRepeated 2 (some .boolean) :: wal) ({ frames := 10, cells := 0, slots := 0, locals := 120 }) (va_Pc [.ref h, .int (nI j)] (pr D sz [(h, .inr (6, [.ref (ad 0), .ref (ad 1), .ref (ad 2), .ref (ad 3), .ref (ad 4), .ref (ad 5), .int v1, .int v2, .int v3, .int v4, .int v5])), ((ad 4), .inl ((ca 4), cap, .inl (nf rp)))] [((ca 4), .boolean)] (fun _ => True))) (va_Qi (S := Unit) (fun r u => r = nI (rp j)) (fun u t9 => po D (va_A ([(h, .inr (6, [.ref (ad 0), .ref (ad 1), .ref (ad 2), .ref (ad 3), .ref (ad 4), .ref (ad 5), .int v1, .int v2, .int v3, .int v4, .int v5])), ((ad 4), .inl ((ca 4), cap, .inl (nf rp)))]) sz) ((fun u => [(h, .inr (6, [.ref (ad 0), .ref (ad 1), .ref (ad 2), .ref (ad 3), .ref (ad 4), .ref (ad 5), .int v1, .int v2, .int v3, .int v4, .int v5])), ((ad 4), .inl ((ca 4), cap, .inl (nf rp)))]) u) ((fun u => [((ca 4), .boolean)]) u) t9) (va_A ([(h, .inr (6, [.ref (ad 0), .ref (ad 1), .ref (ad 2), .ref (ad 3), .ref (ad 4), .ref (ad 5), .int v1, .int v2, .int v3, .int v4, .int v5])), ((ad 4), .inl ((ca 4), cap, .inl (nf rp)))]) sz)) 0 0 (va_A ([(h, .inr (6, [.ref (ad 0), .ref (ad 1), .ref (ad 2), .ref (ad 3), .ref (ad 4), .ref (ad 5), .int v1, .int v2, .int v3, .int v4, .int v5])), ((ad 4), .inl ((ca 4), cap, .inl (nf rp)))]) sz) := by
  refine Met.ofW (cc := b_T_isRepeated) (maxL := 2) (ret := (some .boolean)) (by decide) rfl ?_
  intro p e s m args below meth c s₁ B hml hv
  obtain ⟨rfl, hsz, hP, hK, hD0, hE⟩ := hv
  have hx := B.exec
  have hb := B.bytes
  have hr := B.returns
  have hts0 := atoms_spec (ws := Cond.code y_T_isRepeated b_T_isRepeated 2 (some .boolean) :: wal) B.pre
  have hts : ∀ w ∈ wal, w.before _ s = true := fun w h => hts0 w (List.mem_cons_of_mem _ h)
  have hown : s.vm.findClass rc_T = some m.cls := findClass_of_methodNamed B.named
  have hlocks := B.notSynchronized
  subst hsz
  have hD := hD0.self (sz := s.heap.size)
  generalize hAe : va_A ([(h, .inr (6, [.ref (ad 0), .ref (ad 1), .ref (ad 2), .ref (ad 3), .ref (ad 4), .ref (ad 5), .int v1, .int v2, .int v3, .int v4, .int v5])), ((ad 4), .inl ((ca 4), cap, .inl (nf rp)))]) s.heap.size = A at hD ⊢
  have hA : ∀ q : Nat, s.heap.size ≤ q → A q := fun q h => by rw [← hAe]; exact Or.inr h
  have hS : va_S A s.heap s.heap [] := va_S.rf
  have hl := lv_entry ([.ref h, .int (nI j)]) (n := 2) (Nat.le_of_ble_eq_true rfl)
  rw [lg_entry_eq]
  generalize (lg_sl ([.ref h, .int (nI j)]) ++ List.replicate (2 - (lg_sl ([.ref h, .int (nI j)])).length) Slot.unset).toArray = ls at hl ⊢
  have hl : lv_has ls 2 [(0, .ref h), (1, .int (nI j))] := hl
  refine lv_aload_n hx hb d_T_isRepeated_0 rfl (lv_at hl 0 rfl) ?_
  refine va_get (D := D) (ci := 6) (v := .ref (ad 4)) (C := rc_T) (T := ft_T) (N := 11) hx hb hts in_T hown hK hP 0 rfl rfl 4 (by decide) (hts _ k_66) (fun _ h9 => h9) rfl d_T_isRepeated_1 ?_
  refine lv_iload_n hx hb d_T_isRepeated_4 rfl (lv_at hl 1 rfl) ?_
  refine va_zald hx hb hK hP 1 0 rfl rfl (vp_in_nI (hj) (hc)) d_T_isRepeated_5 ?_
  refine lv_topi (fun z9 ez9 => ?_)
  have ez9 : z9 = (nI (rp j)) := ez9.trans (nf_at _ (Nat.lt_trans (hj) (hc)))
  subst ez9
  have hP9 := hP.sub (ws' := [(h, .inr (6, [.ref (ad 0), .ref (ad 1), .ref (ad 2), .ref (ad 3), .ref (ad 4), .ref (ad 5), .int v1, .int v2, .int v3, .int v4, .int v5])), ((ad 4), .inl ((ca 4), cap, .inl (nf rp)))]) [0, 1] rfl
  have hD9 := hD.sub (ws' := [(h, .inr (6, [.ref (ad 0), .ref (ad 1), .ref (ad 2), .ref (ad 3), .ref (ad 4), .ref (ad 5), .int v1, .int v2, .int v3, .int v4, .int v5])), ((ad 4), .inl ((ca 4), cap, .inl (nf rp)))]) [0, 1] (by decide) rfl
  have hK9 := hK.sub (tys' := [((ca 4), .boolean)]) [0] rfl
  exact W.zret (v := (nI (rp j))) hx hb hr (nar_bz hbd) (fun t9 ht hW => ⟨⟨(nI (rp j)), (), rfl, rfl, ⟨by rw [ht]; exact hP9, va_K.moved hW.alike hK9, hD9⟩⟩, hS.F ht⟩) hS.2.2 d_T_isRepeated_6

set_option maxHeartbeats 4000000 in
set_option maxRecDepth 100000 in
/-- Terms.after(j) -/
theorem c_T_after (l : Launch) (D : va_G) (sz : Nat) (h : Nat) (ad : Nat → Nat) (ca : Nat → ClassId) (cap : Nat) (sp : Nat → Nat) (v1 : Int32) (v2 : Int32) (v3 : Int32) (v4 : Int32) (v5 : Int32) (j : Nat) (hj : j < cap) (hc : cap < 2 ^ 31) : Met l y_T_after (Cond.code y_T_after b_T_after 2 (some .int) :: wal) ({ frames := 10, cells := 0, slots := 0, locals := 120 }) (va_Pc [.ref h, .int (nI j)] (pr D sz [(h, .inr (6, [.ref (ad 0), .ref (ad 1), .ref (ad 2), .ref (ad 3), .ref (ad 4), .ref (ad 5), .int v1, .int v2, .int v3, .int v4, .int v5])), ((ad 2), .inl ((ca 2), cap, .inl (nf sp)))] [((ca 2), .int)] (fun _ => True))) (va_Qi (S := Unit) (fun r u => r = nI (j + sp j)) (fun u t9 => po D (va_A ([(h, .inr (6, [.ref (ad 0), .ref (ad 1), .ref (ad 2), .ref (ad 3), .ref (ad 4), .ref (ad 5), .int v1, .int v2, .int v3, .int v4, .int v5])), ((ad 2), .inl ((ca 2), cap, .inl (nf sp)))]) sz) ((fun u => [(h, .inr (6, [.ref (ad 0), .ref (ad 1), .ref (ad 2), .ref (ad 3), .ref (ad 4), .ref (ad 5), .int v1, .int v2, .int v3, .int v4, .int v5])), ((ad 2), .inl ((ca 2), cap, .inl (nf sp)))]) u) ((fun u => [((ca 2), .int)]) u) t9) (va_A ([(h, .inr (6, [.ref (ad 0), .ref (ad 1), .ref (ad 2), .ref (ad 3), .ref (ad 4), .ref (ad 5), .int v1, .int v2, .int v3, .int v4, .int v5])), ((ad 2), .inl ((ca 2), cap, .inl (nf sp)))]) sz)) 0 0 (va_A ([(h, .inr (6, [.ref (ad 0), .ref (ad 1), .ref (ad 2), .ref (ad 3), .ref (ad 4), .ref (ad 5), .int v1, .int v2, .int v3, .int v4, .int v5])), ((ad 2), .inl ((ca 2), cap, .inl (nf sp)))]) sz) := by
  refine Met.ofW (cc := b_T_after) (maxL := 2) (ret := (some .int)) (by decide) rfl ?_
  intro p e s m args below meth c s₁ B hml hv
  obtain ⟨rfl, hsz, hP, hK, hD0, hE⟩ := hv
  have hx := B.exec
  have hb := B.bytes
  have hr := B.returns
  have hts0 := atoms_spec (ws := Cond.code y_T_after b_T_after 2 (some .int) :: wal) B.pre
  have hts : ∀ w ∈ wal, w.before _ s = true := fun w h => hts0 w (List.mem_cons_of_mem _ h)
  have hown : s.vm.findClass rc_T = some m.cls := findClass_of_methodNamed B.named
  have hlocks := B.notSynchronized
  subst hsz
  have hD := hD0.self (sz := s.heap.size)
  generalize hAe : va_A ([(h, .inr (6, [.ref (ad 0), .ref (ad 1), .ref (ad 2), .ref (ad 3), .ref (ad 4), .ref (ad 5), .int v1, .int v2, .int v3, .int v4, .int v5])), ((ad 2), .inl ((ca 2), cap, .inl (nf sp)))]) s.heap.size = A at hD ⊢
  have hA : ∀ q : Nat, s.heap.size ≤ q → A q := fun q h => by rw [← hAe]; exact Or.inr h
  have hS : va_S A s.heap s.heap [] := va_S.rf
  have hl := lv_entry ([.ref h, .int (nI j)]) (n := 2) (Nat.le_of_ble_eq_true rfl)
  rw [lg_entry_eq]
  generalize (lg_sl ([.ref h, .int (nI j)]) ++ List.replicate (2 - (lg_sl ([.ref h, .int (nI j)])).length) Slot.unset).toArray = ls at hl ⊢
  have hl : lv_has ls 2 [(0, .ref h), (1, .int (nI j))] := hl
  refine lv_iload_n hx hb d_T_after_0 rfl (lv_at hl 1 rfl) ?_
  refine lv_aload_n hx hb d_T_after_1 rfl (lv_at hl 0 rfl) ?_
  refine va_get (D := D) (ci := 6) (v := .ref (ad 2)) (C := rc_T) (T := ft_T) (N := 11) hx hb hts in_T hown hK hP 0 rfl rfl 2 (by decide) (hts _ k_64) (fun _ h9 => h9) rfl d_T_after_2 ?_
  refine lv_iload_n hx hb d_T_after_5 rfl (lv_at hl 1 rfl) ?_
  refine va_iald hx hb hK hP 1 0 rfl rfl (vp_in_nI (hj) (hc)) d_T_after_6 ?_
  refine lv_topi (fun z9 ez9 => ?_)
  have ez9 : z9 = (nI (sp j)) := ez9.trans (nf_at _ (Nat.lt_trans (hj) (hc)))
  subst ez9
  refine lv_iadd hx hb d_T_after_7 ?_
  have hP9 := hP.sub (ws' := [(h, .inr (6, [.ref (ad 0), .ref (ad 1), .ref (ad 2), .ref (ad 3), .ref (ad 4), .ref (ad 5), .int v1, .int v2, .int v3, .int v4, .int v5])), ((ad 2), .inl ((ca 2), cap, .inl (nf sp)))]) [0, 1] rfl
  have hD9 := hD.sub (ws' := [(h, .inr (6, [.ref (ad 0), .ref (ad 1), .ref (ad 2), .ref (ad 3), .ref (ad 4), .ref (ad 5), .int v1, .int v2, .int v3, .int v4, .int v5])), ((ad 2), .inl ((ca 2), cap, .inl (nf sp)))]) [0, 1] (by decide) rfl
  have hK9 := hK.sub (tys' := [((ca 2), .int)]) [0] rfl
  exact W.iret (v := ((nI j) + (nI (sp j)))) hx hb hr (fun t9 ht hW => ⟨⟨((nI j) + (nI (sp j))), (), rfl, nI_add _ _, ⟨by rw [ht]; exact hP9, va_K.moved hW.alike hK9, hD9⟩⟩, hS.F ht⟩) hS.2.2 d_T_after_8

set_option maxHeartbeats 4000000 in
set_option maxRecDepth 100000 in
/-- Terms.close() -/
theorem c_T_close (l : Launch) (D : va_G) (sz : Nat) (h : Nat) (ad : Nat → Nat) (ca : Nat → ClassId) (cap : Nat) (sp : Nat → Nat) (op : Nat → Nat) (z : Nat) (dp : Nat) (v2 : Int32) (v4 : Int32) (v5 : Int32) (hc : cap < 2 ^ 31) (hz : z ≤ cap) (hd : dp ≤ 12) (ho : ∀ j, j < dp → op j < z) : Met l y_T_close (Cond.code y_T_close b_T_close 1 (some .boolean) :: wal) ({ frames := 10, cells := 0, slots := 0, locals := 120 }) (va_Pc [.ref h] (pr D sz [(h, .inr (6, [.ref (ad 0), .ref (ad 1), .ref (ad 2), .ref (ad 3), .ref (ad 4), .ref (ad 5), .int (nI z), .int v2, .int (nI dp), .int v4, .int v5])), ((ad 2), .inl ((ca 2), cap, .inl (nf sp))), ((ad 5), .inl ((ca 5), 12, .inl (nf op)))] [((ca 2), .int), ((ca 5), .int)] (fun _ => True))) (va_Qi (S := (Nat → Nat) × Nat × Int32) (fun r u => (r = 0 ∧ dp = 0 ∧ u.2.1 = 0 ∧ u.1 = sp ∧ u.2.2 = v5) ∨ (r = 1 ∧ 0 < dp ∧ u.2.1 = dp - 1 ∧ u.1 = va_up sp (op (dp - 1)) (z - op (dp - 1)) ∧ u.2.2 = nI (op (dp - 1)))) (fun u t9 => po D (va_A ([(h, .inr (6, [.ref (ad 0), .ref (ad 1), .ref (ad 2), .ref (ad 3), .ref (ad 4), .ref (ad 5), .int (nI z), .int v2, .int (nI dp), .int v4, .int v5])), ((ad 2), .inl ((ca 2), cap, .inl (nf sp))), ((ad 5), .inl ((ca 5), 12, .inl (nf op)))]) sz) ((fun u => [(h, .inr (6, [.ref (ad 0), .ref (ad 1), .ref (ad 2), .ref (ad 3), .ref (ad 4), .ref (ad 5), .int (nI z), .int v2, .int (nI u.2.1), .int v4, .int u.2.2])), ((ad 2), .inl ((ca 2), cap, .inl (nf u.1))), ((ad 5), .inl ((ca 5), 12, .inl (nf op)))]) u) ((fun u => [((ca 2), .int), ((ca 5), .int)]) u) t9) (va_A ([(h, .inr (6, [.ref (ad 0), .ref (ad 1), .ref (ad 2), .ref (ad 3), .ref (ad 4), .ref (ad 5), .int (nI z), .int v2, .int (nI dp), .int v4, .int v5])), ((ad 2), .inl ((ca 2), cap, .inl (nf sp))), ((ad 5), .inl ((ca 5), 12, .inl (nf op)))]) sz)) 0 0 (va_A ([(h, .inr (6, [.ref (ad 0), .ref (ad 1), .ref (ad 2), .ref (ad 3), .ref (ad 4), .ref (ad 5), .int (nI z), .int v2, .int (nI dp), .int v4, .int v5])), ((ad 2), .inl ((ca 2), cap, .inl (nf sp))), ((ad 5), .inl ((ca 5), 12, .inl (nf op)))]) sz) := by
  refine Met.ofW (cc := b_T_close) (maxL := 1) (ret := (some .boolean)) (by decide) rfl ?_
  intro p e s m args below meth c s₁ B hml hv
  obtain ⟨rfl, hsz, hP, hK, hD0, hE⟩ := hv
  have hx := B.exec
  have hb := B.bytes
  have hr := B.returns
  have hts0 := atoms_spec (ws := Cond.code y_T_close b_T_close 1 (some .boolean) :: wal) B.pre
  have hts : ∀ w ∈ wal, w.before _ s = true := fun w h => hts0 w (List.mem_cons_of_mem _ h)
  have hown : s.vm.findClass rc_T = some m.cls := findClass_of_methodNamed B.named
  have hlocks := B.notSynchronized
  subst hsz
  have hD := hD0.self (sz := s.heap.size)
  generalize hAe : va_A ([(h, .inr (6, [.ref (ad 0), .ref (ad 1), .ref (ad 2), .ref (ad 3), .ref (ad 4), .ref (ad 5), .int (nI z), .int v2, .int (nI dp), .int v4, .int v5])), ((ad 2), .inl ((ca 2), cap, .inl (nf sp))), ((ad 5), .inl ((ca 5), 12, .inl (nf op)))]) s.heap.size = A at hD ⊢
  have hA : ∀ q : Nat, s.heap.size ≤ q → A q := fun q h => by rw [← hAe]; exact Or.inr h
  have hS : va_S A s.heap s.heap [] := va_S.rf
  have hl := lv_entry ([.ref h]) (n := 1) (Nat.le_of_ble_eq_true rfl)
  rw [lg_entry_eq]
  generalize (lg_sl ([.ref h]) ++ List.replicate (1 - (lg_sl ([.ref h])).length) Slot.unset).toArray = ls at hl ⊢
  have hl : lv_has ls 1 [(0, .ref h)] := hl
  refine lv_aload_n hx hb d_T_close_0 rfl (lv_at hl 0 rfl) ?_
  refine va_get (D := D) (ci := 6) (v := .int (nI dp)) (C := rc_T) (T := ft_T) (N := 11) hx hb hts in_T hown hK hP 0 rfl rfl 8 (by decide) (hts _ k_70) (fun _ h9 => h9) rfl d_T_close_1 ?_
  refine lv_if_ne (tgt := 9) hx hb d_T_close_4 (by decide) (fun h1 => ?_) (fun h1 => ?_)
  · have h2 : 0 < dp := Nat.pos_of_ne_zero (fun h => h1 (by rw [h]; rfl))
    have h3 := ho (dp - 1) (by omega)
    refine lv_aload_n hx hb d_T_close_9 rfl (lv_at hl 0 rfl) ?_
    refine lv_dup hx hb d_T_close_10 rfl ?_
    refine va_get (D := D) (ci := 6) (v := .int (nI dp)) (C := rc_T) (T := ft_T) (N := 11) hx hb hts in_T hown hK hP 0 rfl rfl 8 (by decide) (hts _ k_70) (fun _ h9 => h9) rfl d_T_close_11 ?_
    refine lv_iconst (v := 1) hx hb d_T_close_14 (by decide) ?_
    refine lv_isub hx hb d_T_close_15 ?_
    refine lv_topi (fun z9 ez9 => ?_)
    have ez9 : z9 = (nI (dp - 1)) := ez9.trans (nsub (b := 1) h2)
    subst ez9
    refine va_put (D := D) (ci := 6) (v := .int (nI (dp - 1))) (ty := .int) (C := rc_T) (T := ft_T) (N := 11) hx hb hts in_T ty_T tk_T nm_T hown hK hP hD hS 0 rfl rfl 8 (by decide) (hts _ k_70) (fun _ h9 => h9) rfl (by decide +kernel) rfl rfl (Nat.le_of_ble_eq_true rfl) d_T_close_16 (fun H locs hP hD hS => ?_)
    have hP : va_P D wcl [(h, .inr (6, [.ref (ad 0), .ref (ad 1), .ref (ad 2), .ref (ad 3), .ref (ad 4), .ref (ad 5), .int (nI z), .int v2, .int (nI (dp - 1)), .int v4, .int v5])), ((ad 2), .inl ((ca 2), cap, .inl (nf sp))), ((ad 5), .inl ((ca 5), 12, .inl (nf op)))] H := hP
    have hD : va_D A [(h, .inr (6, [.ref (ad 0), .ref (ad 1), .ref (ad 2), .ref (ad 3), .ref (ad 4), .ref (ad 5), .int (nI z), .int v2, .int (nI (dp - 1)), .int v4, .int v5])), ((ad 2), .inl ((ca 2), cap, .inl (nf sp))), ((ad 5), .inl ((ca 5), 12, .inl (nf op)))] := hD
    refine lv_aload_n hx hb d_T_close_19 rfl (lv_at hl 0 rfl) ?_
    refine lv_aload_n hx hb d_T_close_20 rfl (lv_at hl 0 rfl) ?_
    refine va_get (D := D) (ci := 6) (v := .ref (ad 5)) (C := rc_T) (T := ft_T) (N := 11) hx hb hts in_T hown hK hP 0 rfl rfl 5 (by decide) (hts _ k_67) (fun _ h9 => h9) rfl d_T_close_21 ?_
    refine lv_aload_n hx hb d_T_close_24 rfl (lv_at hl 0 rfl) ?_
    refine va_get (D := D) (ci := 6) (v := .int (nI (dp - 1))) (C := rc_T) (T := ft_T) (N := 11) hx hb hts in_T hown hK hP 0 rfl rfl 8 (by decide) (hts _ k_70) (fun _ h9 => h9) rfl d_T_close_25 ?_
    refine va_iald hx hb hK hP 2 1 rfl rfl (vp_in_nI (show dp - 1 < 12 by omega) (by decide)) d_T_close_28 ?_
    refine lv_topi (fun z9 ez9 => ?_)
    have ez9 : z9 = (nI (op (dp - 1))) := ez9.trans (nf_at _ (Nat.lt_trans (show dp - 1 < 12 by omega) (by decide)))
    subst ez9
    refine va_put (D := D) (ci := 6) (v := .int (nI (op (dp - 1)))) (ty := .int) (C := rc_T) (T := ft_T) (N := 11) hx hb hts in_T ty_T tk_T nm_T hown hK hP hD hS 0 rfl rfl 10 (by decide) (hts _ k_72) (fun _ h9 => h9) rfl (by decide +kernel) rfl rfl (Nat.le_of_ble_eq_true rfl) d_T_close_29 (fun H locs hP hD hS => ?_)
    have hP : va_P D wcl [(h, .inr (6, [.ref (ad 0), .ref (ad 1), .ref (ad 2), .ref (ad 3), .ref (ad 4), .ref (ad 5), .int (nI z), .int v2, .int (nI (dp - 1)), .int v4, .int (nI (op (dp - 1)))])), ((ad 2), .inl ((ca 2), cap, .inl (nf sp))), ((ad 5), .inl ((ca 5), 12, .inl (nf op)))] H := hP
    have hD : va_D A [(h, .inr (6, [.ref (ad 0), .ref (ad 1), .ref (ad 2), .ref (ad 3), .ref (ad 4), .ref (ad 5), .int (nI z), .int v2, .int (nI (dp - 1)), .int v4, .int (nI (op (dp - 1)))])), ((ad 2), .inl ((ca 2), cap, .inl (nf sp))), ((ad 5), .inl ((ca 5), 12, .inl (nf op)))] := hD
    refine lv_aload_n hx hb d_T_close_32 rfl (lv_at hl 0 rfl) ?_
    refine va_get (D := D) (ci := 6) (v := .ref (ad 2)) (C := rc_T) (T := ft_T) (N := 11) hx hb hts in_T hown hK hP 0 rfl rfl 2 (by decide) (hts _ k_64) (fun _ h9 => h9) rfl d_T_close_33 ?_
    refine lv_aload_n hx hb d_T_close_36 rfl (lv_at hl 0 rfl) ?_
    refine va_get (D := D) (ci := 6) (v := .int (nI (op (dp - 1)))) (C := rc_T) (T := ft_T) (N := 11) hx hb hts in_T hown hK hP 0 rfl rfl 10 (by decide) (hts _ k_72) (fun _ h9 => h9) rfl d_T_close_37 ?_
    refine lv_aload_n hx hb d_T_close_40 rfl (lv_at hl 0 rfl) ?_
    refine va_get (D := D) (ci := 6) (v := .int (nI z)) (C := rc_T) (T := ft_T) (N := 11) hx hb hts in_T hown hK hP 0 rfl rfl 6 (by decide) (hts _ k_68) (fun _ h9 => h9) rfl d_T_close_41 ?_
    refine lv_aload_n hx hb d_T_close_44 rfl (lv_at hl 0 rfl) ?_
    refine va_get (D := D) (ci := 6) (v := .int (nI (op (dp - 1)))) (C := rc_T) (T := ft_T) (N := 11) hx hb hts in_T hown hK hP 0 rfl rfl 10 (by decide) (hts _ k_72) (fun _ h9 => h9) rfl d_T_close_45 ?_
    refine lv_isub hx hb d_T_close_48 ?_
    refine lv_topi (fun z9 ez9 => ?_)
    have ez9 : z9 = (nI (z - op (dp - 1))) := ez9.trans (nsub (Nat.le_of_lt h3))
    subst ez9
    refine va_iast hx hb hK hP hD hS 1 0 rfl rfl (vp_in_nI (show op (dp - 1) < cap by omega) (hc)) d_T_close_49 (fun H locs hP hD hS => ?_)
    have hP : va_P D wcl [(h, .inr (6, [.ref (ad 0), .ref (ad 1), .ref (ad 2), .ref (ad 3), .ref (ad 4), .ref (ad 5), .int (nI z), .int v2, .int (nI (dp - 1)), .int v4, .int (nI (op (dp - 1)))])), ((ad 2), .inl ((ca 2), cap, .inl (upd (nf sp) (nI (op (dp - 1))).toNatClampNeg (nI (z - op (dp - 1)))))), ((ad 5), .inl ((ca 5), 12, .inl (nf op)))] H := hP
    have hD : va_D A [(h, .inr (6, [.ref (ad 0), .ref (ad 1), .ref (ad 2), .ref (ad 3), .ref (ad 4), .ref (ad 5), .int (nI z), .int v2, .int (nI (dp - 1)), .int v4, .int (nI (op (dp - 1)))])), ((ad 2), .inl ((ca 2), cap, .inl (upd (nf sp) (nI (op (dp - 1))).toNatClampNeg (nI (z - op (dp - 1)))))), ((ad 5), .inl ((ca 5), 12, .inl (nf op)))] := hD
    rw [nf_upi sp (Nat.lt_trans (show op (dp - 1) < cap by omega) (hc))] at hP hD
    have hP : va_P D wcl [(h, .inr (6, [.ref (ad 0), .ref (ad 1), .ref (ad 2), .ref (ad 3), .ref (ad 4), .ref (ad 5), .int (nI z), .int v2, .int (nI (dp - 1)), .int v4, .int (nI (op (dp - 1)))])), ((ad 2), .inl ((ca 2), cap, .inl (nf (va_up sp (op (dp - 1)) (z - op (dp - 1)))))), ((ad 5), .inl ((ca 5), 12, .inl (nf op)))] H := hP
    have hD : va_D A [(h, .inr (6, [.ref (ad 0), .ref (ad 1), .ref (ad 2), .ref (ad 3), .ref (ad 4), .ref (ad 5), .int (nI z), .int v2, .int (nI (dp - 1)), .int v4, .int (nI (op (dp - 1)))])), ((ad 2), .inl ((ca 2), cap, .inl (nf (va_up sp (op (dp - 1)) (z - op (dp - 1)))))), ((ad 5), .inl ((ca 5), 12, .inl (nf op)))] := hD
    refine lv_iconst (v := 1) hx hb d_T_close_50 (by decide) ?_
    have hP9 := hP.sub (ws' := [(h, .inr (6, [.ref (ad 0), .ref (ad 1), .ref (ad 2), .ref (ad 3), .ref (ad 4), .ref (ad 5), .int (nI z), .int v2, .int (nI (dp - 1)), .int v4, .int (nI (op (dp - 1)))])), ((ad 2), .inl ((ca 2), cap, .inl (nf (va_up sp (op (dp - 1)) (z - op (dp - 1)))))), ((ad 5), .inl ((ca 5), 12, .inl (nf op)))]) [0, 1, 2] rfl
    have hD9 := hD.sub (ws' := [(h, .inr (6, [.ref (ad 0), .ref (ad 1), .ref (ad 2), .ref (ad 3), .ref (ad 4), .ref (ad 5), .int (nI z), .int v2, .int (nI (dp - 1)), .int v4, .int (nI (op (dp - 1)))])), ((ad 2), .inl ((ca 2), cap, .inl (nf (va_up sp (op (dp - 1)) (z - op (dp - 1)))))), ((ad 5), .inl ((ca 5), 12, .inl (nf op)))]) [0, 1, 2] (by decide) rfl
    have hK9 := hK.sub (tys' := [((ca 2), .int), ((ca 5), .int)]) [0, 1] rfl
    exact W.zret (v := 1) hx hb hr (by decide) (fun t9 ht hW => ⟨⟨1, (va_up sp (op (dp - 1)) (z - op (dp - 1)), dp - 1, nI (op (dp - 1))), rfl, Or.inr ⟨rfl, h2, rfl, rfl, rfl⟩, ⟨by rw [ht]; exact hP9, va_K.moved hW.alike hK9, hD9⟩⟩, hS.F ht⟩) hS.2.2 d_T_close_51
  · have h2 : dp = 0 := nI_inj (b := 0) (by omega) (by decide) h1
    refine lv_iconst (v := 0) hx hb d_T_close_7 (by decide) ?_
    have hP9 := hP.sub (ws' := [(h, .inr (6, [.ref (ad 0), .ref (ad 1), .ref (ad 2), .ref (ad 3), .ref (ad 4), .ref (ad 5), .int (nI z), .int v2, .int (nI dp), .int v4, .int v5])), ((ad 2), .inl ((ca 2), cap, .inl (nf sp))), ((ad 5), .inl ((ca 5), 12, .inl (nf op)))]) [0, 1, 2] rfl
    have hD9 := hD.sub (ws' := [(h, .inr (6, [.ref (ad 0), .ref (ad 1), .ref (ad 2), .ref (ad 3), .ref (ad 4), .ref (ad 5), .int (nI z), .int v2, .int (nI dp), .int v4, .int v5])), ((ad 2), .inl ((ca 2), cap, .inl (nf sp))), ((ad 5), .inl ((ca 5), 12, .inl (nf op)))]) [0, 1, 2] (by decide) rfl
    have hK9 := hK.sub (tys' := [((ca 2), .int), ((ca 5), .int)]) [0, 1] rfl
    exact W.zret (v := 0) hx hb hr (by decide) (fun t9 ht hW => ⟨⟨0, (sp, dp, v5), rfl, Or.inl ⟨rfl, h2, h2, rfl, rfl⟩, ⟨by rw [ht]; exact hP9, va_K.moved hW.alike hK9, hD9⟩⟩, hS.F ht⟩) hS.2.2 d_T_close_8
