set_option maxHeartbeats 4000000 in
set_option maxRecDepth 100000 in
/-- RuleBook.isFull() -/
theorem c_B_isFull (l : Launch) (D : va_G) (sz : Nat) (h : Nat) (ba : Nat) (n : Nat) (hn : n ≤ 12) : Met l y_B_isFull (Cond.code y_B_isFull b_B_isFull 1 (some .boolean) :: wal) ({ frames := 10, cells := 0, slots := 0, locals := 120 }) (va_Pc [.ref h] (pr D sz [(h, .inr (5, [.ref ba, .int (nI n)]))] [] (fun _ => True))) (va_Qi (S := Unit) (fun r u => (r = 1 ∧ n = 12) ∨ (r = 0 ∧ n < 12)) (fun u t9 => po D (va_A ([(h, .inr (5, [.ref ba, .int (nI n)]))]) sz) ((fun u => [(h, .inr (5, [.ref ba, .int (nI n)]))]) u) ((fun u => []) u) t9) (va_A ([(h, .inr (5, [.ref ba, .int (nI n)]))]) sz)) 0 0 (va_A ([(h, .inr (5, [.ref ba, .int (nI n)]))]) sz) := by
  refine Met.ofW (cc := b_B_isFull) (maxL := 1) (ret := (some .boolean)) (by decide) rfl ?_
  intro p e s m args below meth c s₁ B hml hv
  obtain ⟨rfl, hsz, hP, hK, hD0, hE⟩ := hv
  have hx := B.exec
  have hb := B.bytes
  have hr := B.returns
  have hts0 := atoms_spec (ws := Cond.code y_B_isFull b_B_isFull 1 (some .boolean) :: wal) B.pre
  have hts : ∀ w ∈ wal, w.before _ s = true := fun w h => hts0 w (List.mem_cons_of_mem _ h)
  have hown : s.vm.findClass rc_B = some m.cls := findClass_of_methodNamed B.named
  have hlocks := B.notSynchronized
  subst hsz
  have hD := hD0.self (sz := s.heap.size)
  generalize hAe : va_A ([(h, .inr (5, [.ref ba, .int (nI n)]))]) s.heap.size = A at hD ⊢
  have hA : ∀ q : Nat, s.heap.size ≤ q → A q := fun q h => by rw [← hAe]; exact Or.inr h
  have hS : va_S A s.heap s.heap [] := va_S.rf
  have hl := lv_entry ([.ref h]) (n := 1) (Nat.le_of_ble_eq_true rfl)
  rw [lg_entry_eq]
  generalize (lg_sl ([.ref h]) ++ List.replicate (1 - (lg_sl ([.ref h])).length) Slot.unset).toArray = ls at hl ⊢
  have hl : lv_has ls 1 [(0, .ref h)] := hl
  refine lv_aload_n hx hb d_B_isFull_0 rfl (lv_at hl 0 rfl) ?_
  refine va_get (D := D) (ci := 5) (v := .int (nI n)) (C := rc_B) (T := ft_B) (N := 2) hx hb hts in_B hown hK hP 0 rfl rfl 1 (by decide) (hts _ k_109) (fun _ h9 => h9) rfl d_B_isFull_1 ?_
  refine lv_bipush (v := 12) hx hb d_B_isFull_4 (by decide) ?_
  refine lv_icmp_lt (tgt := 13) hx hb d_B_isFull_6 (by decide) (fun h1 => ?_) (fun h1 => ?_)
  · have h2 : n < 12 := Nat.lt_of_not_le (fun h => absurd h1 (nI_nlt (b := 12) h (by omega)))
    refine lv_iconst (v := 0) hx hb d_B_isFull_13 (by decide) ?_
    have hP9 := hP.sub (ws' := [(h, .inr (5, [.ref ba, .int (nI n)]))]) [0] rfl
    have hD9 := hD.sub (ws' := [(h, .inr (5, [.ref ba, .int (nI n)]))]) [0] (by decide) rfl
    have hK9 := hK.sub (tys' := []) [] rfl
    exact W.zret (v := 0) hx hb hr (by decide) (fun t9 ht hW => ⟨⟨0, (), rfl, Or.inr ⟨rfl, h2⟩, ⟨by rw [ht]; exact hP9, va_K.moved hW.alike hK9, hD9⟩⟩, hS.F ht⟩) hS.2.2 d_B_isFull_14
  · have h2 : n = 12 := Nat.le_antisymm hn (Nat.not_lt.mp (fun h => h1 (nI_lt (b := 12) h (by decide))))
    refine lv_iconst (v := 1) hx hb d_B_isFull_9 (by decide) ?_
    refine lv_goto (tgt := 14) hx hb d_B_isFull_10 (by decide) ?_
    have hP9 := hP.sub (ws' := [(h, .inr (5, [.ref ba, .int (nI n)]))]) [0] rfl
    have hD9 := hD.sub (ws' := [(h, .inr (5, [.ref ba, .int (nI n)]))]) [0] (by decide) rfl
    have hK9 := hK.sub (tys' := []) [] rfl
    exact W.zret (v := 1) hx hb hr (by decide) (fun t9 ht hW => ⟨⟨1, (), rfl, Or.inl ⟨rfl, h2⟩, ⟨by rw [ht]; exact hP9, va_K.moved hW.alike hK9, hD9⟩⟩, hS.F ht⟩) hS.2.2 d_B_isFull_14

set_option maxHeartbeats 4000000 in
set_option maxRecDepth 100000 in
/-- RuleBook.get(j) -/
theorem c_B_get (l : Launch) (D : va_G) (sz : Nat) (h : Nat) (ba : Nat) (cb : ClassId) (bf : Nat → Option Nat) (r0 : Nat) (v1 : Int32) (j : Nat) (hj : j < 13) (hf : bf j = some r0) : Met l y_B_get (Cond.code y_B_get b_B_get 2 (some (.object "MacroForge$Rule")) :: wal) ({ frames := 10, cells := 0, slots := 0, locals := 120 }) (va_Pc [.ref h, .int (nI j)] (pr D sz [(h, .inr (5, [.ref ba, .int v1])), (ba, .inl (cb, 13, .inr (.inr (.inr (.inr bf)))))] [(cb, .object rc_R)] (fun _ => True))) (va_Qr (S := Unit) (fun u => True) (fun u x9 t9 => x9 = r0 ∧ po D (va_A ([(h, .inr (5, [.ref ba, .int v1])), (ba, .inl (cb, 13, .inr (.inr (.inr (.inr bf)))))]) sz) ((fun u => [(h, .inr (5, [.ref ba, .int v1])), (ba, .inl (cb, 13, .inr (.inr (.inr (.inr bf)))))]) u) ((fun u => [(cb, .object rc_R)]) u) t9) (va_A ([(h, .inr (5, [.ref ba, .int v1])), (ba, .inl (cb, 13, .inr (.inr (.inr (.inr bf)))))]) sz)) 0 0 (va_A ([(h, .inr (5, [.ref ba, .int v1])), (ba, .inl (cb, 13, .inr (.inr (.inr (.inr bf)))))]) sz) := by
  refine Met.ofW (cc := b_B_get) (maxL := 2) (ret := (some (.object "MacroForge$Rule"))) (by decide) rfl ?_
  intro p e s m args below meth c s₁ B hml hv
  obtain ⟨rfl, hsz, hP, hK, hD0, hE⟩ := hv
  have hx := B.exec
  have hb := B.bytes
  have hr := B.returns
  have hts0 := atoms_spec (ws := Cond.code y_B_get b_B_get 2 (some (.object "MacroForge$Rule")) :: wal) B.pre
  have hts : ∀ w ∈ wal, w.before _ s = true := fun w h => hts0 w (List.mem_cons_of_mem _ h)
  have hown : s.vm.findClass rc_B = some m.cls := findClass_of_methodNamed B.named
  have hlocks := B.notSynchronized
  subst hsz
  have hD := hD0.self (sz := s.heap.size)
  generalize hAe : va_A ([(h, .inr (5, [.ref ba, .int v1])), (ba, .inl (cb, 13, .inr (.inr (.inr (.inr bf)))))]) s.heap.size = A at hD ⊢
  have hA : ∀ q : Nat, s.heap.size ≤ q → A q := fun q h => by rw [← hAe]; exact Or.inr h
  have hS : va_S A s.heap s.heap [] := va_S.rf
  have hl := lv_entry ([.ref h, .int (nI j)]) (n := 2) (Nat.le_of_ble_eq_true rfl)
  rw [lg_entry_eq]
  generalize (lg_sl ([.ref h, .int (nI j)]) ++ List.replicate (2 - (lg_sl ([.ref h, .int (nI j)])).length) Slot.unset).toArray = ls at hl ⊢
  have hl : lv_has ls 2 [(0, .ref h), (1, .int (nI j))] := hl
  refine lv_aload_n hx hb d_B_get_0 rfl (lv_at hl 0 rfl) ?_
  refine va_get (D := D) (ci := 5) (v := .ref ba) (C := rc_B) (T := ft_B) (N := 2) hx hb hts in_B hown hK hP 0 rfl rfl 0 (by decide) (hts _ k_108) (fun _ h9 => h9) rfl d_B_get_1 ?_
  refine lv_iload_n hx hb d_B_get_4 rfl (lv_at hl 1 rfl) ?_
  refine va_aldq hx hb hK hP 1 0 rfl rfl (vp_in_nI (n := j) (N := 13) (by omega) (by decide)) d_B_get_5 ?_
  have e0 : va_rf (bf (nI j).toNatClampNeg) = .ref r0 := by rw [nI_clamp (by omega), hf]; rfl
  rw [e0]
  have hP9 := hP.sub (ws' := [(h, .inr (5, [.ref ba, .int v1])), (ba, .inl (cb, 13, .inr (.inr (.inr (.inr bf)))))]) [0, 1] rfl
  have hD9 := hD.sub (ws' := [(h, .inr (5, [.ref ba, .int v1])), (ba, .inl (cb, 13, .inr (.inr (.inr (.inr bf)))))]) [0, 1] (by decide) rfl
  have hK9 := hK.sub (tys' := [(cb, .object rc_R)]) [0] rfl
  exact W.aret (v := .ref r0) hx hb hr (Or.inl ⟨_, rfl⟩) (Or.inr ⟨_, rfl⟩) (fun t9 ht hW => ⟨⟨(), r0, rfl, trivial, ⟨rfl, ⟨by rw [ht]; exact hP9, va_K.moved hW.alike hK9, hD9⟩⟩⟩, hS.F ht⟩) hS.2.2 d_B_get_6

set_option maxHeartbeats 4000000 in
set_option maxRecDepth 100000 in
/-- Result.clear() -/
theorem c_S_clear (l : Launch) (D : va_G) (sz : Nat) (h : Nat) (ma : Nat) (fd : Int32) (fl : Int32) : Met l y_S_clear (Cond.code y_S_clear b_S_clear 1 none :: wal) ({ frames := 10, cells := 0, slots := 0, locals := 120 }) (va_Pc [.ref h] (pr D sz [(h, .inr (3, [.ref ma, .int fd, .int fl]))] [] (fun _ => True))) (va_Qv (S := Unit) (fun u => True) (fun u t9 => po D (va_A ([(h, .inr (3, [.ref ma, .int fd, .int fl]))]) sz) ((fun u => [(h, .inr (3, [.ref ma, .int 0, .int 0]))]) u) ((fun u => []) u) t9) (va_A ([(h, .inr (3, [.ref ma, .int fd, .int fl]))]) sz)) 0 0 (va_A ([(h, .inr (3, [.ref ma, .int fd, .int fl]))]) sz) := by
  refine Met.ofW (cc := b_S_clear) (maxL := 1) (ret := none) (by decide) rfl ?_
  intro p e s m args below meth c s₁ B hml hv
  obtain ⟨rfl, hsz, hP, hK, hD0, hE⟩ := hv
  have hx := B.exec
  have hb := B.bytes
  have hr := B.returns
  have hts0 := atoms_spec (ws := Cond.code y_S_clear b_S_clear 1 none :: wal) B.pre
  have hts : ∀ w ∈ wal, w.before _ s = true := fun w h => hts0 w (List.mem_cons_of_mem _ h)
  have hown : s.vm.findClass rc_S = some m.cls := findClass_of_methodNamed B.named
  have hlocks := B.notSynchronized
  subst hsz
  have hD := hD0.self (sz := s.heap.size)
  generalize hAe : va_A ([(h, .inr (3, [.ref ma, .int fd, .int fl]))]) s.heap.size = A at hD ⊢
  have hA : ∀ q : Nat, s.heap.size ≤ q → A q := fun q h => by rw [← hAe]; exact Or.inr h
  have hS : va_S A s.heap s.heap [] := va_S.rf
  have hl := lv_entry ([.ref h]) (n := 1) (Nat.le_of_ble_eq_true rfl)
  rw [lg_entry_eq]
  generalize (lg_sl ([.ref h]) ++ List.replicate (1 - (lg_sl ([.ref h])).length) Slot.unset).toArray = ls at hl ⊢
  have hl : lv_has ls 1 [(0, .ref h)] := hl
  refine lv_aload_n hx hb d_S_clear_0 rfl (lv_at hl 0 rfl) ?_
  refine lv_iconst (v := 0) hx hb d_S_clear_1 (by decide) ?_
  refine va_put (D := D) (ci := 3) (v := .int 0) (ty := .int) (C := rc_S) (T := ft_S) (N := 3) hx hb hts in_S ty_S tk_S nm_S hown hK hP hD hS 0 rfl rfl 1 (by decide) (hts _ k_145) (fun _ h9 => h9) rfl (by decide +kernel) rfl rfl (Nat.le_of_ble_eq_true rfl) d_S_clear_2 (fun H locs hP hD hS => ?_)
  have hP : va_P D wcl [(h, .inr (3, [.ref ma, .int 0, .int fl]))] H := hP
  have hD : va_D A [(h, .inr (3, [.ref ma, .int 0, .int fl]))] := hD
  refine lv_aload_n hx hb d_S_clear_5 rfl (lv_at hl 0 rfl) ?_
  refine lv_iconst (v := 0) hx hb d_S_clear_6 (by decide) ?_
  refine va_put (D := D) (ci := 3) (v := .int 0) (ty := .int) (C := rc_S) (T := ft_S) (N := 3) hx hb hts in_S ty_S tk_S nm_S hown hK hP hD hS 0 rfl rfl 2 (by decide) (hts _ k_146) (fun _ h9 => h9) rfl (by decide +kernel) rfl rfl (Nat.le_of_ble_eq_true rfl) d_S_clear_7 (fun H locs hP hD hS => ?_)
  have hP : va_P D wcl [(h, .inr (3, [.ref ma, .int 0, .int 0]))] H := hP
  have hD : va_D A [(h, .inr (3, [.ref ma, .int 0, .int 0]))] := hD
  have hP9 := hP.sub (ws' := [(h, .inr (3, [.ref ma, .int 0, .int 0]))]) [0] rfl
  have hD9 := hD.sub (ws' := [(h, .inr (3, [.ref ma, .int 0, .int 0]))]) [0] (by decide) rfl
  have hK9 := hK.sub (tys' := []) [] rfl
  exact W.vret hx hb hr (fun t9 ht hW => ⟨⟨(), rfl, trivial, ⟨by rw [ht]; exact hP9, va_K.moved hW.alike hK9, hD9⟩⟩, hS.F ht⟩) hS.2.2 d_S_clear_10

set_option maxHeartbeats 4000000 in
set_option maxRecDepth 100000 in
/-- Result.finish() -/
theorem c_S_finish (l : Launch) (D : va_G) (sz : Nat) (h : Nat) (ma : Nat) (fd : Int32) (fl : Int32) : Met l y_S_finish (Cond.code y_S_finish b_S_finish 1 (some .int) :: wal) ({ frames := 10, cells := 0, slots := 0, locals := 120 }) (va_Pc [.ref h] (pr D sz [(h, .inr (3, [.ref ma, .int fd, .int fl]))] [] (fun _ => True))) (va_Qi (S := Unit) (fun r u => r = fd) (fun u t9 => po D (va_A ([(h, .inr (3, [.ref ma, .int fd, .int fl]))]) sz) ((fun u => [(h, .inr (3, [.ref ma, .int fd, .int fd]))]) u) ((fun u => []) u) t9) (va_A ([(h, .inr (3, [.ref ma, .int fd, .int fl]))]) sz)) 0 0 (va_A ([(h, .inr (3, [.ref ma, .int fd, .int fl]))]) sz) := by
  refine Met.ofW (cc := b_S_finish) (maxL := 1) (ret := (some .int)) (by decide) rfl ?_
  intro p e s m args below meth c s₁ B hml hv
  obtain ⟨rfl, hsz, hP, hK, hD0, hE⟩ := hv
  have hx := B.exec
  have hb := B.bytes
  have hr := B.returns
  have hts0 := atoms_spec (ws := Cond.code y_S_finish b_S_finish 1 (some .int) :: wal) B.pre
  have hts : ∀ w ∈ wal, w.before _ s = true := fun w h => hts0 w (List.mem_cons_of_mem _ h)
  have hown : s.vm.findClass rc_S = some m.cls := findClass_of_methodNamed B.named
  have hlocks := B.notSynchronized
  subst hsz
  have hD := hD0.self (sz := s.heap.size)
  generalize hAe : va_A ([(h, .inr (3, [.ref ma, .int fd, .int fl]))]) s.heap.size = A at hD ⊢
  have hA : ∀ q : Nat, s.heap.size ≤ q → A q := fun q h => by rw [← hAe]; exact Or.inr h
  have hS : va_S A s.heap s.heap [] := va_S.rf
  have hl := lv_entry ([.ref h]) (n := 1) (Nat.le_of_ble_eq_true rfl)
  rw [lg_entry_eq]
  generalize (lg_sl ([.ref h]) ++ List.replicate (1 - (lg_sl ([.ref h])).length) Slot.unset).toArray = ls at hl ⊢
  have hl : lv_has ls 1 [(0, .ref h)] := hl
  refine lv_aload_n hx hb d_S_finish_0 rfl (lv_at hl 0 rfl) ?_
  refine lv_aload_n hx hb d_S_finish_1 rfl (lv_at hl 0 rfl) ?_
  refine va_get (D := D) (ci := 3) (v := .int fd) (C := rc_S) (T := ft_S) (N := 3) hx hb hts in_S hown hK hP 0 rfl rfl 1 (by decide) (hts _ k_145) (fun _ h9 => h9) rfl d_S_finish_2 ?_
  refine va_put (D := D) (ci := 3) (v := .int fd) (ty := .int) (C := rc_S) (T := ft_S) (N := 3) hx hb hts in_S ty_S tk_S nm_S hown hK hP hD hS 0 rfl rfl 2 (by decide) (hts _ k_146) (fun _ h9 => h9) rfl (by decide +kernel) rfl rfl (Nat.le_of_ble_eq_true rfl) d_S_finish_5 (fun H locs hP hD hS => ?_)
  have hP : va_P D wcl [(h, .inr (3, [.ref ma, .int fd, .int fd]))] H := hP
  have hD : va_D A [(h, .inr (3, [.ref ma, .int fd, .int fd]))] := hD
  refine lv_aload_n hx hb d_S_finish_8 rfl (lv_at hl 0 rfl) ?_
  refine va_get (D := D) (ci := 3) (v := .int fd) (C := rc_S) (T := ft_S) (N := 3) hx hb hts in_S hown hK hP 0 rfl rfl 2 (by decide) (hts _ k_146) (fun _ h9 => h9) rfl d_S_finish_9 ?_
  have hP9 := hP.sub (ws' := [(h, .inr (3, [.ref ma, .int fd, .int fd]))]) [0] rfl
  have hD9 := hD.sub (ws' := [(h, .inr (3, [.ref ma, .int fd, .int fd]))]) [0] (by decide) rfl
  have hK9 := hK.sub (tys' := []) [] rfl
  exact W.iret (v := fd) hx hb hr (fun t9 ht hW => ⟨⟨fd, (), rfl, rfl, ⟨by rw [ht]; exact hP9, va_K.moved hW.alike hK9, hD9⟩⟩, hS.F ht⟩) hS.2.2 d_S_finish_12

set_option maxHeartbeats 4000000 in
set_option maxRecDepth 100000 in
/-- Result.at(k) -/
theorem c_S_at (l : Launch) (D : va_G) (sz : Nat) (h : Nat) (ma : Nat) (cm : ClassId) (mk : Nat → Int32) (fd : Int32) (n : Nat) (k : Int32) (hn : n ≤ 150) : Met l y_S_at (Cond.code y_S_at b_S_at 2 (some .int) :: wal) ({ frames := 10, cells := 0, slots := 0, locals := 120 }) (va_Pc [.ref h, .int k] (pr D sz [(h, .inr (3, [.ref ma, .int fd, .int (nI n)])), (ma, .inl (cm, 150, .inl mk))] [(cm, .int)] (fun _ => True))) (va_Qi (S := Unit) (fun r u => r = s_at mk n k) (fun u t9 => po D (va_A ([(h, .inr (3, [.ref ma, .int fd, .int (nI n)])), (ma, .inl (cm, 150, .inl mk))]) sz) ((fun u => [(h, .inr (3, [.ref ma, .int fd, .int (nI n)])), (ma, .inl (cm, 150, .inl mk))]) u) ((fun u => [(cm, .int)]) u) t9) (va_A ([(h, .inr (3, [.ref ma, .int fd, .int (nI n)])), (ma, .inl (cm, 150, .inl mk))]) sz)) 0 0 (va_A ([(h, .inr (3, [.ref ma, .int fd, .int (nI n)])), (ma, .inl (cm, 150, .inl mk))]) sz) := by
  refine Met.ofW (cc := b_S_at) (maxL := 2) (ret := (some .int)) (by decide) rfl ?_
  intro p e s m args below meth c s₁ B hml hv
  obtain ⟨rfl, hsz, hP, hK, hD0, hE⟩ := hv
  have hx := B.exec
  have hb := B.bytes
  have hr := B.returns
  have hts0 := atoms_spec (ws := Cond.code y_S_at b_S_at 2 (some .int) :: wal) B.pre
  have hts : ∀ w ∈ wal, w.before _ s = true := fun w h => hts0 w (List.mem_cons_of_mem _ h)
  have hown : s.vm.findClass rc_S = some m.cls := findClass_of_methodNamed B.named
  have hlocks := B.notSynchronized
  subst hsz
  have hD := hD0.self (sz := s.heap.size)
  generalize hAe : va_A ([(h, .inr (3, [.ref ma, .int fd, .int (nI n)])), (ma, .inl (cm, 150, .inl mk))]) s.heap.size = A at hD ⊢
  have hA : ∀ q : Nat, s.heap.size ≤ q → A q := fun q h => by rw [← hAe]; exact Or.inr h
  have hS : va_S A s.heap s.heap [] := va_S.rf
  have hl := lv_entry ([.ref h, .int k]) (n := 2) (Nat.le_of_ble_eq_true rfl)
  rw [lg_entry_eq]
  generalize (lg_sl ([.ref h, .int k]) ++ List.replicate (2 - (lg_sl ([.ref h, .int k])).length) Slot.unset).toArray = ls at hl ⊢
  have hl : lv_has ls 2 [(0, .ref h), (1, .int k)] := hl
  refine lv_iload_n hx hb d_S_at_0 rfl (lv_at hl 1 rfl) ?_
  refine lv_if_lt (tgt := 21) hx hb d_S_at_1 (by decide) (fun h1 => ?_) (fun h1 => ?_)
  · refine lv_bipush (v := -99) hx hb d_S_at_21 (by decide) ?_
    have hP9 := hP.sub (ws' := [(h, .inr (3, [.ref ma, .int fd, .int (nI n)])), (ma, .inl (cm, 150, .inl mk))]) [0, 1] rfl
    have hD9 := hD.sub (ws' := [(h, .inr (3, [.ref ma, .int fd, .int (nI n)])), (ma, .inl (cm, 150, .inl mk))]) [0, 1] (by decide) rfl
    have hK9 := hK.sub (tys' := [(cm, .int)]) [0] rfl
    exact W.iret (v := (-99)) hx hb hr (fun t9 ht hW => ⟨⟨(-99), (), rfl, (if_neg (fun h9 => h9.1 h1)).symm, ⟨by rw [ht]; exact hP9, va_K.moved hW.alike hK9, hD9⟩⟩, hS.F ht⟩) hS.2.2 d_S_at_23
  · refine lv_iload_n hx hb d_S_at_4 rfl (lv_at hl 1 rfl) ?_
    refine lv_aload_n hx hb d_S_at_5 rfl (lv_at hl 0 rfl) ?_
    refine va_get (D := D) (ci := 3) (v := .int (nI n)) (C := rc_S) (T := ft_S) (N := 3) hx hb hts in_S hown hK hP 0 rfl rfl 2 (by decide) (hts _ k_146) (fun _ h9 => h9) rfl d_S_at_6 ?_
    refine lv_icmp_ge (tgt := 21) hx hb d_S_at_9 (by decide) (fun h2 => ?_) (fun h2 => ?_)
    · refine lv_bipush (v := -99) hx hb d_S_at_21 (by decide) ?_
      have hP9 := hP.sub (ws' := [(h, .inr (3, [.ref ma, .int fd, .int (nI n)])), (ma, .inl (cm, 150, .inl mk))]) [0, 1] rfl
      have hD9 := hD.sub (ws' := [(h, .inr (3, [.ref ma, .int fd, .int (nI n)])), (ma, .inl (cm, 150, .inl mk))]) [0, 1] (by decide) rfl
      have hK9 := hK.sub (tys' := [(cm, .int)]) [0] rfl
      exact W.iret (v := (-99)) hx hb hr (fun t9 ht hW => ⟨⟨(-99), (), rfl, (if_neg (fun h9 => h9.2 h2)).symm, ⟨by rw [ht]; exact hP9, va_K.moved hW.alike hK9, hD9⟩⟩, hS.F ht⟩) hS.2.2 d_S_at_23
    · have h3 := in_n h1 h2 hn (by decide)
      refine lv_aload_n hx hb d_S_at_12 rfl (lv_at hl 0 rfl) ?_
      refine va_get (D := D) (ci := 3) (v := .ref ma) (C := rc_S) (T := ft_S) (N := 3) hx hb hts in_S hown hK hP 0 rfl rfl 0 (by decide) (hts _ k_144) (fun _ h9 => h9) rfl d_S_at_13 ?_
      refine lv_iload_n hx hb d_S_at_16 rfl (lv_at hl 1 rfl) ?_
      refine va_iald hx hb hK hP 1 0 rfl rfl (h3.1) d_S_at_17 ?_
      refine lv_goto (tgt := 23) hx hb d_S_at_18 (by decide) ?_
      have hP9 := hP.sub (ws' := [(h, .inr (3, [.ref ma, .int fd, .int (nI n)])), (ma, .inl (cm, 150, .inl mk))]) [0, 1] rfl
      have hD9 := hD.sub (ws' := [(h, .inr (3, [.ref ma, .int fd, .int (nI n)])), (ma, .inl (cm, 150, .inl mk))]) [0, 1] (by decide) rfl
      have hK9 := hK.sub (tys' := [(cm, .int)]) [0] rfl
      exact W.iret (v := (mk k.toNatClampNeg)) hx hb hr (fun t9 ht hW => ⟨⟨(mk k.toNatClampNeg), (), rfl, (if_pos ⟨h1, h2⟩).symm, ⟨by rw [ht]; exact hP9, va_K.moved hW.alike hK9, hD9⟩⟩, hS.F ht⟩) hS.2.2 d_S_at_23

set_option maxHeartbeats 4000000 in
set_option maxRecDepth 100000 in
/-- Result.deepest() -/
theorem c_S_deepest (l : Launch) (D : va_G) (sz : Nat) (h : Nat) (ma : Nat) (cm : ClassId) (mk : Nat → Int32) (fd : Int32) (n : Nat) (hn : n ≤ 150) : Met l y_S_deepest (Cond.code y_S_deepest b_S_deepest 4 (some .int) :: wal) ({ frames := 10, cells := 0, slots := 0, locals := 120 }) (va_Pc [.ref h] (pr D sz [(h, .inr (3, [.ref ma, .int fd, .int (nI n)])), (ma, .inl (cm, 150, .inl mk))] [(cm, .int)] (fun _ => True))) (va_Qi (S := Unit) (fun r u => r = s_dp mk n 0 0 0) (fun u t9 => po D (va_A ([(h, .inr (3, [.ref ma, .int fd, .int (nI n)])), (ma, .inl (cm, 150, .inl mk))]) sz) ((fun u => [(h, .inr (3, [.ref ma, .int fd, .int (nI n)])), (ma, .inl (cm, 150, .inl mk))]) u) ((fun u => [(cm, .int)]) u) t9) (va_A ([(h, .inr (3, [.ref ma, .int fd, .int (nI n)])), (ma, .inl (cm, 150, .inl mk))]) sz)) 0 0 (va_A ([(h, .inr (3, [.ref ma, .int fd, .int (nI n)])), (ma, .inl (cm, 150, .inl mk))]) sz) := by
  refine Met.ofW (cc := b_S_deepest) (maxL := 4) (ret := (some .int)) (by decide) rfl ?_
  intro p e s m args below meth c s₁ B hml hv
  obtain ⟨rfl, hsz, hP, hK, hD0, hE⟩ := hv
  have hx := B.exec
  have hb := B.bytes
  have hr := B.returns
  have hts0 := atoms_spec (ws := Cond.code y_S_deepest b_S_deepest 4 (some .int) :: wal) B.pre
  have hts : ∀ w ∈ wal, w.before _ s = true := fun w h => hts0 w (List.mem_cons_of_mem _ h)
  have hown : s.vm.findClass rc_S = some m.cls := findClass_of_methodNamed B.named
  have hlocks := B.notSynchronized
  subst hsz
  have hD := hD0.self (sz := s.heap.size)
  generalize hAe : va_A ([(h, .inr (3, [.ref ma, .int fd, .int (nI n)])), (ma, .inl (cm, 150, .inl mk))]) s.heap.size = A at hD ⊢
  have hA : ∀ q : Nat, s.heap.size ≤ q → A q := fun q h => by rw [← hAe]; exact Or.inr h
  have hS : va_S A s.heap s.heap [] := va_S.rf
  have hl := lv_entry ([.ref h]) (n := 4) (Nat.le_of_ble_eq_true rfl)
  rw [lg_entry_eq]
  generalize (lg_sl ([.ref h]) ++ List.replicate (4 - (lg_sl ([.ref h])).length) Slot.unset).toArray = ls at hl ⊢
  have hl : lv_has ls 4 [(0, .ref h)] := hl
  refine lv_iconst (v := 0) hx hb d_S_deepest_0 (by decide) ?_
  refine lv_istore_n hx hb d_S_deepest_1 rfl hl (by decide) rfl (fun ls hl => ?_)
  have hl : lv_has ls 4 [(1, .int 0), (0, .ref h)] := hl
  refine lv_iconst (v := 0) hx hb d_S_deepest_2 (by decide) ?_
  refine lv_istore_n hx hb d_S_deepest_3 rfl hl (by decide) rfl (fun ls hl => ?_)
  have hl : lv_has ls 4 [(2, .int 0), (1, .int 0), (0, .ref h)] := hl
  refine lv_iconst (v := 0) hx hb d_S_deepest_4 (by decide) ?_
  refine lv_istore_n hx hb d_S_deepest_5 rfl hl (by decide) rfl (fun ls hl => ?_)
  have hl : lv_has ls 4 [(3, .int 0), (2, .int 0), (1, .int 0), (0, .ref h)] := hl
  have key : ∀ (d : Nat) (i : Nat) (a0 : Int32) (b0 : Int32) (ls : Array Slot), n - i < d → (i ≤ n) → (s_dp mk (n - i) i a0 b0 = s_dp mk n 0 0 0) → lv_has ls 4 [(3, .int (nI i)), (2, .int b0), (1, .int a0), (0, .ref h)] → W p l e (headSpec (Cond.code y_S_deepest b_S_deepest 4 (some .int) :: wal) ({ frames := 10, cells := 0, slots := 0, locals := 120 })).room s m ([.ref h] : List Value).toArray below meth c s.heap [] 0 0 (MQ below (va_Qi (S := Unit) (fun r u => r = s_dp mk n 0 0 0) (fun u t9 => po D (A) ((fun u => [(h, .inr (3, [.ref ma, .int fd, .int (nI n)])), (ma, .inl (cm, 150, .inl mk))]) u) ((fun u => [(cm, .int)]) u) t9) (A)) ([.ref h] : List Value).toArray s 0 0 A) (F0 m 6 ls []) := by
    intro d
    induction d with
    | zero => intro i a0 b0 ls hd; exact absurd hd (Nat.not_lt_zero _)
    | succ d ih =>
      intro i a0 b0 ls hd hi hv hl
      refine lv_iload_n hx hb d_S_deepest_6 rfl (lv_at hl 0 rfl) ?_
      refine lv_aload_n hx hb d_S_deepest_7 rfl (lv_at hl 3 rfl) ?_
      refine va_get (D := D) (ci := 3) (v := .int (nI n)) (C := rc_S) (T := ft_S) (N := 3) hx hb hts in_S hown hK hP 0 rfl rfl 2 (by decide) (hts _ k_146) (fun _ h9 => h9) rfl d_S_deepest_8 ?_
      refine lv_icmp_ge (tgt := 55) hx hb d_S_deepest_11 (by decide) (fun h1 => ?_) (fun h1 => ?_)
      · have h2 : ¬ i < n := fun h => absurd h1 (nI_ge h (by omega))
        have e0 : n - i = 0 := by omega
        rw [e0, s_dp] at hv
        refine lv_iload_n hx hb d_S_deepest_55 rfl (lv_at hl 1 rfl) ?_
        have hP9 := hP.sub (ws' := [(h, .inr (3, [.ref ma, .int fd, .int (nI n)])), (ma, .inl (cm, 150, .inl mk))]) [0, 1] rfl
        have hD9 := hD.sub (ws' := [(h, .inr (3, [.ref ma, .int fd, .int (nI n)])), (ma, .inl (cm, 150, .inl mk))]) [0, 1] (by decide) rfl
        have hK9 := hK.sub (tys' := [(cm, .int)]) [0] rfl
        exact W.iret (v := b0) hx hb hr (fun t9 ht hW => ⟨⟨b0, (), rfl, hv, ⟨by rw [ht]; exact hP9, va_K.moved hW.alike hK9, hD9⟩⟩, hS.F ht⟩) hS.2.2 d_S_deepest_56
      · have h2 : i < n := Nat.not_le.mp (fun h => h1 (nI_le h (by omega)))
        obtain ⟨k9, hk9⟩ : ∃ k9, n - i = k9 + 1 := ⟨n - i - 1, by omega⟩
        rw [hk9, s_dp] at hv
        refine lv_aload_n hx hb d_S_deepest_14 rfl (lv_at hl 3 rfl) ?_
        refine va_get (D := D) (ci := 3) (v := .ref ma) (C := rc_S) (T := ft_S) (N := 3) hx hb hts in_S hown hK hP 0 rfl rfl 0 (by decide) (hts _ k_144) (fun _ h9 => h9) rfl d_S_deepest_15 ?_
        refine lv_iload_n hx hb d_S_deepest_18 rfl (lv_at hl 0 rfl) ?_
        refine va_iald hx hb hK hP 1 0 rfl rfl (vp_in_nI (show i < 150 by omega) (by decide)) d_S_deepest_19 ?_
        refine lv_topi (fun z9 ez9 => ?_)
        have ez9 : z9 = (mk i) := ez9.trans (by rw [nI_clamp (by omega)])
        subst ez9
        refine lv_iconst (v := 1) hx hb d_S_deepest_20 (by decide) ?_
        refine lv_icmp_ne (tgt := 36) hx hb d_S_deepest_21 (by decide) (fun h3 => ?_) (fun h3 => ?_)
        · refine lv_aload_n hx hb d_S_deepest_36 rfl (lv_at hl 3 rfl) ?_
          refine va_get (D := D) (ci := 3) (v := .ref ma) (C := rc_S) (T := ft_S) (N := 3) hx hb hts in_S hown hK hP 0 rfl rfl 0 (by decide) (hts _ k_144) (fun _ h9 => h9) rfl d_S_deepest_37 ?_
          refine lv_iload_n hx hb d_S_deepest_40 rfl (lv_at hl 0 rfl) ?_
          refine va_iald hx hb hK hP 1 0 rfl rfl (vp_in_nI (show i < 150 by omega) (by decide)) d_S_deepest_41 ?_
          refine lv_topi (fun z9 ez9 => ?_)
          have ez9 : z9 = (mk i) := ez9.trans (by rw [nI_clamp (by omega)])
          subst ez9
          refine lv_iconst (v := 2) hx hb d_S_deepest_42 (by decide) ?_
          refine lv_icmp_ne (tgt := 49) hx hb d_S_deepest_43 (by decide) (fun h4 => ?_) (fun h4 => ?_)
          · refine lv_iinc (k := 0) (v := nI (i + 1)) hx hb d_S_deepest_49 hl rfl (nI_1 i) (by decide) rfl (fun ls hl => ?_)
            have hl : lv_has ls 4 [(3, .int (nI (i + 1))), (2, .int b0), (1, .int a0), (0, .ref h)] := hl
            refine lv_goto (tgt := 6) hx hb d_S_deepest_52 (by decide) ?_
            have hv3 : s_dp mk (n - (i + 1)) (i + 1) (a0) (b0) = s_dp mk n 0 0 0 := by rw [show n - (i + 1) = k9 by omega, ← hv, if_neg h3, if_neg h4]
            exact ih (i + 1) a0 b0 ls (by omega) (by omega) (hv3) hl
          · refine lv_iinc (k := 2) (v := (a0 + (-1))) hx hb d_S_deepest_46 hl rfl (by rfl) (by decide) rfl (fun ls hl => ?_)
            have hl : lv_has ls 4 [(1, .int (a0 + (-1))), (3, .int (nI i)), (2, .int b0), (0, .ref h)] := hl
            refine lv_iinc (k := 1) (v := nI (i + 1)) hx hb d_S_deepest_49 hl rfl (nI_1 i) (by decide) rfl (fun ls hl => ?_)
            have hl : lv_has ls 4 [(3, .int (nI (i + 1))), (1, .int (a0 + (-1))), (2, .int b0), (0, .ref h)] := hl
            refine lv_goto (tgt := 6) hx hb d_S_deepest_52 (by decide) ?_
            have hv3 : s_dp mk (n - (i + 1)) (i + 1) (a0 + (-1)) (b0) = s_dp mk n 0 0 0 := by rw [show n - (i + 1) = k9 by omega, ← hv, if_neg h3, if_pos h4]
            exact ih (i + 1) (a0 + (-1)) b0 ls (by omega) (by omega) (hv3) (lv_sub hl [0, 2, 1, 3] rfl)
        · refine lv_iinc (k := 2) (v := (a0 + 1)) hx hb d_S_deepest_24 hl rfl (by rfl) (by decide) rfl (fun ls hl => ?_)
          have hl : lv_has ls 4 [(1, .int (a0 + 1)), (3, .int (nI i)), (2, .int b0), (0, .ref h)] := hl
          refine lv_iload_n hx hb d_S_deepest_27 rfl (lv_at hl 2 rfl) ?_
          refine lv_iload_n hx hb d_S_deepest_28 rfl (lv_at hl 0 rfl) ?_
          refine va_mmax (x := b0) (y := (a0 + 1)) hx hb (by rw [hml]; exact hl.1.symm) hown (hts _ k_252) (hts _ k_253) (hts _ k_17) (hts _ k_254) (Nat.le_of_ble_eq_true rfl) (Nat.le_of_ble_eq_true rfl) (Nat.le_of_ble_eq_true rfl) (Nat.le_of_ble_eq_true rfl) d_S_deepest_29 ?_
          refine lv_istore_n hx hb d_S_deepest_32 rfl hl (by decide) rfl (fun ls hl => ?_)
          have hl : lv_has ls 4 [(2, .int (if b0 < (a0 + 1) then (a0 + 1) else b0)), (1, .int (a0 + 1)), (3, .int (nI i)), (0, .ref h)] := hl
          refine lv_goto (tgt := 49) hx hb d_S_deepest_33 (by decide) ?_
          refine lv_iinc (k := 2) (v := nI (i + 1)) hx hb d_S_deepest_49 hl rfl (nI_1 i) (by decide) rfl (fun ls hl => ?_)
          have hl : lv_has ls 4 [(3, .int (nI (i + 1))), (2, .int (if b0 < (a0 + 1) then (a0 + 1) else b0)), (1, .int (a0 + 1)), (0, .ref h)] := hl
          refine lv_goto (tgt := 6) hx hb d_S_deepest_52 (by decide) ?_
          have hv3 : s_dp mk (n - (i + 1)) (i + 1) (a0 + 1) (if b0 < a0 + 1 then a0 + 1 else b0) = s_dp mk n 0 0 0 := by rw [show n - (i + 1) = k9 by omega, ← hv, if_pos h3]
          exact ih (i + 1) (a0 + 1) (if b0 < a0 + 1 then a0 + 1 else b0) ls (by omega) (by omega) (hv3) hl
  exact key _ 0 0 0 ls (Nat.lt_succ_self _) (Nat.zero_le _) (rfl) hl
