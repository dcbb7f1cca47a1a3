set_option maxHeartbeats 4000000 in
set_option maxRecDepth 100000 in
/-- Terms.take(c0, kd) -/
theorem c_T_take (l : Launch) (D : va_G) (sz : Nat) (h : Nat) (ad : Nat → Nat) (ca : Nat → ClassId) (cap : Nat) (x : TSt) (s0 : Nat) (dm : Nat) (kd : Nat) (c0 : Nat) (hx0 : t_inv cap s0 dm x) (hc0 : c0 < 65536) (hk0 : kd < 3) : Met l y_T_take (Cond.code y_T_take b_T_take 4 (some .boolean) :: wal) ({ frames := 11, cells := 0, slots := 0, locals := 180 }) (va_Pc [.ref h, .int (nI c0), .int (nI kd)] (pr D sz [(h, .inr (6, [.ref (ad 0), .ref (ad 1), .ref (ad 2), .ref (ad 3), .ref (ad 4), .ref (ad 5), .int (nI (x_z x)), .int (nI s0), .int (nI (x_dp x)), .int (nI dm), .int (lI (x_la x))])), ((ad 0), .inl ((ca 0), cap, .inl (nf (x_sg x)))), ((ad 1), .inl ((ca 1), cap, .inl (nf (x_st x)))), ((ad 2), .inl ((ca 2), cap, .inl (nf (x_sp x)))), ((ad 3), .inl ((ca 3), cap, .inl (nf (x_it x)))), ((ad 4), .inl ((ca 4), cap, .inl (nf (x_rp x)))), ((ad 5), .inl ((ca 5), 12, .inl (nf (x_op x))))] [((ca 0), .char), ((ca 1), .int), ((ca 2), .int), ((ca 3), .int), ((ca 4), .boolean), ((ca 5), .int)] (cx_W))) (va_Qi (S := TSt) (fun r u => (r = 0 ∧ t_take cap s0 dm kd c0 x = none ∧ u = x) ∨ (r = 1 ∧ t_take cap s0 dm kd c0 x = some u)) (fun u t9 => po D (va_A ([(h, .inr (6, [.ref (ad 0), .ref (ad 1), .ref (ad 2), .ref (ad 3), .ref (ad 4), .ref (ad 5), .int (nI (x_z x)), .int (nI s0), .int (nI (x_dp x)), .int (nI dm), .int (lI (x_la x))])), ((ad 0), .inl ((ca 0), cap, .inl (nf (x_sg x)))), ((ad 1), .inl ((ca 1), cap, .inl (nf (x_st x)))), ((ad 2), .inl ((ca 2), cap, .inl (nf (x_sp x)))), ((ad 3), .inl ((ca 3), cap, .inl (nf (x_it x)))), ((ad 4), .inl ((ca 4), cap, .inl (nf (x_rp x)))), ((ad 5), .inl ((ca 5), 12, .inl (nf (x_op x))))]) sz) ((fun u => [(h, .inr (6, [.ref (ad 0), .ref (ad 1), .ref (ad 2), .ref (ad 3), .ref (ad 4), .ref (ad 5), .int (nI (x_z u)), .int (nI s0), .int (nI (x_dp u)), .int (nI dm), .int (lI (x_la u))])), ((ad 0), .inl ((ca 0), cap, .inl (nf (x_sg u)))), ((ad 1), .inl ((ca 1), cap, .inl (nf (x_st u)))), ((ad 2), .inl ((ca 2), cap, .inl (nf (x_sp u)))), ((ad 3), .inl ((ca 3), cap, .inl (nf (x_it u)))), ((ad 4), .inl ((ca 4), cap, .inl (nf (x_rp u)))), ((ad 5), .inl ((ca 5), 12, .inl (nf (x_op u))))]) u) ((fun u => [((ca 0), .char), ((ca 1), .int), ((ca 2), .int), ((ca 3), .int), ((ca 4), .boolean), ((ca 5), .int)]) u) t9) (va_A ([(h, .inr (6, [.ref (ad 0), .ref (ad 1), .ref (ad 2), .ref (ad 3), .ref (ad 4), .ref (ad 5), .int (nI (x_z x)), .int (nI s0), .int (nI (x_dp x)), .int (nI dm), .int (lI (x_la x))])), ((ad 0), .inl ((ca 0), cap, .inl (nf (x_sg x)))), ((ad 1), .inl ((ca 1), cap, .inl (nf (x_st x)))), ((ad 2), .inl ((ca 2), cap, .inl (nf (x_sp x)))), ((ad 3), .inl ((ca 3), cap, .inl (nf (x_it x)))), ((ad 4), .inl ((ca 4), cap, .inl (nf (x_rp x)))), ((ad 5), .inl ((ca 5), 12, .inl (nf (x_op x))))]) sz)) 0 0 (va_A ([(h, .inr (6, [.ref (ad 0), .ref (ad 1), .ref (ad 2), .ref (ad 3), .ref (ad 4), .ref (ad 5), .int (nI (x_z x)), .int (nI s0), .int (nI (x_dp x)), .int (nI dm), .int (lI (x_la x))])), ((ad 0), .inl ((ca 0), cap, .inl (nf (x_sg x)))), ((ad 1), .inl ((ca 1), cap, .inl (nf (x_st x)))), ((ad 2), .inl ((ca 2), cap, .inl (nf (x_sp x)))), ((ad 3), .inl ((ca 3), cap, .inl (nf (x_it x)))), ((ad 4), .inl ((ca 4), cap, .inl (nf (x_rp x)))), ((ad 5), .inl ((ca 5), 12, .inl (nf (x_op x))))]) sz) := by
  refine Met.ofW (cc := b_T_take) (maxL := 4) (ret := (some .boolean)) (by decide) rfl ?_
  intro p e s m args below meth c s₁ B hml hv
  obtain ⟨rfl, hsz, hP, hK, hD0, hE⟩ := hv
  have hx := B.exec
  have hb := B.bytes
  have hr := B.returns
  have hts0 := atoms_spec (ws := Cond.code y_T_take b_T_take 4 (some .boolean) :: wal) B.pre
  have hts : ∀ w ∈ wal, w.before _ s = true := fun w h => hts0 w (List.mem_cons_of_mem _ h)
  have hown : s.vm.findClass rc_T = some m.cls := findClass_of_methodNamed B.named
  have hlocks := B.notSynchronized
  subst hsz
  have hD := hD0.self (sz := s.heap.size)
  generalize hAe : va_A ([(h, .inr (6, [.ref (ad 0), .ref (ad 1), .ref (ad 2), .ref (ad 3), .ref (ad 4), .ref (ad 5), .int (nI (x_z x)), .int (nI s0), .int (nI (x_dp x)), .int (nI dm), .int (lI (x_la x))])), ((ad 0), .inl ((ca 0), cap, .inl (nf (x_sg x)))), ((ad 1), .inl ((ca 1), cap, .inl (nf (x_st x)))), ((ad 2), .inl ((ca 2), cap, .inl (nf (x_sp x)))), ((ad 3), .inl ((ca 3), cap, .inl (nf (x_it x)))), ((ad 4), .inl ((ca 4), cap, .inl (nf (x_rp x)))), ((ad 5), .inl ((ca 5), 12, .inl (nf (x_op x))))]) s.heap.size = A at hD ⊢
  have hA : ∀ q : Nat, s.heap.size ≤ q → A q := fun q h => by rw [← hAe]; exact Or.inr h
  have hS : va_S A s.heap s.heap [] := va_S.rf
  have hl := lv_entry ([.ref h, .int (nI c0), .int (nI kd)]) (n := 4) (Nat.le_of_ble_eq_true rfl)
  rw [lg_entry_eq]
  generalize (lg_sl ([.ref h, .int (nI c0), .int (nI kd)]) ++ List.replicate (4 - (lg_sl ([.ref h, .int (nI c0), .int (nI kd)])).length) Slot.unset).toArray = ls at hl ⊢
  have hl : lv_has ls 4 [(0, .ref h), (1, .int (nI c0)), (2, .int (nI kd))] := hl
  obtain ⟨i1, i2, i3, i4, i5, i6, i7, i8, i9⟩ := hx0
  refine lv_iload_n hx hb d_T_take_0 rfl (lv_at hl 1 rfl) ?_
  refine lv_bipush (v := 41) hx hb d_T_take_1 (by decide) ?_
  refine lv_icmp_ne (tgt := 11) hx hb d_T_take_3 (by decide) (fun h1 => ?_) (fun h1 => ?_)
  · have n41 : ¬ c0 = 41 := fun h => h1 (by rw [h]; rfl)
    refine lv_iload_n hx hb d_T_take_11 rfl (lv_at hl 1 rfl) ?_
    refine lv_bipush (v := 126) hx hb d_T_take_12 (by decide) ?_
    refine lv_icmp_ne (tgt := 34) hx hb d_T_take_14 (by decide) (fun h2 => ?_) (fun h2 => ?_)
    · have n126 : ¬ c0 = 126 := fun h => h2 (by rw [h]; rfl)
      have mg : ∀ (v : Nat) (H : Heap) (locs : List Loc) (ls : Array Slot), ((v = 1 ∧ c_ok kd c0) ∨ (v = 0 ∧ ¬ c_ok kd c0)) → va_P D wcl [(h, .inr (6, [.ref (ad 0), .ref (ad 1), .ref (ad 2), .ref (ad 3), .ref (ad 4), .ref (ad 5), .int (nI (x_z x)), .int (nI s0), .int (nI (x_dp x)), .int (nI dm), .int (lI (x_la x))])), ((ad 0), .inl ((ca 0), cap, .inl (nf (x_sg x)))), ((ad 1), .inl ((ca 1), cap, .inl (nf (x_st x)))), ((ad 2), .inl ((ca 2), cap, .inl (nf (x_sp x)))), ((ad 3), .inl ((ca 3), cap, .inl (nf (x_it x)))), ((ad 4), .inl ((ca 4), cap, .inl (nf (x_rp x)))), ((ad 5), .inl ((ca 5), 12, .inl (nf (x_op x))))] H → va_D A [(h, .inr (6, [.ref (ad 0), .ref (ad 1), .ref (ad 2), .ref (ad 3), .ref (ad 4), .ref (ad 5), .int (nI (x_z x)), .int (nI s0), .int (nI (x_dp x)), .int (nI dm), .int (lI (x_la x))])), ((ad 0), .inl ((ca 0), cap, .inl (nf (x_sg x)))), ((ad 1), .inl ((ca 1), cap, .inl (nf (x_st x)))), ((ad 2), .inl ((ca 2), cap, .inl (nf (x_sp x)))), ((ad 3), .inl ((ca 3), cap, .inl (nf (x_it x)))), ((ad 4), .inl ((ca 4), cap, .inl (nf (x_rp x)))), ((ad 5), .inl ((ca 5), 12, .inl (nf (x_op x))))] → va_S A s.heap H locs → lv_has ls 4 [(0, .ref h), (1, .int (nI c0)), (2, .int (nI kd))] → W p l e (headSpec (Cond.code y_T_take b_T_take 4 (some .boolean) :: wal) ({ frames := 11, cells := 0, slots := 0, locals := 180 })).room s m ([.ref h, .int (nI c0), .int (nI kd)] : List Value).toArray below meth c H locs 0 0 (MQ below (va_Qi (S := TSt) (fun r u => (r = 0 ∧ t_take cap s0 dm kd c0 x = none ∧ u = x) ∨ (r = 1 ∧ t_take cap s0 dm kd c0 x = some u)) (fun u t9 => po D (A) ((fun u => [(h, .inr (6, [.ref (ad 0), .ref (ad 1), .ref (ad 2), .ref (ad 3), .ref (ad 4), .ref (ad 5), .int (nI (x_z u)), .int (nI s0), .int (nI (x_dp u)), .int (nI dm), .int (lI (x_la u))])), ((ad 0), .inl ((ca 0), cap, .inl (nf (x_sg u)))), ((ad 1), .inl ((ca 1), cap, .inl (nf (x_st u)))), ((ad 2), .inl ((ca 2), cap, .inl (nf (x_sp u)))), ((ad 3), .inl ((ca 3), cap, .inl (nf (x_it u)))), ((ad 4), .inl ((ca 4), cap, .inl (nf (x_rp u)))), ((ad 5), .inl ((ca 5), 12, .inl (nf (x_op u))))]) u) ((fun u => [((ca 0), .char), ((ca 1), .int), ((ca 2), .int), ((ca 3), .int), ((ca 4), .boolean), ((ca 5), .int)]) u) t9) (A)) ([.ref h, .int (nI c0), .int (nI kd)] : List Value).toArray s 0 0 A) (F0 m 77 ls [.int (nI v)]) := by
        intro v H locs ls hv hP hD hS hl
        refine lv_istore_n hx hb d_T_take_77 rfl hl (by decide) rfl (fun ls hl => ?_)
        have hl : lv_has ls 4 [(3, .int (nI v)), (0, .ref h), (1, .int (nI c0)), (2, .int (nI kd))] := hl
        refine lv_iload_n hx hb d_T_take_78 rfl (lv_at hl 0 rfl) ?_
        refine lv_if_eq (tgt := 95) hx hb d_T_take_79 (by decide) (fun h4 => ?_) (fun h4 => ?_)
        · have na : ¬ c_ok kd c0 := by
            rcases hv with ⟨a9, _⟩ | ⟨_, a9⟩
            · exact absurd h4 (by rw [a9]; decide)
            · exact a9
          refine lv_iconst (v := 0) hx hb d_T_take_95 (by decide) ?_
          have hP9 := hP.sub (ws' := [(h, .inr (6, [.ref (ad 0), .ref (ad 1), .ref (ad 2), .ref (ad 3), .ref (ad 4), .ref (ad 5), .int (nI (x_z x)), .int (nI s0), .int (nI (x_dp x)), .int (nI dm), .int (lI (x_la x))])), ((ad 0), .inl ((ca 0), cap, .inl (nf (x_sg x)))), ((ad 1), .inl ((ca 1), cap, .inl (nf (x_st x)))), ((ad 2), .inl ((ca 2), cap, .inl (nf (x_sp x)))), ((ad 3), .inl ((ca 3), cap, .inl (nf (x_it x)))), ((ad 4), .inl ((ca 4), cap, .inl (nf (x_rp x)))), ((ad 5), .inl ((ca 5), 12, .inl (nf (x_op x))))]) [0, 1, 2, 3, 4, 5, 6] rfl
          have hD9 := hD.sub (ws' := [(h, .inr (6, [.ref (ad 0), .ref (ad 1), .ref (ad 2), .ref (ad 3), .ref (ad 4), .ref (ad 5), .int (nI (x_z x)), .int (nI s0), .int (nI (x_dp x)), .int (nI dm), .int (lI (x_la x))])), ((ad 0), .inl ((ca 0), cap, .inl (nf (x_sg x)))), ((ad 1), .inl ((ca 1), cap, .inl (nf (x_st x)))), ((ad 2), .inl ((ca 2), cap, .inl (nf (x_sp x)))), ((ad 3), .inl ((ca 3), cap, .inl (nf (x_it x)))), ((ad 4), .inl ((ca 4), cap, .inl (nf (x_rp x)))), ((ad 5), .inl ((ca 5), 12, .inl (nf (x_op x))))]) [0, 1, 2, 3, 4, 5, 6] (by decide) rfl
          have hK9 := hK.sub (tys' := [((ca 0), .char), ((ca 1), .int), ((ca 2), .int), ((ca 3), .int), ((ca 4), .boolean), ((ca 5), .int)]) [0, 1, 2, 3, 4, 5] rfl
          exact W.zret (v := 0) hx hb hr (by decide) (fun t9 ht hW => ⟨⟨0, x, rfl, Or.inl ⟨rfl, by unfold t_take; rw [if_neg n41, if_neg n126, if_neg na], rfl⟩, ⟨by rw [ht]; exact hP9, va_K.moved hW.alike hK9, hD9⟩⟩, hS.F ht⟩) hS.2.2 d_T_take_96
        · have na : c_ok kd c0 := by
            rcases hv with ⟨_, a9⟩ | ⟨a9, _⟩
            · exact a9
            · exact absurd (show nI v = 0 by rw [a9]; rfl) h4
          refine lv_aload_n hx hb d_T_take_82 rfl (lv_at hl 1 rfl) ?_
          refine lv_iload_n hx hb d_T_take_83 rfl (lv_at hl 2 rfl) ?_
          refine lv_iconst (v := 0) hx hb d_T_take_84 (by decide) ?_
          refine cl_i (wc := [(h, .inr (6, [.ref (ad 0), .ref (ad 1), .ref (ad 2), .ref (ad 3), .ref (ad 4), .ref (ad 5), .int (nI (x_z x)), .int (nI s0), .int (nI (x_dp x)), .int (nI dm), .int (lI (x_la x))])), ((ad 0), .inl ((ca 0), cap, .inl (nf (x_sg x)))), ((ad 1), .inl ((ca 1), cap, .inl (nf (x_st x)))), ((ad 2), .inl ((ca 2), cap, .inl (nf (x_sp x)))), ((ad 3), .inl ((ca 3), cap, .inl (nf (x_it x)))), ((ad 4), .inl ((ca 4), cap, .inl (nf (x_rp x)))), ((ad 5), .inl ((ca 5), 12, .inl (nf (x_op x))))]) (wr := []) hP hD hK hS hA [0, 1, 2, 3, 4, 5, 6] [] rfl rfl (by decide) (by decide) (va_runV (As := [.int (nI c0), .int (nI 0)]) (rest := []) ⟨hx, hb, hml, hown, hts⟩ (c_T_add l D H.size h ad ca cap (x_sg x) (x_st x) (x_sp x) (x_it x) (x_rp x) (x_op x) (x_z x) s0 (x_dp x) dm (lI (x_la x)) c0 0 i1 i2 i3 i4 i5 i6 hc0) (cw_V hts 2 k_324 k_5 k_321 k_322 k_323 (by decide +kernel) ⟨Nat.le_of_ble_eq_true rfl, Nat.le_of_ble_eq_true rfl⟩) (pr_V hP hD hK [0, 1, 2, 3, 4, 5, 6] [0, 1, 2, 3, 4, 5] (by decide) rfl rfl (fun U hU hW => trivial) (fun U g mk a h => h) (q0 := 0) (ci := 6) rfl rfl) rfl rfl hl.1 rfl (lv_room (Nat.le_of_ble_eq_true rfl)) d_T_take_85 ⟨by decide, by decide⟩) (fun r2 u H locs h1 hP hD hK hS => ?_)
          obtain ⟨sg2, st2, sp2, it2, rp2, op2, z2, dp2, w5⟩ := u
          have hP : va_P D wcl [(h, .inr (6, [.ref (ad 0), .ref (ad 1), .ref (ad 2), .ref (ad 3), .ref (ad 4), .ref (ad 5), .int (nI z2), .int (nI s0), .int (nI dp2), .int (nI dm), .int w5])), ((ad 0), .inl ((ca 0), cap, .inl (nf sg2))), ((ad 1), .inl ((ca 1), cap, .inl (nf st2))), ((ad 2), .inl ((ca 2), cap, .inl (nf sp2))), ((ad 3), .inl ((ca 3), cap, .inl (nf it2))), ((ad 4), .inl ((ca 4), cap, .inl (nf rp2))), ((ad 5), .inl ((ca 5), 12, .inl (nf op2)))] H := hP
          have hD : va_D A [(h, .inr (6, [.ref (ad 0), .ref (ad 1), .ref (ad 2), .ref (ad 3), .ref (ad 4), .ref (ad 5), .int (nI z2), .int (nI s0), .int (nI dp2), .int (nI dm), .int w5])), ((ad 0), .inl ((ca 0), cap, .inl (nf sg2))), ((ad 1), .inl ((ca 1), cap, .inl (nf st2))), ((ad 2), .inl ((ca 2), cap, .inl (nf sp2))), ((ad 3), .inl ((ca 3), cap, .inl (nf it2))), ((ad 4), .inl ((ca 4), cap, .inl (nf rp2))), ((ad 5), .inl ((ca 5), 12, .inl (nf op2)))] := hD
          have hK : va_K D wcl [((ca 0), .char), ((ca 1), .int), ((ca 2), .int), ((ca 3), .int), ((ca 4), .boolean), ((ca 5), .int), ((ca 0), .char), ((ca 1), .int), ((ca 2), .int), ((ca 3), .int), ((ca 4), .boolean), ((ca 5), .int)] s := hK
          have h1 : (r2 = 0 ∧ ¬ t_can cap c0 (x_z x) s0 (x_dp x) dm ∧ sg2 = (x_sg x) ∧ st2 = (x_st x) ∧ sp2 = (x_sp x) ∧ it2 = (x_it x) ∧ rp2 = (x_rp x) ∧ op2 = (x_op x) ∧ z2 = (x_z x) ∧ dp2 = (x_dp x) ∧ w5 = (lI (x_la x))) ∨ (r2 = 1 ∧ t_can cap c0 (x_z x) s0 (x_dp x) dm ∧ sg2 = va_up (x_sg x) (x_z x) c0 ∧ st2 = va_up (x_st x) (x_z x) 0 ∧ sp2 = va_up (x_sp x) (x_z x) 1 ∧ it2 = t_its (x_it x) (x_op x) (x_z x) (x_dp x) ∧ rp2 = va_up (x_rp x) (x_z x) 0 ∧ op2 = (if c0 = 40 then va_up (x_op x) (x_dp x) (x_z x) else (x_op x)) ∧ z2 = (x_z x) + 1 ∧ dp2 = (if c0 = 40 then (x_dp x) + 1 else (x_dp x)) ∧ w5 = (if c0 = 40 then -1 else nI (x_z x))) := h1
          rcases h1 with ⟨ra, hn, q1, q2, q3, q4, q5, q6, q7, q8, q9⟩ | ⟨ra, hn, q1, q2, q3, q4, q5, q6, q7, q8, q9⟩
          · subst q1 q2 q3 q4 q5 q6 q7 q8 q9
            refine lv_if_eq (tgt := 95) hx hb d_T_take_88 (by decide) (fun _ => ?_) (fun h9 => absurd (ra) h9)
            refine lv_iconst (v := 0) hx hb d_T_take_95 (by decide) ?_
            have hP9 := hP.sub (ws' := [(h, .inr (6, [.ref (ad 0), .ref (ad 1), .ref (ad 2), .ref (ad 3), .ref (ad 4), .ref (ad 5), .int (nI (x_z x)), .int (nI s0), .int (nI (x_dp x)), .int (nI dm), .int (lI (x_la x))])), ((ad 0), .inl ((ca 0), cap, .inl (nf (x_sg x)))), ((ad 1), .inl ((ca 1), cap, .inl (nf (x_st x)))), ((ad 2), .inl ((ca 2), cap, .inl (nf (x_sp x)))), ((ad 3), .inl ((ca 3), cap, .inl (nf (x_it x)))), ((ad 4), .inl ((ca 4), cap, .inl (nf (x_rp x)))), ((ad 5), .inl ((ca 5), 12, .inl (nf (x_op x))))]) [0, 1, 2, 3, 4, 5, 6] rfl
            have hD9 := hD.sub (ws' := [(h, .inr (6, [.ref (ad 0), .ref (ad 1), .ref (ad 2), .ref (ad 3), .ref (ad 4), .ref (ad 5), .int (nI (x_z x)), .int (nI s0), .int (nI (x_dp x)), .int (nI dm), .int (lI (x_la x))])), ((ad 0), .inl ((ca 0), cap, .inl (nf (x_sg x)))), ((ad 1), .inl ((ca 1), cap, .inl (nf (x_st x)))), ((ad 2), .inl ((ca 2), cap, .inl (nf (x_sp x)))), ((ad 3), .inl ((ca 3), cap, .inl (nf (x_it x)))), ((ad 4), .inl ((ca 4), cap, .inl (nf (x_rp x)))), ((ad 5), .inl ((ca 5), 12, .inl (nf (x_op x))))]) [0, 1, 2, 3, 4, 5, 6] (by decide) rfl
            have hK9 := hK.sub (tys' := [((ca 0), .char), ((ca 1), .int), ((ca 2), .int), ((ca 3), .int), ((ca 4), .boolean), ((ca 5), .int)]) [0, 1, 2, 3, 4, 5] rfl
            exact W.zret (v := 0) hx hb hr (by decide) (fun t9 ht hW => ⟨⟨0, x, rfl, Or.inl ⟨rfl, by unfold t_take; rw [if_neg n41, if_neg n126, if_pos na]; unfold t_add; rw [if_neg hn], rfl⟩, ⟨by rw [ht]; exact hP9, va_K.moved hW.alike hK9, hD9⟩⟩, hS.F ht⟩) hS.2.2 d_T_take_96
          · have w6 : w5 = lI (if c0 = 40 then none else some (x_z x)) := by rw [q9]; by_cases h9 : c0 = 40 <;> simp [h9, lI]
            subst q1 q2 q3 q4 q5 q6 q7 q8 w6
            refine lv_if_eq (tgt := 95) hx hb d_T_take_88 (by decide) (fun h9 => absurd h9 (by rw [ra]; decide)) (fun _ => ?_)
            refine lv_iconst (v := 1) hx hb d_T_take_91 (by decide) ?_
            refine lv_goto (tgt := 96) hx hb d_T_take_92 (by decide) ?_
            have hP9 := hP.sub (ws' := [(h, .inr (6, [.ref (ad 0), .ref (ad 1), .ref (ad 2), .ref (ad 3), .ref (ad 4), .ref (ad 5), .int (nI (x_z x + 1)), .int (nI s0), .int (nI (if c0 = 40 then x_dp x + 1 else x_dp x)), .int (nI dm), .int (lI (if c0 = 40 then none else some (x_z x)))])), ((ad 0), .inl ((ca 0), cap, .inl (nf (va_up (x_sg x) (x_z x) c0)))), ((ad 1), .inl ((ca 1), cap, .inl (nf (va_up (x_st x) (x_z x) 0)))), ((ad 2), .inl ((ca 2), cap, .inl (nf (va_up (x_sp x) (x_z x) 1)))), ((ad 3), .inl ((ca 3), cap, .inl (nf (t_its (x_it x) (x_op x) (x_z x) (x_dp x))))), ((ad 4), .inl ((ca 4), cap, .inl (nf (va_up (x_rp x) (x_z x) 0)))), ((ad 5), .inl ((ca 5), 12, .inl (nf (if c0 = 40 then va_up (x_op x) (x_dp x) (x_z x) else x_op x))))]) [0, 1, 2, 3, 4, 5, 6] rfl
            have hD9 := hD.sub (ws' := [(h, .inr (6, [.ref (ad 0), .ref (ad 1), .ref (ad 2), .ref (ad 3), .ref (ad 4), .ref (ad 5), .int (nI (x_z x + 1)), .int (nI s0), .int (nI (if c0 = 40 then x_dp x + 1 else x_dp x)), .int (nI dm), .int (lI (if c0 = 40 then none else some (x_z x)))])), ((ad 0), .inl ((ca 0), cap, .inl (nf (va_up (x_sg x) (x_z x) c0)))), ((ad 1), .inl ((ca 1), cap, .inl (nf (va_up (x_st x) (x_z x) 0)))), ((ad 2), .inl ((ca 2), cap, .inl (nf (va_up (x_sp x) (x_z x) 1)))), ((ad 3), .inl ((ca 3), cap, .inl (nf (t_its (x_it x) (x_op x) (x_z x) (x_dp x))))), ((ad 4), .inl ((ca 4), cap, .inl (nf (va_up (x_rp x) (x_z x) 0)))), ((ad 5), .inl ((ca 5), 12, .inl (nf (if c0 = 40 then va_up (x_op x) (x_dp x) (x_z x) else x_op x))))]) [0, 1, 2, 3, 4, 5, 6] (by decide) rfl
            have hK9 := hK.sub (tys' := [((ca 0), .char), ((ca 1), .int), ((ca 2), .int), ((ca 3), .int), ((ca 4), .boolean), ((ca 5), .int)]) [0, 1, 2, 3, 4, 5] rfl
            exact W.zret (v := 1) hx hb hr (by decide) (fun t9 ht hW => ⟨⟨1, ((va_up (x_sg x) (x_z x) c0), (va_up (x_st x) (x_z x) 0), (va_up (x_sp x) (x_z x) 1), (t_its (x_it x) (x_op x) (x_z x) (x_dp x)), (va_up (x_rp x) (x_z x) 0), (if c0 = 40 then va_up (x_op x) (x_dp x) (x_z x) else x_op x), (x_z x + 1), (if c0 = 40 then x_dp x + 1 else x_dp x), (if c0 = 40 then none else some (x_z x))), rfl, Or.inr ⟨rfl, by unfold t_take; rw [if_neg n41, if_neg n126, if_pos na]; unfold t_add; rw [if_pos hn]⟩, ⟨by rw [ht]; exact hP9, va_K.moved hW.alike hK9, hD9⟩⟩, hS.F ht⟩) hS.2.2 d_T_take_96
      refine lv_iload_n hx hb d_T_take_34 rfl (lv_at hl 1 rfl) ?_
      refine lv_bipush (v := 40) hx hb d_T_take_35 (by decide) ?_
      refine lv_icmp_eq (tgt := 72) hx hb d_T_take_37 (by decide) (fun h3 => ?_) (fun h3 => ?_)
      · have hq40 : c0 = 40 := nI_inj (b := 40) (Nat.lt_trans hc0 (by decide)) (by decide) h3
        refine lv_iconst (v := 1) hx hb d_T_take_72 (by decide) ?_
        refine lv_goto (tgt := 77) hx hb d_T_take_73 (by decide) ?_
        exact mg 1 s.heap [] ls (Or.inl ⟨rfl, Or.inl hq40⟩) hP hD hS hl
      · have n40 : ¬ c0 = 40 := fun h => h3 (by rw [h]; rfl)
        refine lv_iload_n hx hb d_T_take_40 rfl (lv_at hl 1 rfl) ?_
        refine cl_i (wc := []) (wr := [(h, .inr (6, [.ref (ad 0), .ref (ad 1), .ref (ad 2), .ref (ad 3), .ref (ad 4), .ref (ad 5), .int (nI (x_z x)), .int (nI s0), .int (nI (x_dp x)), .int (nI dm), .int (lI (x_la x))])), ((ad 0), .inl ((ca 0), cap, .inl (nf (x_sg x)))), ((ad 1), .inl ((ca 1), cap, .inl (nf (x_st x)))), ((ad 2), .inl ((ca 2), cap, .inl (nf (x_sp x)))), ((ad 3), .inl ((ca 3), cap, .inl (nf (x_it x)))), ((ad 4), .inl ((ca 4), cap, .inl (nf (x_rp x)))), ((ad 5), .inl ((ca 5), 12, .inl (nf (x_op x))))]) hP hD hK hS hA [] [0, 1, 2, 3, 4, 5, 6] rfl rfl (by decide) (by decide) (va_runSN (As := [.int (nI c0)]) (rest := []) ⟨hx, hb, hml, hown, hts⟩ (c_F_isName l D s.heap.size (nI c0)) (cw_SN hts 1 k_289 k_1 (hE.1 _ k_314 rfl) k_288 (by decide +kernel) ⟨Nat.le_of_ble_eq_true rfl, Nat.le_of_ble_eq_true rfl⟩) (pr_S hP hD hK [] [] (by decide) rfl rfl (fun U hU hW => trivial) (fun U g mk a h => h)) rfl rfl hl.1 rfl (lv_room (Nat.le_of_ble_eq_true rfl)) d_T_take_41 ⟨by decide, by decide⟩) (fun r4 u H locs h3 hP hD hK hS => ?_)
        have hP : va_P D wcl [(h, .inr (6, [.ref (ad 0), .ref (ad 1), .ref (ad 2), .ref (ad 3), .ref (ad 4), .ref (ad 5), .int (nI (x_z x)), .int (nI s0), .int (nI (x_dp x)), .int (nI dm), .int (lI (x_la x))])), ((ad 0), .inl ((ca 0), cap, .inl (nf (x_sg x)))), ((ad 1), .inl ((ca 1), cap, .inl (nf (x_st x)))), ((ad 2), .inl ((ca 2), cap, .inl (nf (x_sp x)))), ((ad 3), .inl ((ca 3), cap, .inl (nf (x_it x)))), ((ad 4), .inl ((ca 4), cap, .inl (nf (x_rp x)))), ((ad 5), .inl ((ca 5), 12, .inl (nf (x_op x))))] H := hP
        have hD : va_D A [(h, .inr (6, [.ref (ad 0), .ref (ad 1), .ref (ad 2), .ref (ad 3), .ref (ad 4), .ref (ad 5), .int (nI (x_z x)), .int (nI s0), .int (nI (x_dp x)), .int (nI dm), .int (lI (x_la x))])), ((ad 0), .inl ((ca 0), cap, .inl (nf (x_sg x)))), ((ad 1), .inl ((ca 1), cap, .inl (nf (x_st x)))), ((ad 2), .inl ((ca 2), cap, .inl (nf (x_sp x)))), ((ad 3), .inl ((ca 3), cap, .inl (nf (x_it x)))), ((ad 4), .inl ((ca 4), cap, .inl (nf (x_rp x)))), ((ad 5), .inl ((ca 5), 12, .inl (nf (x_op x))))] := hD
        have hK : va_K D wcl [((ca 0), .char), ((ca 1), .int), ((ca 2), .int), ((ca 3), .int), ((ca 4), .boolean), ((ca 5), .int)] s := hK
        have h3 : (r4 = 1 ∧ ¬ (nI c0) < 97 ∧ ¬ 122 < (nI c0)) ∨ (r4 = 0 ∧ ((nI c0) < 97 ∨ 122 < (nI c0))) := h3
        have ck0 : (r4 = 1 ∧ c_nm c0) ∨ (r4 = 0 ∧ ¬ (c_nm c0)) := by
          rcases h3 with a9 | a9
          · exact Or.inl ⟨a9.1, ⟨Nat.not_lt.mp (fun h9 => a9.2.1 (nI_lt (b := 97) h9 (by decide))), Nat.not_lt.mp (fun h9 => a9.2.2 (nI_lt (a := 122) h9 (Nat.lt_trans hc0 (by decide))))⟩⟩
          · exact Or.inr ⟨a9.1, (fun q => by rcases a9.2 with b9 | b9; exact absurd ((nI_ltI (b := 97) (Nat.lt_trans hc0 (by decide)) (by decide)).mp b9) (by omega); exact absurd ((nI_ltI (a := 122) (by decide) (Nat.lt_trans hc0 (by decide))).mp b9) (by omega))⟩
        refine lv_if_ne (tgt := 72) hx hb d_T_take_44 (by decide) (fun k0 => ?_) (fun k0 => ?_)
        · have y0 : c_nm c0 := by
            rcases ck0 with a9 | a9
            · exact a9.2
            · exact absurd a9.1 k0
          refine lv_iconst (v := 1) hx hb d_T_take_72 (by decide) ?_
          refine lv_goto (tgt := 77) hx hb d_T_take_73 (by decide) ?_
          exact mg 1 H locs ls (Or.inl ⟨rfl, Or.inr (Or.inl y0)⟩) hP hD hS hl
        · have x0 : ¬ (c_nm c0) := by
            rcases ck0 with a9 | a9
            · exact absurd k0 (by rw [a9.1]; decide)
            · exact a9.2
          refine lv_iload_n hx hb d_T_take_47 rfl (lv_at hl 1 rfl) ?_
          refine cl_i (wc := []) (wr := [(h, .inr (6, [.ref (ad 0), .ref (ad 1), .ref (ad 2), .ref (ad 3), .ref (ad 4), .ref (ad 5), .int (nI (x_z x)), .int (nI s0), .int (nI (x_dp x)), .int (nI dm), .int (lI (x_la x))])), ((ad 0), .inl ((ca 0), cap, .inl (nf (x_sg x)))), ((ad 1), .inl ((ca 1), cap, .inl (nf (x_st x)))), ((ad 2), .inl ((ca 2), cap, .inl (nf (x_sp x)))), ((ad 3), .inl ((ca 3), cap, .inl (nf (x_it x)))), ((ad 4), .inl ((ca 4), cap, .inl (nf (x_rp x)))), ((ad 5), .inl ((ca 5), 12, .inl (nf (x_op x))))]) hP hD hK hS hA [] [0, 1, 2, 3, 4, 5, 6] rfl rfl (by decide) (by decide) (va_runSN (As := [.int (nI c0)]) (rest := []) ⟨hx, hb, hml, hown, hts⟩ (c_F_isNumeral l D H.size (nI c0)) (cw_SN hts 1 k_317 k_1 (hE.1 _ k_315 rfl) k_316 (by decide +kernel) ⟨Nat.le_of_ble_eq_true rfl, Nat.le_of_ble_eq_true rfl⟩) (pr_S hP hD hK [] [] (by decide) rfl rfl (fun U hU hW => trivial) (fun U g mk a h => h)) rfl rfl hl.1 rfl (lv_room (Nat.le_of_ble_eq_true rfl)) d_T_take_48 ⟨by decide, by decide⟩) (fun r6 u H locs h5 hP hD hK hS => ?_)
          have hP : va_P D wcl [(h, .inr (6, [.ref (ad 0), .ref (ad 1), .ref (ad 2), .ref (ad 3), .ref (ad 4), .ref (ad 5), .int (nI (x_z x)), .int (nI s0), .int (nI (x_dp x)), .int (nI dm), .int (lI (x_la x))])), ((ad 0), .inl ((ca 0), cap, .inl (nf (x_sg x)))), ((ad 1), .inl ((ca 1), cap, .inl (nf (x_st x)))), ((ad 2), .inl ((ca 2), cap, .inl (nf (x_sp x)))), ((ad 3), .inl ((ca 3), cap, .inl (nf (x_it x)))), ((ad 4), .inl ((ca 4), cap, .inl (nf (x_rp x)))), ((ad 5), .inl ((ca 5), 12, .inl (nf (x_op x))))] H := hP
          have hD : va_D A [(h, .inr (6, [.ref (ad 0), .ref (ad 1), .ref (ad 2), .ref (ad 3), .ref (ad 4), .ref (ad 5), .int (nI (x_z x)), .int (nI s0), .int (nI (x_dp x)), .int (nI dm), .int (lI (x_la x))])), ((ad 0), .inl ((ca 0), cap, .inl (nf (x_sg x)))), ((ad 1), .inl ((ca 1), cap, .inl (nf (x_st x)))), ((ad 2), .inl ((ca 2), cap, .inl (nf (x_sp x)))), ((ad 3), .inl ((ca 3), cap, .inl (nf (x_it x)))), ((ad 4), .inl ((ca 4), cap, .inl (nf (x_rp x)))), ((ad 5), .inl ((ca 5), 12, .inl (nf (x_op x))))] := hD
          have hK : va_K D wcl [((ca 0), .char), ((ca 1), .int), ((ca 2), .int), ((ca 3), .int), ((ca 4), .boolean), ((ca 5), .int)] s := hK
          have h5 : (r6 = 1 ∧ ¬ (nI c0) < 48 ∧ ¬ 57 < (nI c0)) ∨ (r6 = 0 ∧ ((nI c0) < 48 ∨ 57 < (nI c0))) := h5
          have ck1 : (r6 = 1 ∧ c_nu c0) ∨ (r6 = 0 ∧ ¬ (c_nu c0)) := by
            rcases h5 with a9 | a9
            · exact Or.inl ⟨a9.1, ⟨Nat.not_lt.mp (fun h9 => a9.2.1 (nI_lt (b := 48) h9 (by decide))), Nat.not_lt.mp (fun h9 => a9.2.2 (nI_lt (a := 57) h9 (Nat.lt_trans hc0 (by decide))))⟩⟩
            · exact Or.inr ⟨a9.1, (fun q => by rcases a9.2 with b9 | b9; exact absurd ((nI_ltI (b := 48) (Nat.lt_trans hc0 (by decide)) (by decide)).mp b9) (by omega); exact absurd ((nI_ltI (a := 57) (by decide) (Nat.lt_trans hc0 (by decide))).mp b9) (by omega))⟩
          refine lv_if_ne (tgt := 72) hx hb d_T_take_51 (by decide) (fun k1 => ?_) (fun k1 => ?_)
          · have y1 : c_nu c0 := by
              rcases ck1 with a9 | a9
              · exact a9.2
              · exact absurd a9.1 k1
            refine lv_iconst (v := 1) hx hb d_T_take_72 (by decide) ?_
            refine lv_goto (tgt := 77) hx hb d_T_take_73 (by decide) ?_
            exact mg 1 H locs ls (Or.inl ⟨rfl, Or.inr (Or.inr (Or.inl y1))⟩) hP hD hS hl
          · have x1 : ¬ (c_nu c0) := by
              rcases ck1 with a9 | a9
              · exact absurd k1 (by rw [a9.1]; decide)
              · exact a9.2
            refine lv_iload_n hx hb d_T_take_54 rfl (lv_at hl 1 rfl) ?_
            refine cl_i (wc := []) (wr := [(h, .inr (6, [.ref (ad 0), .ref (ad 1), .ref (ad 2), .ref (ad 3), .ref (ad 4), .ref (ad 5), .int (nI (x_z x)), .int (nI s0), .int (nI (x_dp x)), .int (nI dm), .int (lI (x_la x))])), ((ad 0), .inl ((ca 0), cap, .inl (nf (x_sg x)))), ((ad 1), .inl ((ca 1), cap, .inl (nf (x_st x)))), ((ad 2), .inl ((ca 2), cap, .inl (nf (x_sp x)))), ((ad 3), .inl ((ca 3), cap, .inl (nf (x_it x)))), ((ad 4), .inl ((ca 4), cap, .inl (nf (x_rp x)))), ((ad 5), .inl ((ca 5), 12, .inl (nf (x_op x))))]) hP hD hK hS hA [] [0, 1, 2, 3, 4, 5, 6] rfl rfl (by decide) (by decide) (va_runSN (As := [.int (nI c0)]) (rest := []) ⟨hx, hb, hml, hown, hts⟩ (c_F_isKeyword l D H.size (nI c0)) (cw_SN hts 1 k_320 k_1 (hE.1 _ k_318 rfl) k_319 (by decide +kernel) ⟨Nat.le_of_ble_eq_true rfl, Nat.le_of_ble_eq_true rfl⟩) (pr_S hP hD hK [] [] (by decide) rfl rfl (fun U hU hW => trivial) (fun U g mk a h => h)) rfl rfl hl.1 rfl (lv_room (Nat.le_of_ble_eq_true rfl)) d_T_take_55 ⟨by decide, by decide⟩) (fun r8 u H locs h7 hP hD hK hS => ?_)
            have hP : va_P D wcl [(h, .inr (6, [.ref (ad 0), .ref (ad 1), .ref (ad 2), .ref (ad 3), .ref (ad 4), .ref (ad 5), .int (nI (x_z x)), .int (nI s0), .int (nI (x_dp x)), .int (nI dm), .int (lI (x_la x))])), ((ad 0), .inl ((ca 0), cap, .inl (nf (x_sg x)))), ((ad 1), .inl ((ca 1), cap, .inl (nf (x_st x)))), ((ad 2), .inl ((ca 2), cap, .inl (nf (x_sp x)))), ((ad 3), .inl ((ca 3), cap, .inl (nf (x_it x)))), ((ad 4), .inl ((ca 4), cap, .inl (nf (x_rp x)))), ((ad 5), .inl ((ca 5), 12, .inl (nf (x_op x))))] H := hP
            have hD : va_D A [(h, .inr (6, [.ref (ad 0), .ref (ad 1), .ref (ad 2), .ref (ad 3), .ref (ad 4), .ref (ad 5), .int (nI (x_z x)), .int (nI s0), .int (nI (x_dp x)), .int (nI dm), .int (lI (x_la x))])), ((ad 0), .inl ((ca 0), cap, .inl (nf (x_sg x)))), ((ad 1), .inl ((ca 1), cap, .inl (nf (x_st x)))), ((ad 2), .inl ((ca 2), cap, .inl (nf (x_sp x)))), ((ad 3), .inl ((ca 3), cap, .inl (nf (x_it x)))), ((ad 4), .inl ((ca 4), cap, .inl (nf (x_rp x)))), ((ad 5), .inl ((ca 5), 12, .inl (nf (x_op x))))] := hD
            have hK : va_K D wcl [((ca 0), .char), ((ca 1), .int), ((ca 2), .int), ((ca 3), .int), ((ca 4), .boolean), ((ca 5), .int)] s := hK
            have h7 : (r8 = 1 ∧ ((nI c0) = 76 ∨ (nI c0) = 73 ∨ (nI c0) = 81)) ∨ (r8 = 0 ∧ ¬ (nI c0) = 76 ∧ ¬ (nI c0) = 73 ∧ ¬ (nI c0) = 81) := h7
            have ck2 : (r8 = 1 ∧ c_kw c0) ∨ (r8 = 0 ∧ ¬ (c_kw c0)) := by
              rcases h7 with a9 | a9
              · exact Or.inl ⟨a9.1, (by rcases a9.2 with b9 | b9 | b9; exact Or.inl (nI_inj (b := 76) (Nat.lt_trans hc0 (by decide)) (by decide) b9); exact Or.inr (Or.inl (nI_inj (b := 73) (Nat.lt_trans hc0 (by decide)) (by decide) b9)); exact Or.inr (Or.inr (nI_inj (b := 81) (Nat.lt_trans hc0 (by decide)) (by decide) b9)))⟩
              · exact Or.inr ⟨a9.1, (fun q => by rcases q with b9 | b9 | b9; exact a9.2.1 (by rw [b9]; rfl); exact a9.2.2.1 (by rw [b9]; rfl); exact a9.2.2.2 (by rw [b9]; rfl))⟩
            refine lv_if_ne (tgt := 72) hx hb d_T_take_58 (by decide) (fun k2 => ?_) (fun k2 => ?_)
            · have y2 : c_kw c0 := by
                rcases ck2 with a9 | a9
                · exact a9.2
                · exact absurd a9.1 k2
              refine lv_iconst (v := 1) hx hb d_T_take_72 (by decide) ?_
              refine lv_goto (tgt := 77) hx hb d_T_take_73 (by decide) ?_
              exact mg 1 H locs ls (Or.inl ⟨rfl, Or.inr (Or.inr (Or.inr (Or.inl y2)))⟩) hP hD hS hl
            · have x2 : ¬ (c_kw c0) := by
                rcases ck2 with a9 | a9
                · exact absurd k2 (by rw [a9.1]; decide)
                · exact a9.2
              refine lv_iload_n hx hb d_T_take_61 rfl (lv_at hl 1 rfl) ?_
              refine lv_bipush (v := 95) hx hb d_T_take_62 (by decide) ?_
              refine lv_icmp_ne (tgt := 76) hx hb d_T_take_64 (by decide) (fun k3 => ?_) (fun k3 => ?_)
              · refine lv_iconst (v := 0) hx hb d_T_take_76 (by decide) ?_
                exact mg 0 H locs ls (Or.inr ⟨rfl, fun q => by rcases q with b9 | b9 | b9 | b9 | b9; exact n40 b9; exact x0 b9; exact x1 b9; exact x2 b9; exact k3 (by rw [b9.1]; rfl)⟩) hP hD hS hl
              · have hq95 : c0 = 95 := nI_inj (b := 95) (Nat.lt_trans hc0 (by decide)) (by decide) k3
                refine lv_iload_n hx hb d_T_take_67 rfl (lv_at hl 2 rfl) ?_
                refine lv_iconst (v := 1) hx hb d_T_take_68 (by decide) ?_
                refine lv_icmp_ne (tgt := 76) hx hb d_T_take_69 (by decide) (fun k4 => ?_) (fun k4 => ?_)
                · refine lv_iconst (v := 0) hx hb d_T_take_76 (by decide) ?_
                  exact mg 0 H locs ls (Or.inr ⟨rfl, fun q => by rcases q with b9 | b9 | b9 | b9 | b9; exact n40 b9; exact x0 b9; exact x1 b9; exact x2 b9; exact k4 (by rw [b9.2]; rfl)⟩) hP hD hS hl
                · refine lv_iconst (v := 1) hx hb d_T_take_72 (by decide) ?_
                  refine lv_goto (tgt := 77) hx hb d_T_take_73 (by decide) ?_
                  exact mg 1 H locs ls (Or.inl ⟨rfl, Or.inr (Or.inr (Or.inr (Or.inr ⟨hq95, nI_inj (b := 1) (by omega) (by decide) k4⟩)))⟩) hP hD hS hl
    · have hq126 : c0 = 126 := nI_inj (b := 126) (Nat.lt_trans hc0 (by decide)) (by decide) h2
      refine lv_iload_n hx hb d_T_take_17 rfl (lv_at hl 2 rfl) ?_
      refine lv_if_eq (tgt := 32) hx hb d_T_take_18 (by decide) (fun h3 => ?_) (fun h3 => ?_)
      · have kz : kd = 0 := nI_inj (b := 0) (by omega) (by decide) h3
        refine lv_iconst (v := 0) hx hb d_T_take_32 (by decide) ?_
        have hP9 := hP.sub (ws' := [(h, .inr (6, [.ref (ad 0), .ref (ad 1), .ref (ad 2), .ref (ad 3), .ref (ad 4), .ref (ad 5), .int (nI (x_z x)), .int (nI s0), .int (nI (x_dp x)), .int (nI dm), .int (lI (x_la x))])), ((ad 0), .inl ((ca 0), cap, .inl (nf (x_sg x)))), ((ad 1), .inl ((ca 1), cap, .inl (nf (x_st x)))), ((ad 2), .inl ((ca 2), cap, .inl (nf (x_sp x)))), ((ad 3), .inl ((ca 3), cap, .inl (nf (x_it x)))), ((ad 4), .inl ((ca 4), cap, .inl (nf (x_rp x)))), ((ad 5), .inl ((ca 5), 12, .inl (nf (x_op x))))]) [0, 1, 2, 3, 4, 5, 6] rfl
        have hD9 := hD.sub (ws' := [(h, .inr (6, [.ref (ad 0), .ref (ad 1), .ref (ad 2), .ref (ad 3), .ref (ad 4), .ref (ad 5), .int (nI (x_z x)), .int (nI s0), .int (nI (x_dp x)), .int (nI dm), .int (lI (x_la x))])), ((ad 0), .inl ((ca 0), cap, .inl (nf (x_sg x)))), ((ad 1), .inl ((ca 1), cap, .inl (nf (x_st x)))), ((ad 2), .inl ((ca 2), cap, .inl (nf (x_sp x)))), ((ad 3), .inl ((ca 3), cap, .inl (nf (x_it x)))), ((ad 4), .inl ((ca 4), cap, .inl (nf (x_rp x)))), ((ad 5), .inl ((ca 5), 12, .inl (nf (x_op x))))]) [0, 1, 2, 3, 4, 5, 6] (by decide) rfl
        have hK9 := hK.sub (tys' := [((ca 0), .char), ((ca 1), .int), ((ca 2), .int), ((ca 3), .int), ((ca 4), .boolean), ((ca 5), .int)]) [0, 1, 2, 3, 4, 5] rfl
        exact W.zret (v := 0) hx hb hr (by decide) (fun t9 ht hW => ⟨⟨0, x, rfl, Or.inl ⟨rfl, by unfold t_take; rw [if_neg n41, if_pos hq126, if_pos kz], rfl⟩, ⟨by rw [ht]; exact hP9, va_K.moved hW.alike hK9, hD9⟩⟩, hS.F ht⟩) hS.2.2 d_T_take_33
      · have kz : ¬ kd = 0 := fun h => h3 (by rw [h]; rfl)
        refine lv_aload_n hx hb d_T_take_21 rfl (lv_at hl 0 rfl) ?_
        refine cl_i (wc := [(h, .inr (6, [.ref (ad 0), .ref (ad 1), .ref (ad 2), .ref (ad 3), .ref (ad 4), .ref (ad 5), .int (nI (x_z x)), .int (nI s0), .int (nI (x_dp x)), .int (nI dm), .int (lI (x_la x))])), ((ad 4), .inl ((ca 4), cap, .inl (nf (x_rp x))))]) (wr := [((ad 0), .inl ((ca 0), cap, .inl (nf (x_sg x)))), ((ad 1), .inl ((ca 1), cap, .inl (nf (x_st x)))), ((ad 2), .inl ((ca 2), cap, .inl (nf (x_sp x)))), ((ad 3), .inl ((ca 3), cap, .inl (nf (x_it x)))), ((ad 5), .inl ((ca 5), 12, .inl (nf (x_op x))))]) hP hD hK hS hA [0, 5] [1, 2, 3, 4, 6] rfl rfl (by decide) (by decide) (va_runV (As := []) (rest := []) ⟨hx, hb, hml, hown, hts⟩ (c_T_repeatLast l D s.heap.size h ad ca cap (x_rp x) (x_z x) (x_dp x) (x_la x) (nI s0) (nI dm) i1 i2 (by omega) i7 i9) (cw_V hts 0 k_313 k_5 k_310 k_312 sel_T_repeatLast (by decide +kernel) ⟨Nat.le_of_ble_eq_true rfl, Nat.le_of_ble_eq_true rfl⟩) (pr_V hP hD hK [0, 5] [4] (by decide) rfl rfl (fun U hU hW => trivial) (fun U g mk a h => h) (q0 := 0) (ci := 6) rfl rfl) rfl rfl hl.1 rfl (lv_room (Nat.le_of_ble_eq_true rfl)) d_T_take_22 ⟨by decide, by decide⟩) (fun r10 u H locs h9 hP hD hK hS => ?_)
        obtain ⟨rp2, rfl⟩ : ∃ z, z = u := ⟨_, rfl⟩
        have hP : va_P D wcl [((ad 0), .inl ((ca 0), cap, .inl (nf (x_sg x)))), ((ad 1), .inl ((ca 1), cap, .inl (nf (x_st x)))), ((ad 2), .inl ((ca 2), cap, .inl (nf (x_sp x)))), ((ad 3), .inl ((ca 3), cap, .inl (nf (x_it x)))), ((ad 5), .inl ((ca 5), 12, .inl (nf (x_op x)))), (h, .inr (6, [.ref (ad 0), .ref (ad 1), .ref (ad 2), .ref (ad 3), .ref (ad 4), .ref (ad 5), .int (nI (x_z x)), .int (nI s0), .int (nI (x_dp x)), .int (nI dm), .int (lI (x_la x))])), ((ad 4), .inl ((ca 4), cap, .inl (nf rp2)))] H := hP
        have hD : va_D A [((ad 0), .inl ((ca 0), cap, .inl (nf (x_sg x)))), ((ad 1), .inl ((ca 1), cap, .inl (nf (x_st x)))), ((ad 2), .inl ((ca 2), cap, .inl (nf (x_sp x)))), ((ad 3), .inl ((ca 3), cap, .inl (nf (x_it x)))), ((ad 5), .inl ((ca 5), 12, .inl (nf (x_op x)))), (h, .inr (6, [.ref (ad 0), .ref (ad 1), .ref (ad 2), .ref (ad 3), .ref (ad 4), .ref (ad 5), .int (nI (x_z x)), .int (nI s0), .int (nI (x_dp x)), .int (nI dm), .int (lI (x_la x))])), ((ad 4), .inl ((ca 4), cap, .inl (nf rp2)))] := hD
        have hK : va_K D wcl [((ca 0), .char), ((ca 1), .int), ((ca 2), .int), ((ca 3), .int), ((ca 4), .boolean), ((ca 5), .int), ((ca 4), .boolean)] s := hK
        have h9 : (r10 = 0 ∧ rp2 = (x_rp x) ∧ ((x_dp x) = 0 ∨ (x_la x) = none ∨ ∃ l i, (x_la x) = some l ∧ l ≤ i ∧ i < (x_z x) ∧ ¬ (x_rp x) i = 0)) ∨ (r10 = 1 ∧ 0 < (x_dp x) ∧ ∃ l, (x_la x) = some l ∧ (∀ i, l ≤ i → i < (x_z x) → (x_rp x) i = 0) ∧ rp2 = va_up (x_rp x) l 1) := h9
        rcases h9 with ⟨ra, s2, wy⟩ | ⟨ra, d0, lz, e9, g9, s2⟩
        · subst s2
          refine lv_if_eq (tgt := 32) hx hb d_T_take_25 (by decide) (fun _ => ?_) (fun h9 => absurd (ra) h9)
          refine lv_iconst (v := 0) hx hb d_T_take_32 (by decide) ?_
          have hP9 := hP.sub (ws' := [(h, .inr (6, [.ref (ad 0), .ref (ad 1), .ref (ad 2), .ref (ad 3), .ref (ad 4), .ref (ad 5), .int (nI (x_z x)), .int (nI s0), .int (nI (x_dp x)), .int (nI dm), .int (lI (x_la x))])), ((ad 0), .inl ((ca 0), cap, .inl (nf (x_sg x)))), ((ad 1), .inl ((ca 1), cap, .inl (nf (x_st x)))), ((ad 2), .inl ((ca 2), cap, .inl (nf (x_sp x)))), ((ad 3), .inl ((ca 3), cap, .inl (nf (x_it x)))), ((ad 4), .inl ((ca 4), cap, .inl (nf (x_rp x)))), ((ad 5), .inl ((ca 5), 12, .inl (nf (x_op x))))]) [5, 0, 1, 2, 3, 6, 4] rfl
          have hD9 := hD.sub (ws' := [(h, .inr (6, [.ref (ad 0), .ref (ad 1), .ref (ad 2), .ref (ad 3), .ref (ad 4), .ref (ad 5), .int (nI (x_z x)), .int (nI s0), .int (nI (x_dp x)), .int (nI dm), .int (lI (x_la x))])), ((ad 0), .inl ((ca 0), cap, .inl (nf (x_sg x)))), ((ad 1), .inl ((ca 1), cap, .inl (nf (x_st x)))), ((ad 2), .inl ((ca 2), cap, .inl (nf (x_sp x)))), ((ad 3), .inl ((ca 3), cap, .inl (nf (x_it x)))), ((ad 4), .inl ((ca 4), cap, .inl (nf (x_rp x)))), ((ad 5), .inl ((ca 5), 12, .inl (nf (x_op x))))]) [5, 0, 1, 2, 3, 6, 4] (by decide) rfl
          have hK9 := hK.sub (tys' := [((ca 0), .char), ((ca 1), .int), ((ca 2), .int), ((ca 3), .int), ((ca 4), .boolean), ((ca 5), .int)]) [0, 1, 2, 3, 4, 5] rfl
          exact W.zret (v := 0) hx hb hr (by decide) (fun t9 ht hW => ⟨⟨0, x, rfl, Or.inl ⟨rfl, by
              unfold t_take
              rw [if_neg n41, if_pos hq126, if_neg kz]
              unfold t_rep
              rcases wy with e9 | e9 | ⟨lz, i, e9, a9, b9, g9⟩
              · cases hla : x_la x with
                | none => rfl
                | some q => exact if_pos e9
              · rw [e9]
              · rw [e9]
                by_cases hz9 : x_dp x = 0
                · exact if_pos hz9
                · exact (if_neg hz9).trans (if_neg (fun q => g9 (all_rp.mp q i a9 b9))), rfl⟩, ⟨by rw [ht]; exact hP9, va_K.moved hW.alike hK9, hD9⟩⟩, hS.F ht⟩) hS.2.2 d_T_take_33
        · subst s2
          refine lv_if_eq (tgt := 32) hx hb d_T_take_25 (by decide) (fun h9 => absurd h9 (by rw [ra]; decide)) (fun _ => ?_)
          refine lv_iconst (v := 1) hx hb d_T_take_28 (by decide) ?_
          refine lv_goto (tgt := 33) hx hb d_T_take_29 (by decide) ?_
          have hT : t_take cap s0 dm kd c0 x = some (x_sg x, x_st x, x_sp x, x_it x, va_up (x_rp x) lz 1, x_op x, x_z x, x_dp x, x_la x) := by
            unfold t_take
            rw [if_neg n41, if_pos hq126, if_neg kz]
            unfold t_rep
            rw [e9]
            exact (if_neg (Nat.ne_of_gt d0)).trans (if_pos (all_rp.mpr g9))
          have hP9 := hP.sub (ws' := [(h, .inr (6, [.ref (ad 0), .ref (ad 1), .ref (ad 2), .ref (ad 3), .ref (ad 4), .ref (ad 5), .int (nI (x_z x)), .int (nI s0), .int (nI (x_dp x)), .int (nI dm), .int (lI (x_la x))])), ((ad 0), .inl ((ca 0), cap, .inl (nf (x_sg x)))), ((ad 1), .inl ((ca 1), cap, .inl (nf (x_st x)))), ((ad 2), .inl ((ca 2), cap, .inl (nf (x_sp x)))), ((ad 3), .inl ((ca 3), cap, .inl (nf (x_it x)))), ((ad 4), .inl ((ca 4), cap, .inl (nf (va_up (x_rp x) lz 1)))), ((ad 5), .inl ((ca 5), 12, .inl (nf (x_op x))))]) [5, 0, 1, 2, 3, 6, 4] rfl
          have hD9 := hD.sub (ws' := [(h, .inr (6, [.ref (ad 0), .ref (ad 1), .ref (ad 2), .ref (ad 3), .ref (ad 4), .ref (ad 5), .int (nI (x_z x)), .int (nI s0), .int (nI (x_dp x)), .int (nI dm), .int (lI (x_la x))])), ((ad 0), .inl ((ca 0), cap, .inl (nf (x_sg x)))), ((ad 1), .inl ((ca 1), cap, .inl (nf (x_st x)))), ((ad 2), .inl ((ca 2), cap, .inl (nf (x_sp x)))), ((ad 3), .inl ((ca 3), cap, .inl (nf (x_it x)))), ((ad 4), .inl ((ca 4), cap, .inl (nf (va_up (x_rp x) lz 1)))), ((ad 5), .inl ((ca 5), 12, .inl (nf (x_op x))))]) [5, 0, 1, 2, 3, 6, 4] (by decide) rfl
          have hK9 := hK.sub (tys' := [((ca 0), .char), ((ca 1), .int), ((ca 2), .int), ((ca 3), .int), ((ca 4), .boolean), ((ca 5), .int)]) [0, 1, 2, 3, 4, 5] rfl
          exact W.zret (v := 1) hx hb hr (by decide) (fun t9 ht hW => ⟨⟨1, (x_sg x, x_st x, x_sp x, x_it x, va_up (x_rp x) lz 1, x_op x, x_z x, x_dp x, x_la x), rfl, Or.inr ⟨rfl, hT⟩, ⟨by rw [ht]; exact hP9, va_K.moved hW.alike hK9, hD9⟩⟩, hS.F ht⟩) hS.2.2 d_T_take_33
  · have hq41 : c0 = 41 := nI_inj (b := 41) (Nat.lt_trans hc0 (by decide)) (by decide) h1
    refine lv_aload_n hx hb d_T_take_6 rfl (lv_at hl 0 rfl) ?_
    refine cl_i (wc := [(h, .inr (6, [.ref (ad 0), .ref (ad 1), .ref (ad 2), .ref (ad 3), .ref (ad 4), .ref (ad 5), .int (nI (x_z x)), .int (nI s0), .int (nI (x_dp x)), .int (nI dm), .int (lI (x_la x))])), ((ad 2), .inl ((ca 2), cap, .inl (nf (x_sp x)))), ((ad 5), .inl ((ca 5), 12, .inl (nf (x_op x))))]) (wr := [((ad 0), .inl ((ca 0), cap, .inl (nf (x_sg x)))), ((ad 1), .inl ((ca 1), cap, .inl (nf (x_st x)))), ((ad 3), .inl ((ca 3), cap, .inl (nf (x_it x)))), ((ad 4), .inl ((ca 4), cap, .inl (nf (x_rp x))))]) hP hD hK hS hA [0, 3, 6] [1, 2, 4, 5] rfl rfl (by decide) (by decide) (va_runV (As := []) (rest := []) ⟨hx, hb, hml, hown, hts⟩ (c_T_close l D s.heap.size h ad ca cap (x_sp x) (x_op x) (x_z x) (x_dp x) (nI s0) (nI dm) (lI (x_la x)) i1 i2 (by omega) i6) (cw_V hts 0 k_309 k_5 k_306 k_307 k_308 (by decide +kernel) ⟨Nat.le_of_ble_eq_true rfl, Nat.le_of_ble_eq_true rfl⟩) (pr_V hP hD hK [0, 3, 6] [2, 5] (by decide) rfl rfl (fun U hU hW => trivial) (fun U g mk a h => h) (q0 := 0) (ci := 6) rfl rfl) rfl rfl hl.1 rfl (lv_room (Nat.le_of_ble_eq_true rfl)) d_T_take_7 ⟨by decide, by decide⟩) (fun r12 u H locs h11 hP hD hK hS => ?_)
    obtain ⟨sp2, dp2, w5⟩ := u
    have hP : va_P D wcl [((ad 0), .inl ((ca 0), cap, .inl (nf (x_sg x)))), ((ad 1), .inl ((ca 1), cap, .inl (nf (x_st x)))), ((ad 3), .inl ((ca 3), cap, .inl (nf (x_it x)))), ((ad 4), .inl ((ca 4), cap, .inl (nf (x_rp x)))), (h, .inr (6, [.ref (ad 0), .ref (ad 1), .ref (ad 2), .ref (ad 3), .ref (ad 4), .ref (ad 5), .int (nI (x_z x)), .int (nI s0), .int (nI dp2), .int (nI dm), .int w5])), ((ad 2), .inl ((ca 2), cap, .inl (nf sp2))), ((ad 5), .inl ((ca 5), 12, .inl (nf (x_op x))))] H := hP
    have hD : va_D A [((ad 0), .inl ((ca 0), cap, .inl (nf (x_sg x)))), ((ad 1), .inl ((ca 1), cap, .inl (nf (x_st x)))), ((ad 3), .inl ((ca 3), cap, .inl (nf (x_it x)))), ((ad 4), .inl ((ca 4), cap, .inl (nf (x_rp x)))), (h, .inr (6, [.ref (ad 0), .ref (ad 1), .ref (ad 2), .ref (ad 3), .ref (ad 4), .ref (ad 5), .int (nI (x_z x)), .int (nI s0), .int (nI dp2), .int (nI dm), .int w5])), ((ad 2), .inl ((ca 2), cap, .inl (nf sp2))), ((ad 5), .inl ((ca 5), 12, .inl (nf (x_op x))))] := hD
    have hK : va_K D wcl [((ca 0), .char), ((ca 1), .int), ((ca 2), .int), ((ca 3), .int), ((ca 4), .boolean), ((ca 5), .int), ((ca 2), .int), ((ca 5), .int)] s := hK
    have h11 : (r12 = 0 ∧ (x_dp x) = 0 ∧ dp2 = 0 ∧ sp2 = (x_sp x) ∧ w5 = (lI (x_la x))) ∨ (r12 = 1 ∧ 0 < (x_dp x) ∧ dp2 = (x_dp x) - 1 ∧ sp2 = va_up (x_sp x) ((x_op x) ((x_dp x) - 1)) ((x_z x) - (x_op x) ((x_dp x) - 1)) ∧ w5 = nI ((x_op x) ((x_dp x) - 1))) := h11
    rcases h11 with ⟨ra, d0, d2, s2, w2⟩ | ⟨ra, d0, d2, s2, w2⟩
    · have d3 : dp2 = x_dp x := d2.trans d0.symm
      subst d3 s2 w2
      have hP9 := hP.sub (ws' := [(h, .inr (6, [.ref (ad 0), .ref (ad 1), .ref (ad 2), .ref (ad 3), .ref (ad 4), .ref (ad 5), .int (nI (x_z x)), .int (nI s0), .int (nI (x_dp x)), .int (nI dm), .int (lI (x_la x))])), ((ad 0), .inl ((ca 0), cap, .inl (nf (x_sg x)))), ((ad 1), .inl ((ca 1), cap, .inl (nf (x_st x)))), ((ad 2), .inl ((ca 2), cap, .inl (nf (x_sp x)))), ((ad 3), .inl ((ca 3), cap, .inl (nf (x_it x)))), ((ad 4), .inl ((ca 4), cap, .inl (nf (x_rp x)))), ((ad 5), .inl ((ca 5), 12, .inl (nf (x_op x))))]) [4, 0, 1, 5, 2, 3, 6] rfl
      have hD9 := hD.sub (ws' := [(h, .inr (6, [.ref (ad 0), .ref (ad 1), .ref (ad 2), .ref (ad 3), .ref (ad 4), .ref (ad 5), .int (nI (x_z x)), .int (nI s0), .int (nI (x_dp x)), .int (nI dm), .int (lI (x_la x))])), ((ad 0), .inl ((ca 0), cap, .inl (nf (x_sg x)))), ((ad 1), .inl ((ca 1), cap, .inl (nf (x_st x)))), ((ad 2), .inl ((ca 2), cap, .inl (nf (x_sp x)))), ((ad 3), .inl ((ca 3), cap, .inl (nf (x_it x)))), ((ad 4), .inl ((ca 4), cap, .inl (nf (x_rp x)))), ((ad 5), .inl ((ca 5), 12, .inl (nf (x_op x))))]) [4, 0, 1, 5, 2, 3, 6] (by decide) rfl
      have hK9 := hK.sub (tys' := [((ca 0), .char), ((ca 1), .int), ((ca 2), .int), ((ca 3), .int), ((ca 4), .boolean), ((ca 5), .int)]) [0, 1, 2, 3, 4, 5] rfl
      exact W.zret (v := r12) hx hb hr (by rw [ra]; rfl) (fun t9 ht hW => ⟨⟨r12, x, rfl, Or.inl ⟨ra, by unfold t_take; rw [if_pos hq41]; unfold t_close; rw [if_pos d0], rfl⟩, ⟨by rw [ht]; exact hP9, va_K.moved hW.alike hK9, hD9⟩⟩, hS.F ht⟩) hS.2.2 d_T_take_10
    · subst d2 s2 w2
      have hP9 := hP.sub (ws' := [(h, .inr (6, [.ref (ad 0), .ref (ad 1), .ref (ad 2), .ref (ad 3), .ref (ad 4), .ref (ad 5), .int (nI (x_z x)), .int (nI s0), .int (nI (x_dp x - 1)), .int (nI dm), .int (nI (x_op x (x_dp x - 1)))])), ((ad 0), .inl ((ca 0), cap, .inl (nf (x_sg x)))), ((ad 1), .inl ((ca 1), cap, .inl (nf (x_st x)))), ((ad 2), .inl ((ca 2), cap, .inl (nf (va_up (x_sp x) (x_op x (x_dp x - 1)) (x_z x - x_op x (x_dp x - 1)))))), ((ad 3), .inl ((ca 3), cap, .inl (nf (x_it x)))), ((ad 4), .inl ((ca 4), cap, .inl (nf (x_rp x)))), ((ad 5), .inl ((ca 5), 12, .inl (nf (x_op x))))]) [4, 0, 1, 5, 2, 3, 6] rfl
      have hD9 := hD.sub (ws' := [(h, .inr (6, [.ref (ad 0), .ref (ad 1), .ref (ad 2), .ref (ad 3), .ref (ad 4), .ref (ad 5), .int (nI (x_z x)), .int (nI s0), .int (nI (x_dp x - 1)), .int (nI dm), .int (nI (x_op x (x_dp x - 1)))])), ((ad 0), .inl ((ca 0), cap, .inl (nf (x_sg x)))), ((ad 1), .inl ((ca 1), cap, .inl (nf (x_st x)))), ((ad 2), .inl ((ca 2), cap, .inl (nf (va_up (x_sp x) (x_op x (x_dp x - 1)) (x_z x - x_op x (x_dp x - 1)))))), ((ad 3), .inl ((ca 3), cap, .inl (nf (x_it x)))), ((ad 4), .inl ((ca 4), cap, .inl (nf (x_rp x)))), ((ad 5), .inl ((ca 5), 12, .inl (nf (x_op x))))]) [4, 0, 1, 5, 2, 3, 6] (by decide) rfl
      have hK9 := hK.sub (tys' := [((ca 0), .char), ((ca 1), .int), ((ca 2), .int), ((ca 3), .int), ((ca 4), .boolean), ((ca 5), .int)]) [0, 1, 2, 3, 4, 5] rfl
      exact W.zret (v := r12) hx hb hr (by rw [ra]; rfl) (fun t9 ht hW => ⟨⟨r12, (x_sg x, x_st x, va_up (x_sp x) (x_op x (x_dp x - 1)) (x_z x - x_op x (x_dp x - 1)), x_it x, x_rp x, x_op x, x_z x, x_dp x - 1, some (x_op x (x_dp x - 1))), rfl, Or.inr ⟨ra, by unfold t_take; rw [if_pos hq41]; unfold t_close; rw [if_neg (by omega)]⟩, ⟨by rw [ht]; exact hP9, va_K.moved hW.alike hK9, hD9⟩⟩, hS.F ht⟩) hS.2.2 d_T_take_10
