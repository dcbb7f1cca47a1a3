set_option maxHeartbeats 4000000 in
set_option maxRecDepth 100000 in
/-- Result.put(k) -/
theorem c_S_put (l : Launch) (htr : l.stackTraces = false) (D : va_G) (sz : Nat) (er : Nat) (ma : Nat) (cm : ClassId) (mk : Nat → Int32) (fd : Nat) (fl : Int32) (k : Int32) (hfd : fd ≤ 150) : ey_Met l y_S_put (Cond.code y_S_put b_S_put 2 none :: wal) ({ frames := 10, cells := 1, slots := 6, locals := 120 }) (va_Pc [.ref er, .int k] (pr D sz [(er, .inr (3, [.ref ma, .int (nI fd), .int fl])), (ma, .inl (cm, 150, .inl mk))] [(cm, .int)] (fun U => cx (va_A ([(er, .inr (3, [.ref ma, .int (nI fd), .int fl])), (ma, .inl (cm, 150, .inl mk))]) sz) U U.heap))) (vx (S := (Nat → Int32) × Nat) (fun v u => v = none ∧ (fd < 150 ∧ u.1 = upd mk fd k ∧ u.2 = fd + 1)) (fun xN u => xN = uoN ∧ fd = 150 ∧ u.1 = mk ∧ u.2 = fd) (fun u t9 => po D (va_A ([(er, .inr (3, [.ref ma, .int (nI fd), .int fl])), (ma, .inl (cm, 150, .inl mk))]) sz) ((fun u => [(er, .inr (3, [.ref ma, .int (nI u.2), .int fl])), (ma, .inl (cm, 150, .inl u.1))]) u) ((fun u => [(cm, .int)]) u) t9) (va_A ([(er, .inr (3, [.ref ma, .int (nI fd), .int fl])), (ma, .inl (cm, 150, .inl mk))]) sz)) (va_A ([(er, .inr (3, [.ref ma, .int (nI fd), .int fl])), (ma, .inl (cm, 150, .inl mk))]) sz) := by
  refine ey_ofW0 (cc := b_S_put) (maxL := 2) (ret := none) (by decide) rfl ?_
  intro p e s m args below meth c s₁ B hml hno hv
  obtain ⟨rfl, hsz, hP, hK, hD0, hE⟩ := hv
  have hx := B.exec
  have hb := B.bytes
  have hr := B.returns
  have hts0 := atoms_spec (ws := Cond.code y_S_put b_S_put 2 none :: wal) B.pre
  have hts : ∀ w ∈ wal, w.before _ s = true := fun w h => hts0 w (List.mem_cons_of_mem _ h)
  have hown : s.vm.findClass rc_S = some m.cls := findClass_of_methodNamed B.named
  have hlocks := B.notSynchronized
  subst hsz
  have hD := hD0.self (sz := s.heap.size)
  generalize hAe : va_A ([(er, .inr (3, [.ref ma, .int (nI fd), .int fl])), (ma, .inl (cm, 150, .inl mk))]) s.heap.size = A at hD hE ⊢
  have hA : ∀ q : Nat, s.heap.size ≤ q → A q := fun q h => by rw [← hAe]; exact Or.inr h
  have hS : va_S A s.heap s.heap [] := va_S.rf
  have hl := lv_entry ([.ref er, .int k]) (n := 2) (Nat.le_of_ble_eq_true rfl)
  rw [lg_entry_eq]
  generalize (lg_sl ([.ref er, .int k]) ++ List.replicate (2 - (lg_sl ([.ref er, .int k])).length) Slot.unset).toArray = ls at hl ⊢
  have hl : lv_has ls 2 [(0, .ref er), (1, .int k)] := hl
  refine lv_aload_n hx hb d_S_put_0 rfl (lv_at hl 0 rfl) ?_
  refine va_get (D := D) (ci := 3) (v := .int (nI fd)) (C := rc_S) (T := ft_S) (N := 3) hx hb hts in_S hown hK hP 0 rfl rfl 1 (by decide) (hts _ k_145) (fun _ h9 => h9) rfl d_S_put_1 ?_
  refine lv_sipush (v := 150) hx hb d_S_put_4 (by decide) ?_
  refine lv_icmp_lt (tgt := 20) hx hb d_S_put_7 (by decide) (fun h1 => ?_) (fun h1 => ?_)
  · have h2 : fd < 150 := Nat.not_le.mp (fun h => absurd h1 (nI_nlt (b := 150) h (by omega)))
    refine lv_aload_n hx hb d_S_put_20 rfl (lv_at hl 0 rfl) ?_
    refine va_get (D := D) (ci := 3) (v := .ref ma) (C := rc_S) (T := ft_S) (N := 3) hx hb hts in_S hown hK hP 0 rfl rfl 0 (by decide) (hts _ k_144) (fun _ h9 => h9) rfl d_S_put_21 ?_
    refine lv_aload_n hx hb d_S_put_24 rfl (lv_at hl 0 rfl) ?_
    refine va_get (D := D) (ci := 3) (v := .int (nI fd)) (C := rc_S) (T := ft_S) (N := 3) hx hb hts in_S hown hK hP 0 rfl rfl 1 (by decide) (hts _ k_145) (fun _ h9 => h9) rfl d_S_put_25 ?_
    refine lv_iload_n hx hb d_S_put_28 rfl (lv_at hl 1 rfl) ?_
    refine va_iast hx hb hK hP hD hS 1 0 rfl rfl (vp_in_nI (show fd < 150 by omega) (by decide)) d_S_put_29 (fun H locs hP hD hS => ?_)
    have hP : va_P D wcl [(er, .inr (3, [.ref ma, .int (nI fd), .int fl])), (ma, .inl (cm, 150, .inl (upd mk (nI fd).toNatClampNeg k)))] H := hP
    have hD : va_D A [(er, .inr (3, [.ref ma, .int (nI fd), .int fl])), (ma, .inl (cm, 150, .inl (upd mk (nI fd).toNatClampNeg k)))] := hD
    rw [nI_clamp (show fd < 2 ^ 31 by omega)] at hP hD
    have hP : va_P D wcl [(er, .inr (3, [.ref ma, .int (nI fd), .int fl])), (ma, .inl (cm, 150, .inl (upd mk fd k)))] H := hP
    have hD : va_D A [(er, .inr (3, [.ref ma, .int (nI fd), .int fl])), (ma, .inl (cm, 150, .inl (upd mk fd k)))] := hD
    refine lv_aload_n hx hb d_S_put_30 rfl (lv_at hl 0 rfl) ?_
    refine lv_dup hx hb d_S_put_31 rfl ?_
    refine va_get (D := D) (ci := 3) (v := .int (nI fd)) (C := rc_S) (T := ft_S) (N := 3) hx hb hts in_S hown hK hP 0 rfl rfl 1 (by decide) (hts _ k_145) (fun _ h9 => h9) rfl d_S_put_32 ?_
    refine lv_iconst (v := 1) hx hb d_S_put_35 (by decide) ?_
    refine lv_iadd hx hb d_S_put_36 ?_
    refine lv_topi (fun z9 ez9 => ?_)
    have ez9 : z9 = (nI (fd + 1)) := ez9.trans (nI_1 _)
    subst ez9
    refine va_put (D := D) (ci := 3) (v := .int (nI (fd + 1))) (ty := .int) (C := rc_S) (T := ft_S) (N := 3) hx hb hts in_S ty_S tk_S nm_S hown hK hP hD hS 0 rfl rfl 1 (by decide) (hts _ k_145) (fun _ h9 => h9) rfl (by decide +kernel) rfl rfl (Nat.le_of_ble_eq_true rfl) d_S_put_37 (fun H locs hP hD hS => ?_)
    have hP : va_P D wcl [(er, .inr (3, [.ref ma, .int (nI (fd + 1)), .int fl])), (ma, .inl (cm, 150, .inl (upd mk fd k)))] H := hP
    have hD : va_D A [(er, .inr (3, [.ref ma, .int (nI (fd + 1)), .int fl])), (ma, .inl (cm, 150, .inl (upd mk fd k)))] := hD
    have hP9 := hP.sub (ws' := [(er, .inr (3, [.ref ma, .int (nI (fd + 1)), .int fl])), (ma, .inl (cm, 150, .inl (upd mk fd k)))]) [0, 1] rfl
    have hD9 := hD.sub (ws' := [(er, .inr (3, [.ref ma, .int (nI (fd + 1)), .int fl])), (ma, .inl (cm, 150, .inl (upd mk fd k)))]) [0, 1] (by decide) rfl
    have hK9 := hK.sub (tys' := [(cm, .int)]) [0] rfl
    exact ey_ret (W.vret hx hb hr (fun t9 ht hW => ⟨⟨_, rfl⟩, ⟨(upd mk fd k, fd + 1), Or.inl ⟨_, rfl, ⟨rfl, ⟨h2, rfl, rfl⟩⟩⟩, ⟨by rw [ht]; exact hP9, va_K.moved hW.alike hK9, hD9⟩⟩, hS.F ht⟩) hS.2.2 d_S_put_40)
  · have h2 : fd = 150 := Nat.le_antisymm hfd (Nat.not_lt.mp (fun h => h1 (nI_lt (b := 150) h (by decide))))
    have hP9 := hP.sub (ws' := [(er, .inr (3, [.ref ma, .int (nI fd), .int fl])), (ma, .inl (cm, 150, .inl mk))]) [0, 1] rfl
    have hD9 := hD.sub (ws' := [(er, .inr (3, [.ref ma, .int (nI fd), .int fl])), (ma, .inl (cm, 150, .inl mk))]) [0, 1] (by decide) rfl
    have hK9 := hK.sub (tys' := [(cm, .int)]) [0] rfl
    obtain ⟨sq, hsq⟩ := hE.1.2.1 rc_S 24 "more than 150 marks" k_615
    have hca : (Cond.classLink rc_S 22 uoN :: Cond.initialized uoN :: Bundle.ownAtoms rc_S 26 uoN upN).all cx_chk = true := by decide +kernel
    exact ey_thr (ex_throwNew (xN := uoN) (up := upN) (ic := 26) (inew := 22) (istr := 24) hx hb htr hown (by decide +kernel) (by decide +kernel) (fun U hU hW w9 hw => cx_say hts hE hS hU hW (List.all_eq_true.mp hca w9 hw)) hsq (by rw [hml]; exact hl.1) d_S_put_10 d_S_put_13 d_S_put_14 d_S_put_16 d_S_put_19 (fun x9 hx9 => hno x9 hx9 _) hlocks (by decide) (by decide) (by decide) (by decide) hS.2.2 (fun t9 ce oo1 zz1 ee1 nn1 aa1 vv1 ww1 => ⟨⟨_, rfl⟩, vx_thr ((mk, fd)) (⟨rfl, h2, rfl, rfl⟩) hP9 hK9 hD9 hS oo1 zz1 ee1 nn1 aa1 vv1 ww1⟩))

set_option maxHeartbeats 4000000 in
set_option maxRecDepth 100000 in
/-- Terms.add(c0, k) -/
theorem c_T_addX (l : Launch) (D : va_G) (sz : Nat) (h : Nat) (ad : Nat → Nat) (ca : Nat → ClassId) (cap : Nat) (x : TSt) (s0 : Nat) (dm : Nat) (c0 : Nat) (k : Nat) (hx0 : t_inv cap s0 dm x) (hc0 : c0 < 65536) : Met l y_T_add (Cond.code y_T_add b_T_add 5 (some .boolean) :: wal) ({ frames := 10, cells := 0, slots := 0, locals := 120 }) (va_Pc [.ref h, .int (nI c0), .int (nI k)] (pr D sz [(h, .inr (6, [.ref (ad 0), .ref (ad 1), .ref (ad 2), .ref (ad 3), .ref (ad 4), .ref (ad 5), .int (nI (x_z x)), .int (nI s0), .int (nI (x_dp x)), .int (nI dm), .int (lI (x_la x))])), ((ad 0), .inl ((ca 0), cap, .inl (nf (x_sg x)))), ((ad 1), .inl ((ca 1), cap, .inl (nf (x_st x)))), ((ad 2), .inl ((ca 2), cap, .inl (nf (x_sp x)))), ((ad 3), .inl ((ca 3), cap, .inl (nf (x_it x)))), ((ad 4), .inl ((ca 4), cap, .inl (nf (x_rp x)))), ((ad 5), .inl ((ca 5), 12, .inl (nf (x_op x))))] [((ca 0), .char), ((ca 1), .int), ((ca 2), .int), ((ca 3), .int), ((ca 4), .boolean), ((ca 5), .int)] (fun _ => True))) (va_Qi (S := TSt) (fun r u => (r = 0 ∧ t_add cap s0 dm c0 k x = none ∧ u = x) ∨ (r = 1 ∧ t_add cap s0 dm c0 k x = some u)) (fun u t9 => po D (va_A ([(h, .inr (6, [.ref (ad 0), .ref (ad 1), .ref (ad 2), .ref (ad 3), .ref (ad 4), .ref (ad 5), .int (nI (x_z x)), .int (nI s0), .int (nI (x_dp x)), .int (nI dm), .int (lI (x_la x))])), ((ad 0), .inl ((ca 0), cap, .inl (nf (x_sg x)))), ((ad 1), .inl ((ca 1), cap, .inl (nf (x_st x)))), ((ad 2), .inl ((ca 2), cap, .inl (nf (x_sp x)))), ((ad 3), .inl ((ca 3), cap, .inl (nf (x_it x)))), ((ad 4), .inl ((ca 4), cap, .inl (nf (x_rp x)))), ((ad 5), .inl ((ca 5), 12, .inl (nf (x_op x))))]) sz) ((fun u => [(h, .inr (6, [.ref (ad 0), .ref (ad 1), .ref (ad 2), .ref (ad 3), .ref (ad 4), .ref (ad 5), .int (nI (x_z u)), .int (nI s0), .int (nI (x_dp u)), .int (nI dm), .int (lI (x_la u))])), ((ad 0), .inl ((ca 0), cap, .inl (nf (x_sg u)))), ((ad 1), .inl ((ca 1), cap, .inl (nf (x_st u)))), ((ad 2), .inl ((ca 2), cap, .inl (nf (x_sp u)))), ((ad 3), .inl ((ca 3), cap, .inl (nf (x_it u)))), ((ad 4), .inl ((ca 4), cap, .inl (nf (x_rp u)))), ((ad 5), .inl ((ca 5), 12, .inl (nf (x_op u))))]) u) ((fun u => [((ca 0), .char), ((ca 1), .int), ((ca 2), .int), ((ca 3), .int), ((ca 4), .boolean), ((ca 5), .int)]) u) t9) (va_A ([(h, .inr (6, [.ref (ad 0), .ref (ad 1), .ref (ad 2), .ref (ad 3), .ref (ad 4), .ref (ad 5), .int (nI (x_z x)), .int (nI s0), .int (nI (x_dp x)), .int (nI dm), .int (lI (x_la x))])), ((ad 0), .inl ((ca 0), cap, .inl (nf (x_sg x)))), ((ad 1), .inl ((ca 1), cap, .inl (nf (x_st x)))), ((ad 2), .inl ((ca 2), cap, .inl (nf (x_sp x)))), ((ad 3), .inl ((ca 3), cap, .inl (nf (x_it x)))), ((ad 4), .inl ((ca 4), cap, .inl (nf (x_rp x)))), ((ad 5), .inl ((ca 5), 12, .inl (nf (x_op x))))]) sz)) 0 0 (va_A ([(h, .inr (6, [.ref (ad 0), .ref (ad 1), .ref (ad 2), .ref (ad 3), .ref (ad 4), .ref (ad 5), .int (nI (x_z x)), .int (nI s0), .int (nI (x_dp x)), .int (nI dm), .int (lI (x_la x))])), ((ad 0), .inl ((ca 0), cap, .inl (nf (x_sg x)))), ((ad 1), .inl ((ca 1), cap, .inl (nf (x_st x)))), ((ad 2), .inl ((ca 2), cap, .inl (nf (x_sp x)))), ((ad 3), .inl ((ca 3), cap, .inl (nf (x_it x)))), ((ad 4), .inl ((ca 4), cap, .inl (nf (x_rp x)))), ((ad 5), .inl ((ca 5), 12, .inl (nf (x_op x))))]) sz) := by
  refine met_mono (c_T_add l D sz h ad ca cap (x_sg x) (x_st x) (x_sp x) (x_it x) (x_rp x) (x_op x) (x_z x) s0 (x_dp x) dm (lI (x_la x)) c0 k hx0.1 hx0.2.1 hx0.2.2.1 hx0.2.2.2.1 hx0.2.2.2.2.1 hx0.2.2.2.2.2.1 hc0) (fun a st o t hq => ?_)
  obtain ⟨⟨r, ⟨sg2, st2, sp2, it2, rp2, op2, z2, dp2, w5⟩, hv, hp, hB⟩, hF⟩ := hq
  rcases hp with ⟨ra, hcan, q1, q2, q3, q4, q5, q6, q7, q8, q9⟩ | ⟨ra, hcan, q1, q2, q3, q4, q5, q6, q7, q8, q9⟩
  · have q1 : sg2 = _ := q1
    have q2 : st2 = _ := q2
    have q3 : sp2 = _ := q3
    have q4 : it2 = _ := q4
    have q5 : rp2 = _ := q5
    have q6 : op2 = _ := q6
    have q7 : z2 = _ := q7
    have q8 : dp2 = _ := q8
    have q9 : w5 = lI (x_la x) := q9
    subst q1 q2 q3 q4 q5 q6 q7 q8 q9
    exact ⟨⟨r, x, hv, Or.inl ⟨ra, if_neg hcan, rfl⟩, hB⟩, hF⟩
  · have q1 : sg2 = _ := q1
    have q2 : st2 = _ := q2
    have q3 : sp2 = _ := q3
    have q4 : it2 = _ := q4
    have q5 : rp2 = _ := q5
    have q6 : op2 = _ := q6
    have q7 : z2 = _ := q7
    have q8 : dp2 = _ := q8
    have q9 : w5 = if c0 = 40 then -1 else nI (x_z x) := q9
    have w6 : w5 = lI (if c0 = 40 then none else some (x_z x)) := by rw [q9]; by_cases h9 : c0 = 40 <;> simp [h9, lI]
    subst q1 q2 q3 q4 q5 q6 q7 q8 w6
    exact ⟨⟨r, (va_up (x_sg x) (x_z x) c0, va_up (x_st x) (x_z x) k, va_up (x_sp x) (x_z x) 1, t_its (x_it x) (x_op x) (x_z x) (x_dp x), va_up (x_rp x) (x_z x) 0, (if c0 = 40 then va_up (x_op x) (x_dp x) (x_z x) else x_op x), x_z x + 1, (if c0 = 40 then x_dp x + 1 else x_dp x), (if c0 = 40 then none else some (x_z x))), hv, Or.inr ⟨ra, if_pos hcan⟩, hB⟩, hF⟩

set_option maxHeartbeats 4000000 in
set_option maxRecDepth 100000 in
/-- Terms.close() -/
theorem c_T_closeX (l : Launch) (D : va_G) (sz : Nat) (h : Nat) (ad : Nat → Nat) (ca : Nat → ClassId) (cap : Nat) (x : TSt) (s0 : Nat) (dm : Nat) (hx0 : t_inv cap s0 dm x) : Met l y_T_close (Cond.code y_T_close b_T_close 1 (some .boolean) :: wal) ({ frames := 10, cells := 0, slots := 0, locals := 120 }) (va_Pc [.ref h] (pr D sz [(h, .inr (6, [.ref (ad 0), .ref (ad 1), .ref (ad 2), .ref (ad 3), .ref (ad 4), .ref (ad 5), .int (nI (x_z x)), .int (nI s0), .int (nI (x_dp x)), .int (nI dm), .int (lI (x_la x))])), ((ad 0), .inl ((ca 0), cap, .inl (nf (x_sg x)))), ((ad 1), .inl ((ca 1), cap, .inl (nf (x_st x)))), ((ad 2), .inl ((ca 2), cap, .inl (nf (x_sp x)))), ((ad 3), .inl ((ca 3), cap, .inl (nf (x_it x)))), ((ad 4), .inl ((ca 4), cap, .inl (nf (x_rp x)))), ((ad 5), .inl ((ca 5), 12, .inl (nf (x_op x))))] [((ca 0), .char), ((ca 1), .int), ((ca 2), .int), ((ca 3), .int), ((ca 4), .boolean), ((ca 5), .int)] (fun _ => True))) (va_Qi (S := TSt) (fun r u => (r = 0 ∧ t_close x = none ∧ u = x) ∨ (r = 1 ∧ t_close x = some u)) (fun u t9 => po D (va_A ([(h, .inr (6, [.ref (ad 0), .ref (ad 1), .ref (ad 2), .ref (ad 3), .ref (ad 4), .ref (ad 5), .int (nI (x_z x)), .int (nI s0), .int (nI (x_dp x)), .int (nI dm), .int (lI (x_la x))])), ((ad 0), .inl ((ca 0), cap, .inl (nf (x_sg x)))), ((ad 1), .inl ((ca 1), cap, .inl (nf (x_st x)))), ((ad 2), .inl ((ca 2), cap, .inl (nf (x_sp x)))), ((ad 3), .inl ((ca 3), cap, .inl (nf (x_it x)))), ((ad 4), .inl ((ca 4), cap, .inl (nf (x_rp x)))), ((ad 5), .inl ((ca 5), 12, .inl (nf (x_op x))))]) sz) ((fun u => [(h, .inr (6, [.ref (ad 0), .ref (ad 1), .ref (ad 2), .ref (ad 3), .ref (ad 4), .ref (ad 5), .int (nI (x_z u)), .int (nI s0), .int (nI (x_dp u)), .int (nI dm), .int (lI (x_la u))])), ((ad 0), .inl ((ca 0), cap, .inl (nf (x_sg u)))), ((ad 1), .inl ((ca 1), cap, .inl (nf (x_st u)))), ((ad 2), .inl ((ca 2), cap, .inl (nf (x_sp u)))), ((ad 3), .inl ((ca 3), cap, .inl (nf (x_it u)))), ((ad 4), .inl ((ca 4), cap, .inl (nf (x_rp u)))), ((ad 5), .inl ((ca 5), 12, .inl (nf (x_op u))))]) u) ((fun u => [((ca 0), .char), ((ca 1), .int), ((ca 2), .int), ((ca 3), .int), ((ca 4), .boolean), ((ca 5), .int)]) u) t9) (va_A ([(h, .inr (6, [.ref (ad 0), .ref (ad 1), .ref (ad 2), .ref (ad 3), .ref (ad 4), .ref (ad 5), .int (nI (x_z x)), .int (nI s0), .int (nI (x_dp x)), .int (nI dm), .int (lI (x_la x))])), ((ad 0), .inl ((ca 0), cap, .inl (nf (x_sg x)))), ((ad 1), .inl ((ca 1), cap, .inl (nf (x_st x)))), ((ad 2), .inl ((ca 2), cap, .inl (nf (x_sp x)))), ((ad 3), .inl ((ca 3), cap, .inl (nf (x_it x)))), ((ad 4), .inl ((ca 4), cap, .inl (nf (x_rp x)))), ((ad 5), .inl ((ca 5), 12, .inl (nf (x_op x))))]) sz)) 0 0 (va_A ([(h, .inr (6, [.ref (ad 0), .ref (ad 1), .ref (ad 2), .ref (ad 3), .ref (ad 4), .ref (ad 5), .int (nI (x_z x)), .int (nI s0), .int (nI (x_dp x)), .int (nI dm), .int (lI (x_la x))])), ((ad 0), .inl ((ca 0), cap, .inl (nf (x_sg x)))), ((ad 1), .inl ((ca 1), cap, .inl (nf (x_st x)))), ((ad 2), .inl ((ca 2), cap, .inl (nf (x_sp x)))), ((ad 3), .inl ((ca 3), cap, .inl (nf (x_it x)))), ((ad 4), .inl ((ca 4), cap, .inl (nf (x_rp x)))), ((ad 5), .inl ((ca 5), 12, .inl (nf (x_op x))))]) sz) := by
  refine Met.ofW (cc := b_T_close) (maxL := 1) (ret := (some .boolean)) (by decide) rfl ?_
  intro p e s m args below meth c s₁ B hml hv
  obtain ⟨rfl, hsz, hP, hK, hD0, hE⟩ := hv
  have hx := B.exec
  have hb := B.bytes
  have hr := B.returns
  have hts0 := atoms_spec (ws := Cond.code y_T_close b_T_close 1 (some .boolean) :: wal) B.pre
  have hts : ∀ w ∈ wal, w.before _ s = true := fun w h => hts0 w (List.mem_cons_of_mem _ h)
  have hown : s.vm.findClass rc_T = some m.cls := findClass_of_methodNamed B.named
  have hlocks := B.notSynchronized
  subst hsz
  have hD := hD0.self (sz := s.heap.size)
  generalize hAe : va_A ([(h, .inr (6, [.ref (ad 0), .ref (ad 1), .ref (ad 2), .ref (ad 3), .ref (ad 4), .ref (ad 5), .int (nI (x_z x)), .int (nI s0), .int (nI (x_dp x)), .int (nI dm), .int (lI (x_la x))])), ((ad 0), .inl ((ca 0), cap, .inl (nf (x_sg x)))), ((ad 1), .inl ((ca 1), cap, .inl (nf (x_st x)))), ((ad 2), .inl ((ca 2), cap, .inl (nf (x_sp x)))), ((ad 3), .inl ((ca 3), cap, .inl (nf (x_it x)))), ((ad 4), .inl ((ca 4), cap, .inl (nf (x_rp x)))), ((ad 5), .inl ((ca 5), 12, .inl (nf (x_op x))))]) s.heap.size = A at hD ⊢
  have hA : ∀ q : Nat, s.heap.size ≤ q → A q := fun q h => by rw [← hAe]; exact Or.inr h
  have hS : va_S A s.heap s.heap [] := va_S.rf
  have hl := lv_entry ([.ref h]) (n := 1) (Nat.le_of_ble_eq_true rfl)
  rw [lg_entry_eq]
  generalize (lg_sl ([.ref h]) ++ List.replicate (1 - (lg_sl ([.ref h])).length) Slot.unset).toArray = ls at hl ⊢
  have hl : lv_has ls 1 [(0, .ref h)] := hl
  obtain ⟨i1, i2, i3, i4, i5, i6, i7, i8, i9⟩ := hx0
  refine lv_aload_n hx hb d_T_close_0 rfl (lv_at hl 0 rfl) ?_
  refine va_get (D := D) (ci := 6) (v := .int (nI (x_dp x))) (C := rc_T) (T := ft_T) (N := 11) hx hb hts in_T hown hK hP 0 rfl rfl 8 (by decide) (hts _ k_70) (fun _ h9 => h9) rfl d_T_close_1 ?_
  refine lv_if_ne (tgt := 9) hx hb d_T_close_4 (by decide) (fun h1 => ?_) (fun h1 => ?_)
  · have h2 : 0 < x_dp x := Nat.pos_of_ne_zero (fun h => h1 (by rw [h]; rfl))
    have h3 := i6 (x_dp x - 1) (by omega)
    refine lv_aload_n hx hb d_T_close_9 rfl (lv_at hl 0 rfl) ?_
    refine lv_dup hx hb d_T_close_10 rfl ?_
    refine va_get (D := D) (ci := 6) (v := .int (nI (x_dp x))) (C := rc_T) (T := ft_T) (N := 11) hx hb hts in_T hown hK hP 0 rfl rfl 8 (by decide) (hts _ k_70) (fun _ h9 => h9) rfl d_T_close_11 ?_
    refine lv_iconst (v := 1) hx hb d_T_close_14 (by decide) ?_
    refine lv_isub hx hb d_T_close_15 ?_
    refine lv_topi (fun z9 ez9 => ?_)
    have ez9 : z9 = (nI (x_dp x - 1)) := ez9.trans (nsub (b := 1) h2)
    subst ez9
    refine va_put (D := D) (ci := 6) (v := .int (nI (x_dp x - 1))) (ty := .int) (C := rc_T) (T := ft_T) (N := 11) hx hb hts in_T ty_T tk_T nm_T hown hK hP hD hS 0 rfl rfl 8 (by decide) (hts _ k_70) (fun _ h9 => h9) rfl (by decide +kernel) rfl rfl (Nat.le_of_ble_eq_true rfl) d_T_close_16 (fun H locs hP hD hS => ?_)
    have hP : va_P D wcl [(h, .inr (6, [.ref (ad 0), .ref (ad 1), .ref (ad 2), .ref (ad 3), .ref (ad 4), .ref (ad 5), .int (nI (x_z x)), .int (nI s0), .int (nI (x_dp x - 1)), .int (nI dm), .int (lI (x_la x))])), ((ad 0), .inl ((ca 0), cap, .inl (nf (x_sg x)))), ((ad 1), .inl ((ca 1), cap, .inl (nf (x_st x)))), ((ad 2), .inl ((ca 2), cap, .inl (nf (x_sp x)))), ((ad 3), .inl ((ca 3), cap, .inl (nf (x_it x)))), ((ad 4), .inl ((ca 4), cap, .inl (nf (x_rp x)))), ((ad 5), .inl ((ca 5), 12, .inl (nf (x_op x))))] H := hP
    have hD : va_D A [(h, .inr (6, [.ref (ad 0), .ref (ad 1), .ref (ad 2), .ref (ad 3), .ref (ad 4), .ref (ad 5), .int (nI (x_z x)), .int (nI s0), .int (nI (x_dp x - 1)), .int (nI dm), .int (lI (x_la x))])), ((ad 0), .inl ((ca 0), cap, .inl (nf (x_sg x)))), ((ad 1), .inl ((ca 1), cap, .inl (nf (x_st x)))), ((ad 2), .inl ((ca 2), cap, .inl (nf (x_sp x)))), ((ad 3), .inl ((ca 3), cap, .inl (nf (x_it x)))), ((ad 4), .inl ((ca 4), cap, .inl (nf (x_rp x)))), ((ad 5), .inl ((ca 5), 12, .inl (nf (x_op x))))] := hD
    refine lv_aload_n hx hb d_T_close_19 rfl (lv_at hl 0 rfl) ?_
    refine lv_aload_n hx hb d_T_close_20 rfl (lv_at hl 0 rfl) ?_
    refine va_get (D := D) (ci := 6) (v := .ref (ad 5)) (C := rc_T) (T := ft_T) (N := 11) hx hb hts in_T hown hK hP 0 rfl rfl 5 (by decide) (hts _ k_67) (fun _ h9 => h9) rfl d_T_close_21 ?_
    refine lv_aload_n hx hb d_T_close_24 rfl (lv_at hl 0 rfl) ?_
    refine va_get (D := D) (ci := 6) (v := .int (nI (x_dp x - 1))) (C := rc_T) (T := ft_T) (N := 11) hx hb hts in_T hown hK hP 0 rfl rfl 8 (by decide) (hts _ k_70) (fun _ h9 => h9) rfl d_T_close_25 ?_
    refine va_iald hx hb hK hP 6 5 rfl rfl (vp_in_nI (show x_dp x - 1 < 12 by omega) (by decide)) d_T_close_28 ?_
    refine lv_topi (fun z9 ez9 => ?_)
    have ez9 : z9 = (nI ((x_op x) (x_dp x - 1))) := ez9.trans (nf_at _ (Nat.lt_trans (show x_dp x - 1 < 12 by omega) (by decide)))
    subst ez9
    refine va_put (D := D) (ci := 6) (v := .int (nI ((x_op x) (x_dp x - 1)))) (ty := .int) (C := rc_T) (T := ft_T) (N := 11) hx hb hts in_T ty_T tk_T nm_T hown hK hP hD hS 0 rfl rfl 10 (by decide) (hts _ k_72) (fun _ h9 => h9) rfl (by decide +kernel) rfl rfl (Nat.le_of_ble_eq_true rfl) d_T_close_29 (fun H locs hP hD hS => ?_)
    have hP : va_P D wcl [(h, .inr (6, [.ref (ad 0), .ref (ad 1), .ref (ad 2), .ref (ad 3), .ref (ad 4), .ref (ad 5), .int (nI (x_z x)), .int (nI s0), .int (nI (x_dp x - 1)), .int (nI dm), .int (nI ((x_op x) (x_dp x - 1)))])), ((ad 0), .inl ((ca 0), cap, .inl (nf (x_sg x)))), ((ad 1), .inl ((ca 1), cap, .inl (nf (x_st x)))), ((ad 2), .inl ((ca 2), cap, .inl (nf (x_sp x)))), ((ad 3), .inl ((ca 3), cap, .inl (nf (x_it x)))), ((ad 4), .inl ((ca 4), cap, .inl (nf (x_rp x)))), ((ad 5), .inl ((ca 5), 12, .inl (nf (x_op x))))] H := hP
    have hD : va_D A [(h, .inr (6, [.ref (ad 0), .ref (ad 1), .ref (ad 2), .ref (ad 3), .ref (ad 4), .ref (ad 5), .int (nI (x_z x)), .int (nI s0), .int (nI (x_dp x - 1)), .int (nI dm), .int (nI ((x_op x) (x_dp x - 1)))])), ((ad 0), .inl ((ca 0), cap, .inl (nf (x_sg x)))), ((ad 1), .inl ((ca 1), cap, .inl (nf (x_st x)))), ((ad 2), .inl ((ca 2), cap, .inl (nf (x_sp x)))), ((ad 3), .inl ((ca 3), cap, .inl (nf (x_it x)))), ((ad 4), .inl ((ca 4), cap, .inl (nf (x_rp x)))), ((ad 5), .inl ((ca 5), 12, .inl (nf (x_op x))))] := hD
    refine lv_aload_n hx hb d_T_close_32 rfl (lv_at hl 0 rfl) ?_
    refine va_get (D := D) (ci := 6) (v := .ref (ad 2)) (C := rc_T) (T := ft_T) (N := 11) hx hb hts in_T hown hK hP 0 rfl rfl 2 (by decide) (hts _ k_64) (fun _ h9 => h9) rfl d_T_close_33 ?_
    refine lv_aload_n hx hb d_T_close_36 rfl (lv_at hl 0 rfl) ?_
    refine va_get (D := D) (ci := 6) (v := .int (nI ((x_op x) (x_dp x - 1)))) (C := rc_T) (T := ft_T) (N := 11) hx hb hts in_T hown hK hP 0 rfl rfl 10 (by decide) (hts _ k_72) (fun _ h9 => h9) rfl d_T_close_37 ?_
    refine lv_aload_n hx hb d_T_close_40 rfl (lv_at hl 0 rfl) ?_
    refine va_get (D := D) (ci := 6) (v := .int (nI (x_z x))) (C := rc_T) (T := ft_T) (N := 11) hx hb hts in_T hown hK hP 0 rfl rfl 6 (by decide) (hts _ k_68) (fun _ h9 => h9) rfl d_T_close_41 ?_
    refine lv_aload_n hx hb d_T_close_44 rfl (lv_at hl 0 rfl) ?_
    refine va_get (D := D) (ci := 6) (v := .int (nI ((x_op x) (x_dp x - 1)))) (C := rc_T) (T := ft_T) (N := 11) hx hb hts in_T hown hK hP 0 rfl rfl 10 (by decide) (hts _ k_72) (fun _ h9 => h9) rfl d_T_close_45 ?_
    refine lv_isub hx hb d_T_close_48 ?_
    refine lv_topi (fun z9 ez9 => ?_)
    have ez9 : z9 = (nI (x_z x - x_op x (x_dp x - 1))) := ez9.trans (nsub (Nat.le_of_lt h3))
    subst ez9
    refine va_iast hx hb hK hP hD hS 3 2 rfl rfl (vp_in_nI (show x_op x (x_dp x - 1) < cap by omega) (i1)) d_T_close_49 (fun H locs hP hD hS => ?_)
    have hP : va_P D wcl [(h, .inr (6, [.ref (ad 0), .ref (ad 1), .ref (ad 2), .ref (ad 3), .ref (ad 4), .ref (ad 5), .int (nI (x_z x)), .int (nI s0), .int (nI (x_dp x - 1)), .int (nI dm), .int (nI ((x_op x) (x_dp x - 1)))])), ((ad 0), .inl ((ca 0), cap, .inl (nf (x_sg x)))), ((ad 1), .inl ((ca 1), cap, .inl (nf (x_st x)))), ((ad 2), .inl ((ca 2), cap, .inl (upd (nf (x_sp x)) (nI (x_op x (x_dp x - 1))).toNatClampNeg (nI (x_z x - x_op x (x_dp x - 1)))))), ((ad 3), .inl ((ca 3), cap, .inl (nf (x_it x)))), ((ad 4), .inl ((ca 4), cap, .inl (nf (x_rp x)))), ((ad 5), .inl ((ca 5), 12, .inl (nf (x_op x))))] H := hP
    have hD : va_D A [(h, .inr (6, [.ref (ad 0), .ref (ad 1), .ref (ad 2), .ref (ad 3), .ref (ad 4), .ref (ad 5), .int (nI (x_z x)), .int (nI s0), .int (nI (x_dp x - 1)), .int (nI dm), .int (nI ((x_op x) (x_dp x - 1)))])), ((ad 0), .inl ((ca 0), cap, .inl (nf (x_sg x)))), ((ad 1), .inl ((ca 1), cap, .inl (nf (x_st x)))), ((ad 2), .inl ((ca 2), cap, .inl (upd (nf (x_sp x)) (nI (x_op x (x_dp x - 1))).toNatClampNeg (nI (x_z x - x_op x (x_dp x - 1)))))), ((ad 3), .inl ((ca 3), cap, .inl (nf (x_it x)))), ((ad 4), .inl ((ca 4), cap, .inl (nf (x_rp x)))), ((ad 5), .inl ((ca 5), 12, .inl (nf (x_op x))))] := hD
    rw [nf_upi (x_sp x) (Nat.lt_trans (show x_op x (x_dp x - 1) < cap by omega) (i1))] at hP hD
    have hP : va_P D wcl [(h, .inr (6, [.ref (ad 0), .ref (ad 1), .ref (ad 2), .ref (ad 3), .ref (ad 4), .ref (ad 5), .int (nI (x_z x)), .int (nI s0), .int (nI (x_dp x - 1)), .int (nI dm), .int (nI ((x_op x) (x_dp x - 1)))])), ((ad 0), .inl ((ca 0), cap, .inl (nf (x_sg x)))), ((ad 1), .inl ((ca 1), cap, .inl (nf (x_st x)))), ((ad 2), .inl ((ca 2), cap, .inl (nf (va_up (x_sp x) (x_op x (x_dp x - 1)) (x_z x - x_op x (x_dp x - 1)))))), ((ad 3), .inl ((ca 3), cap, .inl (nf (x_it x)))), ((ad 4), .inl ((ca 4), cap, .inl (nf (x_rp x)))), ((ad 5), .inl ((ca 5), 12, .inl (nf (x_op x))))] H := hP
    have hD : va_D A [(h, .inr (6, [.ref (ad 0), .ref (ad 1), .ref (ad 2), .ref (ad 3), .ref (ad 4), .ref (ad 5), .int (nI (x_z x)), .int (nI s0), .int (nI (x_dp x - 1)), .int (nI dm), .int (nI ((x_op x) (x_dp x - 1)))])), ((ad 0), .inl ((ca 0), cap, .inl (nf (x_sg x)))), ((ad 1), .inl ((ca 1), cap, .inl (nf (x_st x)))), ((ad 2), .inl ((ca 2), cap, .inl (nf (va_up (x_sp x) (x_op x (x_dp x - 1)) (x_z x - x_op x (x_dp x - 1)))))), ((ad 3), .inl ((ca 3), cap, .inl (nf (x_it x)))), ((ad 4), .inl ((ca 4), cap, .inl (nf (x_rp x)))), ((ad 5), .inl ((ca 5), 12, .inl (nf (x_op x))))] := hD
    refine lv_iconst (v := 1) hx hb d_T_close_50 (by decide) ?_
    have hP9 := hP.sub (ws' := [(h, .inr (6, [.ref (ad 0), .ref (ad 1), .ref (ad 2), .ref (ad 3), .ref (ad 4), .ref (ad 5), .int (nI (x_z x)), .int (nI s0), .int (nI (x_dp x - 1)), .int (nI dm), .int (nI ((x_op x) (x_dp x - 1)))])), ((ad 0), .inl ((ca 0), cap, .inl (nf (x_sg x)))), ((ad 1), .inl ((ca 1), cap, .inl (nf (x_st x)))), ((ad 2), .inl ((ca 2), cap, .inl (nf (va_up (x_sp x) (x_op x (x_dp x - 1)) (x_z x - x_op x (x_dp x - 1)))))), ((ad 3), .inl ((ca 3), cap, .inl (nf (x_it x)))), ((ad 4), .inl ((ca 4), cap, .inl (nf (x_rp x)))), ((ad 5), .inl ((ca 5), 12, .inl (nf (x_op x))))]) [0, 1, 2, 3, 4, 5, 6] rfl
    have hD9 := hD.sub (ws' := [(h, .inr (6, [.ref (ad 0), .ref (ad 1), .ref (ad 2), .ref (ad 3), .ref (ad 4), .ref (ad 5), .int (nI (x_z x)), .int (nI s0), .int (nI (x_dp x - 1)), .int (nI dm), .int (nI ((x_op x) (x_dp x - 1)))])), ((ad 0), .inl ((ca 0), cap, .inl (nf (x_sg x)))), ((ad 1), .inl ((ca 1), cap, .inl (nf (x_st x)))), ((ad 2), .inl ((ca 2), cap, .inl (nf (va_up (x_sp x) (x_op x (x_dp x - 1)) (x_z x - x_op x (x_dp x - 1)))))), ((ad 3), .inl ((ca 3), cap, .inl (nf (x_it x)))), ((ad 4), .inl ((ca 4), cap, .inl (nf (x_rp x)))), ((ad 5), .inl ((ca 5), 12, .inl (nf (x_op x))))]) [0, 1, 2, 3, 4, 5, 6] (by decide) rfl
    have hK9 := hK.sub (tys' := [((ca 0), .char), ((ca 1), .int), ((ca 2), .int), ((ca 3), .int), ((ca 4), .boolean), ((ca 5), .int)]) [0, 1, 2, 3, 4, 5] rfl
    exact W.zret (v := 1) hx hb hr (by decide) (fun t9 ht hW => ⟨⟨1, (x_sg x, x_st x, va_up (x_sp x) (x_op x (x_dp x - 1)) (x_z x - x_op x (x_dp x - 1)), x_it x, x_rp x, x_op x, x_z x, x_dp x - 1, some (x_op x (x_dp x - 1))), rfl, Or.inr ⟨rfl, by unfold t_close; rw [if_neg (by omega)]⟩, ⟨by rw [ht]; exact hP9, va_K.moved hW.alike hK9, hD9⟩⟩, hS.F ht⟩) hS.2.2 d_T_close_51
  · have h2 : x_dp x = 0 := nI_inj (b := 0) (by omega) (by decide) h1
    refine lv_iconst (v := 0) hx hb d_T_close_7 (by decide) ?_
    have hP9 := hP.sub (ws' := [(h, .inr (6, [.ref (ad 0), .ref (ad 1), .ref (ad 2), .ref (ad 3), .ref (ad 4), .ref (ad 5), .int (nI (x_z x)), .int (nI s0), .int (nI (x_dp x)), .int (nI dm), .int (lI (x_la x))])), ((ad 0), .inl ((ca 0), cap, .inl (nf (x_sg x)))), ((ad 1), .inl ((ca 1), cap, .inl (nf (x_st x)))), ((ad 2), .inl ((ca 2), cap, .inl (nf (x_sp x)))), ((ad 3), .inl ((ca 3), cap, .inl (nf (x_it x)))), ((ad 4), .inl ((ca 4), cap, .inl (nf (x_rp x)))), ((ad 5), .inl ((ca 5), 12, .inl (nf (x_op x))))]) [0, 1, 2, 3, 4, 5, 6] rfl
    have hD9 := hD.sub (ws' := [(h, .inr (6, [.ref (ad 0), .ref (ad 1), .ref (ad 2), .ref (ad 3), .ref (ad 4), .ref (ad 5), .int (nI (x_z x)), .int (nI s0), .int (nI (x_dp x)), .int (nI dm), .int (lI (x_la x))])), ((ad 0), .inl ((ca 0), cap, .inl (nf (x_sg x)))), ((ad 1), .inl ((ca 1), cap, .inl (nf (x_st x)))), ((ad 2), .inl ((ca 2), cap, .inl (nf (x_sp x)))), ((ad 3), .inl ((ca 3), cap, .inl (nf (x_it x)))), ((ad 4), .inl ((ca 4), cap, .inl (nf (x_rp x)))), ((ad 5), .inl ((ca 5), 12, .inl (nf (x_op x))))]) [0, 1, 2, 3, 4, 5, 6] (by decide) rfl
    have hK9 := hK.sub (tys' := [((ca 0), .char), ((ca 1), .int), ((ca 2), .int), ((ca 3), .int), ((ca 4), .boolean), ((ca 5), .int)]) [0, 1, 2, 3, 4, 5] rfl
    exact W.zret (v := 0) hx hb hr (by decide) (fun t9 ht hW => ⟨⟨0, x, rfl, Or.inl ⟨rfl, by unfold t_close; rw [if_pos h2], rfl⟩, ⟨by rw [ht]; exact hP9, va_K.moved hW.alike hK9, hD9⟩⟩, hS.F ht⟩) hS.2.2 d_T_close_8
