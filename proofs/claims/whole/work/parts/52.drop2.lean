set_option maxHeartbeats 4000000 in
set_option maxRecDepth 100000 in
/-- RuleBook.drop(c0) -/
theorem c_B_drop (l : Launch) (D : va_G) (sz : Nat) (h : Nat) (ba : Nat) (cb : ClassId) (bf : Nat → Option Nat) (ca : Nat → ClassId) (ck : ClassId) (rt : Nat → RSt) (n : Nat) (c0 : Nat) (hbf : ∀ j, j < 13 → bf j = some (rt j).1) (hok : ∀ j, j < 13 → r_ok (rt j)) (hn : n ≤ 13) (hc0 : c0 < 65536) : Met l y_B_drop (Cond.code y_B_drop b_B_drop 6 (some .int) :: wal) ({ frames := 12, cells := 0, slots := 0, locals := 240 }) (va_Pc [.ref h, .int (nI c0)] (pr D sz (([(h, .inr (5, [.ref ba, .int (nI n)])), (ba, .inl (cb, 13, .inr (.inr (.inr (.inr bf)))))] : va_W) ++ w_al 13 (fun j => r_cl ca ck (rt j))) [(cb, .object rc_R), ((ca 0), .char), ((ca 1), .int), ((ca 2), .int), ((ca 3), .int), ((ca 4), .boolean), ((ca 5), .int), (ck, .int)] (fun _ => True))) (va_Qi (S := (Nat → Option Nat) × (Nat → RSt) × Nat) (fun r u => r = nI (n - u.2.2) ∧ u.2.2 ≤ n ∧ r_dr c0 n 0 0 rt = (u.2.1, u.2.2) ∧ (∀ j, j < 13 → u.1 j = some (u.2.1 j).1) ∧ (∀ j, j < 13 → r_ok (u.2.1 j))) (fun u t9 => po D (va_A (([(h, .inr (5, [.ref ba, .int (nI n)])), (ba, .inl (cb, 13, .inr (.inr (.inr (.inr bf)))))] : va_W) ++ w_al 13 (fun j => r_cl ca ck (rt j))) sz) ((fun u => (([(h, .inr (5, [.ref ba, .int (nI u.2.2)])), (ba, .inl (cb, 13, .inr (.inr (.inr (.inr u.1)))))] : va_W) ++ w_al 13 (fun j => r_cl ca ck (u.2.1 j)))) u) ((fun u => [(cb, .object rc_R), ((ca 0), .char), ((ca 1), .int), ((ca 2), .int), ((ca 3), .int), ((ca 4), .boolean), ((ca 5), .int), (ck, .int)]) u) t9) (va_A (([(h, .inr (5, [.ref ba, .int (nI n)])), (ba, .inl (cb, 13, .inr (.inr (.inr (.inr bf)))))] : va_W) ++ w_al 13 (fun j => r_cl ca ck (rt j))) sz)) 0 0 (va_A (([(h, .inr (5, [.ref ba, .int (nI n)])), (ba, .inl (cb, 13, .inr (.inr (.inr (.inr bf)))))] : va_W) ++ w_al 13 (fun j => r_cl ca ck (rt j))) sz) := by
  refine Met.ofW (cc := b_B_drop) (maxL := 6) (ret := (some .int)) (by decide) rfl ?_
  intro p e s m args below meth c s₁ B hml hv
  obtain ⟨rfl, hsz, hP, hK, hD0, hE⟩ := hv
  have hx := B.exec
  have hb := B.bytes
  have hr := B.returns
  have hts0 := atoms_spec (ws := Cond.code y_B_drop b_B_drop 6 (some .int) :: wal) B.pre
  have hts : ∀ w ∈ wal, w.before _ s = true := fun w h => hts0 w (List.mem_cons_of_mem _ h)
  have hown : s.vm.findClass rc_B = some m.cls := findClass_of_methodNamed B.named
  have hlocks := B.notSynchronized
  subst hsz
  have hD := hD0.self (sz := s.heap.size)
  generalize hAe : va_A (([(h, .inr (5, [.ref ba, .int (nI n)])), (ba, .inl (cb, 13, .inr (.inr (.inr (.inr bf)))))] : va_W) ++ w_al 13 (fun j => r_cl ca ck (rt j))) s.heap.size = A at hD ⊢
  have hA : ∀ q : Nat, s.heap.size ≤ q → A q := fun q h => by rw [← hAe]; exact Or.inr h
  have hS : va_S A s.heap s.heap [] := va_S.rf
  have hl := lv_entry ([.ref h, .int (nI c0)]) (n := 6) (Nat.le_of_ble_eq_true rfl)
  rw [lg_entry_eq]
  generalize (lg_sl ([.ref h, .int (nI c0)]) ++ List.replicate (6 - (lg_sl ([.ref h, .int (nI c0)])).length) Slot.unset).toArray = ls at hl ⊢
  have hl : lv_has ls 6 [(0, .ref h), (1, .int (nI c0))] := hl
  refine lv_aload_n hx hb d_B_drop_0 rfl (lv_at hl 0 rfl) ?_
  refine va_get (D := D) (ci := 5) (v := .int (nI n)) (C := rc_B) (T := ft_B) (N := 2) hx hb hts in_B hown hK hP 0 rfl rfl 1 (by decide) (hts _ k_109) (fun _ h9 => h9) rfl d_B_drop_1 ?_
  refine lv_istore_n hx hb d_B_drop_4 rfl hl (by decide) rfl (fun ls hl => ?_)
  have hl : lv_has ls 6 [(2, .int (nI n)), (0, .ref h), (1, .int (nI c0))] := hl
  refine lv_iconst (v := 0) hx hb d_B_drop_5 (by decide) ?_
  refine lv_istore_n hx hb d_B_drop_6 rfl hl (by decide) rfl (fun ls hl => ?_)
  have hl : lv_has ls 6 [(3, .int 0), (2, .int (nI n)), (0, .ref h), (1, .int (nI c0))] := hl
  refine lv_iconst (v := 0) hx hb d_B_drop_7 (by decide) ?_
  refine lv_istore hx hb d_B_drop_8 hl (by decide) rfl (fun ls hl => ?_)
  have hl : lv_has ls 6 [(4, .int 0), (3, .int 0), (2, .int (nI n)), (0, .ref h), (1, .int (nI c0))] := hl
  have key : ∀ (d : Nat) (i : Nat) (kp : Nat) (rt1 : Nat → RSt) (bf1 : Nat → Option Nat) (H : Heap) (locs : List Loc) (ls : Array Slot), n - i < d → (i ≤ n) → (kp ≤ i) → (∀ j, j < 13 → bf1 j = some (rt1 j).1) → (∀ j, j < 13 → r_ok (rt1 j)) → (r_dr c0 (n - i) i kp rt1 = r_dr c0 n 0 0 rt) → va_P D wcl (([(h, .inr (5, [.ref ba, .int (nI n)])), (ba, .inl (cb, 13, .inr (.inr (.inr (.inr bf1)))))] : va_W) ++ w_al 13 (fun j => r_cl ca ck (rt1 j))) H → va_D A (([(h, .inr (5, [.ref ba, .int (nI n)])), (ba, .inl (cb, 13, .inr (.inr (.inr (.inr bf1)))))] : va_W) ++ w_al 13 (fun j => r_cl ca ck (rt1 j))) → va_S A s.heap H locs → lv_has ls 6 [(4, .int (nI i)), (3, .int (nI kp)), (2, .int (nI n)), (0, .ref h), (1, .int (nI c0))] → W p l e (headSpec (Cond.code y_B_drop b_B_drop 6 (some .int) :: wal) ({ frames := 12, cells := 0, slots := 0, locals := 240 })).room s m ([.ref h, .int (nI c0)] : List Value).toArray below meth c H locs 0 0 (MQ below (va_Qi (S := (Nat → Option Nat) × (Nat → RSt) × Nat) (fun r u => r = nI (n - u.2.2) ∧ u.2.2 ≤ n ∧ r_dr c0 n 0 0 rt = (u.2.1, u.2.2) ∧ (∀ j, j < 13 → u.1 j = some (u.2.1 j).1) ∧ (∀ j, j < 13 → r_ok (u.2.1 j))) (fun u t9 => po D (A) ((fun u => (([(h, .inr (5, [.ref ba, .int (nI u.2.2)])), (ba, .inl (cb, 13, .inr (.inr (.inr (.inr u.1)))))] : va_W) ++ w_al 13 (fun j => r_cl ca ck (u.2.1 j)))) u) ((fun u => [(cb, .object rc_R), ((ca 0), .char), ((ca 1), .int), ((ca 2), .int), ((ca 3), .int), ((ca 4), .boolean), ((ca 5), .int), (ck, .int)]) u) t9) (A)) ([.ref h, .int (nI c0)] : List Value).toArray s 0 0 A) (F0 m 10 ls []) := by
    intro d
    induction d with
    | zero => intro i kp rt1 bf1 H locs ls hd; exact absurd hd (Nat.not_lt_zero _)
    | succ d ih =>
      intro i kp rt1 bf1 H locs ls hd hi hkp hbf1 hok1 hv hP hD hS hl
      refine lv_iload hx hb d_B_drop_10 (lv_at hl 0 rfl) ?_
      refine lv_iload_n hx hb d_B_drop_12 rfl (lv_at hl 2 rfl) ?_
      refine lv_icmp_ge (tgt := 64) hx hb d_B_drop_13 (by decide) (fun h1 => ?_) (fun h1 => ?_)
      · have h2 : ¬ i < n := fun h => absurd h1 (nI_ge h (by omega))
        have e0 : n - i = 0 := by omega
        rw [e0, r_dr] at hv
        refine lv_aload_n hx hb d_B_drop_64 rfl (lv_at hl 3 rfl) ?_
        refine lv_iload_n hx hb d_B_drop_65 rfl (lv_at hl 1 rfl) ?_
        refine va_put (D := D) (ci := 5) (v := .int (nI kp)) (ty := .int) (C := rc_B) (T := ft_B) (N := 2) hx hb hts in_B ty_B tk_B nm_B hown hK hP hD hS 0 rfl rfl 1 (by decide) (hts _ k_109) (fun _ h9 => h9) rfl (by decide +kernel) rfl rfl (Nat.le_of_ble_eq_true rfl) d_B_drop_66 (fun H locs hP hD hS => ?_)
        have hP : va_P D wcl (([(h, .inr (5, [.ref ba, .int (nI kp)])), (ba, .inl (cb, 13, .inr (.inr (.inr (.inr bf1)))))] : va_W) ++ w_al 13 (fun j => r_cl ca ck (rt1 j))) H := hP
        have hD : va_D A (([(h, .inr (5, [.ref ba, .int (nI kp)])), (ba, .inl (cb, 13, .inr (.inr (.inr (.inr bf1)))))] : va_W) ++ w_al 13 (fun j => r_cl ca ck (rt1 j))) := hD
        refine lv_iload_n hx hb d_B_drop_69 rfl (lv_at hl 2 rfl) ?_
        refine lv_iload_n hx hb d_B_drop_70 rfl (lv_at hl 1 rfl) ?_
        refine lv_isub hx hb d_B_drop_71 ?_
        refine lv_topi (fun z9 ez9 => ?_)
        have ez9 : z9 = (nI (n - kp)) := ez9.trans (nsub (by omega))
        subst ez9
        have hP9 : va_P D wcl (([(h, .inr (5, [.ref ba, .int (nI kp)])), (ba, .inl (cb, 13, .inr (.inr (.inr (.inr bf1)))))] : va_W) ++ w_al 13 (fun j => r_cl ca ck (rt1 j))) _ := hP.part [0, 1] rfl
        have hD9 : va_D A (([(h, .inr (5, [.ref ba, .int (nI kp)])), (ba, .inl (cb, 13, .inr (.inr (.inr (.inr bf1)))))] : va_W) ++ w_al 13 (fun j => r_cl ca ck (rt1 j))) := hD.part [0, 1] (by decide) rfl
        have hK9 := hK.sub (tys' := [(cb, .object rc_R), ((ca 0), .char), ((ca 1), .int), ((ca 2), .int), ((ca 3), .int), ((ca 4), .boolean), ((ca 5), .int), (ck, .int)]) [0, 1, 2, 3, 4, 5, 6, 7] rfl
        exact W.iret (v := (nI (n - kp))) hx hb hr (fun t9 ht hW => ⟨⟨(nI (n - kp)), (bf1, rt1, kp), rfl, ⟨rfl, Nat.le_trans hkp hi, hv.symm, hbf1, hok1⟩, ⟨by rw [ht]; exact hP9, va_K.moved hW.alike hK9, hD9⟩⟩, hS.F ht⟩) hS.2.2 d_B_drop_72
      · have h2 : i < n := Nat.not_le.mp (fun h => h1 (nI_le h (by omega)))
        obtain ⟨k9, hk9⟩ : ∃ k9, n - i = k9 + 1 := ⟨n - i - 1, by omega⟩
        rw [hk9, r_dr] at hv
        refine lv_aload_n hx hb d_B_drop_16 rfl (lv_at hl 3 rfl) ?_
        refine va_get (D := D) (ci := 5) (v := .ref ba) (C := rc_B) (T := ft_B) (N := 2) hx hb hts in_B hown hK hP 0 rfl rfl 0 (by decide) (hts _ k_108) (fun _ h9 => h9) rfl d_B_drop_17 ?_
        refine lv_iload hx hb d_B_drop_20 (lv_at hl 0 rfl) ?_
        obtain ⟨r0, tt, kn, ad, x, kf, v0, v2, v3, v4, v5, hq⟩ : ∃ r0 tt kn ad x kf v0 v2 v3 v4 v5, rt1 i = (r0, tt, kn, ad, x, kf, v0, v2, v3, v4, v5) := ⟨_, _, _, _, _, _, _, _, _, _, _, rfl⟩
        have hP : va_P D wcl (([(h, .inr (5, [.ref ba, .int (nI n)])), (ba, .inl (cb, 13, .inr (.inr (.inr (.inr bf1))))), (r0, .inr (4, [.ref tt, .ref kn, .int v0])), (tt, .inr (6, [.ref (ad 0), .ref (ad 1), .ref (ad 2), .ref (ad 3), .ref (ad 4), .ref (ad 5), .int (nI (x_z x)), .int v2, .int v3, .int v4, .int v5])), ((ad 0), .inl ((ca 0), 60, .inl (nf (x_sg x)))), ((ad 1), .inl ((ca 1), 60, .inl (nf (x_st x)))), ((ad 2), .inl ((ca 2), 60, .inl (nf (x_sp x)))), ((ad 3), .inl ((ca 3), 60, .inl (nf (x_it x)))), ((ad 4), .inl ((ca 4), 60, .inl (nf (x_rp x)))), ((ad 5), .inl ((ca 5), 12, .inl (nf (x_op x)))), (kn, .inl (ck, 26, .inl (nf kf)))] : va_W) ++ w_ot 13 (fun j => r_cl ca ck (rt1 j)) i) H := by
          have h9 := hP.foc (X := [(h, .inr (5, [.ref ba, .int (nI n)])), (ba, .inl (cb, 13, .inr (.inr (.inr (.inr bf1)))))]) (f := (fun j => r_cl ca ck (rt1 j))) (i := i) (by omega)
          have h9 : va_P D wcl ((([(h, .inr (5, [.ref ba, .int (nI n)])), (ba, .inl (cb, 13, .inr (.inr (.inr (.inr bf1)))))] : va_W) ++ r_cl ca ck (rt1 i)) ++ w_ot 13 (fun j => r_cl ca ck (rt1 j)) i) H := h9
          rw [hq] at h9
          exact h9
        have hD : va_D A (([(h, .inr (5, [.ref ba, .int (nI n)])), (ba, .inl (cb, 13, .inr (.inr (.inr (.inr bf1))))), (r0, .inr (4, [.ref tt, .ref kn, .int v0])), (tt, .inr (6, [.ref (ad 0), .ref (ad 1), .ref (ad 2), .ref (ad 3), .ref (ad 4), .ref (ad 5), .int (nI (x_z x)), .int v2, .int v3, .int v4, .int v5])), ((ad 0), .inl ((ca 0), 60, .inl (nf (x_sg x)))), ((ad 1), .inl ((ca 1), 60, .inl (nf (x_st x)))), ((ad 2), .inl ((ca 2), 60, .inl (nf (x_sp x)))), ((ad 3), .inl ((ca 3), 60, .inl (nf (x_it x)))), ((ad 4), .inl ((ca 4), 60, .inl (nf (x_rp x)))), ((ad 5), .inl ((ca 5), 12, .inl (nf (x_op x)))), (kn, .inl (ck, 26, .inl (nf kf)))] : va_W) ++ w_ot 13 (fun j => r_cl ca ck (rt1 j)) i) := by
          have h9 := hD.foc (X := [(h, .inr (5, [.ref ba, .int (nI n)])), (ba, .inl (cb, 13, .inr (.inr (.inr (.inr bf1)))))]) (f := (fun j => r_cl ca ck (rt1 j))) (i := i) (by omega)
          have h9 : va_D A ((([(h, .inr (5, [.ref ba, .int (nI n)])), (ba, .inl (cb, 13, .inr (.inr (.inr (.inr bf1)))))] : va_W) ++ r_cl ca ck (rt1 i)) ++ w_ot 13 (fun j => r_cl ca ck (rt1 j)) i) := h9
          rw [hq] at h9
          exact h9
        have hr1 : (rt1 i).1 = r0 := by rw [hq]
        have hf : bf1 i = some r0 := by rw [hbf1 i (by omega), hr1]
        refine va_aldq hx hb hK hP 1 0 rfl rfl (vp_in_nI (n := i) (N := 13) (by omega) (by decide)) d_B_drop_22 ?_
        have e0 : va_rf (bf1 (nI i).toNatClampNeg) = .ref r0 := by rw [nI_clamp (by omega), hf]; rfl
        rw [e0]
        refine lv_astore hx hb d_B_drop_23 hl (by decide) rfl (fun ls hl => ?_)
        have hl : lv_has ls 6 [(5, .ref r0), (4, .int (nI i)), (3, .int (nI kp)), (2, .int (nI n)), (0, .ref h), (1, .int (nI c0))] := hl
        refine lv_aload hx hb d_B_drop_25 (lv_at hl 0 rfl) ?_
        have hoi : r_ok (r0, tt, kn, ad, x, kf, v0, v2, v3, v4, v5) := hq ▸ hok1 i (by omega)
        have hmc : r_mc (rt1 i) = x_sg x 1 := by rw [hq]; rfl
        refine cl_iQ (wc := [(r0, .inr (4, [.ref tt, .ref kn, .int v0])), (tt, .inr (6, [.ref (ad 0), .ref (ad 1), .ref (ad 2), .ref (ad 3), .ref (ad 4), .ref (ad 5), .int (nI (x_z x)), .int v2, .int v3, .int v4, .int v5])), ((ad 0), .inl ((ca 0), 60, .inl (nf (x_sg x))))]) (wr := [(h, .inr (5, [.ref ba, .int (nI n)])), (ba, .inl (cb, 13, .inr (.inr (.inr (.inr bf1))))), ((ad 1), .inl ((ca 1), 60, .inl (nf (x_st x)))), ((ad 2), .inl ((ca 2), 60, .inl (nf (x_sp x)))), ((ad 3), .inl ((ca 3), 60, .inl (nf (x_it x)))), ((ad 4), .inl ((ca 4), 60, .inl (nf (x_rp x)))), ((ad 5), .inl ((ca 5), 12, .inl (nf (x_op x)))), (kn, .inl (ck, 26, .inl (nf kf)))]) hP hD hK hS hA [2, 3, 4] [0, 1, 5, 6, 7, 8, 9, 10] rfl rfl (by decide) (by decide) (va_runV (As := []) (rest := []) ⟨hx, hb, hml, hown, hts⟩ (c_R_macro l D H.size r0 tt kn v0 ad ca 60 (x_sg x) (nI (x_z x)) v2 v3 v4 v5 (by decide) (by decide) (hoi.1.2.2.1 1)) (cw_V hts 0 k_211 k_4 k_208 k_209 k_210 (by decide +kernel) ⟨Nat.le_of_ble_eq_true rfl, Nat.le_of_ble_eq_true rfl⟩) (pr_V hP.lft hD.lft hK [2, 3, 4] [1] (by decide) rfl rfl (fun U hU hW => trivial) (fun U g mk a h => h) (q0 := 2) (ci := 4) rfl rfl) rfl rfl hl.1 rfl (lv_room (Nat.le_of_ble_eq_true rfl)) d_B_drop_27 ⟨by decide, by decide⟩) (fun r2 u H locs h1 hP hD hK hS => ?_)
        have hP : va_P D wcl (([(h, .inr (5, [.ref ba, .int (nI n)])), (ba, .inl (cb, 13, .inr (.inr (.inr (.inr bf1))))), ((ad 1), .inl ((ca 1), 60, .inl (nf (x_st x)))), ((ad 2), .inl ((ca 2), 60, .inl (nf (x_sp x)))), ((ad 3), .inl ((ca 3), 60, .inl (nf (x_it x)))), ((ad 4), .inl ((ca 4), 60, .inl (nf (x_rp x)))), ((ad 5), .inl ((ca 5), 12, .inl (nf (x_op x)))), (kn, .inl (ck, 26, .inl (nf kf))), (r0, .inr (4, [.ref tt, .ref kn, .int v0])), (tt, .inr (6, [.ref (ad 0), .ref (ad 1), .ref (ad 2), .ref (ad 3), .ref (ad 4), .ref (ad 5), .int (nI (x_z x)), .int v2, .int v3, .int v4, .int v5])), ((ad 0), .inl ((ca 0), 60, .inl (nf (x_sg x))))] : va_W) ++ w_ot 13 (fun j => r_cl ca ck (rt1 j)) i) H := hP
        have hD : va_D A (([(h, .inr (5, [.ref ba, .int (nI n)])), (ba, .inl (cb, 13, .inr (.inr (.inr (.inr bf1))))), ((ad 1), .inl ((ca 1), 60, .inl (nf (x_st x)))), ((ad 2), .inl ((ca 2), 60, .inl (nf (x_sp x)))), ((ad 3), .inl ((ca 3), 60, .inl (nf (x_it x)))), ((ad 4), .inl ((ca 4), 60, .inl (nf (x_rp x)))), ((ad 5), .inl ((ca 5), 12, .inl (nf (x_op x)))), (kn, .inl (ck, 26, .inl (nf kf))), (r0, .inr (4, [.ref tt, .ref kn, .int v0])), (tt, .inr (6, [.ref (ad 0), .ref (ad 1), .ref (ad 2), .ref (ad 3), .ref (ad 4), .ref (ad 5), .int (nI (x_z x)), .int v2, .int v3, .int v4, .int v5])), ((ad 0), .inl ((ca 0), 60, .inl (nf (x_sg x))))] : va_W) ++ w_ot 13 (fun j => r_cl ca ck (rt1 j)) i) := hD
        have hK : va_K D wcl [(cb, .object rc_R), ((ca 0), .char), ((ca 1), .int), ((ca 2), .int), ((ca 3), .int), ((ca 4), .boolean), ((ca 5), .int), (ck, .int), ((ca 0), .char)] s := hK
        have h1 : r2 = nI ((x_sg x) 1) := h1
        rw [← hmc] at h1
        subst h1
        have hml1 : r_mc (rt1 i) < 65536 := by rw [hmc]; exact hoi.1.2.2.1 1
        have hP : va_P D wcl (([(h, .inr (5, [.ref ba, .int (nI n)])), (ba, .inl (cb, 13, .inr (.inr (.inr (.inr bf1))))), (r0, .inr (4, [.ref tt, .ref kn, .int v0])), (tt, .inr (6, [.ref (ad 0), .ref (ad 1), .ref (ad 2), .ref (ad 3), .ref (ad 4), .ref (ad 5), .int (nI (x_z x)), .int v2, .int v3, .int v4, .int v5])), ((ad 0), .inl ((ca 0), 60, .inl (nf (x_sg x)))), ((ad 1), .inl ((ca 1), 60, .inl (nf (x_st x)))), ((ad 2), .inl ((ca 2), 60, .inl (nf (x_sp x)))), ((ad 3), .inl ((ca 3), 60, .inl (nf (x_it x)))), ((ad 4), .inl ((ca 4), 60, .inl (nf (x_rp x)))), ((ad 5), .inl ((ca 5), 12, .inl (nf (x_op x)))), (kn, .inl (ck, 26, .inl (nf kf)))] : va_W) ++ w_ot 13 (fun j => r_cl ca ck (rt1 j)) i) _ := hP.part [0, 1, 8, 9, 10, 2, 3, 4, 5, 6, 7] rfl
        have hD : va_D A (([(h, .inr (5, [.ref ba, .int (nI n)])), (ba, .inl (cb, 13, .inr (.inr (.inr (.inr bf1))))), (r0, .inr (4, [.ref tt, .ref kn, .int v0])), (tt, .inr (6, [.ref (ad 0), .ref (ad 1), .ref (ad 2), .ref (ad 3), .ref (ad 4), .ref (ad 5), .int (nI (x_z x)), .int v2, .int v3, .int v4, .int v5])), ((ad 0), .inl ((ca 0), 60, .inl (nf (x_sg x)))), ((ad 1), .inl ((ca 1), 60, .inl (nf (x_st x)))), ((ad 2), .inl ((ca 2), 60, .inl (nf (x_sp x)))), ((ad 3), .inl ((ca 3), 60, .inl (nf (x_it x)))), ((ad 4), .inl ((ca 4), 60, .inl (nf (x_rp x)))), ((ad 5), .inl ((ca 5), 12, .inl (nf (x_op x)))), (kn, .inl (ck, 26, .inl (nf kf)))] : va_W) ++ w_ot 13 (fun j => r_cl ca ck (rt1 j)) i) := hD.part [0, 1, 8, 9, 10, 2, 3, 4, 5, 6, 7] (by decide) rfl
        have hP : va_P D wcl (([(h, .inr (5, [.ref ba, .int (nI n)])), (ba, .inl (cb, 13, .inr (.inr (.inr (.inr bf1)))))] : va_W) ++ w_al 13 (fun j => r_cl ca ck (rt1 j))) H := hP.unf (X := [(h, .inr (5, [.ref ba, .int (nI n)])), (ba, .inl (cb, 13, .inr (.inr (.inr (.inr bf1)))))]) (g := r_cl ca ck (r0, tt, kn, ad, x, kf, v0, v2, v3, v4, v5)) (f := (fun j => r_cl ca ck (rt1 j))) (f' := (fun j => r_cl ca ck (rt1 j))) (i := i) (by omega) (by show r_cl ca ck (rt1 i) = _; rw [hq]) (fun _ _ => rfl)
        have hD : va_D A (([(h, .inr (5, [.ref ba, .int (nI n)])), (ba, .inl (cb, 13, .inr (.inr (.inr (.inr bf1)))))] : va_W) ++ w_al 13 (fun j => r_cl ca ck (rt1 j))) := hD.unf (X := [(h, .inr (5, [.ref ba, .int (nI n)])), (ba, .inl (cb, 13, .inr (.inr (.inr (.inr bf1)))))]) (g := r_cl ca ck (r0, tt, kn, ad, x, kf, v0, v2, v3, v4, v5)) (f := (fun j => r_cl ca ck (rt1 j))) (f' := (fun j => r_cl ca ck (rt1 j))) (i := i) (by omega) (by show r_cl ca ck (rt1 i) = _; rw [hq]) (fun _ _ => rfl)
        have hK := hK.sub (tys' := [(cb, .object rc_R), ((ca 0), .char), ((ca 1), .int), ((ca 2), .int), ((ca 3), .int), ((ca 4), .boolean), ((ca 5), .int), (ck, .int)]) [0, 1, 2, 3, 4, 5, 6, 7] rfl
        refine lv_iload_n hx hb d_B_drop_30 rfl (lv_at hl 5 rfl) ?_
        refine lv_icmp_eq (tgt := 58) hx hb d_B_drop_31 (by decide) (fun h3 => ?_) (fun h3 => ?_)
        · have h4 : r_mc (rt1 i) = c0 := (ceq hml1 hc0).mp h3
          rw [if_pos h4] at hv
          refine lv_iinc (k := 1) (v := nI (i + 1)) hx hb d_B_drop_58 hl rfl (nI_1 i) (by decide) rfl (fun ls hl => ?_)
          have hl : lv_has ls 6 [(4, .int (nI (i + 1))), (5, .ref r0), (3, .int (nI kp)), (2, .int (nI n)), (0, .ref h), (1, .int (nI c0))] := hl
          refine lv_goto (tgt := 10) hx hb d_B_drop_61 (by decide) ?_
          have hl := lv_sub hl [0, 2, 3, 4, 5] rfl
          have hl : lv_has ls 6 [(4, .int (nI (i + 1))), (3, .int (nI kp)), (2, .int (nI n)), (0, .ref h), (1, .int (nI c0))] := hl
          exact ih (i + 1) kp rt1 bf1 H locs ls (by omega) (by omega) (by omega) (hbf1) (hok1) (by rw [show n - (i + 1) = k9 by omega]; exact hv) hP hD hS hl
        · have h4 : ¬ r_mc (rt1 i) = c0 := fun q => h3 (by rw [q])
          rw [if_neg h4] at hv
          refine lv_aload_n hx hb d_B_drop_34 rfl (lv_at hl 4 rfl) ?_
          refine va_get (D := D) (ci := 5) (v := .ref ba) (C := rc_B) (T := ft_B) (N := 2) hx hb hts in_B hown hK hP 0 rfl rfl 0 (by decide) (hts _ k_108) (fun _ h9 => h9) rfl d_B_drop_35 ?_
          refine lv_iload hx hb d_B_drop_38 (lv_at hl 1 rfl) ?_
          refine lv_aload_n hx hb d_B_drop_40 rfl (lv_at hl 4 rfl) ?_
          refine va_get (D := D) (ci := 5) (v := .ref ba) (C := rc_B) (T := ft_B) (N := 2) hx hb hts in_B hown hK hP 0 rfl rfl 0 (by decide) (hts _ k_108) (fun _ h9 => h9) rfl d_B_drop_41 ?_
          refine lv_iload_n hx hb d_B_drop_44 rfl (lv_at hl 2 rfl) ?_
          refine va_aldq hx hb hK hP 1 0 rfl rfl (vp_in_nI (n := kp) (N := 13) (by omega) (by decide)) d_B_drop_45 ?_
          have e0 : va_rf (bf1 (nI kp).toNatClampNeg) = .ref (rt1 kp).1 := by rw [nI_clamp (by omega), hbf1 kp (by omega)]; rfl
          rw [e0]
          obtain ⟨qk, hqk⟩ := r_mem [(h, .inr (5, [.ref ba, .int (nI n)])), (ba, .inl (cb, 13, .inr (.inr (.inr (.inr bf1)))))] ca ck rt1 (j := kp) (by omega)
          refine va_astq hx hb hK hP hD hS 1 0 qk 4 (r := (rc_R, ft_R, 3)) rfl rfl hqk rfl (vp_in_nI (n := i) (N := 13) (by omega) (by decide)) d_B_drop_46 (fun H locs hP hD hS => ?_)
          have hP : va_P D wcl (([(h, .inr (5, [.ref ba, .int (nI n)])), (ba, .inl (cb, 13, .inr (.inr (.inr (.inr (va_up bf1 (nI i).toNatClampNeg (some ((rt1 kp).1))))))))] : va_W) ++ w_al 13 (fun j => r_cl ca ck (rt1 j))) H := hP
          have hD : va_D A (([(h, .inr (5, [.ref ba, .int (nI n)])), (ba, .inl (cb, 13, .inr (.inr (.inr (.inr (va_up bf1 (nI i).toNatClampNeg (some ((rt1 kp).1))))))))] : va_W) ++ w_al 13 (fun j => r_cl ca ck (rt1 j))) := hD
          rw [nI_clamp (n := i) (by omega)] at hP hD
          have hP : va_P D wcl (([(h, .inr (5, [.ref ba, .int (nI n)])), (ba, .inl (cb, 13, .inr (.inr (.inr (.inr (va_up bf1 i (some ((rt1 kp).1))))))))] : va_W) ++ w_al 13 (fun j => r_cl ca ck (rt1 j))) H := hP
          have hD : va_D A (([(h, .inr (5, [.ref ba, .int (nI n)])), (ba, .inl (cb, 13, .inr (.inr (.inr (.inr (va_up bf1 i (some ((rt1 kp).1))))))))] : va_W) ++ w_al 13 (fun j => r_cl ca ck (rt1 j))) := hD
          refine lv_aload_n hx hb d_B_drop_47 rfl (lv_at hl 4 rfl) ?_
          refine va_get (D := D) (ci := 5) (v := .ref ba) (C := rc_B) (T := ft_B) (N := 2) hx hb hts in_B hown hK hP 0 rfl rfl 0 (by decide) (hts _ k_108) (fun _ h9 => h9) rfl d_B_drop_48 ?_
          refine lv_iload_n hx hb d_B_drop_51 rfl (lv_at hl 2 rfl) ?_
          refine lv_aload hx hb d_B_drop_52 (lv_at hl 0 rfl) ?_
          obtain ⟨qk, hqk⟩ := r_mem [(h, .inr (5, [.ref ba, .int (nI n)])), (ba, .inl (cb, 13, .inr (.inr (.inr (.inr (va_up bf1 i (some ((rt1 kp).1))))))))] ca ck rt1 (j := i) (by omega)
          rw [hr1] at hqk
          refine va_astq hx hb hK hP hD hS 1 0 qk 4 (r := (rc_R, ft_R, 3)) rfl rfl hqk rfl (vp_in_nI (n := kp) (N := 13) (by omega) (by decide)) d_B_drop_54 (fun H locs hP hD hS => ?_)
          have hP : va_P D wcl (([(h, .inr (5, [.ref ba, .int (nI n)])), (ba, .inl (cb, 13, .inr (.inr (.inr (.inr (va_up (va_up bf1 i (some ((rt1 kp).1))) (nI kp).toNatClampNeg (some r0)))))))] : va_W) ++ w_al 13 (fun j => r_cl ca ck (rt1 j))) H := hP
          have hD : va_D A (([(h, .inr (5, [.ref ba, .int (nI n)])), (ba, .inl (cb, 13, .inr (.inr (.inr (.inr (va_up (va_up bf1 i (some ((rt1 kp).1))) (nI kp).toNatClampNeg (some r0)))))))] : va_W) ++ w_al 13 (fun j => r_cl ca ck (rt1 j))) := hD
          rw [nI_clamp (n := kp) (by omega)] at hP hD
          have hP : va_P D wcl (([(h, .inr (5, [.ref ba, .int (nI n)])), (ba, .inl (cb, 13, .inr (.inr (.inr (.inr (va_up (va_up bf1 i (some ((rt1 kp).1))) kp (some r0)))))))] : va_W) ++ w_al 13 (fun j => r_cl ca ck (rt1 j))) H := hP
          have hD : va_D A (([(h, .inr (5, [.ref ba, .int (nI n)])), (ba, .inl (cb, 13, .inr (.inr (.inr (.inr (va_up (va_up bf1 i (some ((rt1 kp).1))) kp (some r0)))))))] : va_W) ++ w_al 13 (fun j => r_cl ca ck (rt1 j))) := hD
          have hP : va_P D wcl (([(h, .inr (5, [.ref ba, .int (nI n)])), (ba, .inl (cb, 13, .inr (.inr (.inr (.inr (va_up (va_up bf1 i (some ((rt1 kp).1))) kp (some r0)))))))] : va_W) ++ w_al 13 (fun j => r_cl ca ck (r_swp rt1 i kp j))) H := hP.pm ((r_swp_pm (i := i) (k := kp) ca ck rt1 (by omega) (by omega)).append_left _)
          have hD : va_D A (([(h, .inr (5, [.ref ba, .int (nI n)])), (ba, .inl (cb, 13, .inr (.inr (.inr (.inr (va_up (va_up bf1 i (some ((rt1 kp).1))) kp (some r0)))))))] : va_W) ++ w_al 13 (fun j => r_cl ca ck (r_swp rt1 i kp j))) := hD.pm ((r_swp_pm (i := i) (k := kp) ca ck rt1 (by omega) (by omega)).append_left _)
          refine lv_iinc (k := 2) (v := nI (kp + 1)) hx hb d_B_drop_55 hl rfl (nI_1 kp) (by decide) rfl (fun ls hl => ?_)
          have hl : lv_has ls 6 [(3, .int (nI (kp + 1))), (5, .ref r0), (4, .int (nI i)), (2, .int (nI n)), (0, .ref h), (1, .int (nI c0))] := hl
          refine lv_iinc (k := 2) (v := nI (i + 1)) hx hb d_B_drop_58 hl rfl (nI_1 i) (by decide) rfl (fun ls hl => ?_)
          have hl : lv_has ls 6 [(4, .int (nI (i + 1))), (3, .int (nI (kp + 1))), (5, .ref r0), (2, .int (nI n)), (0, .ref h), (1, .int (nI c0))] := hl
          refine lv_goto (tgt := 10) hx hb d_B_drop_61 (by decide) ?_
          have hl := lv_sub hl [0, 1, 3, 4, 5] rfl
          have hl : lv_has ls 6 [(4, .int (nI (i + 1))), (3, .int (nI (kp + 1))), (2, .int (nI n)), (0, .ref h), (1, .int (nI c0))] := hl
          exact ih (i + 1) (kp + 1) (r_swp rt1 i kp) (va_up (va_up bf1 i (some ((rt1 kp).1))) kp (some r0)) H locs ls (by omega) (by omega) (by omega) (r_swp_bf hr1 hbf1) (r_swp_ok (by omega) (by omega) hok1) (by rw [show n - (i + 1) = k9 by omega]; exact hv) hP hD hS hl
  exact key _ 0 0 rt bf s.heap [] ls (Nat.lt_succ_self _) (Nat.zero_le _) (Nat.le_refl _) (hbf) (hok) (rfl) hP hD hS hl
