set_option maxHeartbeats 4000000 in
set_option maxRecDepth 100000 in
/-- RuleBook.hasMacro(c0) -/
theorem c_B_hasMacro (l : Launch) (D : va_G) (sz : Nat) (h : Nat) (ba : Nat) (cb : ClassId) (bf : Nat → Option Nat) (ca : Nat → ClassId) (ck : ClassId) (rt : Nat → RSt) (n : Nat) (c0 : Nat) (hbf : ∀ j, j < 13 → bf j = some (rt j).1) (hok : ∀ j, j < 13 → r_ok (rt j)) (hn : n ≤ 13) (hc0 : c0 < 65536) : Met l y_B_hasMacro (Cond.code y_B_hasMacro b_B_hasMacro 3 (some .boolean) :: wal) ({ frames := 12, cells := 0, slots := 0, locals := 240 }) (va_Pc [.ref h, .int (nI c0)] (pr D sz (([(h, .inr (5, [.ref ba, .int (nI n)])), (ba, .inl (cb, 13, .inr (.inr (.inr (.inr bf)))))] : va_W) ++ w_al 13 (fun j => r_cl ca ck (rt j))) [(cb, .object rc_R), ((ca 0), .char), ((ca 1), .int), ((ca 2), .int), ((ca 3), .int), ((ca 4), .boolean), ((ca 5), .int), (ck, .int)] (fun _ => True))) (va_Qi (S := Unit) (fun r u => (r = 1 ∧ ∃ j, j < n ∧ r_mc (rt j) = c0) ∨ (r = 0 ∧ ∀ j, j < n → ¬ r_mc (rt j) = c0)) (fun u t9 => po D (va_A (([(h, .inr (5, [.ref ba, .int (nI n)])), (ba, .inl (cb, 13, .inr (.inr (.inr (.inr bf)))))] : va_W) ++ w_al 13 (fun j => r_cl ca ck (rt j))) sz) ((fun u => (([(h, .inr (5, [.ref ba, .int (nI n)])), (ba, .inl (cb, 13, .inr (.inr (.inr (.inr bf)))))] : va_W) ++ w_al 13 (fun j => r_cl ca ck (rt j)))) u) ((fun u => [(cb, .object rc_R), ((ca 0), .char), ((ca 1), .int), ((ca 2), .int), ((ca 3), .int), ((ca 4), .boolean), ((ca 5), .int), (ck, .int)]) u) t9) (va_A (([(h, .inr (5, [.ref ba, .int (nI n)])), (ba, .inl (cb, 13, .inr (.inr (.inr (.inr bf)))))] : va_W) ++ w_al 13 (fun j => r_cl ca ck (rt j))) sz)) 0 0 (va_A (([(h, .inr (5, [.ref ba, .int (nI n)])), (ba, .inl (cb, 13, .inr (.inr (.inr (.inr bf)))))] : va_W) ++ w_al 13 (fun j => r_cl ca ck (rt j))) sz) := by
  refine Met.ofW (cc := b_B_hasMacro) (maxL := 3) (ret := (some .boolean)) (by decide) rfl ?_
  intro p e s m args below meth c s₁ B hml hv
  obtain ⟨rfl, hsz, hP, hK, hD0, hE⟩ := hv
  have hx := B.exec
  have hb := B.bytes
  have hr := B.returns
  have hts0 := atoms_spec (ws := Cond.code y_B_hasMacro b_B_hasMacro 3 (some .boolean) :: wal) B.pre
  have hts : ∀ w ∈ wal, w.before _ s = true := fun w h => hts0 w (List.mem_cons_of_mem _ h)
  have hown : s.vm.findClass rc_B = some m.cls := findClass_of_methodNamed B.named
  have hlocks := B.notSynchronized
  subst hsz
  have hD := hD0.self (sz := s.heap.size)
  generalize hAe : va_A (([(h, .inr (5, [.ref ba, .int (nI n)])), (ba, .inl (cb, 13, .inr (.inr (.inr (.inr bf)))))] : va_W) ++ w_al 13 (fun j => r_cl ca ck (rt j))) s.heap.size = A at hD ⊢
  have hA : ∀ q : Nat, s.heap.size ≤ q → A q := fun q h => by rw [← hAe]; exact Or.inr h
  have hS : va_S A s.heap s.heap [] := va_S.rf
  have hl := lv_entry ([.ref h, .int (nI c0)]) (n := 3) (Nat.le_of_ble_eq_true rfl)
  rw [lg_entry_eq]
  generalize (lg_sl ([.ref h, .int (nI c0)]) ++ List.replicate (3 - (lg_sl ([.ref h, .int (nI c0)])).length) Slot.unset).toArray = ls at hl ⊢
  have hl : lv_has ls 3 [(0, .ref h), (1, .int (nI c0))] := hl
  refine lv_iconst (v := 0) hx hb d_B_hasMacro_0 (by decide) ?_
  refine lv_istore_n hx hb d_B_hasMacro_1 rfl hl (by decide) rfl (fun ls hl => ?_)
  have hl : lv_has ls 3 [(2, .int 0), (0, .ref h), (1, .int (nI c0))] := hl
  have key : ∀ (d : Nat) (i : Nat) (H : Heap) (locs : List Loc) (ls : Array Slot), n - i < d → (i ≤ n) → (∀ j, j < i → ¬ r_mc (rt j) = c0) → va_P D wcl (([(h, .inr (5, [.ref ba, .int (nI n)])), (ba, .inl (cb, 13, .inr (.inr (.inr (.inr bf)))))] : va_W) ++ w_al 13 (fun j => r_cl ca ck (rt j))) H → va_D A (([(h, .inr (5, [.ref ba, .int (nI n)])), (ba, .inl (cb, 13, .inr (.inr (.inr (.inr bf)))))] : va_W) ++ w_al 13 (fun j => r_cl ca ck (rt j))) → va_S A s.heap H locs → lv_has ls 3 [(2, .int (nI i)), (0, .ref h), (1, .int (nI c0))] → W p l e (headSpec (Cond.code y_B_hasMacro b_B_hasMacro 3 (some .boolean) :: wal) ({ frames := 12, cells := 0, slots := 0, locals := 240 })).room s m ([.ref h, .int (nI c0)] : List Value).toArray below meth c H locs 0 0 (MQ below (va_Qi (S := Unit) (fun r u => (r = 1 ∧ ∃ j, j < n ∧ r_mc (rt j) = c0) ∨ (r = 0 ∧ ∀ j, j < n → ¬ r_mc (rt j) = c0)) (fun u t9 => po D (A) ((fun u => (([(h, .inr (5, [.ref ba, .int (nI n)])), (ba, .inl (cb, 13, .inr (.inr (.inr (.inr bf)))))] : va_W) ++ w_al 13 (fun j => r_cl ca ck (rt j)))) u) ((fun u => [(cb, .object rc_R), ((ca 0), .char), ((ca 1), .int), ((ca 2), .int), ((ca 3), .int), ((ca 4), .boolean), ((ca 5), .int), (ck, .int)]) u) t9) (A)) ([.ref h, .int (nI c0)] : List Value).toArray s 0 0 A) (F0 m 2 ls []) := by
    intro d
    induction d with
    | zero => intro i H locs ls hd; exact absurd hd (Nat.not_lt_zero _)
    | succ d ih =>
      intro i H locs ls hd hi hv hP hD hS hl
      refine lv_iload_n hx hb d_B_hasMacro_2 rfl (lv_at hl 0 rfl) ?_
      refine lv_aload_n hx hb d_B_hasMacro_3 rfl (lv_at hl 1 rfl) ?_
      refine va_get (D := D) (ci := 5) (v := .int (nI n)) (C := rc_B) (T := ft_B) (N := 2) hx hb hts in_B hown hK hP 0 rfl rfl 1 (by decide) (hts _ k_109) (fun _ h9 => h9) rfl d_B_hasMacro_4 ?_
      refine lv_icmp_ge (tgt := 31) hx hb d_B_hasMacro_7 (by decide) (fun h1 => ?_) (fun h1 => ?_)
      · have h2 : ¬ i < n := fun h => absurd h1 (nI_ge h (by omega))
        refine lv_iconst (v := 0) hx hb d_B_hasMacro_31 (by decide) ?_
        have hP9 : va_P D wcl (([(h, .inr (5, [.ref ba, .int (nI n)])), (ba, .inl (cb, 13, .inr (.inr (.inr (.inr bf)))))] : va_W) ++ w_al 13 (fun j => r_cl ca ck (rt j))) _ := hP.part [0, 1] rfl
        have hD9 : va_D A (([(h, .inr (5, [.ref ba, .int (nI n)])), (ba, .inl (cb, 13, .inr (.inr (.inr (.inr bf)))))] : va_W) ++ w_al 13 (fun j => r_cl ca ck (rt j))) := hD.part [0, 1] (by decide) rfl
        have hK9 := hK.sub (tys' := [(cb, .object rc_R), ((ca 0), .char), ((ca 1), .int), ((ca 2), .int), ((ca 3), .int), ((ca 4), .boolean), ((ca 5), .int), (ck, .int)]) [0, 1, 2, 3, 4, 5, 6, 7] rfl
        exact W.zret (v := 0) hx hb hr (by decide) (fun t9 ht hW => ⟨⟨0, (), rfl, Or.inr ⟨rfl, fun j h9 => hv j (by omega)⟩, ⟨by rw [ht]; exact hP9, va_K.moved hW.alike hK9, hD9⟩⟩, hS.F ht⟩) hS.2.2 d_B_hasMacro_32
      · have h2 : i < n := Nat.not_le.mp (fun h => h1 (nI_le h (by omega)))
        refine lv_aload_n hx hb d_B_hasMacro_10 rfl (lv_at hl 1 rfl) ?_
        refine va_get (D := D) (ci := 5) (v := .ref ba) (C := rc_B) (T := ft_B) (N := 2) hx hb hts in_B hown hK hP 0 rfl rfl 0 (by decide) (hts _ k_108) (fun _ h9 => h9) rfl d_B_hasMacro_11 ?_
        refine lv_iload_n hx hb d_B_hasMacro_14 rfl (lv_at hl 0 rfl) ?_
        obtain ⟨r0, tt, kn, ad, x, kf, v0, v2, v3, v4, v5, hq⟩ : ∃ r0 tt kn ad x kf v0 v2 v3 v4 v5, rt i = (r0, tt, kn, ad, x, kf, v0, v2, v3, v4, v5) := ⟨_, _, _, _, _, _, _, _, _, _, _, rfl⟩
        have hP : va_P D wcl (([(h, .inr (5, [.ref ba, .int (nI n)])), (ba, .inl (cb, 13, .inr (.inr (.inr (.inr bf))))), (r0, .inr (4, [.ref tt, .ref kn, .int v0])), (tt, .inr (6, [.ref (ad 0), .ref (ad 1), .ref (ad 2), .ref (ad 3), .ref (ad 4), .ref (ad 5), .int (nI (x_z x)), .int v2, .int v3, .int v4, .int v5])), ((ad 0), .inl ((ca 0), 60, .inl (nf (x_sg x)))), ((ad 1), .inl ((ca 1), 60, .inl (nf (x_st x)))), ((ad 2), .inl ((ca 2), 60, .inl (nf (x_sp x)))), ((ad 3), .inl ((ca 3), 60, .inl (nf (x_it x)))), ((ad 4), .inl ((ca 4), 60, .inl (nf (x_rp x)))), ((ad 5), .inl ((ca 5), 12, .inl (nf (x_op x)))), (kn, .inl (ck, 26, .inl (nf kf)))] : va_W) ++ w_ot 13 (fun j => r_cl ca ck (rt j)) i) H := by
          have h9 := hP.foc (X := [(h, .inr (5, [.ref ba, .int (nI n)])), (ba, .inl (cb, 13, .inr (.inr (.inr (.inr bf)))))]) (f := (fun j => r_cl ca ck (rt j))) (i := i) (by omega)
          have h9 : va_P D wcl ((([(h, .inr (5, [.ref ba, .int (nI n)])), (ba, .inl (cb, 13, .inr (.inr (.inr (.inr bf)))))] : va_W) ++ r_cl ca ck (rt i)) ++ w_ot 13 (fun j => r_cl ca ck (rt j)) i) H := h9
          rw [hq] at h9
          exact h9
        have hD : va_D A (([(h, .inr (5, [.ref ba, .int (nI n)])), (ba, .inl (cb, 13, .inr (.inr (.inr (.inr bf))))), (r0, .inr (4, [.ref tt, .ref kn, .int v0])), (tt, .inr (6, [.ref (ad 0), .ref (ad 1), .ref (ad 2), .ref (ad 3), .ref (ad 4), .ref (ad 5), .int (nI (x_z x)), .int v2, .int v3, .int v4, .int v5])), ((ad 0), .inl ((ca 0), 60, .inl (nf (x_sg x)))), ((ad 1), .inl ((ca 1), 60, .inl (nf (x_st x)))), ((ad 2), .inl ((ca 2), 60, .inl (nf (x_sp x)))), ((ad 3), .inl ((ca 3), 60, .inl (nf (x_it x)))), ((ad 4), .inl ((ca 4), 60, .inl (nf (x_rp x)))), ((ad 5), .inl ((ca 5), 12, .inl (nf (x_op x)))), (kn, .inl (ck, 26, .inl (nf kf)))] : va_W) ++ w_ot 13 (fun j => r_cl ca ck (rt j)) i) := by
          have h9 := hD.foc (X := [(h, .inr (5, [.ref ba, .int (nI n)])), (ba, .inl (cb, 13, .inr (.inr (.inr (.inr bf)))))]) (f := (fun j => r_cl ca ck (rt j))) (i := i) (by omega)
          have h9 : va_D A ((([(h, .inr (5, [.ref ba, .int (nI n)])), (ba, .inl (cb, 13, .inr (.inr (.inr (.inr bf)))))] : va_W) ++ r_cl ca ck (rt i)) ++ w_ot 13 (fun j => r_cl ca ck (rt j)) i) := h9
          rw [hq] at h9
          exact h9
        have hf : bf i = some r0 := by rw [hbf i (by omega), hq]
        refine va_aldq hx hb hK hP 1 0 rfl rfl (vp_in_nI (n := i) (N := 13) (by omega) (by decide)) d_B_hasMacro_15 ?_
        have e0 : va_rf (bf (nI i).toNatClampNeg) = .ref r0 := by rw [nI_clamp (by omega), hf]; rfl
        rw [e0]
        have hoi : r_ok (r0, tt, kn, ad, x, kf, v0, v2, v3, v4, v5) := hq ▸ hok i (by omega)
        have hmc : r_mc (rt i) = x_sg x 1 := by rw [hq]; rfl
        refine cl_iQ (wc := [(r0, .inr (4, [.ref tt, .ref kn, .int v0])), (tt, .inr (6, [.ref (ad 0), .ref (ad 1), .ref (ad 2), .ref (ad 3), .ref (ad 4), .ref (ad 5), .int (nI (x_z x)), .int v2, .int v3, .int v4, .int v5])), ((ad 0), .inl ((ca 0), 60, .inl (nf (x_sg x))))]) (wr := [(h, .inr (5, [.ref ba, .int (nI n)])), (ba, .inl (cb, 13, .inr (.inr (.inr (.inr bf))))), ((ad 1), .inl ((ca 1), 60, .inl (nf (x_st x)))), ((ad 2), .inl ((ca 2), 60, .inl (nf (x_sp x)))), ((ad 3), .inl ((ca 3), 60, .inl (nf (x_it x)))), ((ad 4), .inl ((ca 4), 60, .inl (nf (x_rp x)))), ((ad 5), .inl ((ca 5), 12, .inl (nf (x_op x)))), (kn, .inl (ck, 26, .inl (nf kf)))]) hP hD hK hS hA [2, 3, 4] [0, 1, 5, 6, 7, 8, 9, 10] rfl rfl (by decide) (by decide) (va_runV (As := []) (rest := []) ⟨hx, hb, hml, hown, hts⟩ (c_R_macro l D H.size r0 tt kn v0 ad ca 60 (x_sg x) (nI (x_z x)) v2 v3 v4 v5 (by decide) (by decide) (hoi.1.2.2.1 1)) (cw_V hts 0 k_211 k_4 k_208 k_209 k_210 (by decide +kernel) ⟨Nat.le_of_ble_eq_true rfl, Nat.le_of_ble_eq_true rfl⟩) (pr_V hP.lft hD.lft hK [2, 3, 4] [1] (by decide) rfl rfl (fun U hU hW => trivial) (fun U g mk a h => h) (q0 := 2) (ci := 4) rfl rfl) rfl rfl hl.1 rfl (lv_room (Nat.le_of_ble_eq_true rfl)) d_B_hasMacro_16 ⟨by decide, by decide⟩) (fun r2 u H locs h1 hP hD hK hS => ?_)
        have hP : va_P D wcl (([(h, .inr (5, [.ref ba, .int (nI n)])), (ba, .inl (cb, 13, .inr (.inr (.inr (.inr bf))))), ((ad 1), .inl ((ca 1), 60, .inl (nf (x_st x)))), ((ad 2), .inl ((ca 2), 60, .inl (nf (x_sp x)))), ((ad 3), .inl ((ca 3), 60, .inl (nf (x_it x)))), ((ad 4), .inl ((ca 4), 60, .inl (nf (x_rp x)))), ((ad 5), .inl ((ca 5), 12, .inl (nf (x_op x)))), (kn, .inl (ck, 26, .inl (nf kf))), (r0, .inr (4, [.ref tt, .ref kn, .int v0])), (tt, .inr (6, [.ref (ad 0), .ref (ad 1), .ref (ad 2), .ref (ad 3), .ref (ad 4), .ref (ad 5), .int (nI (x_z x)), .int v2, .int v3, .int v4, .int v5])), ((ad 0), .inl ((ca 0), 60, .inl (nf (x_sg x))))] : va_W) ++ w_ot 13 (fun j => r_cl ca ck (rt j)) i) H := hP
        have hD : va_D A (([(h, .inr (5, [.ref ba, .int (nI n)])), (ba, .inl (cb, 13, .inr (.inr (.inr (.inr bf))))), ((ad 1), .inl ((ca 1), 60, .inl (nf (x_st x)))), ((ad 2), .inl ((ca 2), 60, .inl (nf (x_sp x)))), ((ad 3), .inl ((ca 3), 60, .inl (nf (x_it x)))), ((ad 4), .inl ((ca 4), 60, .inl (nf (x_rp x)))), ((ad 5), .inl ((ca 5), 12, .inl (nf (x_op x)))), (kn, .inl (ck, 26, .inl (nf kf))), (r0, .inr (4, [.ref tt, .ref kn, .int v0])), (tt, .inr (6, [.ref (ad 0), .ref (ad 1), .ref (ad 2), .ref (ad 3), .ref (ad 4), .ref (ad 5), .int (nI (x_z x)), .int v2, .int v3, .int v4, .int v5])), ((ad 0), .inl ((ca 0), 60, .inl (nf (x_sg x))))] : va_W) ++ w_ot 13 (fun j => r_cl ca ck (rt j)) i) := hD
        have hK : va_K D wcl [(cb, .object rc_R), ((ca 0), .char), ((ca 1), .int), ((ca 2), .int), ((ca 3), .int), ((ca 4), .boolean), ((ca 5), .int), (ck, .int), ((ca 0), .char)] s := hK
        have h1 : r2 = nI ((x_sg x) 1) := h1
        rw [← hmc] at h1
        subst h1
        have hml1 : r_mc (rt i) < 65536 := by rw [hmc]; exact hoi.1.2.2.1 1
        have hP : va_P D wcl (([(h, .inr (5, [.ref ba, .int (nI n)])), (ba, .inl (cb, 13, .inr (.inr (.inr (.inr bf))))), (r0, .inr (4, [.ref tt, .ref kn, .int v0])), (tt, .inr (6, [.ref (ad 0), .ref (ad 1), .ref (ad 2), .ref (ad 3), .ref (ad 4), .ref (ad 5), .int (nI (x_z x)), .int v2, .int v3, .int v4, .int v5])), ((ad 0), .inl ((ca 0), 60, .inl (nf (x_sg x)))), ((ad 1), .inl ((ca 1), 60, .inl (nf (x_st x)))), ((ad 2), .inl ((ca 2), 60, .inl (nf (x_sp x)))), ((ad 3), .inl ((ca 3), 60, .inl (nf (x_it x)))), ((ad 4), .inl ((ca 4), 60, .inl (nf (x_rp x)))), ((ad 5), .inl ((ca 5), 12, .inl (nf (x_op x)))), (kn, .inl (ck, 26, .inl (nf kf)))] : va_W) ++ w_ot 13 (fun j => r_cl ca ck (rt j)) i) _ := hP.part [0, 1, 8, 9, 10, 2, 3, 4, 5, 6, 7] rfl
        have hD : va_D A (([(h, .inr (5, [.ref ba, .int (nI n)])), (ba, .inl (cb, 13, .inr (.inr (.inr (.inr bf))))), (r0, .inr (4, [.ref tt, .ref kn, .int v0])), (tt, .inr (6, [.ref (ad 0), .ref (ad 1), .ref (ad 2), .ref (ad 3), .ref (ad 4), .ref (ad 5), .int (nI (x_z x)), .int v2, .int v3, .int v4, .int v5])), ((ad 0), .inl ((ca 0), 60, .inl (nf (x_sg x)))), ((ad 1), .inl ((ca 1), 60, .inl (nf (x_st x)))), ((ad 2), .inl ((ca 2), 60, .inl (nf (x_sp x)))), ((ad 3), .inl ((ca 3), 60, .inl (nf (x_it x)))), ((ad 4), .inl ((ca 4), 60, .inl (nf (x_rp x)))), ((ad 5), .inl ((ca 5), 12, .inl (nf (x_op x)))), (kn, .inl (ck, 26, .inl (nf kf)))] : va_W) ++ w_ot 13 (fun j => r_cl ca ck (rt j)) i) := hD.part [0, 1, 8, 9, 10, 2, 3, 4, 5, 6, 7] (by decide) rfl
        have hP : va_P D wcl (([(h, .inr (5, [.ref ba, .int (nI n)])), (ba, .inl (cb, 13, .inr (.inr (.inr (.inr bf)))))] : va_W) ++ w_al 13 (fun j => r_cl ca ck (rt j))) H := hP.unf (X := [(h, .inr (5, [.ref ba, .int (nI n)])), (ba, .inl (cb, 13, .inr (.inr (.inr (.inr bf)))))]) (g := r_cl ca ck (r0, tt, kn, ad, x, kf, v0, v2, v3, v4, v5)) (f := (fun j => r_cl ca ck (rt j))) (f' := (fun j => r_cl ca ck (rt j))) (i := i) (by omega) (by show r_cl ca ck (rt i) = _; rw [hq]) (fun _ _ => rfl)
        have hD : va_D A (([(h, .inr (5, [.ref ba, .int (nI n)])), (ba, .inl (cb, 13, .inr (.inr (.inr (.inr bf)))))] : va_W) ++ w_al 13 (fun j => r_cl ca ck (rt j))) := hD.unf (X := [(h, .inr (5, [.ref ba, .int (nI n)])), (ba, .inl (cb, 13, .inr (.inr (.inr (.inr bf)))))]) (g := r_cl ca ck (r0, tt, kn, ad, x, kf, v0, v2, v3, v4, v5)) (f := (fun j => r_cl ca ck (rt j))) (f' := (fun j => r_cl ca ck (rt j))) (i := i) (by omega) (by show r_cl ca ck (rt i) = _; rw [hq]) (fun _ _ => rfl)
        have hK := hK.sub (tys' := [(cb, .object rc_R), ((ca 0), .char), ((ca 1), .int), ((ca 2), .int), ((ca 3), .int), ((ca 4), .boolean), ((ca 5), .int), (ck, .int)]) [0, 1, 2, 3, 4, 5, 6, 7] rfl
        refine lv_iload_n hx hb d_B_hasMacro_19 rfl (lv_at hl 2 rfl) ?_
        refine lv_icmp_ne (tgt := 25) hx hb d_B_hasMacro_20 (by decide) (fun h3 => ?_) (fun h3 => ?_)
        · have h4 : ¬ r_mc (rt i) = c0 := fun q => h3 (by rw [q])
          refine lv_iinc (k := 0) (v := nI (i + 1)) hx hb d_B_hasMacro_25 hl rfl (nI_1 i) (by decide) rfl (fun ls hl => ?_)
          have hl : lv_has ls 3 [(2, .int (nI (i + 1))), (0, .ref h), (1, .int (nI c0))] := hl
          refine lv_goto (tgt := 2) hx hb d_B_hasMacro_28 (by decide) ?_
          exact ih (i + 1) H locs ls (by omega) (by omega) (fun j b8 => by rcases Nat.lt_succ_iff_lt_or_eq.mp b8 with h9 | h9; exact hv j h9; rw [h9]; exact h4) hP hD hS hl
        · have h4 : r_mc (rt i) = c0 := (ceq hml1 hc0).mp h3
          refine lv_iconst (v := 1) hx hb d_B_hasMacro_23 (by decide) ?_
          have hP9 : va_P D wcl (([(h, .inr (5, [.ref ba, .int (nI n)])), (ba, .inl (cb, 13, .inr (.inr (.inr (.inr bf)))))] : va_W) ++ w_al 13 (fun j => r_cl ca ck (rt j))) _ := hP.part [0, 1] rfl
          have hD9 : va_D A (([(h, .inr (5, [.ref ba, .int (nI n)])), (ba, .inl (cb, 13, .inr (.inr (.inr (.inr bf)))))] : va_W) ++ w_al 13 (fun j => r_cl ca ck (rt j))) := hD.part [0, 1] (by decide) rfl
          have hK9 := hK.sub (tys' := [(cb, .object rc_R), ((ca 0), .char), ((ca 1), .int), ((ca 2), .int), ((ca 3), .int), ((ca 4), .boolean), ((ca 5), .int), (ck, .int)]) [0, 1, 2, 3, 4, 5, 6, 7] rfl
          exact W.zret (v := 1) hx hb hr (by decide) (fun t9 ht hW => ⟨⟨1, (), rfl, Or.inl ⟨rfl, i, h2, h4⟩, ⟨by rw [ht]; exact hP9, va_K.moved hW.alike hK9, hD9⟩⟩, hS.F ht⟩) hS.2.2 d_B_hasMacro_24
  exact key _ 0 s.heap [] ls (Nat.lt_succ_self _) (Nat.zero_le _) (fun j b8 => absurd b8 (Nat.not_lt_zero _)) hP hD hS hl

set_option maxHeartbeats 4000000 in
set_option maxRecDepth 100000 in
/-- RuleBook.keep() -/
theorem c_B_keep (l : Launch) (D : va_G) (sz : Nat) (h : Nat) (ba : Nat) (cb : ClassId) (bf : Nat → Option Nat) (ca : Nat → ClassId) (ck : ClassId) (rt : Nat → RSt) (n : Nat) (hbf : ∀ j, j < 13 → bf j = some (rt j).1) (hok : ∀ j, j < 13 → r_ok (rt j)) (hn : n < 13) : Met l y_B_keep (Cond.code y_B_keep b_B_keep 4 (some .int) :: wal) ({ frames := 12, cells := 0, slots := 0, locals := 240 }) (va_Pc [.ref h] (pr D sz (([(h, .inr (5, [.ref ba, .int (nI n)])), (ba, .inl (cb, 13, .inr (.inr (.inr (.inr bf)))))] : va_W) ++ w_al 13 (fun j => r_cl ca ck (rt j))) [(cb, .object rc_R), ((ca 0), .char), ((ca 1), .int), ((ca 2), .int), ((ca 3), .int), ((ca 4), .boolean), ((ca 5), .int), (ck, .int)] (fun _ => True))) (va_Qi (S := Unit) (fun r u => r = nI (r_ct rt (r_mc (rt n)) (n + 1))) (fun u t9 => po D (va_A (([(h, .inr (5, [.ref ba, .int (nI n)])), (ba, .inl (cb, 13, .inr (.inr (.inr (.inr bf)))))] : va_W) ++ w_al 13 (fun j => r_cl ca ck (rt j))) sz) ((fun u => (([(h, .inr (5, [.ref ba, .int (nI (n + 1))])), (ba, .inl (cb, 13, .inr (.inr (.inr (.inr bf)))))] : va_W) ++ w_al 13 (fun j => r_cl ca ck (rt j)))) u) ((fun u => [(cb, .object rc_R), ((ca 0), .char), ((ca 1), .int), ((ca 2), .int), ((ca 3), .int), ((ca 4), .boolean), ((ca 5), .int), (ck, .int)]) u) t9) (va_A (([(h, .inr (5, [.ref ba, .int (nI n)])), (ba, .inl (cb, 13, .inr (.inr (.inr (.inr bf)))))] : va_W) ++ w_al 13 (fun j => r_cl ca ck (rt j))) sz)) 0 0 (va_A (([(h, .inr (5, [.ref ba, .int (nI n)])), (ba, .inl (cb, 13, .inr (.inr (.inr (.inr bf)))))] : va_W) ++ w_al 13 (fun j => r_cl ca ck (rt j))) sz) := by
  refine Met.ofW (cc := b_B_keep) (maxL := 4) (ret := (some .int)) (by decide) rfl ?_
  intro p e s m args below meth c s₁ B hml hv
  obtain ⟨rfl, hsz, hP, hK, hD0, hE⟩ := hv
  have hx := B.exec
  have hb := B.bytes
  have hr := B.returns
  have hts0 := atoms_spec (ws := Cond.code y_B_keep b_B_keep 4 (some .int) :: wal) B.pre
  have hts : ∀ w ∈ wal, w.before _ s = true := fun w h => hts0 w (List.mem_cons_of_mem _ h)
  have hown : s.vm.findClass rc_B = some m.cls := findClass_of_methodNamed B.named
  have hlocks := B.notSynchronized
  subst hsz
  have hD := hD0.self (sz := s.heap.size)
  generalize hAe : va_A (([(h, .inr (5, [.ref ba, .int (nI n)])), (ba, .inl (cb, 13, .inr (.inr (.inr (.inr bf)))))] : va_W) ++ w_al 13 (fun j => r_cl ca ck (rt j))) s.heap.size = A at hD ⊢
  have hA : ∀ q : Nat, s.heap.size ≤ q → A q := fun q h => by rw [← hAe]; exact Or.inr h
  have hS : va_S A s.heap s.heap [] := va_S.rf
  have hl := lv_entry ([.ref h]) (n := 4) (Nat.le_of_ble_eq_true rfl)
  rw [lg_entry_eq]
  generalize (lg_sl ([.ref h]) ++ List.replicate (4 - (lg_sl ([.ref h])).length) Slot.unset).toArray = ls at hl ⊢
  have hl : lv_has ls 4 [(0, .ref h)] := hl
  refine lv_aload_n hx hb d_B_keep_0 rfl (lv_at hl 0 rfl) ?_
  refine va_get (D := D) (ci := 5) (v := .ref ba) (C := rc_B) (T := ft_B) (N := 2) hx hb hts in_B hown hK hP 0 rfl rfl 0 (by decide) (hts _ k_108) (fun _ h9 => h9) rfl d_B_keep_1 ?_
  refine lv_aload_n hx hb d_B_keep_4 rfl (lv_at hl 0 rfl) ?_
  refine va_get (D := D) (ci := 5) (v := .int (nI n)) (C := rc_B) (T := ft_B) (N := 2) hx hb hts in_B hown hK hP 0 rfl rfl 1 (by decide) (hts _ k_109) (fun _ h9 => h9) rfl d_B_keep_5 ?_
  obtain ⟨r0, tt, kn, ad, x, kf, v0, v2, v3, v4, v5, hq⟩ : ∃ r0 tt kn ad x kf v0 v2 v3 v4 v5, rt n = (r0, tt, kn, ad, x, kf, v0, v2, v3, v4, v5) := ⟨_, _, _, _, _, _, _, _, _, _, _, rfl⟩
  have hP : va_P D wcl (([(h, .inr (5, [.ref ba, .int (nI n)])), (ba, .inl (cb, 13, .inr (.inr (.inr (.inr bf))))), (r0, .inr (4, [.ref tt, .ref kn, .int v0])), (tt, .inr (6, [.ref (ad 0), .ref (ad 1), .ref (ad 2), .ref (ad 3), .ref (ad 4), .ref (ad 5), .int (nI (x_z x)), .int v2, .int v3, .int v4, .int v5])), ((ad 0), .inl ((ca 0), 60, .inl (nf (x_sg x)))), ((ad 1), .inl ((ca 1), 60, .inl (nf (x_st x)))), ((ad 2), .inl ((ca 2), 60, .inl (nf (x_sp x)))), ((ad 3), .inl ((ca 3), 60, .inl (nf (x_it x)))), ((ad 4), .inl ((ca 4), 60, .inl (nf (x_rp x)))), ((ad 5), .inl ((ca 5), 12, .inl (nf (x_op x)))), (kn, .inl (ck, 26, .inl (nf kf)))] : va_W) ++ w_ot 13 (fun j => r_cl ca ck (rt j)) n) s.heap := by
    have h9 := hP.foc (X := [(h, .inr (5, [.ref ba, .int (nI n)])), (ba, .inl (cb, 13, .inr (.inr (.inr (.inr bf)))))]) (f := (fun j => r_cl ca ck (rt j))) (i := n) (by omega)
    have h9 : va_P D wcl ((([(h, .inr (5, [.ref ba, .int (nI n)])), (ba, .inl (cb, 13, .inr (.inr (.inr (.inr bf)))))] : va_W) ++ r_cl ca ck (rt n)) ++ w_ot 13 (fun j => r_cl ca ck (rt j)) n) s.heap := h9
    rw [hq] at h9
    exact h9
  have hD : va_D A (([(h, .inr (5, [.ref ba, .int (nI n)])), (ba, .inl (cb, 13, .inr (.inr (.inr (.inr bf))))), (r0, .inr (4, [.ref tt, .ref kn, .int v0])), (tt, .inr (6, [.ref (ad 0), .ref (ad 1), .ref (ad 2), .ref (ad 3), .ref (ad 4), .ref (ad 5), .int (nI (x_z x)), .int v2, .int v3, .int v4, .int v5])), ((ad 0), .inl ((ca 0), 60, .inl (nf (x_sg x)))), ((ad 1), .inl ((ca 1), 60, .inl (nf (x_st x)))), ((ad 2), .inl ((ca 2), 60, .inl (nf (x_sp x)))), ((ad 3), .inl ((ca 3), 60, .inl (nf (x_it x)))), ((ad 4), .inl ((ca 4), 60, .inl (nf (x_rp x)))), ((ad 5), .inl ((ca 5), 12, .inl (nf (x_op x)))), (kn, .inl (ck, 26, .inl (nf kf)))] : va_W) ++ w_ot 13 (fun j => r_cl ca ck (rt j)) n) := by
    have h9 := hD.foc (X := [(h, .inr (5, [.ref ba, .int (nI n)])), (ba, .inl (cb, 13, .inr (.inr (.inr (.inr bf)))))]) (f := (fun j => r_cl ca ck (rt j))) (i := n) (by omega)
    have h9 : va_D A ((([(h, .inr (5, [.ref ba, .int (nI n)])), (ba, .inl (cb, 13, .inr (.inr (.inr (.inr bf)))))] : va_W) ++ r_cl ca ck (rt n)) ++ w_ot 13 (fun j => r_cl ca ck (rt j)) n) := h9
    rw [hq] at h9
    exact h9
  have hf : bf n = some r0 := by rw [hbf n (by omega), hq]
  refine va_aldq hx hb hK hP 1 0 rfl rfl (vp_in_nI (n := n) (N := 13) (by omega) (by decide)) d_B_keep_8 ?_
  have e0 : va_rf (bf (nI n).toNatClampNeg) = .ref r0 := by rw [nI_clamp (by omega), hf]; rfl
  rw [e0]
  have hoi : r_ok (r0, tt, kn, ad, x, kf, v0, v2, v3, v4, v5) := hq ▸ hok n (by omega)
  have hmc : r_mc (rt n) = x_sg x 1 := by rw [hq]; rfl
  refine cl_iQ (wc := [(r0, .inr (4, [.ref tt, .ref kn, .int v0])), (tt, .inr (6, [.ref (ad 0), .ref (ad 1), .ref (ad 2), .ref (ad 3), .ref (ad 4), .ref (ad 5), .int (nI (x_z x)), .int v2, .int v3, .int v4, .int v5])), ((ad 0), .inl ((ca 0), 60, .inl (nf (x_sg x))))]) (wr := [(h, .inr (5, [.ref ba, .int (nI n)])), (ba, .inl (cb, 13, .inr (.inr (.inr (.inr bf))))), ((ad 1), .inl ((ca 1), 60, .inl (nf (x_st x)))), ((ad 2), .inl ((ca 2), 60, .inl (nf (x_sp x)))), ((ad 3), .inl ((ca 3), 60, .inl (nf (x_it x)))), ((ad 4), .inl ((ca 4), 60, .inl (nf (x_rp x)))), ((ad 5), .inl ((ca 5), 12, .inl (nf (x_op x)))), (kn, .inl (ck, 26, .inl (nf kf)))]) hP hD hK hS hA [2, 3, 4] [0, 1, 5, 6, 7, 8, 9, 10] rfl rfl (by decide) (by decide) (va_runV (As := []) (rest := []) ⟨hx, hb, hml, hown, hts⟩ (c_R_macro l D s.heap.size r0 tt kn v0 ad ca 60 (x_sg x) (nI (x_z x)) v2 v3 v4 v5 (by decide) (by decide) (hoi.1.2.2.1 1)) (cw_V hts 0 k_211 k_4 k_208 k_209 k_210 (by decide +kernel) ⟨Nat.le_of_ble_eq_true rfl, Nat.le_of_ble_eq_true rfl⟩) (pr_V hP.lft hD.lft hK [2, 3, 4] [1] (by decide) rfl rfl (fun U hU hW => trivial) (fun U g mk a h => h) (q0 := 2) (ci := 4) rfl rfl) rfl rfl hl.1 rfl (lv_room (Nat.le_of_ble_eq_true rfl)) d_B_keep_9 ⟨by decide, by decide⟩) (fun r2 u H locs h1 hP hD hK hS => ?_)
  have hP : va_P D wcl (([(h, .inr (5, [.ref ba, .int (nI n)])), (ba, .inl (cb, 13, .inr (.inr (.inr (.inr bf))))), ((ad 1), .inl ((ca 1), 60, .inl (nf (x_st x)))), ((ad 2), .inl ((ca 2), 60, .inl (nf (x_sp x)))), ((ad 3), .inl ((ca 3), 60, .inl (nf (x_it x)))), ((ad 4), .inl ((ca 4), 60, .inl (nf (x_rp x)))), ((ad 5), .inl ((ca 5), 12, .inl (nf (x_op x)))), (kn, .inl (ck, 26, .inl (nf kf))), (r0, .inr (4, [.ref tt, .ref kn, .int v0])), (tt, .inr (6, [.ref (ad 0), .ref (ad 1), .ref (ad 2), .ref (ad 3), .ref (ad 4), .ref (ad 5), .int (nI (x_z x)), .int v2, .int v3, .int v4, .int v5])), ((ad 0), .inl ((ca 0), 60, .inl (nf (x_sg x))))] : va_W) ++ w_ot 13 (fun j => r_cl ca ck (rt j)) n) H := hP
  have hD : va_D A (([(h, .inr (5, [.ref ba, .int (nI n)])), (ba, .inl (cb, 13, .inr (.inr (.inr (.inr bf))))), ((ad 1), .inl ((ca 1), 60, .inl (nf (x_st x)))), ((ad 2), .inl ((ca 2), 60, .inl (nf (x_sp x)))), ((ad 3), .inl ((ca 3), 60, .inl (nf (x_it x)))), ((ad 4), .inl ((ca 4), 60, .inl (nf (x_rp x)))), ((ad 5), .inl ((ca 5), 12, .inl (nf (x_op x)))), (kn, .inl (ck, 26, .inl (nf kf))), (r0, .inr (4, [.ref tt, .ref kn, .int v0])), (tt, .inr (6, [.ref (ad 0), .ref (ad 1), .ref (ad 2), .ref (ad 3), .ref (ad 4), .ref (ad 5), .int (nI (x_z x)), .int v2, .int v3, .int v4, .int v5])), ((ad 0), .inl ((ca 0), 60, .inl (nf (x_sg x))))] : va_W) ++ w_ot 13 (fun j => r_cl ca ck (rt j)) n) := hD
  have hK : va_K D wcl [(cb, .object rc_R), ((ca 0), .char), ((ca 1), .int), ((ca 2), .int), ((ca 3), .int), ((ca 4), .boolean), ((ca 5), .int), (ck, .int), ((ca 0), .char)] s := hK
  have h1 : r2 = nI ((x_sg x) 1) := h1
  rw [← hmc] at h1
  subst h1
  have hml1 : r_mc (rt n) < 65536 := by rw [hmc]; exact hoi.1.2.2.1 1
  have hP : va_P D wcl (([(h, .inr (5, [.ref ba, .int (nI n)])), (ba, .inl (cb, 13, .inr (.inr (.inr (.inr bf))))), (r0, .inr (4, [.ref tt, .ref kn, .int v0])), (tt, .inr (6, [.ref (ad 0), .ref (ad 1), .ref (ad 2), .ref (ad 3), .ref (ad 4), .ref (ad 5), .int (nI (x_z x)), .int v2, .int v3, .int v4, .int v5])), ((ad 0), .inl ((ca 0), 60, .inl (nf (x_sg x)))), ((ad 1), .inl ((ca 1), 60, .inl (nf (x_st x)))), ((ad 2), .inl ((ca 2), 60, .inl (nf (x_sp x)))), ((ad 3), .inl ((ca 3), 60, .inl (nf (x_it x)))), ((ad 4), .inl ((ca 4), 60, .inl (nf (x_rp x)))), ((ad 5), .inl ((ca 5), 12, .inl (nf (x_op x)))), (kn, .inl (ck, 26, .inl (nf kf)))] : va_W) ++ w_ot 13 (fun j => r_cl ca ck (rt j)) n) _ := hP.part [0, 1, 8, 9, 10, 2, 3, 4, 5, 6, 7] rfl
  have hD : va_D A (([(h, .inr (5, [.ref ba, .int (nI n)])), (ba, .inl (cb, 13, .inr (.inr (.inr (.inr bf))))), (r0, .inr (4, [.ref tt, .ref kn, .int v0])), (tt, .inr (6, [.ref (ad 0), .ref (ad 1), .ref (ad 2), .ref (ad 3), .ref (ad 4), .ref (ad 5), .int (nI (x_z x)), .int v2, .int v3, .int v4, .int v5])), ((ad 0), .inl ((ca 0), 60, .inl (nf (x_sg x)))), ((ad 1), .inl ((ca 1), 60, .inl (nf (x_st x)))), ((ad 2), .inl ((ca 2), 60, .inl (nf (x_sp x)))), ((ad 3), .inl ((ca 3), 60, .inl (nf (x_it x)))), ((ad 4), .inl ((ca 4), 60, .inl (nf (x_rp x)))), ((ad 5), .inl ((ca 5), 12, .inl (nf (x_op x)))), (kn, .inl (ck, 26, .inl (nf kf)))] : va_W) ++ w_ot 13 (fun j => r_cl ca ck (rt j)) n) := hD.part [0, 1, 8, 9, 10, 2, 3, 4, 5, 6, 7] (by decide) rfl
  have hP : va_P D wcl (([(h, .inr (5, [.ref ba, .int (nI n)])), (ba, .inl (cb, 13, .inr (.inr (.inr (.inr bf)))))] : va_W) ++ w_al 13 (fun j => r_cl ca ck (rt j))) H := hP.unf (X := [(h, .inr (5, [.ref ba, .int (nI n)])), (ba, .inl (cb, 13, .inr (.inr (.inr (.inr bf)))))]) (g := r_cl ca ck (r0, tt, kn, ad, x, kf, v0, v2, v3, v4, v5)) (f := (fun j => r_cl ca ck (rt j))) (f' := (fun j => r_cl ca ck (rt j))) (i := n) (by omega) (by show r_cl ca ck (rt n) = _; rw [hq]) (fun _ _ => rfl)
  have hD : va_D A (([(h, .inr (5, [.ref ba, .int (nI n)])), (ba, .inl (cb, 13, .inr (.inr (.inr (.inr bf)))))] : va_W) ++ w_al 13 (fun j => r_cl ca ck (rt j))) := hD.unf (X := [(h, .inr (5, [.ref ba, .int (nI n)])), (ba, .inl (cb, 13, .inr (.inr (.inr (.inr bf)))))]) (g := r_cl ca ck (r0, tt, kn, ad, x, kf, v0, v2, v3, v4, v5)) (f := (fun j => r_cl ca ck (rt j))) (f' := (fun j => r_cl ca ck (rt j))) (i := n) (by omega) (by show r_cl ca ck (rt n) = _; rw [hq]) (fun _ _ => rfl)
  have hK := hK.sub (tys' := [(cb, .object rc_R), ((ca 0), .char), ((ca 1), .int), ((ca 2), .int), ((ca 3), .int), ((ca 4), .boolean), ((ca 5), .int), (ck, .int)]) [0, 1, 2, 3, 4, 5, 6, 7] rfl
  refine lv_istore_n hx hb d_B_keep_12 rfl hl (by decide) rfl (fun ls hl => ?_)
  have hl : lv_has ls 4 [(1, .int (nI (r_mc (rt n)))), (0, .ref h)] := hl
  refine lv_aload_n hx hb d_B_keep_13 rfl (lv_at hl 1 rfl) ?_
  refine lv_dup hx hb d_B_keep_14 rfl ?_
  refine va_get (D := D) (ci := 5) (v := .int (nI n)) (C := rc_B) (T := ft_B) (N := 2) hx hb hts in_B hown hK hP 0 rfl rfl 1 (by decide) (hts _ k_109) (fun _ h9 => h9) rfl d_B_keep_15 ?_
  refine lv_iconst (v := 1) hx hb d_B_keep_18 (by decide) ?_
  refine lv_iadd hx hb d_B_keep_19 ?_
  refine lv_topi (fun z9 ez9 => ?_)
  have ez9 : z9 = (nI (n + 1)) := ez9.trans (nI_1 n)
  subst ez9
  refine va_put (D := D) (ci := 5) (v := .int (nI (n + 1))) (ty := .int) (C := rc_B) (T := ft_B) (N := 2) hx hb hts in_B ty_B tk_B nm_B hown hK hP hD hS 0 rfl rfl 1 (by decide) (hts _ k_109) (fun _ h9 => h9) rfl (by decide +kernel) rfl rfl (Nat.le_of_ble_eq_true rfl) d_B_keep_20 (fun H locs hP hD hS => ?_)
  have hP : va_P D wcl (([(h, .inr (5, [.ref ba, .int (nI (n + 1))])), (ba, .inl (cb, 13, .inr (.inr (.inr (.inr bf)))))] : va_W) ++ w_al 13 (fun j => r_cl ca ck (rt j))) H := hP
  have hD : va_D A (([(h, .inr (5, [.ref ba, .int (nI (n + 1))])), (ba, .inl (cb, 13, .inr (.inr (.inr (.inr bf)))))] : va_W) ++ w_al 13 (fun j => r_cl ca ck (rt j))) := hD
  refine lv_iconst (v := 0) hx hb d_B_keep_23 (by decide) ?_
  refine lv_istore_n hx hb d_B_keep_24 rfl hl (by decide) rfl (fun ls hl => ?_)
  have hl : lv_has ls 4 [(2, .int 0), (1, .int (nI (r_mc (rt n)))), (0, .ref h)] := hl
  refine lv_iconst (v := 0) hx hb d_B_keep_25 (by decide) ?_
  refine lv_istore_n hx hb d_B_keep_26 rfl hl (by decide) rfl (fun ls hl => ?_)
  have hl : lv_has ls 4 [(3, .int 0), (2, .int 0), (1, .int (nI (r_mc (rt n)))), (0, .ref h)] := hl
  have hmn := hml1
  have key : ∀ (d : Nat) (i : Nat) (H : Heap) (locs : List Loc) (ls : Array Slot), n + 1 - i < d → (i ≤ n + 1) → va_P D wcl (([(h, .inr (5, [.ref ba, .int (nI (n + 1))])), (ba, .inl (cb, 13, .inr (.inr (.inr (.inr bf)))))] : va_W) ++ w_al 13 (fun j => r_cl ca ck (rt j))) H → va_D A (([(h, .inr (5, [.ref ba, .int (nI (n + 1))])), (ba, .inl (cb, 13, .inr (.inr (.inr (.inr bf)))))] : va_W) ++ w_al 13 (fun j => r_cl ca ck (rt j))) → va_S A s.heap H locs → lv_has ls 4 [(3, .int (nI i)), (2, .int (nI (r_ct rt (r_mc (rt n)) i))), (0, .ref h), (1, .int (nI (r_mc (rt n))))] → W p l e (headSpec (Cond.code y_B_keep b_B_keep 4 (some .int) :: wal) ({ frames := 12, cells := 0, slots := 0, locals := 240 })).room s m ([.ref h] : List Value).toArray below meth c H locs 0 0 (MQ below (va_Qi (S := Unit) (fun r u => r = nI (r_ct rt (r_mc (rt n)) (n + 1))) (fun u t9 => po D (A) ((fun u => (([(h, .inr (5, [.ref ba, .int (nI (n + 1))])), (ba, .inl (cb, 13, .inr (.inr (.inr (.inr bf)))))] : va_W) ++ w_al 13 (fun j => r_cl ca ck (rt j)))) u) ((fun u => [(cb, .object rc_R), ((ca 0), .char), ((ca 1), .int), ((ca 2), .int), ((ca 3), .int), ((ca 4), .boolean), ((ca 5), .int), (ck, .int)]) u) t9) (A)) ([.ref h] : List Value).toArray s 0 0 A) (F0 m 27 ls []) := by
    intro d
    induction d with
    | zero => intro i H locs ls hd; exact absurd hd (Nat.not_lt_zero _)
    | succ d ih =>
      intro i H locs ls hd hi hP hD hS hl
      refine lv_iload_n hx hb d_B_keep_27 rfl (lv_at hl 0 rfl) ?_
      refine lv_aload_n hx hb d_B_keep_28 rfl (lv_at hl 2 rfl) ?_
      refine va_get (D := D) (ci := 5) (v := .int (nI (n + 1))) (C := rc_B) (T := ft_B) (N := 2) hx hb hts in_B hown hK hP 0 rfl rfl 1 (by decide) (hts _ k_109) (fun _ h9 => h9) rfl d_B_keep_29 ?_
      refine lv_icmp_ge (tgt := 57) hx hb d_B_keep_32 (by decide) (fun h1 => ?_) (fun h1 => ?_)
      · have h2 : ¬ i < n + 1 := fun h => absurd h1 (nI_ge h (by omega))
        have h3 : i = n + 1 := by omega
        subst h3
        refine lv_iload_n hx hb d_B_keep_57 rfl (lv_at hl 1 rfl) ?_
        have hP9 : va_P D wcl (([(h, .inr (5, [.ref ba, .int (nI (n + 1))])), (ba, .inl (cb, 13, .inr (.inr (.inr (.inr bf)))))] : va_W) ++ w_al 13 (fun j => r_cl ca ck (rt j))) _ := hP.part [0, 1] rfl
        have hD9 : va_D A (([(h, .inr (5, [.ref ba, .int (nI (n + 1))])), (ba, .inl (cb, 13, .inr (.inr (.inr (.inr bf)))))] : va_W) ++ w_al 13 (fun j => r_cl ca ck (rt j))) := hD.part [0, 1] (by decide) rfl
        have hK9 := hK.sub (tys' := [(cb, .object rc_R), ((ca 0), .char), ((ca 1), .int), ((ca 2), .int), ((ca 3), .int), ((ca 4), .boolean), ((ca 5), .int), (ck, .int)]) [0, 1, 2, 3, 4, 5, 6, 7] rfl
        exact W.iret (v := (nI (r_ct rt (r_mc (rt n)) (n + 1)))) hx hb hr (fun t9 ht hW => ⟨⟨(nI (r_ct rt (r_mc (rt n)) (n + 1))), (), rfl, rfl, ⟨by rw [ht]; exact hP9, va_K.moved hW.alike hK9, hD9⟩⟩, hS.F ht⟩) hS.2.2 d_B_keep_58
      · have h2 : i < n + 1 := Nat.not_le.mp (fun h => h1 (nI_le h (by omega)))
        refine lv_aload_n hx hb d_B_keep_35 rfl (lv_at hl 2 rfl) ?_
        refine va_get (D := D) (ci := 5) (v := .ref ba) (C := rc_B) (T := ft_B) (N := 2) hx hb hts in_B hown hK hP 0 rfl rfl 0 (by decide) (hts _ k_108) (fun _ h9 => h9) rfl d_B_keep_36 ?_
        refine lv_iload_n hx hb d_B_keep_39 rfl (lv_at hl 0 rfl) ?_
        obtain ⟨r0, tt, kn, ad, x, kf, v0, v2, v3, v4, v5, hq⟩ : ∃ r0 tt kn ad x kf v0 v2 v3 v4 v5, rt i = (r0, tt, kn, ad, x, kf, v0, v2, v3, v4, v5) := ⟨_, _, _, _, _, _, _, _, _, _, _, rfl⟩
        have hP : va_P D wcl (([(h, .inr (5, [.ref ba, .int (nI (n + 1))])), (ba, .inl (cb, 13, .inr (.inr (.inr (.inr bf))))), (r0, .inr (4, [.ref tt, .ref kn, .int v0])), (tt, .inr (6, [.ref (ad 0), .ref (ad 1), .ref (ad 2), .ref (ad 3), .ref (ad 4), .ref (ad 5), .int (nI (x_z x)), .int v2, .int v3, .int v4, .int v5])), ((ad 0), .inl ((ca 0), 60, .inl (nf (x_sg x)))), ((ad 1), .inl ((ca 1), 60, .inl (nf (x_st x)))), ((ad 2), .inl ((ca 2), 60, .inl (nf (x_sp x)))), ((ad 3), .inl ((ca 3), 60, .inl (nf (x_it x)))), ((ad 4), .inl ((ca 4), 60, .inl (nf (x_rp x)))), ((ad 5), .inl ((ca 5), 12, .inl (nf (x_op x)))), (kn, .inl (ck, 26, .inl (nf kf)))] : va_W) ++ w_ot 13 (fun j => r_cl ca ck (rt j)) i) H := by
          have h9 := hP.foc (X := [(h, .inr (5, [.ref ba, .int (nI (n + 1))])), (ba, .inl (cb, 13, .inr (.inr (.inr (.inr bf)))))]) (f := (fun j => r_cl ca ck (rt j))) (i := i) (by omega)
          have h9 : va_P D wcl ((([(h, .inr (5, [.ref ba, .int (nI (n + 1))])), (ba, .inl (cb, 13, .inr (.inr (.inr (.inr bf)))))] : va_W) ++ r_cl ca ck (rt i)) ++ w_ot 13 (fun j => r_cl ca ck (rt j)) i) H := h9
          rw [hq] at h9
          exact h9
        have hD : va_D A (([(h, .inr (5, [.ref ba, .int (nI (n + 1))])), (ba, .inl (cb, 13, .inr (.inr (.inr (.inr bf))))), (r0, .inr (4, [.ref tt, .ref kn, .int v0])), (tt, .inr (6, [.ref (ad 0), .ref (ad 1), .ref (ad 2), .ref (ad 3), .ref (ad 4), .ref (ad 5), .int (nI (x_z x)), .int v2, .int v3, .int v4, .int v5])), ((ad 0), .inl ((ca 0), 60, .inl (nf (x_sg x)))), ((ad 1), .inl ((ca 1), 60, .inl (nf (x_st x)))), ((ad 2), .inl ((ca 2), 60, .inl (nf (x_sp x)))), ((ad 3), .inl ((ca 3), 60, .inl (nf (x_it x)))), ((ad 4), .inl ((ca 4), 60, .inl (nf (x_rp x)))), ((ad 5), .inl ((ca 5), 12, .inl (nf (x_op x)))), (kn, .inl (ck, 26, .inl (nf kf)))] : va_W) ++ w_ot 13 (fun j => r_cl ca ck (rt j)) i) := by
          have h9 := hD.foc (X := [(h, .inr (5, [.ref ba, .int (nI (n + 1))])), (ba, .inl (cb, 13, .inr (.inr (.inr (.inr bf)))))]) (f := (fun j => r_cl ca ck (rt j))) (i := i) (by omega)
          have h9 : va_D A ((([(h, .inr (5, [.ref ba, .int (nI (n + 1))])), (ba, .inl (cb, 13, .inr (.inr (.inr (.inr bf)))))] : va_W) ++ r_cl ca ck (rt i)) ++ w_ot 13 (fun j => r_cl ca ck (rt j)) i) := h9
          rw [hq] at h9
          exact h9
        have hf : bf i = some r0 := by rw [hbf i (by omega), hq]
        refine va_aldq hx hb hK hP 1 0 rfl rfl (vp_in_nI (n := i) (N := 13) (by omega) (by decide)) d_B_keep_40 ?_
        have e0 : va_rf (bf (nI i).toNatClampNeg) = .ref r0 := by rw [nI_clamp (by omega), hf]; rfl
        rw [e0]
        have hoi : r_ok (r0, tt, kn, ad, x, kf, v0, v2, v3, v4, v5) := hq ▸ hok i (by omega)
        have hmc : r_mc (rt i) = x_sg x 1 := by rw [hq]; rfl
        refine cl_iQ (wc := [(r0, .inr (4, [.ref tt, .ref kn, .int v0])), (tt, .inr (6, [.ref (ad 0), .ref (ad 1), .ref (ad 2), .ref (ad 3), .ref (ad 4), .ref (ad 5), .int (nI (x_z x)), .int v2, .int v3, .int v4, .int v5])), ((ad 0), .inl ((ca 0), 60, .inl (nf (x_sg x))))]) (wr := [(h, .inr (5, [.ref ba, .int (nI (n + 1))])), (ba, .inl (cb, 13, .inr (.inr (.inr (.inr bf))))), ((ad 1), .inl ((ca 1), 60, .inl (nf (x_st x)))), ((ad 2), .inl ((ca 2), 60, .inl (nf (x_sp x)))), ((ad 3), .inl ((ca 3), 60, .inl (nf (x_it x)))), ((ad 4), .inl ((ca 4), 60, .inl (nf (x_rp x)))), ((ad 5), .inl ((ca 5), 12, .inl (nf (x_op x)))), (kn, .inl (ck, 26, .inl (nf kf)))]) hP hD hK hS hA [2, 3, 4] [0, 1, 5, 6, 7, 8, 9, 10] rfl rfl (by decide) (by decide) (va_runV (As := []) (rest := []) ⟨hx, hb, hml, hown, hts⟩ (c_R_macro l D H.size r0 tt kn v0 ad ca 60 (x_sg x) (nI (x_z x)) v2 v3 v4 v5 (by decide) (by decide) (hoi.1.2.2.1 1)) (cw_V hts 0 k_211 k_4 k_208 k_209 k_210 (by decide +kernel) ⟨Nat.le_of_ble_eq_true rfl, Nat.le_of_ble_eq_true rfl⟩) (pr_V hP.lft hD.lft hK [2, 3, 4] [1] (by decide) rfl rfl (fun U hU hW => trivial) (fun U g mk a h => h) (q0 := 2) (ci := 4) rfl rfl) rfl rfl hl.1 rfl (lv_room (Nat.le_of_ble_eq_true rfl)) d_B_keep_41 ⟨by decide, by decide⟩) (fun r4 u H locs h3 hP hD hK hS => ?_)
        have hP : va_P D wcl (([(h, .inr (5, [.ref ba, .int (nI (n + 1))])), (ba, .inl (cb, 13, .inr (.inr (.inr (.inr bf))))), ((ad 1), .inl ((ca 1), 60, .inl (nf (x_st x)))), ((ad 2), .inl ((ca 2), 60, .inl (nf (x_sp x)))), ((ad 3), .inl ((ca 3), 60, .inl (nf (x_it x)))), ((ad 4), .inl ((ca 4), 60, .inl (nf (x_rp x)))), ((ad 5), .inl ((ca 5), 12, .inl (nf (x_op x)))), (kn, .inl (ck, 26, .inl (nf kf))), (r0, .inr (4, [.ref tt, .ref kn, .int v0])), (tt, .inr (6, [.ref (ad 0), .ref (ad 1), .ref (ad 2), .ref (ad 3), .ref (ad 4), .ref (ad 5), .int (nI (x_z x)), .int v2, .int v3, .int v4, .int v5])), ((ad 0), .inl ((ca 0), 60, .inl (nf (x_sg x))))] : va_W) ++ w_ot 13 (fun j => r_cl ca ck (rt j)) i) H := hP
        have hD : va_D A (([(h, .inr (5, [.ref ba, .int (nI (n + 1))])), (ba, .inl (cb, 13, .inr (.inr (.inr (.inr bf))))), ((ad 1), .inl ((ca 1), 60, .inl (nf (x_st x)))), ((ad 2), .inl ((ca 2), 60, .inl (nf (x_sp x)))), ((ad 3), .inl ((ca 3), 60, .inl (nf (x_it x)))), ((ad 4), .inl ((ca 4), 60, .inl (nf (x_rp x)))), ((ad 5), .inl ((ca 5), 12, .inl (nf (x_op x)))), (kn, .inl (ck, 26, .inl (nf kf))), (r0, .inr (4, [.ref tt, .ref kn, .int v0])), (tt, .inr (6, [.ref (ad 0), .ref (ad 1), .ref (ad 2), .ref (ad 3), .ref (ad 4), .ref (ad 5), .int (nI (x_z x)), .int v2, .int v3, .int v4, .int v5])), ((ad 0), .inl ((ca 0), 60, .inl (nf (x_sg x))))] : va_W) ++ w_ot 13 (fun j => r_cl ca ck (rt j)) i) := hD
        have hK : va_K D wcl [(cb, .object rc_R), ((ca 0), .char), ((ca 1), .int), ((ca 2), .int), ((ca 3), .int), ((ca 4), .boolean), ((ca 5), .int), (ck, .int), ((ca 0), .char)] s := hK
        have h3 : r4 = nI ((x_sg x) 1) := h3
        rw [← hmc] at h3
        subst h3
        have hml1 : r_mc (rt i) < 65536 := by rw [hmc]; exact hoi.1.2.2.1 1
        have hP : va_P D wcl (([(h, .inr (5, [.ref ba, .int (nI (n + 1))])), (ba, .inl (cb, 13, .inr (.inr (.inr (.inr bf))))), (r0, .inr (4, [.ref tt, .ref kn, .int v0])), (tt, .inr (6, [.ref (ad 0), .ref (ad 1), .ref (ad 2), .ref (ad 3), .ref (ad 4), .ref (ad 5), .int (nI (x_z x)), .int v2, .int v3, .int v4, .int v5])), ((ad 0), .inl ((ca 0), 60, .inl (nf (x_sg x)))), ((ad 1), .inl ((ca 1), 60, .inl (nf (x_st x)))), ((ad 2), .inl ((ca 2), 60, .inl (nf (x_sp x)))), ((ad 3), .inl ((ca 3), 60, .inl (nf (x_it x)))), ((ad 4), .inl ((ca 4), 60, .inl (nf (x_rp x)))), ((ad 5), .inl ((ca 5), 12, .inl (nf (x_op x)))), (kn, .inl (ck, 26, .inl (nf kf)))] : va_W) ++ w_ot 13 (fun j => r_cl ca ck (rt j)) i) _ := hP.part [0, 1, 8, 9, 10, 2, 3, 4, 5, 6, 7] rfl
        have hD : va_D A (([(h, .inr (5, [.ref ba, .int (nI (n + 1))])), (ba, .inl (cb, 13, .inr (.inr (.inr (.inr bf))))), (r0, .inr (4, [.ref tt, .ref kn, .int v0])), (tt, .inr (6, [.ref (ad 0), .ref (ad 1), .ref (ad 2), .ref (ad 3), .ref (ad 4), .ref (ad 5), .int (nI (x_z x)), .int v2, .int v3, .int v4, .int v5])), ((ad 0), .inl ((ca 0), 60, .inl (nf (x_sg x)))), ((ad 1), .inl ((ca 1), 60, .inl (nf (x_st x)))), ((ad 2), .inl ((ca 2), 60, .inl (nf (x_sp x)))), ((ad 3), .inl ((ca 3), 60, .inl (nf (x_it x)))), ((ad 4), .inl ((ca 4), 60, .inl (nf (x_rp x)))), ((ad 5), .inl ((ca 5), 12, .inl (nf (x_op x)))), (kn, .inl (ck, 26, .inl (nf kf)))] : va_W) ++ w_ot 13 (fun j => r_cl ca ck (rt j)) i) := hD.part [0, 1, 8, 9, 10, 2, 3, 4, 5, 6, 7] (by decide) rfl
        have hP : va_P D wcl (([(h, .inr (5, [.ref ba, .int (nI (n + 1))])), (ba, .inl (cb, 13, .inr (.inr (.inr (.inr bf)))))] : va_W) ++ w_al 13 (fun j => r_cl ca ck (rt j))) H := hP.unf (X := [(h, .inr (5, [.ref ba, .int (nI (n + 1))])), (ba, .inl (cb, 13, .inr (.inr (.inr (.inr bf)))))]) (g := r_cl ca ck (r0, tt, kn, ad, x, kf, v0, v2, v3, v4, v5)) (f := (fun j => r_cl ca ck (rt j))) (f' := (fun j => r_cl ca ck (rt j))) (i := i) (by omega) (by show r_cl ca ck (rt i) = _; rw [hq]) (fun _ _ => rfl)
        have hD : va_D A (([(h, .inr (5, [.ref ba, .int (nI (n + 1))])), (ba, .inl (cb, 13, .inr (.inr (.inr (.inr bf)))))] : va_W) ++ w_al 13 (fun j => r_cl ca ck (rt j))) := hD.unf (X := [(h, .inr (5, [.ref ba, .int (nI (n + 1))])), (ba, .inl (cb, 13, .inr (.inr (.inr (.inr bf)))))]) (g := r_cl ca ck (r0, tt, kn, ad, x, kf, v0, v2, v3, v4, v5)) (f := (fun j => r_cl ca ck (rt j))) (f' := (fun j => r_cl ca ck (rt j))) (i := i) (by omega) (by show r_cl ca ck (rt i) = _; rw [hq]) (fun _ _ => rfl)
        have hK := hK.sub (tys' := [(cb, .object rc_R), ((ca 0), .char), ((ca 1), .int), ((ca 2), .int), ((ca 3), .int), ((ca 4), .boolean), ((ca 5), .int), (ck, .int)]) [0, 1, 2, 3, 4, 5, 6, 7] rfl
        refine lv_iload_n hx hb d_B_keep_44 rfl (lv_at hl 3 rfl) ?_
        refine lv_icmp_ne (tgt := 51) hx hb d_B_keep_45 (by decide) (fun h3 => ?_) (fun h3 => ?_)
        · have h4 : ¬ r_mc (rt i) = r_mc (rt n) := fun q => h3 (by rw [q])
          have e4 : r_ct rt (r_mc (rt n)) (i + 1) = r_ct rt (r_mc (rt n)) i := by rw [r_ct, if_neg h4]
          rw [← e4] at hl
          have hl : lv_has ls 4 [(3, .int (nI i)), (2, .int (nI (r_ct rt (r_mc (rt n)) (i + 1)))), (0, .ref h), (1, .int (nI (r_mc (rt n))))] := hl
          refine lv_iinc (k := 0) (v := nI (i + 1)) hx hb d_B_keep_51 hl rfl (nI_1 i) (by decide) rfl (fun ls hl => ?_)
          have hl : lv_has ls 4 [(3, .int (nI (i + 1))), (2, .int (nI (r_ct rt (r_mc (rt n)) (i + 1)))), (0, .ref h), (1, .int (nI (r_mc (rt n))))] := hl
          refine lv_goto (tgt := 27) hx hb d_B_keep_54 (by decide) ?_
          exact ih (i + 1) H locs ls (by omega) (by omega) hP hD hS hl
        · have h4 : r_mc (rt i) = r_mc (rt n) := (ceq hml1 hmn).mp h3
          have e4 : r_ct rt (r_mc (rt n)) (i + 1) = r_ct rt (r_mc (rt n)) i + 1 := by rw [r_ct, if_pos h4]
          refine lv_iinc (k := 1) (v := nI ((r_ct rt (r_mc (rt n)) i) + 1)) hx hb d_B_keep_48 hl rfl (nI_1 (r_ct rt (r_mc (rt n)) i)) (by decide) rfl (fun ls hl => ?_)
          have hl : lv_has ls 4 [(2, .int (nI ((r_ct rt (r_mc (rt n)) i) + 1))), (3, .int (nI i)), (0, .ref h), (1, .int (nI (r_mc (rt n))))] := hl
          rw [← e4] at hl
          have hl : lv_has ls 4 [(2, .int (nI (r_ct rt (r_mc (rt n)) (i + 1)))), (3, .int (nI i)), (0, .ref h), (1, .int (nI (r_mc (rt n))))] := hl
          refine lv_iinc (k := 1) (v := nI (i + 1)) hx hb d_B_keep_51 hl rfl (nI_1 i) (by decide) rfl (fun ls hl => ?_)
          have hl : lv_has ls 4 [(3, .int (nI (i + 1))), (2, .int (nI (r_ct rt (r_mc (rt n)) (i + 1)))), (0, .ref h), (1, .int (nI (r_mc (rt n))))] := hl
          refine lv_goto (tgt := 27) hx hb d_B_keep_54 (by decide) ?_
          exact ih (i + 1) H locs ls (by omega) (by omega) hP hD hS hl
  exact key _ 0 H locs ls (Nat.lt_succ_self _) (Nat.zero_le _) hP hD hS (lv_sub hl [0, 1, 3, 2] rfl)

set_option maxHeartbeats 4000000 in
set_option maxRecDepth 100000 in
/-- RuleBook.read(dd) -/
theorem c_B_read (l : Launch) (D : va_G) (sz : Nat) (h : Nat) (ba : Nat) (cb : ClassId) (bf : Nat → Option Nat) (ca : Nat → ClassId) (ck : ClassId) (rt : Nat → RSt) (z0 : Nat) (dd : Nat) (da : Nat) (cD : ClassId) (sgn : Nat → Nat) (n : Nat) (dy : Int32) (hbf : ∀ j, j < 13 → bf j = some (rt j).1) (hok : ∀ j, j < 13 → r_ok (rt j)) (hz0 : z0 < 13) (hn : n ≤ 60) (hs : ∀ i, sgn i < 65536) : Met l y_B_read (Cond.code y_B_read b_B_read 2 (some .boolean) :: wal) ({ frames := 15, cells := 0, slots := 0, locals := 420 }) (va_Pc [.ref h, .ref dd] (pr D sz (([(h, .inr (5, [.ref ba, .int (nI z0)])), (ba, .inl (cb, 13, .inr (.inr (.inr (.inr bf))))), (dd, .inr (0, [.ref da, .int (nI n), .int dy])), (da, .inl (cD, 60, .inl (nf sgn)))] : va_W) ++ w_al 13 (fun j => r_cl ca ck (rt j))) [(cb, .object rc_R), ((ca 0), .char), ((ca 1), .int), ((ca 2), .int), ((ca 3), .int), ((ca 4), .boolean), ((ca 5), .int), (ck, .int), (cD, .char)] (cx_W))) (va_Qi (S := (Nat → RSt)) (fun r u => (u z0).1 = (rt z0).1 ∧ (∀ j, j ≠ z0 → u j = rt j) ∧ r_ok (u z0) ∧ r_rd sgn n (rt z0) (u z0) r) (fun u t9 => po D (va_A (([(h, .inr (5, [.ref ba, .int (nI z0)])), (ba, .inl (cb, 13, .inr (.inr (.inr (.inr bf))))), (dd, .inr (0, [.ref da, .int (nI n), .int dy])), (da, .inl (cD, 60, .inl (nf sgn)))] : va_W) ++ w_al 13 (fun j => r_cl ca ck (rt j))) sz) ((fun u => (([(h, .inr (5, [.ref ba, .int (nI z0)])), (ba, .inl (cb, 13, .inr (.inr (.inr (.inr bf))))), (dd, .inr (0, [.ref da, .int (nI n), .int dy])), (da, .inl (cD, 60, .inl (nf sgn)))] : va_W) ++ w_al 13 (fun j => r_cl ca ck (u j)))) u) ((fun u => [(cb, .object rc_R), ((ca 0), .char), ((ca 1), .int), ((ca 2), .int), ((ca 3), .int), ((ca 4), .boolean), ((ca 5), .int), (ck, .int), (cD, .char)]) u) t9) (va_A (([(h, .inr (5, [.ref ba, .int (nI z0)])), (ba, .inl (cb, 13, .inr (.inr (.inr (.inr bf))))), (dd, .inr (0, [.ref da, .int (nI n), .int dy])), (da, .inl (cD, 60, .inl (nf sgn)))] : va_W) ++ w_al 13 (fun j => r_cl ca ck (rt j))) sz)) 0 0 (va_A (([(h, .inr (5, [.ref ba, .int (nI z0)])), (ba, .inl (cb, 13, .inr (.inr (.inr (.inr bf))))), (dd, .inr (0, [.ref da, .int (nI n), .int dy])), (da, .inl (cD, 60, .inl (nf sgn)))] : va_W) ++ w_al 13 (fun j => r_cl ca ck (rt j))) sz) := by
  refine Met.ofW (cc := b_B_read) (maxL := 2) (ret := (some .boolean)) (by decide) rfl ?_
  intro p e s m args below meth c s₁ B hml hv
  obtain ⟨rfl, hsz, hP, hK, hD0, hE⟩ := hv
  have hx := B.exec
  have hb := B.bytes
  have hr := B.returns
  have hts0 := atoms_spec (ws := Cond.code y_B_read b_B_read 2 (some .boolean) :: wal) B.pre
  have hts : ∀ w ∈ wal, w.before _ s = true := fun w h => hts0 w (List.mem_cons_of_mem _ h)
  have hown : s.vm.findClass rc_B = some m.cls := findClass_of_methodNamed B.named
  have hlocks := B.notSynchronized
  subst hsz
  have hD := hD0.self (sz := s.heap.size)
  generalize hAe : va_A (([(h, .inr (5, [.ref ba, .int (nI z0)])), (ba, .inl (cb, 13, .inr (.inr (.inr (.inr bf))))), (dd, .inr (0, [.ref da, .int (nI n), .int dy])), (da, .inl (cD, 60, .inl (nf sgn)))] : va_W) ++ w_al 13 (fun j => r_cl ca ck (rt j))) s.heap.size = A at hD ⊢
  have hA : ∀ q : Nat, s.heap.size ≤ q → A q := fun q h => by rw [← hAe]; exact Or.inr h
  have hS : va_S A s.heap s.heap [] := va_S.rf
  have hl := lv_entry ([.ref h, .ref dd]) (n := 2) (Nat.le_of_ble_eq_true rfl)
  rw [lg_entry_eq]
  generalize (lg_sl ([.ref h, .ref dd]) ++ List.replicate (2 - (lg_sl ([.ref h, .ref dd])).length) Slot.unset).toArray = ls at hl ⊢
  have hl : lv_has ls 2 [(0, .ref h), (1, .ref dd)] := hl
  refine lv_aload_n hx hb d_B_read_0 rfl (lv_at hl 0 rfl) ?_
  refine va_get (D := D) (ci := 5) (v := .ref ba) (C := rc_B) (T := ft_B) (N := 2) hx hb hts in_B hown hK hP 0 rfl rfl 0 (by decide) (hts _ k_108) (fun _ h9 => h9) rfl d_B_read_1 ?_
  refine lv_aload_n hx hb d_B_read_4 rfl (lv_at hl 0 rfl) ?_
  refine va_get (D := D) (ci := 5) (v := .int (nI z0)) (C := rc_B) (T := ft_B) (N := 2) hx hb hts in_B hown hK hP 0 rfl rfl 1 (by decide) (hts _ k_109) (fun _ h9 => h9) rfl d_B_read_5 ?_
  obtain ⟨r0, tt, kn, ad, x, kf, v0, v2, v3, v4, v5, hq⟩ : ∃ r0 tt kn ad x kf v0 v2 v3 v4 v5, rt z0 = (r0, tt, kn, ad, x, kf, v0, v2, v3, v4, v5) := ⟨_, _, _, _, _, _, _, _, _, _, _, rfl⟩
  have hP : va_P D wcl (([(h, .inr (5, [.ref ba, .int (nI z0)])), (ba, .inl (cb, 13, .inr (.inr (.inr (.inr bf))))), (dd, .inr (0, [.ref da, .int (nI n), .int dy])), (da, .inl (cD, 60, .inl (nf sgn))), (r0, .inr (4, [.ref tt, .ref kn, .int v0])), (tt, .inr (6, [.ref (ad 0), .ref (ad 1), .ref (ad 2), .ref (ad 3), .ref (ad 4), .ref (ad 5), .int (nI (x_z x)), .int v2, .int v3, .int v4, .int v5])), ((ad 0), .inl ((ca 0), 60, .inl (nf (x_sg x)))), ((ad 1), .inl ((ca 1), 60, .inl (nf (x_st x)))), ((ad 2), .inl ((ca 2), 60, .inl (nf (x_sp x)))), ((ad 3), .inl ((ca 3), 60, .inl (nf (x_it x)))), ((ad 4), .inl ((ca 4), 60, .inl (nf (x_rp x)))), ((ad 5), .inl ((ca 5), 12, .inl (nf (x_op x)))), (kn, .inl (ck, 26, .inl (nf kf)))] : va_W) ++ w_ot 13 (fun j => r_cl ca ck (rt j)) z0) s.heap := by
    have h9 := hP.foc (X := [(h, .inr (5, [.ref ba, .int (nI z0)])), (ba, .inl (cb, 13, .inr (.inr (.inr (.inr bf))))), (dd, .inr (0, [.ref da, .int (nI n), .int dy])), (da, .inl (cD, 60, .inl (nf sgn)))]) (f := (fun j => r_cl ca ck (rt j))) (i := z0) (by omega)
    have h9 : va_P D wcl ((([(h, .inr (5, [.ref ba, .int (nI z0)])), (ba, .inl (cb, 13, .inr (.inr (.inr (.inr bf))))), (dd, .inr (0, [.ref da, .int (nI n), .int dy])), (da, .inl (cD, 60, .inl (nf sgn)))] : va_W) ++ r_cl ca ck (rt z0)) ++ w_ot 13 (fun j => r_cl ca ck (rt j)) z0) s.heap := h9
    rw [hq] at h9
    exact h9
  have hD : va_D A (([(h, .inr (5, [.ref ba, .int (nI z0)])), (ba, .inl (cb, 13, .inr (.inr (.inr (.inr bf))))), (dd, .inr (0, [.ref da, .int (nI n), .int dy])), (da, .inl (cD, 60, .inl (nf sgn))), (r0, .inr (4, [.ref tt, .ref kn, .int v0])), (tt, .inr (6, [.ref (ad 0), .ref (ad 1), .ref (ad 2), .ref (ad 3), .ref (ad 4), .ref (ad 5), .int (nI (x_z x)), .int v2, .int v3, .int v4, .int v5])), ((ad 0), .inl ((ca 0), 60, .inl (nf (x_sg x)))), ((ad 1), .inl ((ca 1), 60, .inl (nf (x_st x)))), ((ad 2), .inl ((ca 2), 60, .inl (nf (x_sp x)))), ((ad 3), .inl ((ca 3), 60, .inl (nf (x_it x)))), ((ad 4), .inl ((ca 4), 60, .inl (nf (x_rp x)))), ((ad 5), .inl ((ca 5), 12, .inl (nf (x_op x)))), (kn, .inl (ck, 26, .inl (nf kf)))] : va_W) ++ w_ot 13 (fun j => r_cl ca ck (rt j)) z0) := by
    have h9 := hD.foc (X := [(h, .inr (5, [.ref ba, .int (nI z0)])), (ba, .inl (cb, 13, .inr (.inr (.inr (.inr bf))))), (dd, .inr (0, [.ref da, .int (nI n), .int dy])), (da, .inl (cD, 60, .inl (nf sgn)))]) (f := (fun j => r_cl ca ck (rt j))) (i := z0) (by omega)
    have h9 : va_D A ((([(h, .inr (5, [.ref ba, .int (nI z0)])), (ba, .inl (cb, 13, .inr (.inr (.inr (.inr bf))))), (dd, .inr (0, [.ref da, .int (nI n), .int dy])), (da, .inl (cD, 60, .inl (nf sgn)))] : va_W) ++ r_cl ca ck (rt z0)) ++ w_ot 13 (fun j => r_cl ca ck (rt j)) z0) := h9
    rw [hq] at h9
    exact h9
  have hf : bf z0 = some r0 := by rw [hbf z0 hz0, hq]
  refine va_aldq hx hb hK hP 1 0 rfl rfl (vp_in_nI (n := z0) (N := 13) (by omega) (by decide)) d_B_read_8 ?_
  have e0 : va_rf (bf (nI z0).toNatClampNeg) = .ref r0 := by rw [nI_clamp (by omega), hf]; rfl
  rw [e0]
  refine lv_aload_n hx hb d_B_read_9 rfl (lv_at hl 1 rfl) ?_
  have hoi : r_ok (r0, tt, kn, ad, x, kf, v0, v2, v3, v4, v5) := hq ▸ hok z0 hz0
  refine cl_iQ (wc := [(r0, .inr (4, [.ref tt, .ref kn, .int v0])), (tt, .inr (6, [.ref (ad 0), .ref (ad 1), .ref (ad 2), .ref (ad 3), .ref (ad 4), .ref (ad 5), .int (nI (x_z x)), .int v2, .int v3, .int v4, .int v5])), ((ad 0), .inl ((ca 0), 60, .inl (nf (x_sg x)))), ((ad 1), .inl ((ca 1), 60, .inl (nf (x_st x)))), ((ad 2), .inl ((ca 2), 60, .inl (nf (x_sp x)))), ((ad 3), .inl ((ca 3), 60, .inl (nf (x_it x)))), ((ad 4), .inl ((ca 4), 60, .inl (nf (x_rp x)))), ((ad 5), .inl ((ca 5), 12, .inl (nf (x_op x)))), (kn, .inl (ck, 26, .inl (nf kf))), (dd, .inr (0, [.ref da, .int (nI n), .int dy])), (da, .inl (cD, 60, .inl (nf sgn)))]) (wr := [(h, .inr (5, [.ref ba, .int (nI z0)])), (ba, .inl (cb, 13, .inr (.inr (.inr (.inr bf)))))]) hP hD hK hS hA [4, 5, 6, 7, 8, 9, 10, 11, 12, 2, 3] [0, 1] rfl rfl (by decide) (by decide) (va_runV (As := [.ref dd]) (rest := []) ⟨hx, hb, hml, hown, hts⟩ (c_R_read l D s.heap.size r0 tt kn v0 ad ca 60 x v2 v3 v4 v5 ck kf dd da cD sgn n dy hoi.1 hoi.2 hn hs) (cw_V hts 1 k_271 k_4 k_268 k_269 k_270 (by decide +kernel) ⟨Nat.le_of_ble_eq_true rfl, Nat.le_of_ble_eq_true rfl⟩) (pr_V hP.lft hD.lft hK [4, 5, 6, 7, 8, 9, 10, 11, 12, 2, 3] [1, 2, 3, 4, 5, 6, 7, 8] (by decide) rfl rfl (fun U hU hW => hE.warm hW) (fun U g mk a h => h.blind g mk a) (q0 := 4) (ci := 4) rfl rfl) rfl rfl hl.1 rfl (lv_room (Nat.le_of_ble_eq_true rfl)) d_B_read_10 ⟨by decide, by decide⟩) (fun r2 u H locs h1 hP hD hK hS => ?_)
  obtain ⟨e1, x2, kg, w0, y2, y3, y4, y5⟩ := u
  have hP : va_P D wcl (([(h, .inr (5, [.ref ba, .int (nI z0)])), (ba, .inl (cb, 13, .inr (.inr (.inr (.inr bf))))), (r0, .inr (4, [.ref tt, .ref kn, .int w0])), (tt, .inr (6, [.ref (ad 0), .ref (ad 1), .ref (ad 2), .ref (ad 3), .ref (ad 4), .ref (ad 5), .int (nI (x_z x2)), .int y2, .int y3, .int y4, .int y5])), ((ad 0), .inl ((ca 0), 60, .inl (nf (x_sg x2)))), ((ad 1), .inl ((ca 1), 60, .inl (nf (x_st x2)))), ((ad 2), .inl ((ca 2), 60, .inl (nf (x_sp x2)))), ((ad 3), .inl ((ca 3), 60, .inl (nf (x_it x2)))), ((ad 4), .inl ((ca 4), 60, .inl (nf (x_rp x2)))), ((ad 5), .inl ((ca 5), 12, .inl (nf (x_op x2)))), (kn, .inl (ck, 26, .inl (nf kg))), (dd, .inr (0, [.ref da, .int (nI n), .int dy])), (da, .inl (cD, 60, .inl (nf sgn)))] : va_W) ++ w_ot 13 (fun j => r_cl ca ck (rt j)) z0) H := hP
  have hD : va_D A (([(h, .inr (5, [.ref ba, .int (nI z0)])), (ba, .inl (cb, 13, .inr (.inr (.inr (.inr bf))))), (r0, .inr (4, [.ref tt, .ref kn, .int w0])), (tt, .inr (6, [.ref (ad 0), .ref (ad 1), .ref (ad 2), .ref (ad 3), .ref (ad 4), .ref (ad 5), .int (nI (x_z x2)), .int y2, .int y3, .int y4, .int y5])), ((ad 0), .inl ((ca 0), 60, .inl (nf (x_sg x2)))), ((ad 1), .inl ((ca 1), 60, .inl (nf (x_st x2)))), ((ad 2), .inl ((ca 2), 60, .inl (nf (x_sp x2)))), ((ad 3), .inl ((ca 3), 60, .inl (nf (x_it x2)))), ((ad 4), .inl ((ca 4), 60, .inl (nf (x_rp x2)))), ((ad 5), .inl ((ca 5), 12, .inl (nf (x_op x2)))), (kn, .inl (ck, 26, .inl (nf kg))), (dd, .inr (0, [.ref da, .int (nI n), .int dy])), (da, .inl (cD, 60, .inl (nf sgn)))] : va_W) ++ w_ot 13 (fun j => r_cl ca ck (rt j)) z0) := hD
  have hK : va_K D wcl [(cb, .object rc_R), ((ca 0), .char), ((ca 1), .int), ((ca 2), .int), ((ca 3), .int), ((ca 4), .boolean), ((ca 5), .int), (ck, .int), (cD, .char), ((ca 0), .char), ((ca 1), .int), ((ca 2), .int), ((ca 3), .int), ((ca 4), .boolean), ((ca 5), .int), (ck, .int), (cD, .char)] s := hK
  have h1 : d_eq sgn n e1 ∧ t_raw 60 x2 ∧ (∀ i, kg i < 3) ∧ ((r2 = 1 ∧ ∃ tm, w0 = nI tm ∧ t_spn x2 ∧ tm ≤ x_z x2 ∧ r_is 60 sgn n e1 x kf x2 kg tm) ∨ (r2 = 0 ∧ ∀ a b c, ¬ r_is 60 sgn n e1 x kf a b c)) := h1
  obtain ⟨he, hw2, hkg, hres⟩ := h1
  have hP : va_P D wcl (([(h, .inr (5, [.ref ba, .int (nI z0)])), (ba, .inl (cb, 13, .inr (.inr (.inr (.inr bf))))), (dd, .inr (0, [.ref da, .int (nI n), .int dy])), (da, .inl (cD, 60, .inl (nf sgn))), (r0, .inr (4, [.ref tt, .ref kn, .int w0])), (tt, .inr (6, [.ref (ad 0), .ref (ad 1), .ref (ad 2), .ref (ad 3), .ref (ad 4), .ref (ad 5), .int (nI (x_z x2)), .int y2, .int y3, .int y4, .int y5])), ((ad 0), .inl ((ca 0), 60, .inl (nf (x_sg x2)))), ((ad 1), .inl ((ca 1), 60, .inl (nf (x_st x2)))), ((ad 2), .inl ((ca 2), 60, .inl (nf (x_sp x2)))), ((ad 3), .inl ((ca 3), 60, .inl (nf (x_it x2)))), ((ad 4), .inl ((ca 4), 60, .inl (nf (x_rp x2)))), ((ad 5), .inl ((ca 5), 12, .inl (nf (x_op x2)))), (kn, .inl (ck, 26, .inl (nf kg)))] : va_W) ++ w_ot 13 (fun j => r_cl ca ck (rt j)) z0) _ := hP.part [0, 1, 11, 12, 2, 3, 4, 5, 6, 7, 8, 9, 10] rfl
  have hD : va_D A (([(h, .inr (5, [.ref ba, .int (nI z0)])), (ba, .inl (cb, 13, .inr (.inr (.inr (.inr bf))))), (dd, .inr (0, [.ref da, .int (nI n), .int dy])), (da, .inl (cD, 60, .inl (nf sgn))), (r0, .inr (4, [.ref tt, .ref kn, .int w0])), (tt, .inr (6, [.ref (ad 0), .ref (ad 1), .ref (ad 2), .ref (ad 3), .ref (ad 4), .ref (ad 5), .int (nI (x_z x2)), .int y2, .int y3, .int y4, .int y5])), ((ad 0), .inl ((ca 0), 60, .inl (nf (x_sg x2)))), ((ad 1), .inl ((ca 1), 60, .inl (nf (x_st x2)))), ((ad 2), .inl ((ca 2), 60, .inl (nf (x_sp x2)))), ((ad 3), .inl ((ca 3), 60, .inl (nf (x_it x2)))), ((ad 4), .inl ((ca 4), 60, .inl (nf (x_rp x2)))), ((ad 5), .inl ((ca 5), 12, .inl (nf (x_op x2)))), (kn, .inl (ck, 26, .inl (nf kg)))] : va_W) ++ w_ot 13 (fun j => r_cl ca ck (rt j)) z0) := hD.part [0, 1, 11, 12, 2, 3, 4, 5, 6, 7, 8, 9, 10] (by decide) rfl
  have hP : va_P D wcl (([(h, .inr (5, [.ref ba, .int (nI z0)])), (ba, .inl (cb, 13, .inr (.inr (.inr (.inr bf))))), (dd, .inr (0, [.ref da, .int (nI n), .int dy])), (da, .inl (cD, 60, .inl (nf sgn)))] : va_W) ++ w_al 13 (fun j => r_cl ca ck ((va_up rt z0 (r0, tt, kn, ad, x2, kg, w0, y2, y3, y4, y5)) j))) H := hP.unf (X := [(h, .inr (5, [.ref ba, .int (nI z0)])), (ba, .inl (cb, 13, .inr (.inr (.inr (.inr bf))))), (dd, .inr (0, [.ref da, .int (nI n), .int dy])), (da, .inl (cD, 60, .inl (nf sgn)))]) (g := r_cl ca ck (r0, tt, kn, ad, x2, kg, w0, y2, y3, y4, y5)) (f := (fun j => r_cl ca ck (rt j))) (f' := (fun j => r_cl ca ck ((va_up rt z0 (r0, tt, kn, ad, x2, kg, w0, y2, y3, y4, y5)) j))) (i := z0) (by omega) (by show r_cl ca ck ((va_up rt z0 (r0, tt, kn, ad, x2, kg, w0, y2, y3, y4, y5)) z0) = _; rw [va_up_self]) (fun j9 h9 => by show r_cl ca ck (rt j9) = r_cl ca ck ((va_up rt z0 (r0, tt, kn, ad, x2, kg, w0, y2, y3, y4, y5)) j9); rw [va_up_ne _ _ h9])
  have hD : va_D A (([(h, .inr (5, [.ref ba, .int (nI z0)])), (ba, .inl (cb, 13, .inr (.inr (.inr (.inr bf))))), (dd, .inr (0, [.ref da, .int (nI n), .int dy])), (da, .inl (cD, 60, .inl (nf sgn)))] : va_W) ++ w_al 13 (fun j => r_cl ca ck ((va_up rt z0 (r0, tt, kn, ad, x2, kg, w0, y2, y3, y4, y5)) j))) := hD.unf (X := [(h, .inr (5, [.ref ba, .int (nI z0)])), (ba, .inl (cb, 13, .inr (.inr (.inr (.inr bf))))), (dd, .inr (0, [.ref da, .int (nI n), .int dy])), (da, .inl (cD, 60, .inl (nf sgn)))]) (g := r_cl ca ck (r0, tt, kn, ad, x2, kg, w0, y2, y3, y4, y5)) (f := (fun j => r_cl ca ck (rt j))) (f' := (fun j => r_cl ca ck ((va_up rt z0 (r0, tt, kn, ad, x2, kg, w0, y2, y3, y4, y5)) j))) (i := z0) (by omega) (by show r_cl ca ck ((va_up rt z0 (r0, tt, kn, ad, x2, kg, w0, y2, y3, y4, y5)) z0) = _; rw [va_up_self]) (fun j9 h9 => by show r_cl ca ck (rt j9) = r_cl ca ck ((va_up rt z0 (r0, tt, kn, ad, x2, kg, w0, y2, y3, y4, y5)) j9); rw [va_up_ne _ _ h9])
  have g1 : (va_up rt z0 (r0, tt, kn, ad, x2, kg, w0, y2, y3, y4, y5)) z0 = (r0, tt, kn, ad, x2, kg, w0, y2, y3, y4, y5) := va_up_self _ _ _
  have hbz : narrow .boolean (.int r2) = .int r2 := by
    rcases hres with a9 | a9
    · rw [a9.1]; decide
    · rw [a9.1]; decide
  have hP9 : va_P D wcl (([(h, .inr (5, [.ref ba, .int (nI z0)])), (ba, .inl (cb, 13, .inr (.inr (.inr (.inr bf))))), (dd, .inr (0, [.ref da, .int (nI n), .int dy])), (da, .inl (cD, 60, .inl (nf sgn)))] : va_W) ++ w_al 13 (fun j => r_cl ca ck ((va_up rt z0 (r0, tt, kn, ad, x2, kg, w0, y2, y3, y4, y5)) j))) _ := hP.part [0, 1, 2, 3] rfl
  have hD9 : va_D A (([(h, .inr (5, [.ref ba, .int (nI z0)])), (ba, .inl (cb, 13, .inr (.inr (.inr (.inr bf))))), (dd, .inr (0, [.ref da, .int (nI n), .int dy])), (da, .inl (cD, 60, .inl (nf sgn)))] : va_W) ++ w_al 13 (fun j => r_cl ca ck ((va_up rt z0 (r0, tt, kn, ad, x2, kg, w0, y2, y3, y4, y5)) j))) := hD.part [0, 1, 2, 3] (by decide) rfl
  have hK9 := hK.sub (tys' := [(cb, .object rc_R), ((ca 0), .char), ((ca 1), .int), ((ca 2), .int), ((ca 3), .int), ((ca 4), .boolean), ((ca 5), .int), (ck, .int), (cD, .char)]) [0, 1, 2, 3, 4, 5, 6, 7, 8] rfl
  exact W.zret (v := r2) hx hb hr (hbz) (fun t9 ht hW => ⟨⟨r2, (va_up rt z0 (r0, tt, kn, ad, x2, kg, w0, y2, y3, y4, y5)), rfl, ⟨by rw [g1, hq], fun j9 h9 => va_up_ne _ _ h9, by rw [g1]; exact ⟨hw2, hkg⟩, by rw [g1, hq]; exact ⟨e1, he, hres⟩⟩, ⟨by rw [ht]; exact hP9, va_K.moved hW.alike hK9, hD9⟩⟩, hS.F ht⟩) hS.2.2 d_B_read_13
