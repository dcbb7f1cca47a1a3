/-- an empty row -/
def t_new : TSt := (fun _ => 0, fun _ => 0, fun _ => 0, fun _ => 0, fun _ => 0, fun _ => 0, 0, 0, none)
def a_six (a b c d e f : Nat) : Nat → Nat
  | 0 => a
  | 1 => b
  | 2 => c
  | 3 => d
  | 4 => e
  | _ => f
def c_six (cC cI cZ : ClassId) : Nat → ClassId
  | 0 => cC
  | 4 => cZ
  | _ => cI
/-- a rule that nothing was read into -/
def r_new (r0 tt kn a b c d e f : Nat) : RSt := (r0, tt, kn, a_six a b c d e f, t_new, fun _ => 0, 0, 0, 0, 0, 0)
theorem r_new_ok (r0 tt kn a b c d e f : Nat) : r_ok (r_new r0 tt kn a b c d e f) := ⟨⟨by decide, Nat.zero_le _, fun _ => by show 0 < 65536; decide, fun _ => by show 0 < 2; decide⟩, fun _ => by show 0 < 3; decide⟩
theorem w_al_add {X g : va_W} {n : Nat} {f f' : Nat → va_W} (hg : f' n = g) (ho : ∀ j, j < n → f j = f' j) : ((X ++ g) ++ w_al n f).Perm (X ++ w_al (n + 1) f') := by
  have h1 : w_al (n + 1) f' = w_al n f' ++ f' n := by
    unfold w_al
    rw [List.range_succ, List.flatMap_append]
    simp
  have h2 : w_al n f = w_al n f' := by
    unfold w_al
    rw [List.flatMap_def, List.flatMap_def]
    congr 1
    exact List.map_congr_left fun j hj => ho j (List.mem_range.mp hj)
  rw [h1, h2, hg, List.append_assoc]
  exact List.perm_append_comm.append_left X
theorem st_bf {f f' : Nat → Option Nat} {rt rt' : Nat → RSt} {i : Nat} {q : RSt} (h : ∀ j, j < i → f j = some (rt j).1) (hf : f' = va_up f i (some q.1)) (hr : rt' = va_up rt i q) : ∀ j, j < i + 1 → f' j = some (rt' j).1 := fun j hj => by
  rw [hf, hr]
  by_cases e : j = i
  · rw [e, va_up_self, va_up_self]
  · rw [va_up_ne _ _ e, va_up_ne _ _ e]; exact h j (by omega)
theorem st_ok {rt rt' : Nat → RSt} {i : Nat} {q : RSt} (h : ∀ j, j < i → r_ok (rt j)) (hq : r_ok q) (hr : rt' = va_up rt i q) : ∀ j, j < i + 1 → r_ok (rt' j) := fun j hj => by
  rw [hr]
  by_cases e : j = i
  · rw [e, va_up_self]; exact hq
  · rw [va_up_ne _ _ e]; exact h j (by omega)
theorem st_pm {X : va_W} {ca : Nat → ClassId} {ck : ClassId} {n : Nat} {rt rt' : Nat → RSt} {q : RSt} (hr : rt' = va_up rt n q) : ((X ++ r_cl ca ck q) ++ w_al n (fun j => r_cl ca ck (rt j))).Perm (X ++ w_al (n + 1) (fun j => r_cl ca ck (rt' j))) := w_al_add (by show r_cl ca ck (rt' n) = _; rw [hr, va_up_self]) (fun j hj => by show r_cl ca ck (rt j) = r_cl ca ck (rt' j); rw [hr, va_up_ne _ _ (by omega)])
set_option maxHeartbeats 4000000 in
set_option maxRecDepth 100000 in
/-- RuleBook(): 13 rules, all in sight -/
theorem c_B_init (l : Launch) (D : va_G) (sz : Nat) (h : Nat) : Met l y_B_init (Cond.code y_B_init b_B_init 2 none :: wal) ({ frames := 13, cells := 118, slots := 4589, locals := 300 }) (va_Pc [.ref h] (pr D sz [(h, .inr (5, [.null, .int 0]))] [] (cx_W))) (va_Qv (S := Nat × ClassId × (Nat → Option Nat) × ClassId × ClassId × ClassId × (Nat → RSt)) (fun u => (∀ j, j < 13 → u.2.2.1 j = some (u.2.2.2.2.2.2 j).1) ∧ (∀ j, j < 13 → r_ok (u.2.2.2.2.2.2 j))) (fun u t9 => po D (va_A ([(h, .inr (5, [.null, .int 0]))]) sz) ((fun u => (([(h, .inr (5, [.ref u.1, .int 0])), (u.1, .inl (u.2.1, 13, .inr (.inr (.inr (.inr u.2.2.1)))))] : va_W) ++ w_al 13 (fun j => r_cl (c_six u.2.2.2.1 u.2.2.2.2.1 u.2.2.2.2.2.1) u.2.2.2.2.1 (u.2.2.2.2.2.2 j)))) u) ((fun u => [(u.2.1, .object rc_R), (u.2.2.2.1, .char), (u.2.2.2.2.1, .int), (u.2.2.2.2.2.1, .boolean)]) u) t9) (va_A ([(h, .inr (5, [.null, .int 0]))]) sz)) 118 4589 (va_A ([(h, .inr (5, [.null, .int 0]))]) sz) := by
  refine Met.ofW (cc := b_B_init) (maxL := 2) (ret := none) (by decide) rfl ?_
  intro p e s m args below meth c s₁ B hml hv
  obtain ⟨rfl, hsz, hP, hK, hD0, hE⟩ := hv
  have hx := B.exec
  have hb := B.bytes
  have hr := B.returns
  have hts0 := atoms_spec (ws := Cond.code y_B_init b_B_init 2 none :: wal) B.pre
  have hts : ∀ w ∈ wal, w.before _ s = true := fun w h => hts0 w (List.mem_cons_of_mem _ h)
  have hown : s.vm.findClass rc_B = some m.cls := findClass_of_methodNamed B.named
  have hlocks := B.notSynchronized
  have hin : meth.name = "<init>" := (name_of_methodNamed B.named B.method).1
  subst hsz
  have hD := hD0.self (sz := s.heap.size)
  generalize hAe : va_A ([(h, .inr (5, [.null, .int 0]))]) s.heap.size = A at hD ⊢
  have hA : ∀ q : Nat, s.heap.size ≤ q → A q := fun q h => by rw [← hAe]; exact Or.inr h
  have hS : va_S A s.heap s.heap [] := va_S.rf
  have hl := lv_entry ([.ref h]) (n := 2) (Nat.le_of_ble_eq_true rfl)
  rw [lg_entry_eq]
  generalize (lg_sl ([.ref h]) ++ List.replicate (2 - (lg_sl ([.ref h])).length) Slot.unset).toArray = ls at hl ⊢
  have hl : lv_has ls 2 [(0, .ref h)] := hl
  refine lv_aload_n hx hb d_B_init_0 rfl (lv_at hl 0 rfl) ?_
  refine W.objInit hx hb hown (hts _ k_48) (hts _ k_24) (hts _ k_25) rfl (by rw [hml]; exact hl.1) rfl d_B_init_1 (Nat.le_of_ble_eq_true rfl) (Nat.le_of_ble_eq_true rfl) ?_
  refine W.eq (g2 := F0 m 4 ls []) rfl ?_
  refine lv_aload_n hx hb d_B_init_4 rfl (lv_at hl 0 rfl) ?_
  refine lv_bipush (v := 13) hx hb d_B_init_5 (by decide) ?_
  refine va_newq (C := rc_R) (N' := 13) hx hb hown (hts _ k_49) hE.2.2.1 hK hP hD hS hA (by decide) (by decide) (by decide) (by decide) (by decide) d_B_init_7 (fun q1 cA2 H hK hP hD hS => ?_)
  have hP : va_P D wcl [(h, .inr (5, [.null, .int 0])), (q1, .inl (cA2, 13, .inr (.inr (.inr (.inr (fun _ => none))))))] H := hP
  have hD : va_D A [(h, .inr (5, [.null, .int 0])), (q1, .inl (cA2, 13, .inr (.inr (.inr (.inr (fun _ => none))))))] := hD
  have hK : va_K D wcl [(cA2, .object rc_R)] s := hK
  refine W.widen (k := 1) (n := 13) (by decide) (by decide) ?_
  refine va_putF (D := D) (ci := 5) (v := .ref q1) (ty := .array (.object "MacroForge$Rule")) (C := rc_B) (T := ft_B) (N := 2) hx hb hts in_B ty_B tk_B nm_B hown hK hP hD hS 0 rfl rfl 0 (by decide) (hts _ k_108) (fun _ h9 => h9) rfl hin rfl (by decide +kernel) rfl rfl (Nat.le_of_ble_eq_true rfl) d_B_init_10 (fun H locs hP hD hS => ?_)
  have hP : va_P D wcl [(h, .inr (5, [.ref q1, .int 0])), (q1, .inl (cA2, 13, .inr (.inr (.inr (.inr (fun _ => none))))))] H := hP
  have hD : va_D A [(h, .inr (5, [.ref q1, .int 0])), (q1, .inl (cA2, 13, .inr (.inr (.inr (.inr (fun _ => none))))))] := hD
  refine lv_iconst (v := 0) hx hb d_B_init_13 (by decide) ?_
  refine lv_istore_n hx hb d_B_init_14 rfl hl (by decide) rfl (fun ls hl => ?_)
  have hl : lv_has ls 2 [(1, .int 0), (0, .ref h)] := hl
  refine lv_iload_n hx hb d_B_init_15 rfl (lv_at hl 0 rfl) ?_
  refine lv_bipush (v := 12) hx hb d_B_init_16 (by decide) ?_
  obtain ⟨f_0, hf_0⟩ : ∃ f : Nat → Option Nat, f = fun _ => none := ⟨_, rfl⟩
  obtain ⟨rt_0, hr_0⟩ : ∃ f : Nat → RSt, f = fun _ => r_new 0 0 0 0 0 0 0 0 0 := ⟨_, rfl⟩
  rw [← hf_0] at hP hD
  have hP : va_P D wcl [(h, .inr (5, [.ref q1, .int 0])), (q1, .inl (cA2, 13, .inr (.inr (.inr (.inr f_0)))))] H := hP
  have hD : va_D A [(h, .inr (5, [.ref q1, .int 0])), (q1, .inl (cA2, 13, .inr (.inr (.inr (.inr f_0)))))] := hD
  have hb_0 : ∀ j, j < 0 → f_0 j = some (rt_0 j).1 := fun j hj => absurd hj (Nat.not_lt_zero _)
  have hk_0 : ∀ j, j < 0 → r_ok (rt_0 j) := fun j hj => absurd hj (Nat.not_lt_zero _)
  refine lv_icmp_gt (tgt := 40) hx hb d_B_init_18 (by decide) (fun h9 => absurd h9 (by decide)) (fun _ => ?_)
  refine lv_aload_n hx hb d_B_init_21 rfl (lv_at hl 1 rfl) ?_
  refine va_get (D := D) (ci := 5) (v := .ref q1) (C := rc_B) (T := ft_B) (N := 2) hx hb hts in_B hown hK hP 0 rfl rfl 0 (by decide) (hts _ k_108) (fun _ h9 => h9) rfl d_B_init_22 ?_
  refine lv_iload_n hx hb d_B_init_25 rfl (lv_at hl 0 rfl) ?_
  refine va_new (ci := 4) (fs := [.null, .null, .int 0]) (C := rc_R) (T := ft_R) (N := 3) hx hb hts in_R ty_R tk_R hown (hts _ k_49) (hts _ k_51) (hts _ k_4) hK hP hD hS hA rfl (fun j hj => by revert j; decide) (by decide) (by decide) d_B_init_26 (fun q3 H hP hD hS => ?_)
  have hP : va_P D wcl [(h, .inr (5, [.ref q1, .int 0])), (q1, .inl (cA2, 13, .inr (.inr (.inr (.inr f_0))))), (q3, .inr (4, [.null, .null, .int 0]))] H := hP
  have hD : va_D A [(h, .inr (5, [.ref q1, .int 0])), (q1, .inl (cA2, 13, .inr (.inr (.inr (.inr f_0))))), (q3, .inr (4, [.null, .null, .int 0]))] := hD
  refine W.widen (k := 2) (n := 16) (by decide) (by decide) ?_
  refine lv_dup hx hb d_B_init_29 rfl ?_
  refine cl_v (wc := [(q3, .inr (4, [.null, .null, .int 0]))]) (wr := [(h, .inr (5, [.ref q1, .int 0])), (q1, .inl (cA2, 13, .inr (.inr (.inr (.inr f_0)))))]) hP hD hK hS hA [2] [0, 1] rfl rfl (by decide) (by decide) (va_runIN (As := []) (rest := [.ref q3, .int 0, .ref q1]) ⟨hx, hb, hml, hown, hts⟩ (c_R_init l D H.size q3) (cw_IN hts 0 k_54 k_4 (hE.1 _ k_52 rfl) k_53 rfl (by decide +kernel) ⟨Nat.le_of_ble_eq_true rfl, Nat.le_of_ble_eq_true rfl⟩) (pr_S hP hD hK [2] [] (by decide) rfl rfl (fun U hU hW => trivial) (fun U g mk a h => h)) rfl rfl hl.1 rfl (lv_room (Nat.le_of_ble_eq_true rfl)) d_B_init_30 ⟨by decide, by decide⟩) (fun u H locs h4 hP hD hK hS => ?_)
  obtain ⟨tt0, kn0, ck0, as_0, at_0, ap_0, ai_0, ar_0, ao_0, cs_0, ct_0, cp_0, ci_0, cr_0, co_0⟩ := u
  have hP : va_P D wcl [(h, .inr (5, [.ref q1, .int 0])), (q1, .inl (cA2, 13, .inr (.inr (.inr (.inr f_0))))), (q3, .inr (4, [.ref tt0, .ref kn0, .int 0])), (tt0, .inr (6, [.ref as_0, .ref at_0, .ref ap_0, .ref ai_0, .ref ar_0, .ref ao_0, .int 0, .int 0, .int 0, .int 0, .int 0])), (as_0, .inl (cs_0, 60, .inl (fun _ => 0))), (at_0, .inl (ct_0, 60, .inl (fun _ => 0))), (ap_0, .inl (cp_0, 60, .inl (fun _ => 0))), (ai_0, .inl (ci_0, 60, .inl (fun _ => 0))), (ar_0, .inl (cr_0, 60, .inl (fun _ => 0))), (ao_0, .inl (co_0, 12, .inl (fun _ => 0))), (kn0, .inl (ck0, 26, .inl (fun _ => 0)))] H := hP
  have hD : va_D A [(h, .inr (5, [.ref q1, .int 0])), (q1, .inl (cA2, 13, .inr (.inr (.inr (.inr f_0))))), (q3, .inr (4, [.ref tt0, .ref kn0, .int 0])), (tt0, .inr (6, [.ref as_0, .ref at_0, .ref ap_0, .ref ai_0, .ref ar_0, .ref ao_0, .int 0, .int 0, .int 0, .int 0, .int 0])), (as_0, .inl (cs_0, 60, .inl (fun _ => 0))), (at_0, .inl (ct_0, 60, .inl (fun _ => 0))), (ap_0, .inl (cp_0, 60, .inl (fun _ => 0))), (ai_0, .inl (ci_0, 60, .inl (fun _ => 0))), (ar_0, .inl (cr_0, 60, .inl (fun _ => 0))), (ao_0, .inl (co_0, 12, .inl (fun _ => 0))), (kn0, .inl (ck0, 26, .inl (fun _ => 0)))] := hD
  have hK : va_K D wcl [(cA2, .object rc_R), (cs_0, .char), (ct_0, .int), (cp_0, .int), (ci_0, .int), (cr_0, .boolean), (co_0, .int), (ck0, .int)] s := hK
  refine W.widen (k := 10) (n := 365) (by decide) (by decide) ?_
  refine va_astq hx hb hK hP hD hS 1 0 2 4 (r := (rc_R, ft_R, 3)) rfl rfl rfl rfl (vp_in_nI (n := 0) (N := 13) (by decide) (by decide)) d_B_init_33 (fun H locs hP hD hS => ?_)
  have hP : va_P D wcl [(h, .inr (5, [.ref q1, .int 0])), (q1, .inl (cA2, 13, .inr (.inr (.inr (.inr (va_up f_0 (0 : Int32).toNatClampNeg (some q3))))))), (q3, .inr (4, [.ref tt0, .ref kn0, .int 0])), (tt0, .inr (6, [.ref as_0, .ref at_0, .ref ap_0, .ref ai_0, .ref ar_0, .ref ao_0, .int 0, .int 0, .int 0, .int 0, .int 0])), (as_0, .inl (cs_0, 60, .inl (fun _ => 0))), (at_0, .inl (ct_0, 60, .inl (fun _ => 0))), (ap_0, .inl (cp_0, 60, .inl (fun _ => 0))), (ai_0, .inl (ci_0, 60, .inl (fun _ => 0))), (ar_0, .inl (cr_0, 60, .inl (fun _ => 0))), (ao_0, .inl (co_0, 12, .inl (fun _ => 0))), (kn0, .inl (ck0, 26, .inl (fun _ => 0)))] H := hP
  have hD : va_D A [(h, .inr (5, [.ref q1, .int 0])), (q1, .inl (cA2, 13, .inr (.inr (.inr (.inr (va_up f_0 (0 : Int32).toNatClampNeg (some q3))))))), (q3, .inr (4, [.ref tt0, .ref kn0, .int 0])), (tt0, .inr (6, [.ref as_0, .ref at_0, .ref ap_0, .ref ai_0, .ref ar_0, .ref ao_0, .int 0, .int 0, .int 0, .int 0, .int 0])), (as_0, .inl (cs_0, 60, .inl (fun _ => 0))), (at_0, .inl (ct_0, 60, .inl (fun _ => 0))), (ap_0, .inl (cp_0, 60, .inl (fun _ => 0))), (ai_0, .inl (ci_0, 60, .inl (fun _ => 0))), (ar_0, .inl (cr_0, 60, .inl (fun _ => 0))), (ao_0, .inl (co_0, 12, .inl (fun _ => 0))), (kn0, .inl (ck0, 26, .inl (fun _ => 0)))] := hD
  obtain ⟨f_1, hf_1⟩ : ∃ f, f = va_up f_0 (0 : Int32).toNatClampNeg (some q3) := ⟨_, rfl⟩
  rw [← hf_1] at hP hD
  have hP : va_P D wcl [(h, .inr (5, [.ref q1, .int 0])), (q1, .inl (cA2, 13, .inr (.inr (.inr (.inr f_1))))), (q3, .inr (4, [.ref tt0, .ref kn0, .int 0])), (tt0, .inr (6, [.ref as_0, .ref at_0, .ref ap_0, .ref ai_0, .ref ar_0, .ref ao_0, .int 0, .int 0, .int 0, .int 0, .int 0])), (as_0, .inl (cs_0, 60, .inl (fun _ => 0))), (at_0, .inl (ct_0, 60, .inl (fun _ => 0))), (ap_0, .inl (cp_0, 60, .inl (fun _ => 0))), (ai_0, .inl (ci_0, 60, .inl (fun _ => 0))), (ar_0, .inl (cr_0, 60, .inl (fun _ => 0))), (ao_0, .inl (co_0, 12, .inl (fun _ => 0))), (kn0, .inl (ck0, 26, .inl (fun _ => 0)))] H := hP
  have hD : va_D A [(h, .inr (5, [.ref q1, .int 0])), (q1, .inl (cA2, 13, .inr (.inr (.inr (.inr f_1))))), (q3, .inr (4, [.ref tt0, .ref kn0, .int 0])), (tt0, .inr (6, [.ref as_0, .ref at_0, .ref ap_0, .ref ai_0, .ref ar_0, .ref ao_0, .int 0, .int 0, .int 0, .int 0, .int 0])), (as_0, .inl (cs_0, 60, .inl (fun _ => 0))), (at_0, .inl (ct_0, 60, .inl (fun _ => 0))), (ap_0, .inl (cp_0, 60, .inl (fun _ => 0))), (ai_0, .inl (ci_0, 60, .inl (fun _ => 0))), (ar_0, .inl (cr_0, 60, .inl (fun _ => 0))), (ao_0, .inl (co_0, 12, .inl (fun _ => 0))), (kn0, .inl (ck0, 26, .inl (fun _ => 0)))] := hD
  obtain ⟨cC, qc⟩ : ∃ c, c = cs_0 := ⟨_, rfl⟩
  obtain ⟨cI, qd⟩ : ∃ c, c = ct_0 := ⟨_, rfl⟩
  obtain ⟨cZ, qe⟩ : ∃ c, c = cr_0 := ⟨_, rfl⟩
  subst qc qd qe
  have qi : cI = cp_0 := Option.some.inj ((va_nm_int (hK.2 2 _ rfl).2).symm.trans (va_nm_int (hK.2 3 _ rfl).2))
  subst qi
  have qi : cI = ci_0 := Option.some.inj ((va_nm_int (hK.2 2 _ rfl).2).symm.trans (va_nm_int (hK.2 4 _ rfl).2))
  subst qi
  have qi : cI = co_0 := Option.some.inj ((va_nm_int (hK.2 2 _ rfl).2).symm.trans (va_nm_int (hK.2 6 _ rfl).2))
  subst qi
  have qi : cI = ck0 := Option.some.inj ((va_nm_int (hK.2 2 _ rfl).2).symm.trans (va_nm_int (hK.2 7 _ rfl).2))
  subst qi
  have hK := hK.sub (tys' := [(cA2, .object rc_R), (cC, .char), (cI, .int), (cZ, .boolean)]) [0, 1, 2, 5] rfl
  have hP := hP.sub (ws' := [(h, .inr (5, [.ref q1, .int 0])), (q1, .inl (cA2, 13, .inr (.inr (.inr (.inr f_1))))), (q3, .inr (4, [.ref tt0, .ref kn0, .int 0])), (tt0, .inr (6, [.ref as_0, .ref at_0, .ref ap_0, .ref ai_0, .ref ar_0, .ref ao_0, .int 0, .int 0, .int 0, .int 0, .int 0])), (as_0, .inl (cC, 60, .inl (fun _ => 0))), (at_0, .inl (cI, 60, .inl (fun _ => 0))), (ap_0, .inl (cI, 60, .inl (fun _ => 0))), (ai_0, .inl (cI, 60, .inl (fun _ => 0))), (ar_0, .inl (cZ, 60, .inl (fun _ => 0))), (ao_0, .inl (cI, 12, .inl (fun _ => 0))), (kn0, .inl (cI, 26, .inl (fun _ => 0)))]) [0, 1, 2, 3, 4, 5, 6, 7, 8, 9, 10] rfl
  have hD := hD.sub (ws' := [(h, .inr (5, [.ref q1, .int 0])), (q1, .inl (cA2, 13, .inr (.inr (.inr (.inr f_1))))), (q3, .inr (4, [.ref tt0, .ref kn0, .int 0])), (tt0, .inr (6, [.ref as_0, .ref at_0, .ref ap_0, .ref ai_0, .ref ar_0, .ref ao_0, .int 0, .int 0, .int 0, .int 0, .int 0])), (as_0, .inl (cC, 60, .inl (fun _ => 0))), (at_0, .inl (cI, 60, .inl (fun _ => 0))), (ap_0, .inl (cI, 60, .inl (fun _ => 0))), (ai_0, .inl (cI, 60, .inl (fun _ => 0))), (ar_0, .inl (cZ, 60, .inl (fun _ => 0))), (ao_0, .inl (cI, 12, .inl (fun _ => 0))), (kn0, .inl (cI, 26, .inl (fun _ => 0)))]) [0, 1, 2, 3, 4, 5, 6, 7, 8, 9, 10] (by decide) rfl
  obtain ⟨rt_1, hr_1⟩ : ∃ f, f = va_up rt_0 0 (r_new q3 tt0 kn0 as_0 at_0 ap_0 ai_0 ar_0 ao_0) := ⟨_, rfl⟩
  have hP : va_P D wcl ((([(h, .inr (5, [.ref q1, .int 0])), (q1, .inl (cA2, 13, .inr (.inr (.inr (.inr f_1)))))] : va_W) ++ r_cl (c_six cC cI cZ) cI (r_new q3 tt0 kn0 as_0 at_0 ap_0 ai_0 ar_0 ao_0)) ++ w_al 0 (fun j => r_cl (c_six cC cI cZ) cI (rt_0 j))) H := hP
  have hP : va_P D wcl (([(h, .inr (5, [.ref q1, .int 0])), (q1, .inl (cA2, 13, .inr (.inr (.inr (.inr f_1)))))] : va_W) ++ w_al 1 (fun j => r_cl (c_six cC cI cZ) cI (rt_1 j))) H := hP.pm (st_pm hr_1)
  have hD : va_D A ((([(h, .inr (5, [.ref q1, .int 0])), (q1, .inl (cA2, 13, .inr (.inr (.inr (.inr f_1)))))] : va_W) ++ r_cl (c_six cC cI cZ) cI (r_new q3 tt0 kn0 as_0 at_0 ap_0 ai_0 ar_0 ao_0)) ++ w_al 0 (fun j => r_cl (c_six cC cI cZ) cI (rt_0 j))) := hD
  have hD : va_D A (([(h, .inr (5, [.ref q1, .int 0])), (q1, .inl (cA2, 13, .inr (.inr (.inr (.inr f_1)))))] : va_W) ++ w_al 1 (fun j => r_cl (c_six cC cI cZ) cI (rt_1 j))) := hD.pm (st_pm hr_1)
  have hb_1 := st_bf (i := 0) hb_0 (hf_1.trans rfl) hr_1
  have hk_1 := st_ok (i := 0) hk_0 (r_new_ok _ _ _ _ _ _ _ _ _) hr_1
  refine lv_iinc (k := 0) (v := 1) hx hb d_B_init_34 hl rfl (by rfl) (by decide) rfl (fun ls hl => ?_)
  have hl : lv_has ls 2 [(1, .int 1), (0, .ref h)] := hl
  refine lv_goto (tgt := 15) hx hb d_B_init_37 (by decide) ?_
  refine lv_iload_n hx hb d_B_init_15 rfl (lv_at hl 0 rfl) ?_
  refine lv_bipush (v := 12) hx hb d_B_init_16 (by decide) ?_
  refine lv_icmp_gt (tgt := 40) hx hb d_B_init_18 (by decide) (fun h9 => absurd h9 (by decide)) (fun _ => ?_)
  refine lv_aload_n hx hb d_B_init_21 rfl (lv_at hl 1 rfl) ?_
  refine va_get (D := D) (ci := 5) (v := .ref q1) (C := rc_B) (T := ft_B) (N := 2) hx hb hts in_B hown hK hP 0 rfl rfl 0 (by decide) (hts _ k_108) (fun _ h9 => h9) rfl d_B_init_22 ?_
  refine lv_iload_n hx hb d_B_init_25 rfl (lv_at hl 0 rfl) ?_
  refine va_new (ci := 4) (fs := [.null, .null, .int 0]) (C := rc_R) (T := ft_R) (N := 3) hx hb hts in_R ty_R tk_R hown (hts _ k_49) (hts _ k_51) (hts _ k_4) hK hP hD hS hA rfl (fun j hj => by revert j; decide) (by decide) (by decide) d_B_init_26 (fun q5 H hP hD hS => ?_)
  have hP : va_P D wcl (([(h, .inr (5, [.ref q1, .int 0])), (q1, .inl (cA2, 13, .inr (.inr (.inr (.inr f_1))))), (q5, .inr (4, [.null, .null, .int 0]))] : va_W) ++ w_al 1 (fun j => r_cl (c_six cC cI cZ) cI (rt_1 j))) H := hP.pm (pm_o2 (rx := [(h, .inr (5, [.ref q1, .int 0])), (q1, .inl (cA2, 13, .inr (.inr (.inr (.inr f_1)))))]) (n := [(q5, .inr (4, [.null, .null, .int 0]))]) (B := w_al 1 (fun j => r_cl (c_six cC cI cZ) cI (rt_1 j))))
  have hD : va_D A (([(h, .inr (5, [.ref q1, .int 0])), (q1, .inl (cA2, 13, .inr (.inr (.inr (.inr f_1))))), (q5, .inr (4, [.null, .null, .int 0]))] : va_W) ++ w_al 1 (fun j => r_cl (c_six cC cI cZ) cI (rt_1 j))) := hD.pm (pm_o2 (rx := [(h, .inr (5, [.ref q1, .int 0])), (q1, .inl (cA2, 13, .inr (.inr (.inr (.inr f_1)))))]) (n := [(q5, .inr (4, [.null, .null, .int 0]))]) (B := w_al 1 (fun j => r_cl (c_six cC cI cZ) cI (rt_1 j))))
  refine W.widen (k := 11) (n := 368) (by decide) (by decide) ?_
  refine lv_dup hx hb d_B_init_29 rfl ?_
  refine cl_vQ (wc := [(q5, .inr (4, [.null, .null, .int 0]))]) (wr := [(h, .inr (5, [.ref q1, .int 0])), (q1, .inl (cA2, 13, .inr (.inr (.inr (.inr f_1)))))]) hP hD hK hS hA [2] [0, 1] rfl rfl (by decide) (by decide) (va_runIN (As := []) (rest := [.ref q5, .int 1, .ref q1]) ⟨hx, hb, hml, hown, hts⟩ (c_R_init l D H.size q5) (cw_IN hts 0 k_54 k_4 (hE.1 _ k_52 rfl) k_53 rfl (by decide +kernel) ⟨Nat.le_of_ble_eq_true rfl, Nat.le_of_ble_eq_true rfl⟩) (pr_S hP.lft hD.lft hK [2] [] (by decide) rfl rfl (fun U hU hW => trivial) (fun U g mk a h => h)) rfl rfl hl.1 rfl (lv_room (Nat.le_of_ble_eq_true rfl)) d_B_init_30 ⟨by decide, by decide⟩) (fun u H locs h6 hP hD hK hS => ?_)
  obtain ⟨tt1, kn1, ck1, as_1, at_1, ap_1, ai_1, ar_1, ao_1, cs_1, ct_1, cp_1, ci_1, cr_1, co_1⟩ := u
  have hP : va_P D wcl (([(h, .inr (5, [.ref q1, .int 0])), (q1, .inl (cA2, 13, .inr (.inr (.inr (.inr f_1))))), (q5, .inr (4, [.ref tt1, .ref kn1, .int 0])), (tt1, .inr (6, [.ref as_1, .ref at_1, .ref ap_1, .ref ai_1, .ref ar_1, .ref ao_1, .int 0, .int 0, .int 0, .int 0, .int 0])), (as_1, .inl (cs_1, 60, .inl (fun _ => 0))), (at_1, .inl (ct_1, 60, .inl (fun _ => 0))), (ap_1, .inl (cp_1, 60, .inl (fun _ => 0))), (ai_1, .inl (ci_1, 60, .inl (fun _ => 0))), (ar_1, .inl (cr_1, 60, .inl (fun _ => 0))), (ao_1, .inl (co_1, 12, .inl (fun _ => 0))), (kn1, .inl (ck1, 26, .inl (fun _ => 0)))] : va_W) ++ w_al 1 (fun j => r_cl (c_six cC cI cZ) cI (rt_1 j))) H := hP
  have hD : va_D A (([(h, .inr (5, [.ref q1, .int 0])), (q1, .inl (cA2, 13, .inr (.inr (.inr (.inr f_1))))), (q5, .inr (4, [.ref tt1, .ref kn1, .int 0])), (tt1, .inr (6, [.ref as_1, .ref at_1, .ref ap_1, .ref ai_1, .ref ar_1, .ref ao_1, .int 0, .int 0, .int 0, .int 0, .int 0])), (as_1, .inl (cs_1, 60, .inl (fun _ => 0))), (at_1, .inl (ct_1, 60, .inl (fun _ => 0))), (ap_1, .inl (cp_1, 60, .inl (fun _ => 0))), (ai_1, .inl (ci_1, 60, .inl (fun _ => 0))), (ar_1, .inl (cr_1, 60, .inl (fun _ => 0))), (ao_1, .inl (co_1, 12, .inl (fun _ => 0))), (kn1, .inl (ck1, 26, .inl (fun _ => 0)))] : va_W) ++ w_al 1 (fun j => r_cl (c_six cC cI cZ) cI (rt_1 j))) := hD
  have hK : va_K D wcl [(cA2, .object rc_R), (cC, .char), (cI, .int), (cZ, .boolean), (cs_1, .char), (ct_1, .int), (cp_1, .int), (ci_1, .int), (cr_1, .boolean), (co_1, .int), (ck1, .int)] s := hK
  refine W.widen (k := 19) (n := 717) (by decide) (by decide) ?_
  refine va_astq hx hb hK hP hD hS 1 0 2 4 (r := (rc_R, ft_R, 3)) rfl rfl rfl rfl (vp_in_nI (n := 1) (N := 13) (by decide) (by decide)) d_B_init_33 (fun H locs hP hD hS => ?_)
  have hP : va_P D wcl (([(h, .inr (5, [.ref q1, .int 0])), (q1, .inl (cA2, 13, .inr (.inr (.inr (.inr (va_up f_1 (1 : Int32).toNatClampNeg (some q5))))))), (q5, .inr (4, [.ref tt1, .ref kn1, .int 0])), (tt1, .inr (6, [.ref as_1, .ref at_1, .ref ap_1, .ref ai_1, .ref ar_1, .ref ao_1, .int 0, .int 0, .int 0, .int 0, .int 0])), (as_1, .inl (cs_1, 60, .inl (fun _ => 0))), (at_1, .inl (ct_1, 60, .inl (fun _ => 0))), (ap_1, .inl (cp_1, 60, .inl (fun _ => 0))), (ai_1, .inl (ci_1, 60, .inl (fun _ => 0))), (ar_1, .inl (cr_1, 60, .inl (fun _ => 0))), (ao_1, .inl (co_1, 12, .inl (fun _ => 0))), (kn1, .inl (ck1, 26, .inl (fun _ => 0)))] : va_W) ++ w_al 1 (fun j => r_cl (c_six cC cI cZ) cI (rt_1 j))) H := hP
  have hD : va_D A (([(h, .inr (5, [.ref q1, .int 0])), (q1, .inl (cA2, 13, .inr (.inr (.inr (.inr (va_up f_1 (1 : Int32).toNatClampNeg (some q5))))))), (q5, .inr (4, [.ref tt1, .ref kn1, .int 0])), (tt1, .inr (6, [.ref as_1, .ref at_1, .ref ap_1, .ref ai_1, .ref ar_1, .ref ao_1, .int 0, .int 0, .int 0, .int 0, .int 0])), (as_1, .inl (cs_1, 60, .inl (fun _ => 0))), (at_1, .inl (ct_1, 60, .inl (fun _ => 0))), (ap_1, .inl (cp_1, 60, .inl (fun _ => 0))), (ai_1, .inl (ci_1, 60, .inl (fun _ => 0))), (ar_1, .inl (cr_1, 60, .inl (fun _ => 0))), (ao_1, .inl (co_1, 12, .inl (fun _ => 0))), (kn1, .inl (ck1, 26, .inl (fun _ => 0)))] : va_W) ++ w_al 1 (fun j => r_cl (c_six cC cI cZ) cI (rt_1 j))) := hD
  obtain ⟨f_2, hf_2⟩ : ∃ f, f = va_up f_1 (1 : Int32).toNatClampNeg (some q5) := ⟨_, rfl⟩
  rw [← hf_2] at hP hD
  have hP : va_P D wcl (([(h, .inr (5, [.ref q1, .int 0])), (q1, .inl (cA2, 13, .inr (.inr (.inr (.inr f_2))))), (q5, .inr (4, [.ref tt1, .ref kn1, .int 0])), (tt1, .inr (6, [.ref as_1, .ref at_1, .ref ap_1, .ref ai_1, .ref ar_1, .ref ao_1, .int 0, .int 0, .int 0, .int 0, .int 0])), (as_1, .inl (cs_1, 60, .inl (fun _ => 0))), (at_1, .inl (ct_1, 60, .inl (fun _ => 0))), (ap_1, .inl (cp_1, 60, .inl (fun _ => 0))), (ai_1, .inl (ci_1, 60, .inl (fun _ => 0))), (ar_1, .inl (cr_1, 60, .inl (fun _ => 0))), (ao_1, .inl (co_1, 12, .inl (fun _ => 0))), (kn1, .inl (ck1, 26, .inl (fun _ => 0)))] : va_W) ++ w_al 1 (fun j => r_cl (c_six cC cI cZ) cI (rt_1 j))) H := hP
  have hD : va_D A (([(h, .inr (5, [.ref q1, .int 0])), (q1, .inl (cA2, 13, .inr (.inr (.inr (.inr f_2))))), (q5, .inr (4, [.ref tt1, .ref kn1, .int 0])), (tt1, .inr (6, [.ref as_1, .ref at_1, .ref ap_1, .ref ai_1, .ref ar_1, .ref ao_1, .int 0, .int 0, .int 0, .int 0, .int 0])), (as_1, .inl (cs_1, 60, .inl (fun _ => 0))), (at_1, .inl (ct_1, 60, .inl (fun _ => 0))), (ap_1, .inl (cp_1, 60, .inl (fun _ => 0))), (ai_1, .inl (ci_1, 60, .inl (fun _ => 0))), (ar_1, .inl (cr_1, 60, .inl (fun _ => 0))), (ao_1, .inl (co_1, 12, .inl (fun _ => 0))), (kn1, .inl (ck1, 26, .inl (fun _ => 0)))] : va_W) ++ w_al 1 (fun j => r_cl (c_six cC cI cZ) cI (rt_1 j))) := hD
  have qi : cC = cs_1 := Option.some.inj ((va_nm_char (hK.2 1 _ rfl).2).symm.trans (va_nm_char (hK.2 4 _ rfl).2))
  subst qi
  have qi : cI = ct_1 := Option.some.inj ((va_nm_int (hK.2 2 _ rfl).2).symm.trans (va_nm_int (hK.2 5 _ rfl).2))
  subst qi
  have qi : cI = cp_1 := Option.some.inj ((va_nm_int (hK.2 2 _ rfl).2).symm.trans (va_nm_int (hK.2 6 _ rfl).2))
  subst qi
  have qi : cI = ci_1 := Option.some.inj ((va_nm_int (hK.2 2 _ rfl).2).symm.trans (va_nm_int (hK.2 7 _ rfl).2))
  subst qi
  have qi : cZ = cr_1 := Option.some.inj ((va_nm_boolean (hK.2 3 _ rfl).2).symm.trans (va_nm_boolean (hK.2 8 _ rfl).2))
  subst qi
  have qi : cI = co_1 := Option.some.inj ((va_nm_int (hK.2 2 _ rfl).2).symm.trans (va_nm_int (hK.2 9 _ rfl).2))
  subst qi
  have qi : cI = ck1 := Option.some.inj ((va_nm_int (hK.2 2 _ rfl).2).symm.trans (va_nm_int (hK.2 10 _ rfl).2))
  subst qi
  have hK := hK.sub (tys' := [(cA2, .object rc_R), (cC, .char), (cI, .int), (cZ, .boolean)]) [0, 1, 2, 3] rfl
  have hP : va_P D wcl (([(h, .inr (5, [.ref q1, .int 0])), (q1, .inl (cA2, 13, .inr (.inr (.inr (.inr f_2))))), (q5, .inr (4, [.ref tt1, .ref kn1, .int 0])), (tt1, .inr (6, [.ref as_1, .ref at_1, .ref ap_1, .ref ai_1, .ref ar_1, .ref ao_1, .int 0, .int 0, .int 0, .int 0, .int 0])), (as_1, .inl (cC, 60, .inl (fun _ => 0))), (at_1, .inl (cI, 60, .inl (fun _ => 0))), (ap_1, .inl (cI, 60, .inl (fun _ => 0))), (ai_1, .inl (cI, 60, .inl (fun _ => 0))), (ar_1, .inl (cZ, 60, .inl (fun _ => 0))), (ao_1, .inl (cI, 12, .inl (fun _ => 0))), (kn1, .inl (cI, 26, .inl (fun _ => 0)))] : va_W) ++ w_al 1 (fun j => r_cl (c_six cC cI cZ) cI (rt_1 j))) _ := hP.part [0, 1, 2, 3, 4, 5, 6, 7, 8, 9, 10] rfl
  have hD : va_D A (([(h, .inr (5, [.ref q1, .int 0])), (q1, .inl (cA2, 13, .inr (.inr (.inr (.inr f_2))))), (q5, .inr (4, [.ref tt1, .ref kn1, .int 0])), (tt1, .inr (6, [.ref as_1, .ref at_1, .ref ap_1, .ref ai_1, .ref ar_1, .ref ao_1, .int 0, .int 0, .int 0, .int 0, .int 0])), (as_1, .inl (cC, 60, .inl (fun _ => 0))), (at_1, .inl (cI, 60, .inl (fun _ => 0))), (ap_1, .inl (cI, 60, .inl (fun _ => 0))), (ai_1, .inl (cI, 60, .inl (fun _ => 0))), (ar_1, .inl (cZ, 60, .inl (fun _ => 0))), (ao_1, .inl (cI, 12, .inl (fun _ => 0))), (kn1, .inl (cI, 26, .inl (fun _ => 0)))] : va_W) ++ w_al 1 (fun j => r_cl (c_six cC cI cZ) cI (rt_1 j))) := hD.part [0, 1, 2, 3, 4, 5, 6, 7, 8, 9, 10] (by decide) rfl
  obtain ⟨rt_2, hr_2⟩ : ∃ f, f = va_up rt_1 1 (r_new q5 tt1 kn1 as_1 at_1 ap_1 ai_1 ar_1 ao_1) := ⟨_, rfl⟩
  have hP : va_P D wcl ((([(h, .inr (5, [.ref q1, .int 0])), (q1, .inl (cA2, 13, .inr (.inr (.inr (.inr f_2)))))] : va_W) ++ r_cl (c_six cC cI cZ) cI (r_new q5 tt1 kn1 as_1 at_1 ap_1 ai_1 ar_1 ao_1)) ++ w_al 1 (fun j => r_cl (c_six cC cI cZ) cI (rt_1 j))) H := hP
  have hP : va_P D wcl (([(h, .inr (5, [.ref q1, .int 0])), (q1, .inl (cA2, 13, .inr (.inr (.inr (.inr f_2)))))] : va_W) ++ w_al 2 (fun j => r_cl (c_six cC cI cZ) cI (rt_2 j))) H := hP.pm (st_pm hr_2)
  have hD : va_D A ((([(h, .inr (5, [.ref q1, .int 0])), (q1, .inl (cA2, 13, .inr (.inr (.inr (.inr f_2)))))] : va_W) ++ r_cl (c_six cC cI cZ) cI (r_new q5 tt1 kn1 as_1 at_1 ap_1 ai_1 ar_1 ao_1)) ++ w_al 1 (fun j => r_cl (c_six cC cI cZ) cI (rt_1 j))) := hD
  have hD : va_D A (([(h, .inr (5, [.ref q1, .int 0])), (q1, .inl (cA2, 13, .inr (.inr (.inr (.inr f_2)))))] : va_W) ++ w_al 2 (fun j => r_cl (c_six cC cI cZ) cI (rt_2 j))) := hD.pm (st_pm hr_2)
  have hb_2 := st_bf (i := 1) hb_1 (hf_2.trans rfl) hr_2
  have hk_2 := st_ok (i := 1) hk_1 (r_new_ok _ _ _ _ _ _ _ _ _) hr_2
  refine lv_iinc (k := 0) (v := 2) hx hb d_B_init_34 hl rfl (by rfl) (by decide) rfl (fun ls hl => ?_)
  have hl : lv_has ls 2 [(1, .int 2), (0, .ref h)] := hl
  refine lv_goto (tgt := 15) hx hb d_B_init_37 (by decide) ?_
  refine lv_iload_n hx hb d_B_init_15 rfl (lv_at hl 0 rfl) ?_
  refine lv_bipush (v := 12) hx hb d_B_init_16 (by decide) ?_
  refine lv_icmp_gt (tgt := 40) hx hb d_B_init_18 (by decide) (fun h9 => absurd h9 (by decide)) (fun _ => ?_)
  refine lv_aload_n hx hb d_B_init_21 rfl (lv_at hl 1 rfl) ?_
  refine va_get (D := D) (ci := 5) (v := .ref q1) (C := rc_B) (T := ft_B) (N := 2) hx hb hts in_B hown hK hP 0 rfl rfl 0 (by decide) (hts _ k_108) (fun _ h9 => h9) rfl d_B_init_22 ?_
  refine lv_iload_n hx hb d_B_init_25 rfl (lv_at hl 0 rfl) ?_
  refine va_new (ci := 4) (fs := [.null, .null, .int 0]) (C := rc_R) (T := ft_R) (N := 3) hx hb hts in_R ty_R tk_R hown (hts _ k_49) (hts _ k_51) (hts _ k_4) hK hP hD hS hA rfl (fun j hj => by revert j; decide) (by decide) (by decide) d_B_init_26 (fun q7 H hP hD hS => ?_)
  have hP : va_P D wcl (([(h, .inr (5, [.ref q1, .int 0])), (q1, .inl (cA2, 13, .inr (.inr (.inr (.inr f_2))))), (q7, .inr (4, [.null, .null, .int 0]))] : va_W) ++ w_al 2 (fun j => r_cl (c_six cC cI cZ) cI (rt_2 j))) H := hP.pm (pm_o2 (rx := [(h, .inr (5, [.ref q1, .int 0])), (q1, .inl (cA2, 13, .inr (.inr (.inr (.inr f_2)))))]) (n := [(q7, .inr (4, [.null, .null, .int 0]))]) (B := w_al 2 (fun j => r_cl (c_six cC cI cZ) cI (rt_2 j))))
  have hD : va_D A (([(h, .inr (5, [.ref q1, .int 0])), (q1, .inl (cA2, 13, .inr (.inr (.inr (.inr f_2))))), (q7, .inr (4, [.null, .null, .int 0]))] : va_W) ++ w_al 2 (fun j => r_cl (c_six cC cI cZ) cI (rt_2 j))) := hD.pm (pm_o2 (rx := [(h, .inr (5, [.ref q1, .int 0])), (q1, .inl (cA2, 13, .inr (.inr (.inr (.inr f_2)))))]) (n := [(q7, .inr (4, [.null, .null, .int 0]))]) (B := w_al 2 (fun j => r_cl (c_six cC cI cZ) cI (rt_2 j))))
  refine W.widen (k := 20) (n := 720) (by decide) (by decide) ?_
  refine lv_dup hx hb d_B_init_29 rfl ?_
  refine cl_vQ (wc := [(q7, .inr (4, [.null, .null, .int 0]))]) (wr := [(h, .inr (5, [.ref q1, .int 0])), (q1, .inl (cA2, 13, .inr (.inr (.inr (.inr f_2)))))]) hP hD hK hS hA [2] [0, 1] rfl rfl (by decide) (by decide) (va_runIN (As := []) (rest := [.ref q7, .int 2, .ref q1]) ⟨hx, hb, hml, hown, hts⟩ (c_R_init l D H.size q7) (cw_IN hts 0 k_54 k_4 (hE.1 _ k_52 rfl) k_53 rfl (by decide +kernel) ⟨Nat.le_of_ble_eq_true rfl, Nat.le_of_ble_eq_true rfl⟩) (pr_S hP.lft hD.lft hK [2] [] (by decide) rfl rfl (fun U hU hW => trivial) (fun U g mk a h => h)) rfl rfl hl.1 rfl (lv_room (Nat.le_of_ble_eq_true rfl)) d_B_init_30 ⟨by decide, by decide⟩) (fun u H locs h8 hP hD hK hS => ?_)
  obtain ⟨tt2, kn2, ck2, as_2, at_2, ap_2, ai_2, ar_2, ao_2, cs_2, ct_2, cp_2, ci_2, cr_2, co_2⟩ := u
  have hP : va_P D wcl (([(h, .inr (5, [.ref q1, .int 0])), (q1, .inl (cA2, 13, .inr (.inr (.inr (.inr f_2))))), (q7, .inr (4, [.ref tt2, .ref kn2, .int 0])), (tt2, .inr (6, [.ref as_2, .ref at_2, .ref ap_2, .ref ai_2, .ref ar_2, .ref ao_2, .int 0, .int 0, .int 0, .int 0, .int 0])), (as_2, .inl (cs_2, 60, .inl (fun _ => 0))), (at_2, .inl (ct_2, 60, .inl (fun _ => 0))), (ap_2, .inl (cp_2, 60, .inl (fun _ => 0))), (ai_2, .inl (ci_2, 60, .inl (fun _ => 0))), (ar_2, .inl (cr_2, 60, .inl (fun _ => 0))), (ao_2, .inl (co_2, 12, .inl (fun _ => 0))), (kn2, .inl (ck2, 26, .inl (fun _ => 0)))] : va_W) ++ w_al 2 (fun j => r_cl (c_six cC cI cZ) cI (rt_2 j))) H := hP
  have hD : va_D A (([(h, .inr (5, [.ref q1, .int 0])), (q1, .inl (cA2, 13, .inr (.inr (.inr (.inr f_2))))), (q7, .inr (4, [.ref tt2, .ref kn2, .int 0])), (tt2, .inr (6, [.ref as_2, .ref at_2, .ref ap_2, .ref ai_2, .ref ar_2, .ref ao_2, .int 0, .int 0, .int 0, .int 0, .int 0])), (as_2, .inl (cs_2, 60, .inl (fun _ => 0))), (at_2, .inl (ct_2, 60, .inl (fun _ => 0))), (ap_2, .inl (cp_2, 60, .inl (fun _ => 0))), (ai_2, .inl (ci_2, 60, .inl (fun _ => 0))), (ar_2, .inl (cr_2, 60, .inl (fun _ => 0))), (ao_2, .inl (co_2, 12, .inl (fun _ => 0))), (kn2, .inl (ck2, 26, .inl (fun _ => 0)))] : va_W) ++ w_al 2 (fun j => r_cl (c_six cC cI cZ) cI (rt_2 j))) := hD
  have hK : va_K D wcl [(cA2, .object rc_R), (cC, .char), (cI, .int), (cZ, .boolean), (cs_2, .char), (ct_2, .int), (cp_2, .int), (ci_2, .int), (cr_2, .boolean), (co_2, .int), (ck2, .int)] s := hK
  refine W.widen (k := 28) (n := 1069) (by decide) (by decide) ?_
  refine va_astq hx hb hK hP hD hS 1 0 2 4 (r := (rc_R, ft_R, 3)) rfl rfl rfl rfl (vp_in_nI (n := 2) (N := 13) (by decide) (by decide)) d_B_init_33 (fun H locs hP hD hS => ?_)
  have hP : va_P D wcl (([(h, .inr (5, [.ref q1, .int 0])), (q1, .inl (cA2, 13, .inr (.inr (.inr (.inr (va_up f_2 (2 : Int32).toNatClampNeg (some q7))))))), (q7, .inr (4, [.ref tt2, .ref kn2, .int 0])), (tt2, .inr (6, [.ref as_2, .ref at_2, .ref ap_2, .ref ai_2, .ref ar_2, .ref ao_2, .int 0, .int 0, .int 0, .int 0, .int 0])), (as_2, .inl (cs_2, 60, .inl (fun _ => 0))), (at_2, .inl (ct_2, 60, .inl (fun _ => 0))), (ap_2, .inl (cp_2, 60, .inl (fun _ => 0))), (ai_2, .inl (ci_2, 60, .inl (fun _ => 0))), (ar_2, .inl (cr_2, 60, .inl (fun _ => 0))), (ao_2, .inl (co_2, 12, .inl (fun _ => 0))), (kn2, .inl (ck2, 26, .inl (fun _ => 0)))] : va_W) ++ w_al 2 (fun j => r_cl (c_six cC cI cZ) cI (rt_2 j))) H := hP
  have hD : va_D A (([(h, .inr (5, [.ref q1, .int 0])), (q1, .inl (cA2, 13, .inr (.inr (.inr (.inr (va_up f_2 (2 : Int32).toNatClampNeg (some q7))))))), (q7, .inr (4, [.ref tt2, .ref kn2, .int 0])), (tt2, .inr (6, [.ref as_2, .ref at_2, .ref ap_2, .ref ai_2, .ref ar_2, .ref ao_2, .int 0, .int 0, .int 0, .int 0, .int 0])), (as_2, .inl (cs_2, 60, .inl (fun _ => 0))), (at_2, .inl (ct_2, 60, .inl (fun _ => 0))), (ap_2, .inl (cp_2, 60, .inl (fun _ => 0))), (ai_2, .inl (ci_2, 60, .inl (fun _ => 0))), (ar_2, .inl (cr_2, 60, .inl (fun _ => 0))), (ao_2, .inl (co_2, 12, .inl (fun _ => 0))), (kn2, .inl (ck2, 26, .inl (fun _ => 0)))] : va_W) ++ w_al 2 (fun j => r_cl (c_six cC cI cZ) cI (rt_2 j))) := hD
  obtain ⟨f_3, hf_3⟩ : ∃ f, f = va_up f_2 (2 : Int32).toNatClampNeg (some q7) := ⟨_, rfl⟩
  rw [← hf_3] at hP hD
  have hP : va_P D wcl (([(h, .inr (5, [.ref q1, .int 0])), (q1, .inl (cA2, 13, .inr (.inr (.inr (.inr f_3))))), (q7, .inr (4, [.ref tt2, .ref kn2, .int 0])), (tt2, .inr (6, [.ref as_2, .ref at_2, .ref ap_2, .ref ai_2, .ref ar_2, .ref ao_2, .int 0, .int 0, .int 0, .int 0, .int 0])), (as_2, .inl (cs_2, 60, .inl (fun _ => 0))), (at_2, .inl (ct_2, 60, .inl (fun _ => 0))), (ap_2, .inl (cp_2, 60, .inl (fun _ => 0))), (ai_2, .inl (ci_2, 60, .inl (fun _ => 0))), (ar_2, .inl (cr_2, 60, .inl (fun _ => 0))), (ao_2, .inl (co_2, 12, .inl (fun _ => 0))), (kn2, .inl (ck2, 26, .inl (fun _ => 0)))] : va_W) ++ w_al 2 (fun j => r_cl (c_six cC cI cZ) cI (rt_2 j))) H := hP
  have hD : va_D A (([(h, .inr (5, [.ref q1, .int 0])), (q1, .inl (cA2, 13, .inr (.inr (.inr (.inr f_3))))), (q7, .inr (4, [.ref tt2, .ref kn2, .int 0])), (tt2, .inr (6, [.ref as_2, .ref at_2, .ref ap_2, .ref ai_2, .ref ar_2, .ref ao_2, .int 0, .int 0, .int 0, .int 0, .int 0])), (as_2, .inl (cs_2, 60, .inl (fun _ => 0))), (at_2, .inl (ct_2, 60, .inl (fun _ => 0))), (ap_2, .inl (cp_2, 60, .inl (fun _ => 0))), (ai_2, .inl (ci_2, 60, .inl (fun _ => 0))), (ar_2, .inl (cr_2, 60, .inl (fun _ => 0))), (ao_2, .inl (co_2, 12, .inl (fun _ => 0))), (kn2, .inl (ck2, 26, .inl (fun _ => 0)))] : va_W) ++ w_al 2 (fun j => r_cl (c_six cC cI cZ) cI (rt_2 j))) := hD
  have qi : cC = cs_2 := Option.some.inj ((va_nm_char (hK.2 1 _ rfl).2).symm.trans (va_nm_char (hK.2 4 _ rfl).2))
  subst qi
  have qi : cI = ct_2 := Option.some.inj ((va_nm_int (hK.2 2 _ rfl).2).symm.trans (va_nm_int (hK.2 5 _ rfl).2))
  subst qi
  have qi : cI = cp_2 := Option.some.inj ((va_nm_int (hK.2 2 _ rfl).2).symm.trans (va_nm_int (hK.2 6 _ rfl).2))
  subst qi
  have qi : cI = ci_2 := Option.some.inj ((va_nm_int (hK.2 2 _ rfl).2).symm.trans (va_nm_int (hK.2 7 _ rfl).2))
  subst qi
  have qi : cZ = cr_2 := Option.some.inj ((va_nm_boolean (hK.2 3 _ rfl).2).symm.trans (va_nm_boolean (hK.2 8 _ rfl).2))
  subst qi
  have qi : cI = co_2 := Option.some.inj ((va_nm_int (hK.2 2 _ rfl).2).symm.trans (va_nm_int (hK.2 9 _ rfl).2))
  subst qi
  have qi : cI = ck2 := Option.some.inj ((va_nm_int (hK.2 2 _ rfl).2).symm.trans (va_nm_int (hK.2 10 _ rfl).2))
  subst qi
  have hK := hK.sub (tys' := [(cA2, .object rc_R), (cC, .char), (cI, .int), (cZ, .boolean)]) [0, 1, 2, 3] rfl
  have hP : va_P D wcl (([(h, .inr (5, [.ref q1, .int 0])), (q1, .inl (cA2, 13, .inr (.inr (.inr (.inr f_3))))), (q7, .inr (4, [.ref tt2, .ref kn2, .int 0])), (tt2, .inr (6, [.ref as_2, .ref at_2, .ref ap_2, .ref ai_2, .ref ar_2, .ref ao_2, .int 0, .int 0, .int 0, .int 0, .int 0])), (as_2, .inl (cC, 60, .inl (fun _ => 0))), (at_2, .inl (cI, 60, .inl (fun _ => 0))), (ap_2, .inl (cI, 60, .inl (fun _ => 0))), (ai_2, .inl (cI, 60, .inl (fun _ => 0))), (ar_2, .inl (cZ, 60, .inl (fun _ => 0))), (ao_2, .inl (cI, 12, .inl (fun _ => 0))), (kn2, .inl (cI, 26, .inl (fun _ => 0)))] : va_W) ++ w_al 2 (fun j => r_cl (c_six cC cI cZ) cI (rt_2 j))) _ := hP.part [0, 1, 2, 3, 4, 5, 6, 7, 8, 9, 10] rfl
  have hD : va_D A (([(h, .inr (5, [.ref q1, .int 0])), (q1, .inl (cA2, 13, .inr (.inr (.inr (.inr f_3))))), (q7, .inr (4, [.ref tt2, .ref kn2, .int 0])), (tt2, .inr (6, [.ref as_2, .ref at_2, .ref ap_2, .ref ai_2, .ref ar_2, .ref ao_2, .int 0, .int 0, .int 0, .int 0, .int 0])), (as_2, .inl (cC, 60, .inl (fun _ => 0))), (at_2, .inl (cI, 60, .inl (fun _ => 0))), (ap_2, .inl (cI, 60, .inl (fun _ => 0))), (ai_2, .inl (cI, 60, .inl (fun _ => 0))), (ar_2, .inl (cZ, 60, .inl (fun _ => 0))), (ao_2, .inl (cI, 12, .inl (fun _ => 0))), (kn2, .inl (cI, 26, .inl (fun _ => 0)))] : va_W) ++ w_al 2 (fun j => r_cl (c_six cC cI cZ) cI (rt_2 j))) := hD.part [0, 1, 2, 3, 4, 5, 6, 7, 8, 9, 10] (by decide) rfl
  obtain ⟨rt_3, hr_3⟩ : ∃ f, f = va_up rt_2 2 (r_new q7 tt2 kn2 as_2 at_2 ap_2 ai_2 ar_2 ao_2) := ⟨_, rfl⟩
  have hP : va_P D wcl ((([(h, .inr (5, [.ref q1, .int 0])), (q1, .inl (cA2, 13, .inr (.inr (.inr (.inr f_3)))))] : va_W) ++ r_cl (c_six cC cI cZ) cI (r_new q7 tt2 kn2 as_2 at_2 ap_2 ai_2 ar_2 ao_2)) ++ w_al 2 (fun j => r_cl (c_six cC cI cZ) cI (rt_2 j))) H := hP
  have hP : va_P D wcl (([(h, .inr (5, [.ref q1, .int 0])), (q1, .inl (cA2, 13, .inr (.inr (.inr (.inr f_3)))))] : va_W) ++ w_al 3 (fun j => r_cl (c_six cC cI cZ) cI (rt_3 j))) H := hP.pm (st_pm hr_3)
  have hD : va_D A ((([(h, .inr (5, [.ref q1, .int 0])), (q1, .inl (cA2, 13, .inr (.inr (.inr (.inr f_3)))))] : va_W) ++ r_cl (c_six cC cI cZ) cI (r_new q7 tt2 kn2 as_2 at_2 ap_2 ai_2 ar_2 ao_2)) ++ w_al 2 (fun j => r_cl (c_six cC cI cZ) cI (rt_2 j))) := hD
  have hD : va_D A (([(h, .inr (5, [.ref q1, .int 0])), (q1, .inl (cA2, 13, .inr (.inr (.inr (.inr f_3)))))] : va_W) ++ w_al 3 (fun j => r_cl (c_six cC cI cZ) cI (rt_3 j))) := hD.pm (st_pm hr_3)
  have hb_3 := st_bf (i := 2) hb_2 (hf_3.trans rfl) hr_3
  have hk_3 := st_ok (i := 2) hk_2 (r_new_ok _ _ _ _ _ _ _ _ _) hr_3
  refine lv_iinc (k := 0) (v := 3) hx hb d_B_init_34 hl rfl (by rfl) (by decide) rfl (fun ls hl => ?_)
  have hl : lv_has ls 2 [(1, .int 3), (0, .ref h)] := hl
  refine lv_goto (tgt := 15) hx hb d_B_init_37 (by decide) ?_
  refine lv_iload_n hx hb d_B_init_15 rfl (lv_at hl 0 rfl) ?_
  refine lv_bipush (v := 12) hx hb d_B_init_16 (by decide) ?_
  refine lv_icmp_gt (tgt := 40) hx hb d_B_init_18 (by decide) (fun h9 => absurd h9 (by decide)) (fun _ => ?_)
  refine lv_aload_n hx hb d_B_init_21 rfl (lv_at hl 1 rfl) ?_
  refine va_get (D := D) (ci := 5) (v := .ref q1) (C := rc_B) (T := ft_B) (N := 2) hx hb hts in_B hown hK hP 0 rfl rfl 0 (by decide) (hts _ k_108) (fun _ h9 => h9) rfl d_B_init_22 ?_
  refine lv_iload_n hx hb d_B_init_25 rfl (lv_at hl 0 rfl) ?_
  refine va_new (ci := 4) (fs := [.null, .null, .int 0]) (C := rc_R) (T := ft_R) (N := 3) hx hb hts in_R ty_R tk_R hown (hts _ k_49) (hts _ k_51) (hts _ k_4) hK hP hD hS hA rfl (fun j hj => by revert j; decide) (by decide) (by decide) d_B_init_26 (fun q9 H hP hD hS => ?_)
  have hP : va_P D wcl (([(h, .inr (5, [.ref q1, .int 0])), (q1, .inl (cA2, 13, .inr (.inr (.inr (.inr f_3))))), (q9, .inr (4, [.null, .null, .int 0]))] : va_W) ++ w_al 3 (fun j => r_cl (c_six cC cI cZ) cI (rt_3 j))) H := hP.pm (pm_o2 (rx := [(h, .inr (5, [.ref q1, .int 0])), (q1, .inl (cA2, 13, .inr (.inr (.inr (.inr f_3)))))]) (n := [(q9, .inr (4, [.null, .null, .int 0]))]) (B := w_al 3 (fun j => r_cl (c_six cC cI cZ) cI (rt_3 j))))
  have hD : va_D A (([(h, .inr (5, [.ref q1, .int 0])), (q1, .inl (cA2, 13, .inr (.inr (.inr (.inr f_3))))), (q9, .inr (4, [.null, .null, .int 0]))] : va_W) ++ w_al 3 (fun j => r_cl (c_six cC cI cZ) cI (rt_3 j))) := hD.pm (pm_o2 (rx := [(h, .inr (5, [.ref q1, .int 0])), (q1, .inl (cA2, 13, .inr (.inr (.inr (.inr f_3)))))]) (n := [(q9, .inr (4, [.null, .null, .int 0]))]) (B := w_al 3 (fun j => r_cl (c_six cC cI cZ) cI (rt_3 j))))
  refine W.widen (k := 29) (n := 1072) (by decide) (by decide) ?_
  refine lv_dup hx hb d_B_init_29 rfl ?_
  refine cl_vQ (wc := [(q9, .inr (4, [.null, .null, .int 0]))]) (wr := [(h, .inr (5, [.ref q1, .int 0])), (q1, .inl (cA2, 13, .inr (.inr (.inr (.inr f_3)))))]) hP hD hK hS hA [2] [0, 1] rfl rfl (by decide) (by decide) (va_runIN (As := []) (rest := [.ref q9, .int 3, .ref q1]) ⟨hx, hb, hml, hown, hts⟩ (c_R_init l D H.size q9) (cw_IN hts 0 k_54 k_4 (hE.1 _ k_52 rfl) k_53 rfl (by decide +kernel) ⟨Nat.le_of_ble_eq_true rfl, Nat.le_of_ble_eq_true rfl⟩) (pr_S hP.lft hD.lft hK [2] [] (by decide) rfl rfl (fun U hU hW => trivial) (fun U g mk a h => h)) rfl rfl hl.1 rfl (lv_room (Nat.le_of_ble_eq_true rfl)) d_B_init_30 ⟨by decide, by decide⟩) (fun u H locs h10 hP hD hK hS => ?_)
  obtain ⟨tt3, kn3, ck3, as_3, at_3, ap_3, ai_3, ar_3, ao_3, cs_3, ct_3, cp_3, ci_3, cr_3, co_3⟩ := u
  have hP : va_P D wcl (([(h, .inr (5, [.ref q1, .int 0])), (q1, .inl (cA2, 13, .inr (.inr (.inr (.inr f_3))))), (q9, .inr (4, [.ref tt3, .ref kn3, .int 0])), (tt3, .inr (6, [.ref as_3, .ref at_3, .ref ap_3, .ref ai_3, .ref ar_3, .ref ao_3, .int 0, .int 0, .int 0, .int 0, .int 0])), (as_3, .inl (cs_3, 60, .inl (fun _ => 0))), (at_3, .inl (ct_3, 60, .inl (fun _ => 0))), (ap_3, .inl (cp_3, 60, .inl (fun _ => 0))), (ai_3, .inl (ci_3, 60, .inl (fun _ => 0))), (ar_3, .inl (cr_3, 60, .inl (fun _ => 0))), (ao_3, .inl (co_3, 12, .inl (fun _ => 0))), (kn3, .inl (ck3, 26, .inl (fun _ => 0)))] : va_W) ++ w_al 3 (fun j => r_cl (c_six cC cI cZ) cI (rt_3 j))) H := hP
  have hD : va_D A (([(h, .inr (5, [.ref q1, .int 0])), (q1, .inl (cA2, 13, .inr (.inr (.inr (.inr f_3))))), (q9, .inr (4, [.ref tt3, .ref kn3, .int 0])), (tt3, .inr (6, [.ref as_3, .ref at_3, .ref ap_3, .ref ai_3, .ref ar_3, .ref ao_3, .int 0, .int 0, .int 0, .int 0, .int 0])), (as_3, .inl (cs_3, 60, .inl (fun _ => 0))), (at_3, .inl (ct_3, 60, .inl (fun _ => 0))), (ap_3, .inl (cp_3, 60, .inl (fun _ => 0))), (ai_3, .inl (ci_3, 60, .inl (fun _ => 0))), (ar_3, .inl (cr_3, 60, .inl (fun _ => 0))), (ao_3, .inl (co_3, 12, .inl (fun _ => 0))), (kn3, .inl (ck3, 26, .inl (fun _ => 0)))] : va_W) ++ w_al 3 (fun j => r_cl (c_six cC cI cZ) cI (rt_3 j))) := hD
  have hK : va_K D wcl [(cA2, .object rc_R), (cC, .char), (cI, .int), (cZ, .boolean), (cs_3, .char), (ct_3, .int), (cp_3, .int), (ci_3, .int), (cr_3, .boolean), (co_3, .int), (ck3, .int)] s := hK
  refine W.widen (k := 37) (n := 1421) (by decide) (by decide) ?_
  refine va_astq hx hb hK hP hD hS 1 0 2 4 (r := (rc_R, ft_R, 3)) rfl rfl rfl rfl (vp_in_nI (n := 3) (N := 13) (by decide) (by decide)) d_B_init_33 (fun H locs hP hD hS => ?_)
  have hP : va_P D wcl (([(h, .inr (5, [.ref q1, .int 0])), (q1, .inl (cA2, 13, .inr (.inr (.inr (.inr (va_up f_3 (3 : Int32).toNatClampNeg (some q9))))))), (q9, .inr (4, [.ref tt3, .ref kn3, .int 0])), (tt3, .inr (6, [.ref as_3, .ref at_3, .ref ap_3, .ref ai_3, .ref ar_3, .ref ao_3, .int 0, .int 0, .int 0, .int 0, .int 0])), (as_3, .inl (cs_3, 60, .inl (fun _ => 0))), (at_3, .inl (ct_3, 60, .inl (fun _ => 0))), (ap_3, .inl (cp_3, 60, .inl (fun _ => 0))), (ai_3, .inl (ci_3, 60, .inl (fun _ => 0))), (ar_3, .inl (cr_3, 60, .inl (fun _ => 0))), (ao_3, .inl (co_3, 12, .inl (fun _ => 0))), (kn3, .inl (ck3, 26, .inl (fun _ => 0)))] : va_W) ++ w_al 3 (fun j => r_cl (c_six cC cI cZ) cI (rt_3 j))) H := hP
  have hD : va_D A (([(h, .inr (5, [.ref q1, .int 0])), (q1, .inl (cA2, 13, .inr (.inr (.inr (.inr (va_up f_3 (3 : Int32).toNatClampNeg (some q9))))))), (q9, .inr (4, [.ref tt3, .ref kn3, .int 0])), (tt3, .inr (6, [.ref as_3, .ref at_3, .ref ap_3, .ref ai_3, .ref ar_3, .ref ao_3, .int 0, .int 0, .int 0, .int 0, .int 0])), (as_3, .inl (cs_3, 60, .inl (fun _ => 0))), (at_3, .inl (ct_3, 60, .inl (fun _ => 0))), (ap_3, .inl (cp_3, 60, .inl (fun _ => 0))), (ai_3, .inl (ci_3, 60, .inl (fun _ => 0))), (ar_3, .inl (cr_3, 60, .inl (fun _ => 0))), (ao_3, .inl (co_3, 12, .inl (fun _ => 0))), (kn3, .inl (ck3, 26, .inl (fun _ => 0)))] : va_W) ++ w_al 3 (fun j => r_cl (c_six cC cI cZ) cI (rt_3 j))) := hD
  obtain ⟨f_4, hf_4⟩ : ∃ f, f = va_up f_3 (3 : Int32).toNatClampNeg (some q9) := ⟨_, rfl⟩
  rw [← hf_4] at hP hD
  have hP : va_P D wcl (([(h, .inr (5, [.ref q1, .int 0])), (q1, .inl (cA2, 13, .inr (.inr (.inr (.inr f_4))))), (q9, .inr (4, [.ref tt3, .ref kn3, .int 0])), (tt3, .inr (6, [.ref as_3, .ref at_3, .ref ap_3, .ref ai_3, .ref ar_3, .ref ao_3, .int 0, .int 0, .int 0, .int 0, .int 0])), (as_3, .inl (cs_3, 60, .inl (fun _ => 0))), (at_3, .inl (ct_3, 60, .inl (fun _ => 0))), (ap_3, .inl (cp_3, 60, .inl (fun _ => 0))), (ai_3, .inl (ci_3, 60, .inl (fun _ => 0))), (ar_3, .inl (cr_3, 60, .inl (fun _ => 0))), (ao_3, .inl (co_3, 12, .inl (fun _ => 0))), (kn3, .inl (ck3, 26, .inl (fun _ => 0)))] : va_W) ++ w_al 3 (fun j => r_cl (c_six cC cI cZ) cI (rt_3 j))) H := hP
  have hD : va_D A (([(h, .inr (5, [.ref q1, .int 0])), (q1, .inl (cA2, 13, .inr (.inr (.inr (.inr f_4))))), (q9, .inr (4, [.ref tt3, .ref kn3, .int 0])), (tt3, .inr (6, [.ref as_3, .ref at_3, .ref ap_3, .ref ai_3, .ref ar_3, .ref ao_3, .int 0, .int 0, .int 0, .int 0, .int 0])), (as_3, .inl (cs_3, 60, .inl (fun _ => 0))), (at_3, .inl (ct_3, 60, .inl (fun _ => 0))), (ap_3, .inl (cp_3, 60, .inl (fun _ => 0))), (ai_3, .inl (ci_3, 60, .inl (fun _ => 0))), (ar_3, .inl (cr_3, 60, .inl (fun _ => 0))), (ao_3, .inl (co_3, 12, .inl (fun _ => 0))), (kn3, .inl (ck3, 26, .inl (fun _ => 0)))] : va_W) ++ w_al 3 (fun j => r_cl (c_six cC cI cZ) cI (rt_3 j))) := hD
  have qi : cC = cs_3 := Option.some.inj ((va_nm_char (hK.2 1 _ rfl).2).symm.trans (va_nm_char (hK.2 4 _ rfl).2))
  subst qi
  have qi : cI = ct_3 := Option.some.inj ((va_nm_int (hK.2 2 _ rfl).2).symm.trans (va_nm_int (hK.2 5 _ rfl).2))
  subst qi
  have qi : cI = cp_3 := Option.some.inj ((va_nm_int (hK.2 2 _ rfl).2).symm.trans (va_nm_int (hK.2 6 _ rfl).2))
  subst qi
  have qi : cI = ci_3 := Option.some.inj ((va_nm_int (hK.2 2 _ rfl).2).symm.trans (va_nm_int (hK.2 7 _ rfl).2))
  subst qi
  have qi : cZ = cr_3 := Option.some.inj ((va_nm_boolean (hK.2 3 _ rfl).2).symm.trans (va_nm_boolean (hK.2 8 _ rfl).2))
  subst qi
  have qi : cI = co_3 := Option.some.inj ((va_nm_int (hK.2 2 _ rfl).2).symm.trans (va_nm_int (hK.2 9 _ rfl).2))
  subst qi
  have qi : cI = ck3 := Option.some.inj ((va_nm_int (hK.2 2 _ rfl).2).symm.trans (va_nm_int (hK.2 10 _ rfl).2))
  subst qi
  have hK := hK.sub (tys' := [(cA2, .object rc_R), (cC, .char), (cI, .int), (cZ, .boolean)]) [0, 1, 2, 3] rfl
  have hP : va_P D wcl (([(h, .inr (5, [.ref q1, .int 0])), (q1, .inl (cA2, 13, .inr (.inr (.inr (.inr f_4))))), (q9, .inr (4, [.ref tt3, .ref kn3, .int 0])), (tt3, .inr (6, [.ref as_3, .ref at_3, .ref ap_3, .ref ai_3, .ref ar_3, .ref ao_3, .int 0, .int 0, .int 0, .int 0, .int 0])), (as_3, .inl (cC, 60, .inl (fun _ => 0))), (at_3, .inl (cI, 60, .inl (fun _ => 0))), (ap_3, .inl (cI, 60, .inl (fun _ => 0))), (ai_3, .inl (cI, 60, .inl (fun _ => 0))), (ar_3, .inl (cZ, 60, .inl (fun _ => 0))), (ao_3, .inl (cI, 12, .inl (fun _ => 0))), (kn3, .inl (cI, 26, .inl (fun _ => 0)))] : va_W) ++ w_al 3 (fun j => r_cl (c_six cC cI cZ) cI (rt_3 j))) _ := hP.part [0, 1, 2, 3, 4, 5, 6, 7, 8, 9, 10] rfl
  have hD : va_D A (([(h, .inr (5, [.ref q1, .int 0])), (q1, .inl (cA2, 13, .inr (.inr (.inr (.inr f_4))))), (q9, .inr (4, [.ref tt3, .ref kn3, .int 0])), (tt3, .inr (6, [.ref as_3, .ref at_3, .ref ap_3, .ref ai_3, .ref ar_3, .ref ao_3, .int 0, .int 0, .int 0, .int 0, .int 0])), (as_3, .inl (cC, 60, .inl (fun _ => 0))), (at_3, .inl (cI, 60, .inl (fun _ => 0))), (ap_3, .inl (cI, 60, .inl (fun _ => 0))), (ai_3, .inl (cI, 60, .inl (fun _ => 0))), (ar_3, .inl (cZ, 60, .inl (fun _ => 0))), (ao_3, .inl (cI, 12, .inl (fun _ => 0))), (kn3, .inl (cI, 26, .inl (fun _ => 0)))] : va_W) ++ w_al 3 (fun j => r_cl (c_six cC cI cZ) cI (rt_3 j))) := hD.part [0, 1, 2, 3, 4, 5, 6, 7, 8, 9, 10] (by decide) rfl
  obtain ⟨rt_4, hr_4⟩ : ∃ f, f = va_up rt_3 3 (r_new q9 tt3 kn3 as_3 at_3 ap_3 ai_3 ar_3 ao_3) := ⟨_, rfl⟩
  have hP : va_P D wcl ((([(h, .inr (5, [.ref q1, .int 0])), (q1, .inl (cA2, 13, .inr (.inr (.inr (.inr f_4)))))] : va_W) ++ r_cl (c_six cC cI cZ) cI (r_new q9 tt3 kn3 as_3 at_3 ap_3 ai_3 ar_3 ao_3)) ++ w_al 3 (fun j => r_cl (c_six cC cI cZ) cI (rt_3 j))) H := hP
  have hP : va_P D wcl (([(h, .inr (5, [.ref q1, .int 0])), (q1, .inl (cA2, 13, .inr (.inr (.inr (.inr f_4)))))] : va_W) ++ w_al 4 (fun j => r_cl (c_six cC cI cZ) cI (rt_4 j))) H := hP.pm (st_pm hr_4)
  have hD : va_D A ((([(h, .inr (5, [.ref q1, .int 0])), (q1, .inl (cA2, 13, .inr (.inr (.inr (.inr f_4)))))] : va_W) ++ r_cl (c_six cC cI cZ) cI (r_new q9 tt3 kn3 as_3 at_3 ap_3 ai_3 ar_3 ao_3)) ++ w_al 3 (fun j => r_cl (c_six cC cI cZ) cI (rt_3 j))) := hD
  have hD : va_D A (([(h, .inr (5, [.ref q1, .int 0])), (q1, .inl (cA2, 13, .inr (.inr (.inr (.inr f_4)))))] : va_W) ++ w_al 4 (fun j => r_cl (c_six cC cI cZ) cI (rt_4 j))) := hD.pm (st_pm hr_4)
  have hb_4 := st_bf (i := 3) hb_3 (hf_4.trans rfl) hr_4
  have hk_4 := st_ok (i := 3) hk_3 (r_new_ok _ _ _ _ _ _ _ _ _) hr_4
  refine lv_iinc (k := 0) (v := 4) hx hb d_B_init_34 hl rfl (by rfl) (by decide) rfl (fun ls hl => ?_)
  have hl : lv_has ls 2 [(1, .int 4), (0, .ref h)] := hl
  refine lv_goto (tgt := 15) hx hb d_B_init_37 (by decide) ?_
  refine lv_iload_n hx hb d_B_init_15 rfl (lv_at hl 0 rfl) ?_
  refine lv_bipush (v := 12) hx hb d_B_init_16 (by decide) ?_
  refine lv_icmp_gt (tgt := 40) hx hb d_B_init_18 (by decide) (fun h9 => absurd h9 (by decide)) (fun _ => ?_)
  refine lv_aload_n hx hb d_B_init_21 rfl (lv_at hl 1 rfl) ?_
  refine va_get (D := D) (ci := 5) (v := .ref q1) (C := rc_B) (T := ft_B) (N := 2) hx hb hts in_B hown hK hP 0 rfl rfl 0 (by decide) (hts _ k_108) (fun _ h9 => h9) rfl d_B_init_22 ?_
  refine lv_iload_n hx hb d_B_init_25 rfl (lv_at hl 0 rfl) ?_
  refine va_new (ci := 4) (fs := [.null, .null, .int 0]) (C := rc_R) (T := ft_R) (N := 3) hx hb hts in_R ty_R tk_R hown (hts _ k_49) (hts _ k_51) (hts _ k_4) hK hP hD hS hA rfl (fun j hj => by revert j; decide) (by decide) (by decide) d_B_init_26 (fun q11 H hP hD hS => ?_)
  have hP : va_P D wcl (([(h, .inr (5, [.ref q1, .int 0])), (q1, .inl (cA2, 13, .inr (.inr (.inr (.inr f_4))))), (q11, .inr (4, [.null, .null, .int 0]))] : va_W) ++ w_al 4 (fun j => r_cl (c_six cC cI cZ) cI (rt_4 j))) H := hP.pm (pm_o2 (rx := [(h, .inr (5, [.ref q1, .int 0])), (q1, .inl (cA2, 13, .inr (.inr (.inr (.inr f_4)))))]) (n := [(q11, .inr (4, [.null, .null, .int 0]))]) (B := w_al 4 (fun j => r_cl (c_six cC cI cZ) cI (rt_4 j))))
  have hD : va_D A (([(h, .inr (5, [.ref q1, .int 0])), (q1, .inl (cA2, 13, .inr (.inr (.inr (.inr f_4))))), (q11, .inr (4, [.null, .null, .int 0]))] : va_W) ++ w_al 4 (fun j => r_cl (c_six cC cI cZ) cI (rt_4 j))) := hD.pm (pm_o2 (rx := [(h, .inr (5, [.ref q1, .int 0])), (q1, .inl (cA2, 13, .inr (.inr (.inr (.inr f_4)))))]) (n := [(q11, .inr (4, [.null, .null, .int 0]))]) (B := w_al 4 (fun j => r_cl (c_six cC cI cZ) cI (rt_4 j))))
  refine W.widen (k := 38) (n := 1424) (by decide) (by decide) ?_
  refine lv_dup hx hb d_B_init_29 rfl ?_
  refine cl_vQ (wc := [(q11, .inr (4, [.null, .null, .int 0]))]) (wr := [(h, .inr (5, [.ref q1, .int 0])), (q1, .inl (cA2, 13, .inr (.inr (.inr (.inr f_4)))))]) hP hD hK hS hA [2] [0, 1] rfl rfl (by decide) (by decide) (va_runIN (As := []) (rest := [.ref q11, .int 4, .ref q1]) ⟨hx, hb, hml, hown, hts⟩ (c_R_init l D H.size q11) (cw_IN hts 0 k_54 k_4 (hE.1 _ k_52 rfl) k_53 rfl (by decide +kernel) ⟨Nat.le_of_ble_eq_true rfl, Nat.le_of_ble_eq_true rfl⟩) (pr_S hP.lft hD.lft hK [2] [] (by decide) rfl rfl (fun U hU hW => trivial) (fun U g mk a h => h)) rfl rfl hl.1 rfl (lv_room (Nat.le_of_ble_eq_true rfl)) d_B_init_30 ⟨by decide, by decide⟩) (fun u H locs h12 hP hD hK hS => ?_)
  obtain ⟨tt4, kn4, ck4, as_4, at_4, ap_4, ai_4, ar_4, ao_4, cs_4, ct_4, cp_4, ci_4, cr_4, co_4⟩ := u
  have hP : va_P D wcl (([(h, .inr (5, [.ref q1, .int 0])), (q1, .inl (cA2, 13, .inr (.inr (.inr (.inr f_4))))), (q11, .inr (4, [.ref tt4, .ref kn4, .int 0])), (tt4, .inr (6, [.ref as_4, .ref at_4, .ref ap_4, .ref ai_4, .ref ar_4, .ref ao_4, .int 0, .int 0, .int 0, .int 0, .int 0])), (as_4, .inl (cs_4, 60, .inl (fun _ => 0))), (at_4, .inl (ct_4, 60, .inl (fun _ => 0))), (ap_4, .inl (cp_4, 60, .inl (fun _ => 0))), (ai_4, .inl (ci_4, 60, .inl (fun _ => 0))), (ar_4, .inl (cr_4, 60, .inl (fun _ => 0))), (ao_4, .inl (co_4, 12, .inl (fun _ => 0))), (kn4, .inl (ck4, 26, .inl (fun _ => 0)))] : va_W) ++ w_al 4 (fun j => r_cl (c_six cC cI cZ) cI (rt_4 j))) H := hP
  have hD : va_D A (([(h, .inr (5, [.ref q1, .int 0])), (q1, .inl (cA2, 13, .inr (.inr (.inr (.inr f_4))))), (q11, .inr (4, [.ref tt4, .ref kn4, .int 0])), (tt4, .inr (6, [.ref as_4, .ref at_4, .ref ap_4, .ref ai_4, .ref ar_4, .ref ao_4, .int 0, .int 0, .int 0, .int 0, .int 0])), (as_4, .inl (cs_4, 60, .inl (fun _ => 0))), (at_4, .inl (ct_4, 60, .inl (fun _ => 0))), (ap_4, .inl (cp_4, 60, .inl (fun _ => 0))), (ai_4, .inl (ci_4, 60, .inl (fun _ => 0))), (ar_4, .inl (cr_4, 60, .inl (fun _ => 0))), (ao_4, .inl (co_4, 12, .inl (fun _ => 0))), (kn4, .inl (ck4, 26, .inl (fun _ => 0)))] : va_W) ++ w_al 4 (fun j => r_cl (c_six cC cI cZ) cI (rt_4 j))) := hD
  have hK : va_K D wcl [(cA2, .object rc_R), (cC, .char), (cI, .int), (cZ, .boolean), (cs_4, .char), (ct_4, .int), (cp_4, .int), (ci_4, .int), (cr_4, .boolean), (co_4, .int), (ck4, .int)] s := hK
  refine W.widen (k := 46) (n := 1773) (by decide) (by decide) ?_
  refine va_astq hx hb hK hP hD hS 1 0 2 4 (r := (rc_R, ft_R, 3)) rfl rfl rfl rfl (vp_in_nI (n := 4) (N := 13) (by decide) (by decide)) d_B_init_33 (fun H locs hP hD hS => ?_)
  have hP : va_P D wcl (([(h, .inr (5, [.ref q1, .int 0])), (q1, .inl (cA2, 13, .inr (.inr (.inr (.inr (va_up f_4 (4 : Int32).toNatClampNeg (some q11))))))), (q11, .inr (4, [.ref tt4, .ref kn4, .int 0])), (tt4, .inr (6, [.ref as_4, .ref at_4, .ref ap_4, .ref ai_4, .ref ar_4, .ref ao_4, .int 0, .int 0, .int 0, .int 0, .int 0])), (as_4, .inl (cs_4, 60, .inl (fun _ => 0))), (at_4, .inl (ct_4, 60, .inl (fun _ => 0))), (ap_4, .inl (cp_4, 60, .inl (fun _ => 0))), (ai_4, .inl (ci_4, 60, .inl (fun _ => 0))), (ar_4, .inl (cr_4, 60, .inl (fun _ => 0))), (ao_4, .inl (co_4, 12, .inl (fun _ => 0))), (kn4, .inl (ck4, 26, .inl (fun _ => 0)))] : va_W) ++ w_al 4 (fun j => r_cl (c_six cC cI cZ) cI (rt_4 j))) H := hP
  have hD : va_D A (([(h, .inr (5, [.ref q1, .int 0])), (q1, .inl (cA2, 13, .inr (.inr (.inr (.inr (va_up f_4 (4 : Int32).toNatClampNeg (some q11))))))), (q11, .inr (4, [.ref tt4, .ref kn4, .int 0])), (tt4, .inr (6, [.ref as_4, .ref at_4, .ref ap_4, .ref ai_4, .ref ar_4, .ref ao_4, .int 0, .int 0, .int 0, .int 0, .int 0])), (as_4, .inl (cs_4, 60, .inl (fun _ => 0))), (at_4, .inl (ct_4, 60, .inl (fun _ => 0))), (ap_4, .inl (cp_4, 60, .inl (fun _ => 0))), (ai_4, .inl (ci_4, 60, .inl (fun _ => 0))), (ar_4, .inl (cr_4, 60, .inl (fun _ => 0))), (ao_4, .inl (co_4, 12, .inl (fun _ => 0))), (kn4, .inl (ck4, 26, .inl (fun _ => 0)))] : va_W) ++ w_al 4 (fun j => r_cl (c_six cC cI cZ) cI (rt_4 j))) := hD
  obtain ⟨f_5, hf_5⟩ : ∃ f, f = va_up f_4 (4 : Int32).toNatClampNeg (some q11) := ⟨_, rfl⟩
  rw [← hf_5] at hP hD
  have hP : va_P D wcl (([(h, .inr (5, [.ref q1, .int 0])), (q1, .inl (cA2, 13, .inr (.inr (.inr (.inr f_5))))), (q11, .inr (4, [.ref tt4, .ref kn4, .int 0])), (tt4, .inr (6, [.ref as_4, .ref at_4, .ref ap_4, .ref ai_4, .ref ar_4, .ref ao_4, .int 0, .int 0, .int 0, .int 0, .int 0])), (as_4, .inl (cs_4, 60, .inl (fun _ => 0))), (at_4, .inl (ct_4, 60, .inl (fun _ => 0))), (ap_4, .inl (cp_4, 60, .inl (fun _ => 0))), (ai_4, .inl (ci_4, 60, .inl (fun _ => 0))), (ar_4, .inl (cr_4, 60, .inl (fun _ => 0))), (ao_4, .inl (co_4, 12, .inl (fun _ => 0))), (kn4, .inl (ck4, 26, .inl (fun _ => 0)))] : va_W) ++ w_al 4 (fun j => r_cl (c_six cC cI cZ) cI (rt_4 j))) H := hP
  have hD : va_D A (([(h, .inr (5, [.ref q1, .int 0])), (q1, .inl (cA2, 13, .inr (.inr (.inr (.inr f_5))))), (q11, .inr (4, [.ref tt4, .ref kn4, .int 0])), (tt4, .inr (6, [.ref as_4, .ref at_4, .ref ap_4, .ref ai_4, .ref ar_4, .ref ao_4, .int 0, .int 0, .int 0, .int 0, .int 0])), (as_4, .inl (cs_4, 60, .inl (fun _ => 0))), (at_4, .inl (ct_4, 60, .inl (fun _ => 0))), (ap_4, .inl (cp_4, 60, .inl (fun _ => 0))), (ai_4, .inl (ci_4, 60, .inl (fun _ => 0))), (ar_4, .inl (cr_4, 60, .inl (fun _ => 0))), (ao_4, .inl (co_4, 12, .inl (fun _ => 0))), (kn4, .inl (ck4, 26, .inl (fun _ => 0)))] : va_W) ++ w_al 4 (fun j => r_cl (c_six cC cI cZ) cI (rt_4 j))) := hD
  have qi : cC = cs_4 := Option.some.inj ((va_nm_char (hK.2 1 _ rfl).2).symm.trans (va_nm_char (hK.2 4 _ rfl).2))
  subst qi
  have qi : cI = ct_4 := Option.some.inj ((va_nm_int (hK.2 2 _ rfl).2).symm.trans (va_nm_int (hK.2 5 _ rfl).2))
  subst qi
  have qi : cI = cp_4 := Option.some.inj ((va_nm_int (hK.2 2 _ rfl).2).symm.trans (va_nm_int (hK.2 6 _ rfl).2))
  subst qi
  have qi : cI = ci_4 := Option.some.inj ((va_nm_int (hK.2 2 _ rfl).2).symm.trans (va_nm_int (hK.2 7 _ rfl).2))
  subst qi
  have qi : cZ = cr_4 := Option.some.inj ((va_nm_boolean (hK.2 3 _ rfl).2).symm.trans (va_nm_boolean (hK.2 8 _ rfl).2))
  subst qi
  have qi : cI = co_4 := Option.some.inj ((va_nm_int (hK.2 2 _ rfl).2).symm.trans (va_nm_int (hK.2 9 _ rfl).2))
  subst qi
  have qi : cI = ck4 := Option.some.inj ((va_nm_int (hK.2 2 _ rfl).2).symm.trans (va_nm_int (hK.2 10 _ rfl).2))
  subst qi
  have hK := hK.sub (tys' := [(cA2, .object rc_R), (cC, .char), (cI, .int), (cZ, .boolean)]) [0, 1, 2, 3] rfl
  have hP : va_P D wcl (([(h, .inr (5, [.ref q1, .int 0])), (q1, .inl (cA2, 13, .inr (.inr (.inr (.inr f_5))))), (q11, .inr (4, [.ref tt4, .ref kn4, .int 0])), (tt4, .inr (6, [.ref as_4, .ref at_4, .ref ap_4, .ref ai_4, .ref ar_4, .ref ao_4, .int 0, .int 0, .int 0, .int 0, .int 0])), (as_4, .inl (cC, 60, .inl (fun _ => 0))), (at_4, .inl (cI, 60, .inl (fun _ => 0))), (ap_4, .inl (cI, 60, .inl (fun _ => 0))), (ai_4, .inl (cI, 60, .inl (fun _ => 0))), (ar_4, .inl (cZ, 60, .inl (fun _ => 0))), (ao_4, .inl (cI, 12, .inl (fun _ => 0))), (kn4, .inl (cI, 26, .inl (fun _ => 0)))] : va_W) ++ w_al 4 (fun j => r_cl (c_six cC cI cZ) cI (rt_4 j))) _ := hP.part [0, 1, 2, 3, 4, 5, 6, 7, 8, 9, 10] rfl
  have hD : va_D A (([(h, .inr (5, [.ref q1, .int 0])), (q1, .inl (cA2, 13, .inr (.inr (.inr (.inr f_5))))), (q11, .inr (4, [.ref tt4, .ref kn4, .int 0])), (tt4, .inr (6, [.ref as_4, .ref at_4, .ref ap_4, .ref ai_4, .ref ar_4, .ref ao_4, .int 0, .int 0, .int 0, .int 0, .int 0])), (as_4, .inl (cC, 60, .inl (fun _ => 0))), (at_4, .inl (cI, 60, .inl (fun _ => 0))), (ap_4, .inl (cI, 60, .inl (fun _ => 0))), (ai_4, .inl (cI, 60, .inl (fun _ => 0))), (ar_4, .inl (cZ, 60, .inl (fun _ => 0))), (ao_4, .inl (cI, 12, .inl (fun _ => 0))), (kn4, .inl (cI, 26, .inl (fun _ => 0)))] : va_W) ++ w_al 4 (fun j => r_cl (c_six cC cI cZ) cI (rt_4 j))) := hD.part [0, 1, 2, 3, 4, 5, 6, 7, 8, 9, 10] (by decide) rfl
  obtain ⟨rt_5, hr_5⟩ : ∃ f, f = va_up rt_4 4 (r_new q11 tt4 kn4 as_4 at_4 ap_4 ai_4 ar_4 ao_4) := ⟨_, rfl⟩
  have hP : va_P D wcl ((([(h, .inr (5, [.ref q1, .int 0])), (q1, .inl (cA2, 13, .inr (.inr (.inr (.inr f_5)))))] : va_W) ++ r_cl (c_six cC cI cZ) cI (r_new q11 tt4 kn4 as_4 at_4 ap_4 ai_4 ar_4 ao_4)) ++ w_al 4 (fun j => r_cl (c_six cC cI cZ) cI (rt_4 j))) H := hP
  have hP : va_P D wcl (([(h, .inr (5, [.ref q1, .int 0])), (q1, .inl (cA2, 13, .inr (.inr (.inr (.inr f_5)))))] : va_W) ++ w_al 5 (fun j => r_cl (c_six cC cI cZ) cI (rt_5 j))) H := hP.pm (st_pm hr_5)
  have hD : va_D A ((([(h, .inr (5, [.ref q1, .int 0])), (q1, .inl (cA2, 13, .inr (.inr (.inr (.inr f_5)))))] : va_W) ++ r_cl (c_six cC cI cZ) cI (r_new q11 tt4 kn4 as_4 at_4 ap_4 ai_4 ar_4 ao_4)) ++ w_al 4 (fun j => r_cl (c_six cC cI cZ) cI (rt_4 j))) := hD
  have hD : va_D A (([(h, .inr (5, [.ref q1, .int 0])), (q1, .inl (cA2, 13, .inr (.inr (.inr (.inr f_5)))))] : va_W) ++ w_al 5 (fun j => r_cl (c_six cC cI cZ) cI (rt_5 j))) := hD.pm (st_pm hr_5)
  have hb_5 := st_bf (i := 4) hb_4 (hf_5.trans rfl) hr_5
  have hk_5 := st_ok (i := 4) hk_4 (r_new_ok _ _ _ _ _ _ _ _ _) hr_5
  refine lv_iinc (k := 0) (v := 5) hx hb d_B_init_34 hl rfl (by rfl) (by decide) rfl (fun ls hl => ?_)
  have hl : lv_has ls 2 [(1, .int 5), (0, .ref h)] := hl
  refine lv_goto (tgt := 15) hx hb d_B_init_37 (by decide) ?_
  refine lv_iload_n hx hb d_B_init_15 rfl (lv_at hl 0 rfl) ?_
  refine lv_bipush (v := 12) hx hb d_B_init_16 (by decide) ?_
  refine lv_icmp_gt (tgt := 40) hx hb d_B_init_18 (by decide) (fun h9 => absurd h9 (by decide)) (fun _ => ?_)
  refine lv_aload_n hx hb d_B_init_21 rfl (lv_at hl 1 rfl) ?_
  refine va_get (D := D) (ci := 5) (v := .ref q1) (C := rc_B) (T := ft_B) (N := 2) hx hb hts in_B hown hK hP 0 rfl rfl 0 (by decide) (hts _ k_108) (fun _ h9 => h9) rfl d_B_init_22 ?_
  refine lv_iload_n hx hb d_B_init_25 rfl (lv_at hl 0 rfl) ?_
  refine va_new (ci := 4) (fs := [.null, .null, .int 0]) (C := rc_R) (T := ft_R) (N := 3) hx hb hts in_R ty_R tk_R hown (hts _ k_49) (hts _ k_51) (hts _ k_4) hK hP hD hS hA rfl (fun j hj => by revert j; decide) (by decide) (by decide) d_B_init_26 (fun q13 H hP hD hS => ?_)
  have hP : va_P D wcl (([(h, .inr (5, [.ref q1, .int 0])), (q1, .inl (cA2, 13, .inr (.inr (.inr (.inr f_5))))), (q13, .inr (4, [.null, .null, .int 0]))] : va_W) ++ w_al 5 (fun j => r_cl (c_six cC cI cZ) cI (rt_5 j))) H := hP.pm (pm_o2 (rx := [(h, .inr (5, [.ref q1, .int 0])), (q1, .inl (cA2, 13, .inr (.inr (.inr (.inr f_5)))))]) (n := [(q13, .inr (4, [.null, .null, .int 0]))]) (B := w_al 5 (fun j => r_cl (c_six cC cI cZ) cI (rt_5 j))))
  have hD : va_D A (([(h, .inr (5, [.ref q1, .int 0])), (q1, .inl (cA2, 13, .inr (.inr (.inr (.inr f_5))))), (q13, .inr (4, [.null, .null, .int 0]))] : va_W) ++ w_al 5 (fun j => r_cl (c_six cC cI cZ) cI (rt_5 j))) := hD.pm (pm_o2 (rx := [(h, .inr (5, [.ref q1, .int 0])), (q1, .inl (cA2, 13, .inr (.inr (.inr (.inr f_5)))))]) (n := [(q13, .inr (4, [.null, .null, .int 0]))]) (B := w_al 5 (fun j => r_cl (c_six cC cI cZ) cI (rt_5 j))))
  refine W.widen (k := 47) (n := 1776) (by decide) (by decide) ?_
  refine lv_dup hx hb d_B_init_29 rfl ?_
  refine cl_vQ (wc := [(q13, .inr (4, [.null, .null, .int 0]))]) (wr := [(h, .inr (5, [.ref q1, .int 0])), (q1, .inl (cA2, 13, .inr (.inr (.inr (.inr f_5)))))]) hP hD hK hS hA [2] [0, 1] rfl rfl (by decide) (by decide) (va_runIN (As := []) (rest := [.ref q13, .int 5, .ref q1]) ⟨hx, hb, hml, hown, hts⟩ (c_R_init l D H.size q13) (cw_IN hts 0 k_54 k_4 (hE.1 _ k_52 rfl) k_53 rfl (by decide +kernel) ⟨Nat.le_of_ble_eq_true rfl, Nat.le_of_ble_eq_true rfl⟩) (pr_S hP.lft hD.lft hK [2] [] (by decide) rfl rfl (fun U hU hW => trivial) (fun U g mk a h => h)) rfl rfl hl.1 rfl (lv_room (Nat.le_of_ble_eq_true rfl)) d_B_init_30 ⟨by decide, by decide⟩) (fun u H locs h14 hP hD hK hS => ?_)
  obtain ⟨tt5, kn5, ck5, as_5, at_5, ap_5, ai_5, ar_5, ao_5, cs_5, ct_5, cp_5, ci_5, cr_5, co_5⟩ := u
  have hP : va_P D wcl (([(h, .inr (5, [.ref q1, .int 0])), (q1, .inl (cA2, 13, .inr (.inr (.inr (.inr f_5))))), (q13, .inr (4, [.ref tt5, .ref kn5, .int 0])), (tt5, .inr (6, [.ref as_5, .ref at_5, .ref ap_5, .ref ai_5, .ref ar_5, .ref ao_5, .int 0, .int 0, .int 0, .int 0, .int 0])), (as_5, .inl (cs_5, 60, .inl (fun _ => 0))), (at_5, .inl (ct_5, 60, .inl (fun _ => 0))), (ap_5, .inl (cp_5, 60, .inl (fun _ => 0))), (ai_5, .inl (ci_5, 60, .inl (fun _ => 0))), (ar_5, .inl (cr_5, 60, .inl (fun _ => 0))), (ao_5, .inl (co_5, 12, .inl (fun _ => 0))), (kn5, .inl (ck5, 26, .inl (fun _ => 0)))] : va_W) ++ w_al 5 (fun j => r_cl (c_six cC cI cZ) cI (rt_5 j))) H := hP
  have hD : va_D A (([(h, .inr (5, [.ref q1, .int 0])), (q1, .inl (cA2, 13, .inr (.inr (.inr (.inr f_5))))), (q13, .inr (4, [.ref tt5, .ref kn5, .int 0])), (tt5, .inr (6, [.ref as_5, .ref at_5, .ref ap_5, .ref ai_5, .ref ar_5, .ref ao_5, .int 0, .int 0, .int 0, .int 0, .int 0])), (as_5, .inl (cs_5, 60, .inl (fun _ => 0))), (at_5, .inl (ct_5, 60, .inl (fun _ => 0))), (ap_5, .inl (cp_5, 60, .inl (fun _ => 0))), (ai_5, .inl (ci_5, 60, .inl (fun _ => 0))), (ar_5, .inl (cr_5, 60, .inl (fun _ => 0))), (ao_5, .inl (co_5, 12, .inl (fun _ => 0))), (kn5, .inl (ck5, 26, .inl (fun _ => 0)))] : va_W) ++ w_al 5 (fun j => r_cl (c_six cC cI cZ) cI (rt_5 j))) := hD
  have hK : va_K D wcl [(cA2, .object rc_R), (cC, .char), (cI, .int), (cZ, .boolean), (cs_5, .char), (ct_5, .int), (cp_5, .int), (ci_5, .int), (cr_5, .boolean), (co_5, .int), (ck5, .int)] s := hK
  refine W.widen (k := 55) (n := 2125) (by decide) (by decide) ?_
  refine va_astq hx hb hK hP hD hS 1 0 2 4 (r := (rc_R, ft_R, 3)) rfl rfl rfl rfl (vp_in_nI (n := 5) (N := 13) (by decide) (by decide)) d_B_init_33 (fun H locs hP hD hS => ?_)
  have hP : va_P D wcl (([(h, .inr (5, [.ref q1, .int 0])), (q1, .inl (cA2, 13, .inr (.inr (.inr (.inr (va_up f_5 (5 : Int32).toNatClampNeg (some q13))))))), (q13, .inr (4, [.ref tt5, .ref kn5, .int 0])), (tt5, .inr (6, [.ref as_5, .ref at_5, .ref ap_5, .ref ai_5, .ref ar_5, .ref ao_5, .int 0, .int 0, .int 0, .int 0, .int 0])), (as_5, .inl (cs_5, 60, .inl (fun _ => 0))), (at_5, .inl (ct_5, 60, .inl (fun _ => 0))), (ap_5, .inl (cp_5, 60, .inl (fun _ => 0))), (ai_5, .inl (ci_5, 60, .inl (fun _ => 0))), (ar_5, .inl (cr_5, 60, .inl (fun _ => 0))), (ao_5, .inl (co_5, 12, .inl (fun _ => 0))), (kn5, .inl (ck5, 26, .inl (fun _ => 0)))] : va_W) ++ w_al 5 (fun j => r_cl (c_six cC cI cZ) cI (rt_5 j))) H := hP
  have hD : va_D A (([(h, .inr (5, [.ref q1, .int 0])), (q1, .inl (cA2, 13, .inr (.inr (.inr (.inr (va_up f_5 (5 : Int32).toNatClampNeg (some q13))))))), (q13, .inr (4, [.ref tt5, .ref kn5, .int 0])), (tt5, .inr (6, [.ref as_5, .ref at_5, .ref ap_5, .ref ai_5, .ref ar_5, .ref ao_5, .int 0, .int 0, .int 0, .int 0, .int 0])), (as_5, .inl (cs_5, 60, .inl (fun _ => 0))), (at_5, .inl (ct_5, 60, .inl (fun _ => 0))), (ap_5, .inl (cp_5, 60, .inl (fun _ => 0))), (ai_5, .inl (ci_5, 60, .inl (fun _ => 0))), (ar_5, .inl (cr_5, 60, .inl (fun _ => 0))), (ao_5, .inl (co_5, 12, .inl (fun _ => 0))), (kn5, .inl (ck5, 26, .inl (fun _ => 0)))] : va_W) ++ w_al 5 (fun j => r_cl (c_six cC cI cZ) cI (rt_5 j))) := hD
  obtain ⟨f_6, hf_6⟩ : ∃ f, f = va_up f_5 (5 : Int32).toNatClampNeg (some q13) := ⟨_, rfl⟩
  rw [← hf_6] at hP hD
  have hP : va_P D wcl (([(h, .inr (5, [.ref q1, .int 0])), (q1, .inl (cA2, 13, .inr (.inr (.inr (.inr f_6))))), (q13, .inr (4, [.ref tt5, .ref kn5, .int 0])), (tt5, .inr (6, [.ref as_5, .ref at_5, .ref ap_5, .ref ai_5, .ref ar_5, .ref ao_5, .int 0, .int 0, .int 0, .int 0, .int 0])), (as_5, .inl (cs_5, 60, .inl (fun _ => 0))), (at_5, .inl (ct_5, 60, .inl (fun _ => 0))), (ap_5, .inl (cp_5, 60, .inl (fun _ => 0))), (ai_5, .inl (ci_5, 60, .inl (fun _ => 0))), (ar_5, .inl (cr_5, 60, .inl (fun _ => 0))), (ao_5, .inl (co_5, 12, .inl (fun _ => 0))), (kn5, .inl (ck5, 26, .inl (fun _ => 0)))] : va_W) ++ w_al 5 (fun j => r_cl (c_six cC cI cZ) cI (rt_5 j))) H := hP
  have hD : va_D A (([(h, .inr (5, [.ref q1, .int 0])), (q1, .inl (cA2, 13, .inr (.inr (.inr (.inr f_6))))), (q13, .inr (4, [.ref tt5, .ref kn5, .int 0])), (tt5, .inr (6, [.ref as_5, .ref at_5, .ref ap_5, .ref ai_5, .ref ar_5, .ref ao_5, .int 0, .int 0, .int 0, .int 0, .int 0])), (as_5, .inl (cs_5, 60, .inl (fun _ => 0))), (at_5, .inl (ct_5, 60, .inl (fun _ => 0))), (ap_5, .inl (cp_5, 60, .inl (fun _ => 0))), (ai_5, .inl (ci_5, 60, .inl (fun _ => 0))), (ar_5, .inl (cr_5, 60, .inl (fun _ => 0))), (ao_5, .inl (co_5, 12, .inl (fun _ => 0))), (kn5, .inl (ck5, 26, .inl (fun _ => 0)))] : va_W) ++ w_al 5 (fun j => r_cl (c_six cC cI cZ) cI (rt_5 j))) := hD
  have qi : cC = cs_5 := Option.some.inj ((va_nm_char (hK.2 1 _ rfl).2).symm.trans (va_nm_char (hK.2 4 _ rfl).2))
  subst qi
  have qi : cI = ct_5 := Option.some.inj ((va_nm_int (hK.2 2 _ rfl).2).symm.trans (va_nm_int (hK.2 5 _ rfl).2))
  subst qi
  have qi : cI = cp_5 := Option.some.inj ((va_nm_int (hK.2 2 _ rfl).2).symm.trans (va_nm_int (hK.2 6 _ rfl).2))
  subst qi
  have qi : cI = ci_5 := Option.some.inj ((va_nm_int (hK.2 2 _ rfl).2).symm.trans (va_nm_int (hK.2 7 _ rfl).2))
  subst qi
  have qi : cZ = cr_5 := Option.some.inj ((va_nm_boolean (hK.2 3 _ rfl).2).symm.trans (va_nm_boolean (hK.2 8 _ rfl).2))
  subst qi
  have qi : cI = co_5 := Option.some.inj ((va_nm_int (hK.2 2 _ rfl).2).symm.trans (va_nm_int (hK.2 9 _ rfl).2))
  subst qi
  have qi : cI = ck5 := Option.some.inj ((va_nm_int (hK.2 2 _ rfl).2).symm.trans (va_nm_int (hK.2 10 _ rfl).2))
  subst qi
  have hK := hK.sub (tys' := [(cA2, .object rc_R), (cC, .char), (cI, .int), (cZ, .boolean)]) [0, 1, 2, 3] rfl
  have hP : va_P D wcl (([(h, .inr (5, [.ref q1, .int 0])), (q1, .inl (cA2, 13, .inr (.inr (.inr (.inr f_6))))), (q13, .inr (4, [.ref tt5, .ref kn5, .int 0])), (tt5, .inr (6, [.ref as_5, .ref at_5, .ref ap_5, .ref ai_5, .ref ar_5, .ref ao_5, .int 0, .int 0, .int 0, .int 0, .int 0])), (as_5, .inl (cC, 60, .inl (fun _ => 0))), (at_5, .inl (cI, 60, .inl (fun _ => 0))), (ap_5, .inl (cI, 60, .inl (fun _ => 0))), (ai_5, .inl (cI, 60, .inl (fun _ => 0))), (ar_5, .inl (cZ, 60, .inl (fun _ => 0))), (ao_5, .inl (cI, 12, .inl (fun _ => 0))), (kn5, .inl (cI, 26, .inl (fun _ => 0)))] : va_W) ++ w_al 5 (fun j => r_cl (c_six cC cI cZ) cI (rt_5 j))) _ := hP.part [0, 1, 2, 3, 4, 5, 6, 7, 8, 9, 10] rfl
  have hD : va_D A (([(h, .inr (5, [.ref q1, .int 0])), (q1, .inl (cA2, 13, .inr (.inr (.inr (.inr f_6))))), (q13, .inr (4, [.ref tt5, .ref kn5, .int 0])), (tt5, .inr (6, [.ref as_5, .ref at_5, .ref ap_5, .ref ai_5, .ref ar_5, .ref ao_5, .int 0, .int 0, .int 0, .int 0, .int 0])), (as_5, .inl (cC, 60, .inl (fun _ => 0))), (at_5, .inl (cI, 60, .inl (fun _ => 0))), (ap_5, .inl (cI, 60, .inl (fun _ => 0))), (ai_5, .inl (cI, 60, .inl (fun _ => 0))), (ar_5, .inl (cZ, 60, .inl (fun _ => 0))), (ao_5, .inl (cI, 12, .inl (fun _ => 0))), (kn5, .inl (cI, 26, .inl (fun _ => 0)))] : va_W) ++ w_al 5 (fun j => r_cl (c_six cC cI cZ) cI (rt_5 j))) := hD.part [0, 1, 2, 3, 4, 5, 6, 7, 8, 9, 10] (by decide) rfl
  obtain ⟨rt_6, hr_6⟩ : ∃ f, f = va_up rt_5 5 (r_new q13 tt5 kn5 as_5 at_5 ap_5 ai_5 ar_5 ao_5) := ⟨_, rfl⟩
  have hP : va_P D wcl ((([(h, .inr (5, [.ref q1, .int 0])), (q1, .inl (cA2, 13, .inr (.inr (.inr (.inr f_6)))))] : va_W) ++ r_cl (c_six cC cI cZ) cI (r_new q13 tt5 kn5 as_5 at_5 ap_5 ai_5 ar_5 ao_5)) ++ w_al 5 (fun j => r_cl (c_six cC cI cZ) cI (rt_5 j))) H := hP
  have hP : va_P D wcl (([(h, .inr (5, [.ref q1, .int 0])), (q1, .inl (cA2, 13, .inr (.inr (.inr (.inr f_6)))))] : va_W) ++ w_al 6 (fun j => r_cl (c_six cC cI cZ) cI (rt_6 j))) H := hP.pm (st_pm hr_6)
  have hD : va_D A ((([(h, .inr (5, [.ref q1, .int 0])), (q1, .inl (cA2, 13, .inr (.inr (.inr (.inr f_6)))))] : va_W) ++ r_cl (c_six cC cI cZ) cI (r_new q13 tt5 kn5 as_5 at_5 ap_5 ai_5 ar_5 ao_5)) ++ w_al 5 (fun j => r_cl (c_six cC cI cZ) cI (rt_5 j))) := hD
  have hD : va_D A (([(h, .inr (5, [.ref q1, .int 0])), (q1, .inl (cA2, 13, .inr (.inr (.inr (.inr f_6)))))] : va_W) ++ w_al 6 (fun j => r_cl (c_six cC cI cZ) cI (rt_6 j))) := hD.pm (st_pm hr_6)
  have hb_6 := st_bf (i := 5) hb_5 (hf_6.trans rfl) hr_6
  have hk_6 := st_ok (i := 5) hk_5 (r_new_ok _ _ _ _ _ _ _ _ _) hr_6
  refine lv_iinc (k := 0) (v := 6) hx hb d_B_init_34 hl rfl (by rfl) (by decide) rfl (fun ls hl => ?_)
  have hl : lv_has ls 2 [(1, .int 6), (0, .ref h)] := hl
  refine lv_goto (tgt := 15) hx hb d_B_init_37 (by decide) ?_
  refine lv_iload_n hx hb d_B_init_15 rfl (lv_at hl 0 rfl) ?_
  refine lv_bipush (v := 12) hx hb d_B_init_16 (by decide) ?_
  refine lv_icmp_gt (tgt := 40) hx hb d_B_init_18 (by decide) (fun h9 => absurd h9 (by decide)) (fun _ => ?_)
  refine lv_aload_n hx hb d_B_init_21 rfl (lv_at hl 1 rfl) ?_
  refine va_get (D := D) (ci := 5) (v := .ref q1) (C := rc_B) (T := ft_B) (N := 2) hx hb hts in_B hown hK hP 0 rfl rfl 0 (by decide) (hts _ k_108) (fun _ h9 => h9) rfl d_B_init_22 ?_
  refine lv_iload_n hx hb d_B_init_25 rfl (lv_at hl 0 rfl) ?_
  refine va_new (ci := 4) (fs := [.null, .null, .int 0]) (C := rc_R) (T := ft_R) (N := 3) hx hb hts in_R ty_R tk_R hown (hts _ k_49) (hts _ k_51) (hts _ k_4) hK hP hD hS hA rfl (fun j hj => by revert j; decide) (by decide) (by decide) d_B_init_26 (fun q15 H hP hD hS => ?_)
  have hP : va_P D wcl (([(h, .inr (5, [.ref q1, .int 0])), (q1, .inl (cA2, 13, .inr (.inr (.inr (.inr f_6))))), (q15, .inr (4, [.null, .null, .int 0]))] : va_W) ++ w_al 6 (fun j => r_cl (c_six cC cI cZ) cI (rt_6 j))) H := hP.pm (pm_o2 (rx := [(h, .inr (5, [.ref q1, .int 0])), (q1, .inl (cA2, 13, .inr (.inr (.inr (.inr f_6)))))]) (n := [(q15, .inr (4, [.null, .null, .int 0]))]) (B := w_al 6 (fun j => r_cl (c_six cC cI cZ) cI (rt_6 j))))
  have hD : va_D A (([(h, .inr (5, [.ref q1, .int 0])), (q1, .inl (cA2, 13, .inr (.inr (.inr (.inr f_6))))), (q15, .inr (4, [.null, .null, .int 0]))] : va_W) ++ w_al 6 (fun j => r_cl (c_six cC cI cZ) cI (rt_6 j))) := hD.pm (pm_o2 (rx := [(h, .inr (5, [.ref q1, .int 0])), (q1, .inl (cA2, 13, .inr (.inr (.inr (.inr f_6)))))]) (n := [(q15, .inr (4, [.null, .null, .int 0]))]) (B := w_al 6 (fun j => r_cl (c_six cC cI cZ) cI (rt_6 j))))
  refine W.widen (k := 56) (n := 2128) (by decide) (by decide) ?_
  refine lv_dup hx hb d_B_init_29 rfl ?_
  refine cl_vQ (wc := [(q15, .inr (4, [.null, .null, .int 0]))]) (wr := [(h, .inr (5, [.ref q1, .int 0])), (q1, .inl (cA2, 13, .inr (.inr (.inr (.inr f_6)))))]) hP hD hK hS hA [2] [0, 1] rfl rfl (by decide) (by decide) (va_runIN (As := []) (rest := [.ref q15, .int 6, .ref q1]) ⟨hx, hb, hml, hown, hts⟩ (c_R_init l D H.size q15) (cw_IN hts 0 k_54 k_4 (hE.1 _ k_52 rfl) k_53 rfl (by decide +kernel) ⟨Nat.le_of_ble_eq_true rfl, Nat.le_of_ble_eq_true rfl⟩) (pr_S hP.lft hD.lft hK [2] [] (by decide) rfl rfl (fun U hU hW => trivial) (fun U g mk a h => h)) rfl rfl hl.1 rfl (lv_room (Nat.le_of_ble_eq_true rfl)) d_B_init_30 ⟨by decide, by decide⟩) (fun u H locs h16 hP hD hK hS => ?_)
  obtain ⟨tt6, kn6, ck6, as_6, at_6, ap_6, ai_6, ar_6, ao_6, cs_6, ct_6, cp_6, ci_6, cr_6, co_6⟩ := u
  have hP : va_P D wcl (([(h, .inr (5, [.ref q1, .int 0])), (q1, .inl (cA2, 13, .inr (.inr (.inr (.inr f_6))))), (q15, .inr (4, [.ref tt6, .ref kn6, .int 0])), (tt6, .inr (6, [.ref as_6, .ref at_6, .ref ap_6, .ref ai_6, .ref ar_6, .ref ao_6, .int 0, .int 0, .int 0, .int 0, .int 0])), (as_6, .inl (cs_6, 60, .inl (fun _ => 0))), (at_6, .inl (ct_6, 60, .inl (fun _ => 0))), (ap_6, .inl (cp_6, 60, .inl (fun _ => 0))), (ai_6, .inl (ci_6, 60, .inl (fun _ => 0))), (ar_6, .inl (cr_6, 60, .inl (fun _ => 0))), (ao_6, .inl (co_6, 12, .inl (fun _ => 0))), (kn6, .inl (ck6, 26, .inl (fun _ => 0)))] : va_W) ++ w_al 6 (fun j => r_cl (c_six cC cI cZ) cI (rt_6 j))) H := hP
  have hD : va_D A (([(h, .inr (5, [.ref q1, .int 0])), (q1, .inl (cA2, 13, .inr (.inr (.inr (.inr f_6))))), (q15, .inr (4, [.ref tt6, .ref kn6, .int 0])), (tt6, .inr (6, [.ref as_6, .ref at_6, .ref ap_6, .ref ai_6, .ref ar_6, .ref ao_6, .int 0, .int 0, .int 0, .int 0, .int 0])), (as_6, .inl (cs_6, 60, .inl (fun _ => 0))), (at_6, .inl (ct_6, 60, .inl (fun _ => 0))), (ap_6, .inl (cp_6, 60, .inl (fun _ => 0))), (ai_6, .inl (ci_6, 60, .inl (fun _ => 0))), (ar_6, .inl (cr_6, 60, .inl (fun _ => 0))), (ao_6, .inl (co_6, 12, .inl (fun _ => 0))), (kn6, .inl (ck6, 26, .inl (fun _ => 0)))] : va_W) ++ w_al 6 (fun j => r_cl (c_six cC cI cZ) cI (rt_6 j))) := hD
  have hK : va_K D wcl [(cA2, .object rc_R), (cC, .char), (cI, .int), (cZ, .boolean), (cs_6, .char), (ct_6, .int), (cp_6, .int), (ci_6, .int), (cr_6, .boolean), (co_6, .int), (ck6, .int)] s := hK
  refine W.widen (k := 64) (n := 2477) (by decide) (by decide) ?_
  refine va_astq hx hb hK hP hD hS 1 0 2 4 (r := (rc_R, ft_R, 3)) rfl rfl rfl rfl (vp_in_nI (n := 6) (N := 13) (by decide) (by decide)) d_B_init_33 (fun H locs hP hD hS => ?_)
  have hP : va_P D wcl (([(h, .inr (5, [.ref q1, .int 0])), (q1, .inl (cA2, 13, .inr (.inr (.inr (.inr (va_up f_6 (6 : Int32).toNatClampNeg (some q15))))))), (q15, .inr (4, [.ref tt6, .ref kn6, .int 0])), (tt6, .inr (6, [.ref as_6, .ref at_6, .ref ap_6, .ref ai_6, .ref ar_6, .ref ao_6, .int 0, .int 0, .int 0, .int 0, .int 0])), (as_6, .inl (cs_6, 60, .inl (fun _ => 0))), (at_6, .inl (ct_6, 60, .inl (fun _ => 0))), (ap_6, .inl (cp_6, 60, .inl (fun _ => 0))), (ai_6, .inl (ci_6, 60, .inl (fun _ => 0))), (ar_6, .inl (cr_6, 60, .inl (fun _ => 0))), (ao_6, .inl (co_6, 12, .inl (fun _ => 0))), (kn6, .inl (ck6, 26, .inl (fun _ => 0)))] : va_W) ++ w_al 6 (fun j => r_cl (c_six cC cI cZ) cI (rt_6 j))) H := hP
  have hD : va_D A (([(h, .inr (5, [.ref q1, .int 0])), (q1, .inl (cA2, 13, .inr (.inr (.inr (.inr (va_up f_6 (6 : Int32).toNatClampNeg (some q15))))))), (q15, .inr (4, [.ref tt6, .ref kn6, .int 0])), (tt6, .inr (6, [.ref as_6, .ref at_6, .ref ap_6, .ref ai_6, .ref ar_6, .ref ao_6, .int 0, .int 0, .int 0, .int 0, .int 0])), (as_6, .inl (cs_6, 60, .inl (fun _ => 0))), (at_6, .inl (ct_6, 60, .inl (fun _ => 0))), (ap_6, .inl (cp_6, 60, .inl (fun _ => 0))), (ai_6, .inl (ci_6, 60, .inl (fun _ => 0))), (ar_6, .inl (cr_6, 60, .inl (fun _ => 0))), (ao_6, .inl (co_6, 12, .inl (fun _ => 0))), (kn6, .inl (ck6, 26, .inl (fun _ => 0)))] : va_W) ++ w_al 6 (fun j => r_cl (c_six cC cI cZ) cI (rt_6 j))) := hD
  obtain ⟨f_7, hf_7⟩ : ∃ f, f = va_up f_6 (6 : Int32).toNatClampNeg (some q15) := ⟨_, rfl⟩
  rw [← hf_7] at hP hD
  have hP : va_P D wcl (([(h, .inr (5, [.ref q1, .int 0])), (q1, .inl (cA2, 13, .inr (.inr (.inr (.inr f_7))))), (q15, .inr (4, [.ref tt6, .ref kn6, .int 0])), (tt6, .inr (6, [.ref as_6, .ref at_6, .ref ap_6, .ref ai_6, .ref ar_6, .ref ao_6, .int 0, .int 0, .int 0, .int 0, .int 0])), (as_6, .inl (cs_6, 60, .inl (fun _ => 0))), (at_6, .inl (ct_6, 60, .inl (fun _ => 0))), (ap_6, .inl (cp_6, 60, .inl (fun _ => 0))), (ai_6, .inl (ci_6, 60, .inl (fun _ => 0))), (ar_6, .inl (cr_6, 60, .inl (fun _ => 0))), (ao_6, .inl (co_6, 12, .inl (fun _ => 0))), (kn6, .inl (ck6, 26, .inl (fun _ => 0)))] : va_W) ++ w_al 6 (fun j => r_cl (c_six cC cI cZ) cI (rt_6 j))) H := hP
  have hD : va_D A (([(h, .inr (5, [.ref q1, .int 0])), (q1, .inl (cA2, 13, .inr (.inr (.inr (.inr f_7))))), (q15, .inr (4, [.ref tt6, .ref kn6, .int 0])), (tt6, .inr (6, [.ref as_6, .ref at_6, .ref ap_6, .ref ai_6, .ref ar_6, .ref ao_6, .int 0, .int 0, .int 0, .int 0, .int 0])), (as_6, .inl (cs_6, 60, .inl (fun _ => 0))), (at_6, .inl (ct_6, 60, .inl (fun _ => 0))), (ap_6, .inl (cp_6, 60, .inl (fun _ => 0))), (ai_6, .inl (ci_6, 60, .inl (fun _ => 0))), (ar_6, .inl (cr_6, 60, .inl (fun _ => 0))), (ao_6, .inl (co_6, 12, .inl (fun _ => 0))), (kn6, .inl (ck6, 26, .inl (fun _ => 0)))] : va_W) ++ w_al 6 (fun j => r_cl (c_six cC cI cZ) cI (rt_6 j))) := hD
  have qi : cC = cs_6 := Option.some.inj ((va_nm_char (hK.2 1 _ rfl).2).symm.trans (va_nm_char (hK.2 4 _ rfl).2))
  subst qi
  have qi : cI = ct_6 := Option.some.inj ((va_nm_int (hK.2 2 _ rfl).2).symm.trans (va_nm_int (hK.2 5 _ rfl).2))
  subst qi
  have qi : cI = cp_6 := Option.some.inj ((va_nm_int (hK.2 2 _ rfl).2).symm.trans (va_nm_int (hK.2 6 _ rfl).2))
  subst qi
  have qi : cI = ci_6 := Option.some.inj ((va_nm_int (hK.2 2 _ rfl).2).symm.trans (va_nm_int (hK.2 7 _ rfl).2))
  subst qi
  have qi : cZ = cr_6 := Option.some.inj ((va_nm_boolean (hK.2 3 _ rfl).2).symm.trans (va_nm_boolean (hK.2 8 _ rfl).2))
  subst qi
  have qi : cI = co_6 := Option.some.inj ((va_nm_int (hK.2 2 _ rfl).2).symm.trans (va_nm_int (hK.2 9 _ rfl).2))
  subst qi
  have qi : cI = ck6 := Option.some.inj ((va_nm_int (hK.2 2 _ rfl).2).symm.trans (va_nm_int (hK.2 10 _ rfl).2))
  subst qi
  have hK := hK.sub (tys' := [(cA2, .object rc_R), (cC, .char), (cI, .int), (cZ, .boolean)]) [0, 1, 2, 3] rfl
  have hP : va_P D wcl (([(h, .inr (5, [.ref q1, .int 0])), (q1, .inl (cA2, 13, .inr (.inr (.inr (.inr f_7))))), (q15, .inr (4, [.ref tt6, .ref kn6, .int 0])), (tt6, .inr (6, [.ref as_6, .ref at_6, .ref ap_6, .ref ai_6, .ref ar_6, .ref ao_6, .int 0, .int 0, .int 0, .int 0, .int 0])), (as_6, .inl (cC, 60, .inl (fun _ => 0))), (at_6, .inl (cI, 60, .inl (fun _ => 0))), (ap_6, .inl (cI, 60, .inl (fun _ => 0))), (ai_6, .inl (cI, 60, .inl (fun _ => 0))), (ar_6, .inl (cZ, 60, .inl (fun _ => 0))), (ao_6, .inl (cI, 12, .inl (fun _ => 0))), (kn6, .inl (cI, 26, .inl (fun _ => 0)))] : va_W) ++ w_al 6 (fun j => r_cl (c_six cC cI cZ) cI (rt_6 j))) _ := hP.part [0, 1, 2, 3, 4, 5, 6, 7, 8, 9, 10] rfl
  have hD : va_D A (([(h, .inr (5, [.ref q1, .int 0])), (q1, .inl (cA2, 13, .inr (.inr (.inr (.inr f_7))))), (q15, .inr (4, [.ref tt6, .ref kn6, .int 0])), (tt6, .inr (6, [.ref as_6, .ref at_6, .ref ap_6, .ref ai_6, .ref ar_6, .ref ao_6, .int 0, .int 0, .int 0, .int 0, .int 0])), (as_6, .inl (cC, 60, .inl (fun _ => 0))), (at_6, .inl (cI, 60, .inl (fun _ => 0))), (ap_6, .inl (cI, 60, .inl (fun _ => 0))), (ai_6, .inl (cI, 60, .inl (fun _ => 0))), (ar_6, .inl (cZ, 60, .inl (fun _ => 0))), (ao_6, .inl (cI, 12, .inl (fun _ => 0))), (kn6, .inl (cI, 26, .inl (fun _ => 0)))] : va_W) ++ w_al 6 (fun j => r_cl (c_six cC cI cZ) cI (rt_6 j))) := hD.part [0, 1, 2, 3, 4, 5, 6, 7, 8, 9, 10] (by decide) rfl
  obtain ⟨rt_7, hr_7⟩ : ∃ f, f = va_up rt_6 6 (r_new q15 tt6 kn6 as_6 at_6 ap_6 ai_6 ar_6 ao_6) := ⟨_, rfl⟩
  have hP : va_P D wcl ((([(h, .inr (5, [.ref q1, .int 0])), (q1, .inl (cA2, 13, .inr (.inr (.inr (.inr f_7)))))] : va_W) ++ r_cl (c_six cC cI cZ) cI (r_new q15 tt6 kn6 as_6 at_6 ap_6 ai_6 ar_6 ao_6)) ++ w_al 6 (fun j => r_cl (c_six cC cI cZ) cI (rt_6 j))) H := hP
  have hP : va_P D wcl (([(h, .inr (5, [.ref q1, .int 0])), (q1, .inl (cA2, 13, .inr (.inr (.inr (.inr f_7)))))] : va_W) ++ w_al 7 (fun j => r_cl (c_six cC cI cZ) cI (rt_7 j))) H := hP.pm (st_pm hr_7)
  have hD : va_D A ((([(h, .inr (5, [.ref q1, .int 0])), (q1, .inl (cA2, 13, .inr (.inr (.inr (.inr f_7)))))] : va_W) ++ r_cl (c_six cC cI cZ) cI (r_new q15 tt6 kn6 as_6 at_6 ap_6 ai_6 ar_6 ao_6)) ++ w_al 6 (fun j => r_cl (c_six cC cI cZ) cI (rt_6 j))) := hD
  have hD : va_D A (([(h, .inr (5, [.ref q1, .int 0])), (q1, .inl (cA2, 13, .inr (.inr (.inr (.inr f_7)))))] : va_W) ++ w_al 7 (fun j => r_cl (c_six cC cI cZ) cI (rt_7 j))) := hD.pm (st_pm hr_7)
  have hb_7 := st_bf (i := 6) hb_6 (hf_7.trans rfl) hr_7
  have hk_7 := st_ok (i := 6) hk_6 (r_new_ok _ _ _ _ _ _ _ _ _) hr_7
  refine lv_iinc (k := 0) (v := 7) hx hb d_B_init_34 hl rfl (by rfl) (by decide) rfl (fun ls hl => ?_)
  have hl : lv_has ls 2 [(1, .int 7), (0, .ref h)] := hl
  refine lv_goto (tgt := 15) hx hb d_B_init_37 (by decide) ?_
  refine lv_iload_n hx hb d_B_init_15 rfl (lv_at hl 0 rfl) ?_
  refine lv_bipush (v := 12) hx hb d_B_init_16 (by decide) ?_
  refine lv_icmp_gt (tgt := 40) hx hb d_B_init_18 (by decide) (fun h9 => absurd h9 (by decide)) (fun _ => ?_)
  refine lv_aload_n hx hb d_B_init_21 rfl (lv_at hl 1 rfl) ?_
  refine va_get (D := D) (ci := 5) (v := .ref q1) (C := rc_B) (T := ft_B) (N := 2) hx hb hts in_B hown hK hP 0 rfl rfl 0 (by decide) (hts _ k_108) (fun _ h9 => h9) rfl d_B_init_22 ?_
  refine lv_iload_n hx hb d_B_init_25 rfl (lv_at hl 0 rfl) ?_
  refine va_new (ci := 4) (fs := [.null, .null, .int 0]) (C := rc_R) (T := ft_R) (N := 3) hx hb hts in_R ty_R tk_R hown (hts _ k_49) (hts _ k_51) (hts _ k_4) hK hP hD hS hA rfl (fun j hj => by revert j; decide) (by decide) (by decide) d_B_init_26 (fun q17 H hP hD hS => ?_)
  have hP : va_P D wcl (([(h, .inr (5, [.ref q1, .int 0])), (q1, .inl (cA2, 13, .inr (.inr (.inr (.inr f_7))))), (q17, .inr (4, [.null, .null, .int 0]))] : va_W) ++ w_al 7 (fun j => r_cl (c_six cC cI cZ) cI (rt_7 j))) H := hP.pm (pm_o2 (rx := [(h, .inr (5, [.ref q1, .int 0])), (q1, .inl (cA2, 13, .inr (.inr (.inr (.inr f_7)))))]) (n := [(q17, .inr (4, [.null, .null, .int 0]))]) (B := w_al 7 (fun j => r_cl (c_six cC cI cZ) cI (rt_7 j))))
  have hD : va_D A (([(h, .inr (5, [.ref q1, .int 0])), (q1, .inl (cA2, 13, .inr (.inr (.inr (.inr f_7))))), (q17, .inr (4, [.null, .null, .int 0]))] : va_W) ++ w_al 7 (fun j => r_cl (c_six cC cI cZ) cI (rt_7 j))) := hD.pm (pm_o2 (rx := [(h, .inr (5, [.ref q1, .int 0])), (q1, .inl (cA2, 13, .inr (.inr (.inr (.inr f_7)))))]) (n := [(q17, .inr (4, [.null, .null, .int 0]))]) (B := w_al 7 (fun j => r_cl (c_six cC cI cZ) cI (rt_7 j))))
  refine W.widen (k := 65) (n := 2480) (by decide) (by decide) ?_
  refine lv_dup hx hb d_B_init_29 rfl ?_
  refine cl_vQ (wc := [(q17, .inr (4, [.null, .null, .int 0]))]) (wr := [(h, .inr (5, [.ref q1, .int 0])), (q1, .inl (cA2, 13, .inr (.inr (.inr (.inr f_7)))))]) hP hD hK hS hA [2] [0, 1] rfl rfl (by decide) (by decide) (va_runIN (As := []) (rest := [.ref q17, .int 7, .ref q1]) ⟨hx, hb, hml, hown, hts⟩ (c_R_init l D H.size q17) (cw_IN hts 0 k_54 k_4 (hE.1 _ k_52 rfl) k_53 rfl (by decide +kernel) ⟨Nat.le_of_ble_eq_true rfl, Nat.le_of_ble_eq_true rfl⟩) (pr_S hP.lft hD.lft hK [2] [] (by decide) rfl rfl (fun U hU hW => trivial) (fun U g mk a h => h)) rfl rfl hl.1 rfl (lv_room (Nat.le_of_ble_eq_true rfl)) d_B_init_30 ⟨by decide, by decide⟩) (fun u H locs h18 hP hD hK hS => ?_)
  obtain ⟨tt7, kn7, ck7, as_7, at_7, ap_7, ai_7, ar_7, ao_7, cs_7, ct_7, cp_7, ci_7, cr_7, co_7⟩ := u
  have hP : va_P D wcl (([(h, .inr (5, [.ref q1, .int 0])), (q1, .inl (cA2, 13, .inr (.inr (.inr (.inr f_7))))), (q17, .inr (4, [.ref tt7, .ref kn7, .int 0])), (tt7, .inr (6, [.ref as_7, .ref at_7, .ref ap_7, .ref ai_7, .ref ar_7, .ref ao_7, .int 0, .int 0, .int 0, .int 0, .int 0])), (as_7, .inl (cs_7, 60, .inl (fun _ => 0))), (at_7, .inl (ct_7, 60, .inl (fun _ => 0))), (ap_7, .inl (cp_7, 60, .inl (fun _ => 0))), (ai_7, .inl (ci_7, 60, .inl (fun _ => 0))), (ar_7, .inl (cr_7, 60, .inl (fun _ => 0))), (ao_7, .inl (co_7, 12, .inl (fun _ => 0))), (kn7, .inl (ck7, 26, .inl (fun _ => 0)))] : va_W) ++ w_al 7 (fun j => r_cl (c_six cC cI cZ) cI (rt_7 j))) H := hP
  have hD : va_D A (([(h, .inr (5, [.ref q1, .int 0])), (q1, .inl (cA2, 13, .inr (.inr (.inr (.inr f_7))))), (q17, .inr (4, [.ref tt7, .ref kn7, .int 0])), (tt7, .inr (6, [.ref as_7, .ref at_7, .ref ap_7, .ref ai_7, .ref ar_7, .ref ao_7, .int 0, .int 0, .int 0, .int 0, .int 0])), (as_7, .inl (cs_7, 60, .inl (fun _ => 0))), (at_7, .inl (ct_7, 60, .inl (fun _ => 0))), (ap_7, .inl (cp_7, 60, .inl (fun _ => 0))), (ai_7, .inl (ci_7, 60, .inl (fun _ => 0))), (ar_7, .inl (cr_7, 60, .inl (fun _ => 0))), (ao_7, .inl (co_7, 12, .inl (fun _ => 0))), (kn7, .inl (ck7, 26, .inl (fun _ => 0)))] : va_W) ++ w_al 7 (fun j => r_cl (c_six cC cI cZ) cI (rt_7 j))) := hD
  have hK : va_K D wcl [(cA2, .object rc_R), (cC, .char), (cI, .int), (cZ, .boolean), (cs_7, .char), (ct_7, .int), (cp_7, .int), (ci_7, .int), (cr_7, .boolean), (co_7, .int), (ck7, .int)] s := hK
  refine W.widen (k := 73) (n := 2829) (by decide) (by decide) ?_
  refine va_astq hx hb hK hP hD hS 1 0 2 4 (r := (rc_R, ft_R, 3)) rfl rfl rfl rfl (vp_in_nI (n := 7) (N := 13) (by decide) (by decide)) d_B_init_33 (fun H locs hP hD hS => ?_)
  have hP : va_P D wcl (([(h, .inr (5, [.ref q1, .int 0])), (q1, .inl (cA2, 13, .inr (.inr (.inr (.inr (va_up f_7 (7 : Int32).toNatClampNeg (some q17))))))), (q17, .inr (4, [.ref tt7, .ref kn7, .int 0])), (tt7, .inr (6, [.ref as_7, .ref at_7, .ref ap_7, .ref ai_7, .ref ar_7, .ref ao_7, .int 0, .int 0, .int 0, .int 0, .int 0])), (as_7, .inl (cs_7, 60, .inl (fun _ => 0))), (at_7, .inl (ct_7, 60, .inl (fun _ => 0))), (ap_7, .inl (cp_7, 60, .inl (fun _ => 0))), (ai_7, .inl (ci_7, 60, .inl (fun _ => 0))), (ar_7, .inl (cr_7, 60, .inl (fun _ => 0))), (ao_7, .inl (co_7, 12, .inl (fun _ => 0))), (kn7, .inl (ck7, 26, .inl (fun _ => 0)))] : va_W) ++ w_al 7 (fun j => r_cl (c_six cC cI cZ) cI (rt_7 j))) H := hP
  have hD : va_D A (([(h, .inr (5, [.ref q1, .int 0])), (q1, .inl (cA2, 13, .inr (.inr (.inr (.inr (va_up f_7 (7 : Int32).toNatClampNeg (some q17))))))), (q17, .inr (4, [.ref tt7, .ref kn7, .int 0])), (tt7, .inr (6, [.ref as_7, .ref at_7, .ref ap_7, .ref ai_7, .ref ar_7, .ref ao_7, .int 0, .int 0, .int 0, .int 0, .int 0])), (as_7, .inl (cs_7, 60, .inl (fun _ => 0))), (at_7, .inl (ct_7, 60, .inl (fun _ => 0))), (ap_7, .inl (cp_7, 60, .inl (fun _ => 0))), (ai_7, .inl (ci_7, 60, .inl (fun _ => 0))), (ar_7, .inl (cr_7, 60, .inl (fun _ => 0))), (ao_7, .inl (co_7, 12, .inl (fun _ => 0))), (kn7, .inl (ck7, 26, .inl (fun _ => 0)))] : va_W) ++ w_al 7 (fun j => r_cl (c_six cC cI cZ) cI (rt_7 j))) := hD
  obtain ⟨f_8, hf_8⟩ : ∃ f, f = va_up f_7 (7 : Int32).toNatClampNeg (some q17) := ⟨_, rfl⟩
  rw [← hf_8] at hP hD
  have hP : va_P D wcl (([(h, .inr (5, [.ref q1, .int 0])), (q1, .inl (cA2, 13, .inr (.inr (.inr (.inr f_8))))), (q17, .inr (4, [.ref tt7, .ref kn7, .int 0])), (tt7, .inr (6, [.ref as_7, .ref at_7, .ref ap_7, .ref ai_7, .ref ar_7, .ref ao_7, .int 0, .int 0, .int 0, .int 0, .int 0])), (as_7, .inl (cs_7, 60, .inl (fun _ => 0))), (at_7, .inl (ct_7, 60, .inl (fun _ => 0))), (ap_7, .inl (cp_7, 60, .inl (fun _ => 0))), (ai_7, .inl (ci_7, 60, .inl (fun _ => 0))), (ar_7, .inl (cr_7, 60, .inl (fun _ => 0))), (ao_7, .inl (co_7, 12, .inl (fun _ => 0))), (kn7, .inl (ck7, 26, .inl (fun _ => 0)))] : va_W) ++ w_al 7 (fun j => r_cl (c_six cC cI cZ) cI (rt_7 j))) H := hP
  have hD : va_D A (([(h, .inr (5, [.ref q1, .int 0])), (q1, .inl (cA2, 13, .inr (.inr (.inr (.inr f_8))))), (q17, .inr (4, [.ref tt7, .ref kn7, .int 0])), (tt7, .inr (6, [.ref as_7, .ref at_7, .ref ap_7, .ref ai_7, .ref ar_7, .ref ao_7, .int 0, .int 0, .int 0, .int 0, .int 0])), (as_7, .inl (cs_7, 60, .inl (fun _ => 0))), (at_7, .inl (ct_7, 60, .inl (fun _ => 0))), (ap_7, .inl (cp_7, 60, .inl (fun _ => 0))), (ai_7, .inl (ci_7, 60, .inl (fun _ => 0))), (ar_7, .inl (cr_7, 60, .inl (fun _ => 0))), (ao_7, .inl (co_7, 12, .inl (fun _ => 0))), (kn7, .inl (ck7, 26, .inl (fun _ => 0)))] : va_W) ++ w_al 7 (fun j => r_cl (c_six cC cI cZ) cI (rt_7 j))) := hD
  have qi : cC = cs_7 := Option.some.inj ((va_nm_char (hK.2 1 _ rfl).2).symm.trans (va_nm_char (hK.2 4 _ rfl).2))
  subst qi
  have qi : cI = ct_7 := Option.some.inj ((va_nm_int (hK.2 2 _ rfl).2).symm.trans (va_nm_int (hK.2 5 _ rfl).2))
  subst qi
  have qi : cI = cp_7 := Option.some.inj ((va_nm_int (hK.2 2 _ rfl).2).symm.trans (va_nm_int (hK.2 6 _ rfl).2))
  subst qi
  have qi : cI = ci_7 := Option.some.inj ((va_nm_int (hK.2 2 _ rfl).2).symm.trans (va_nm_int (hK.2 7 _ rfl).2))
  subst qi
  have qi : cZ = cr_7 := Option.some.inj ((va_nm_boolean (hK.2 3 _ rfl).2).symm.trans (va_nm_boolean (hK.2 8 _ rfl).2))
  subst qi
  have qi : cI = co_7 := Option.some.inj ((va_nm_int (hK.2 2 _ rfl).2).symm.trans (va_nm_int (hK.2 9 _ rfl).2))
  subst qi
  have qi : cI = ck7 := Option.some.inj ((va_nm_int (hK.2 2 _ rfl).2).symm.trans (va_nm_int (hK.2 10 _ rfl).2))
  subst qi
  have hK := hK.sub (tys' := [(cA2, .object rc_R), (cC, .char), (cI, .int), (cZ, .boolean)]) [0, 1, 2, 3] rfl
  have hP : va_P D wcl (([(h, .inr (5, [.ref q1, .int 0])), (q1, .inl (cA2, 13, .inr (.inr (.inr (.inr f_8))))), (q17, .inr (4, [.ref tt7, .ref kn7, .int 0])), (tt7, .inr (6, [.ref as_7, .ref at_7, .ref ap_7, .ref ai_7, .ref ar_7, .ref ao_7, .int 0, .int 0, .int 0, .int 0, .int 0])), (as_7, .inl (cC, 60, .inl (fun _ => 0))), (at_7, .inl (cI, 60, .inl (fun _ => 0))), (ap_7, .inl (cI, 60, .inl (fun _ => 0))), (ai_7, .inl (cI, 60, .inl (fun _ => 0))), (ar_7, .inl (cZ, 60, .inl (fun _ => 0))), (ao_7, .inl (cI, 12, .inl (fun _ => 0))), (kn7, .inl (cI, 26, .inl (fun _ => 0)))] : va_W) ++ w_al 7 (fun j => r_cl (c_six cC cI cZ) cI (rt_7 j))) _ := hP.part [0, 1, 2, 3, 4, 5, 6, 7, 8, 9, 10] rfl
  have hD : va_D A (([(h, .inr (5, [.ref q1, .int 0])), (q1, .inl (cA2, 13, .inr (.inr (.inr (.inr f_8))))), (q17, .inr (4, [.ref tt7, .ref kn7, .int 0])), (tt7, .inr (6, [.ref as_7, .ref at_7, .ref ap_7, .ref ai_7, .ref ar_7, .ref ao_7, .int 0, .int 0, .int 0, .int 0, .int 0])), (as_7, .inl (cC, 60, .inl (fun _ => 0))), (at_7, .inl (cI, 60, .inl (fun _ => 0))), (ap_7, .inl (cI, 60, .inl (fun _ => 0))), (ai_7, .inl (cI, 60, .inl (fun _ => 0))), (ar_7, .inl (cZ, 60, .inl (fun _ => 0))), (ao_7, .inl (cI, 12, .inl (fun _ => 0))), (kn7, .inl (cI, 26, .inl (fun _ => 0)))] : va_W) ++ w_al 7 (fun j => r_cl (c_six cC cI cZ) cI (rt_7 j))) := hD.part [0, 1, 2, 3, 4, 5, 6, 7, 8, 9, 10] (by decide) rfl
  obtain ⟨rt_8, hr_8⟩ : ∃ f, f = va_up rt_7 7 (r_new q17 tt7 kn7 as_7 at_7 ap_7 ai_7 ar_7 ao_7) := ⟨_, rfl⟩
  have hP : va_P D wcl ((([(h, .inr (5, [.ref q1, .int 0])), (q1, .inl (cA2, 13, .inr (.inr (.inr (.inr f_8)))))] : va_W) ++ r_cl (c_six cC cI cZ) cI (r_new q17 tt7 kn7 as_7 at_7 ap_7 ai_7 ar_7 ao_7)) ++ w_al 7 (fun j => r_cl (c_six cC cI cZ) cI (rt_7 j))) H := hP
  have hP : va_P D wcl (([(h, .inr (5, [.ref q1, .int 0])), (q1, .inl (cA2, 13, .inr (.inr (.inr (.inr f_8)))))] : va_W) ++ w_al 8 (fun j => r_cl (c_six cC cI cZ) cI (rt_8 j))) H := hP.pm (st_pm hr_8)
  have hD : va_D A ((([(h, .inr (5, [.ref q1, .int 0])), (q1, .inl (cA2, 13, .inr (.inr (.inr (.inr f_8)))))] : va_W) ++ r_cl (c_six cC cI cZ) cI (r_new q17 tt7 kn7 as_7 at_7 ap_7 ai_7 ar_7 ao_7)) ++ w_al 7 (fun j => r_cl (c_six cC cI cZ) cI (rt_7 j))) := hD
  have hD : va_D A (([(h, .inr (5, [.ref q1, .int 0])), (q1, .inl (cA2, 13, .inr (.inr (.inr (.inr f_8)))))] : va_W) ++ w_al 8 (fun j => r_cl (c_six cC cI cZ) cI (rt_8 j))) := hD.pm (st_pm hr_8)
  have hb_8 := st_bf (i := 7) hb_7 (hf_8.trans rfl) hr_8
  have hk_8 := st_ok (i := 7) hk_7 (r_new_ok _ _ _ _ _ _ _ _ _) hr_8
  refine lv_iinc (k := 0) (v := 8) hx hb d_B_init_34 hl rfl (by rfl) (by decide) rfl (fun ls hl => ?_)
  have hl : lv_has ls 2 [(1, .int 8), (0, .ref h)] := hl
  refine lv_goto (tgt := 15) hx hb d_B_init_37 (by decide) ?_
  refine lv_iload_n hx hb d_B_init_15 rfl (lv_at hl 0 rfl) ?_
  refine lv_bipush (v := 12) hx hb d_B_init_16 (by decide) ?_
  refine lv_icmp_gt (tgt := 40) hx hb d_B_init_18 (by decide) (fun h9 => absurd h9 (by decide)) (fun _ => ?_)
  refine lv_aload_n hx hb d_B_init_21 rfl (lv_at hl 1 rfl) ?_
  refine va_get (D := D) (ci := 5) (v := .ref q1) (C := rc_B) (T := ft_B) (N := 2) hx hb hts in_B hown hK hP 0 rfl rfl 0 (by decide) (hts _ k_108) (fun _ h9 => h9) rfl d_B_init_22 ?_
  refine lv_iload_n hx hb d_B_init_25 rfl (lv_at hl 0 rfl) ?_
  refine va_new (ci := 4) (fs := [.null, .null, .int 0]) (C := rc_R) (T := ft_R) (N := 3) hx hb hts in_R ty_R tk_R hown (hts _ k_49) (hts _ k_51) (hts _ k_4) hK hP hD hS hA rfl (fun j hj => by revert j; decide) (by decide) (by decide) d_B_init_26 (fun q19 H hP hD hS => ?_)
  have hP : va_P D wcl (([(h, .inr (5, [.ref q1, .int 0])), (q1, .inl (cA2, 13, .inr (.inr (.inr (.inr f_8))))), (q19, .inr (4, [.null, .null, .int 0]))] : va_W) ++ w_al 8 (fun j => r_cl (c_six cC cI cZ) cI (rt_8 j))) H := hP.pm (pm_o2 (rx := [(h, .inr (5, [.ref q1, .int 0])), (q1, .inl (cA2, 13, .inr (.inr (.inr (.inr f_8)))))]) (n := [(q19, .inr (4, [.null, .null, .int 0]))]) (B := w_al 8 (fun j => r_cl (c_six cC cI cZ) cI (rt_8 j))))
  have hD : va_D A (([(h, .inr (5, [.ref q1, .int 0])), (q1, .inl (cA2, 13, .inr (.inr (.inr (.inr f_8))))), (q19, .inr (4, [.null, .null, .int 0]))] : va_W) ++ w_al 8 (fun j => r_cl (c_six cC cI cZ) cI (rt_8 j))) := hD.pm (pm_o2 (rx := [(h, .inr (5, [.ref q1, .int 0])), (q1, .inl (cA2, 13, .inr (.inr (.inr (.inr f_8)))))]) (n := [(q19, .inr (4, [.null, .null, .int 0]))]) (B := w_al 8 (fun j => r_cl (c_six cC cI cZ) cI (rt_8 j))))
  refine W.widen (k := 74) (n := 2832) (by decide) (by decide) ?_
  refine lv_dup hx hb d_B_init_29 rfl ?_
  refine cl_vQ (wc := [(q19, .inr (4, [.null, .null, .int 0]))]) (wr := [(h, .inr (5, [.ref q1, .int 0])), (q1, .inl (cA2, 13, .inr (.inr (.inr (.inr f_8)))))]) hP hD hK hS hA [2] [0, 1] rfl rfl (by decide) (by decide) (va_runIN (As := []) (rest := [.ref q19, .int 8, .ref q1]) ⟨hx, hb, hml, hown, hts⟩ (c_R_init l D H.size q19) (cw_IN hts 0 k_54 k_4 (hE.1 _ k_52 rfl) k_53 rfl (by decide +kernel) ⟨Nat.le_of_ble_eq_true rfl, Nat.le_of_ble_eq_true rfl⟩) (pr_S hP.lft hD.lft hK [2] [] (by decide) rfl rfl (fun U hU hW => trivial) (fun U g mk a h => h)) rfl rfl hl.1 rfl (lv_room (Nat.le_of_ble_eq_true rfl)) d_B_init_30 ⟨by decide, by decide⟩) (fun u H locs h20 hP hD hK hS => ?_)
  obtain ⟨tt8, kn8, ck8, as_8, at_8, ap_8, ai_8, ar_8, ao_8, cs_8, ct_8, cp_8, ci_8, cr_8, co_8⟩ := u
  have hP : va_P D wcl (([(h, .inr (5, [.ref q1, .int 0])), (q1, .inl (cA2, 13, .inr (.inr (.inr (.inr f_8))))), (q19, .inr (4, [.ref tt8, .ref kn8, .int 0])), (tt8, .inr (6, [.ref as_8, .ref at_8, .ref ap_8, .ref ai_8, .ref ar_8, .ref ao_8, .int 0, .int 0, .int 0, .int 0, .int 0])), (as_8, .inl (cs_8, 60, .inl (fun _ => 0))), (at_8, .inl (ct_8, 60, .inl (fun _ => 0))), (ap_8, .inl (cp_8, 60, .inl (fun _ => 0))), (ai_8, .inl (ci_8, 60, .inl (fun _ => 0))), (ar_8, .inl (cr_8, 60, .inl (fun _ => 0))), (ao_8, .inl (co_8, 12, .inl (fun _ => 0))), (kn8, .inl (ck8, 26, .inl (fun _ => 0)))] : va_W) ++ w_al 8 (fun j => r_cl (c_six cC cI cZ) cI (rt_8 j))) H := hP
  have hD : va_D A (([(h, .inr (5, [.ref q1, .int 0])), (q1, .inl (cA2, 13, .inr (.inr (.inr (.inr f_8))))), (q19, .inr (4, [.ref tt8, .ref kn8, .int 0])), (tt8, .inr (6, [.ref as_8, .ref at_8, .ref ap_8, .ref ai_8, .ref ar_8, .ref ao_8, .int 0, .int 0, .int 0, .int 0, .int 0])), (as_8, .inl (cs_8, 60, .inl (fun _ => 0))), (at_8, .inl (ct_8, 60, .inl (fun _ => 0))), (ap_8, .inl (cp_8, 60, .inl (fun _ => 0))), (ai_8, .inl (ci_8, 60, .inl (fun _ => 0))), (ar_8, .inl (cr_8, 60, .inl (fun _ => 0))), (ao_8, .inl (co_8, 12, .inl (fun _ => 0))), (kn8, .inl (ck8, 26, .inl (fun _ => 0)))] : va_W) ++ w_al 8 (fun j => r_cl (c_six cC cI cZ) cI (rt_8 j))) := hD
  have hK : va_K D wcl [(cA2, .object rc_R), (cC, .char), (cI, .int), (cZ, .boolean), (cs_8, .char), (ct_8, .int), (cp_8, .int), (ci_8, .int), (cr_8, .boolean), (co_8, .int), (ck8, .int)] s := hK
  refine W.widen (k := 82) (n := 3181) (by decide) (by decide) ?_
  refine va_astq hx hb hK hP hD hS 1 0 2 4 (r := (rc_R, ft_R, 3)) rfl rfl rfl rfl (vp_in_nI (n := 8) (N := 13) (by decide) (by decide)) d_B_init_33 (fun H locs hP hD hS => ?_)
  have hP : va_P D wcl (([(h, .inr (5, [.ref q1, .int 0])), (q1, .inl (cA2, 13, .inr (.inr (.inr (.inr (va_up f_8 (8 : Int32).toNatClampNeg (some q19))))))), (q19, .inr (4, [.ref tt8, .ref kn8, .int 0])), (tt8, .inr (6, [.ref as_8, .ref at_8, .ref ap_8, .ref ai_8, .ref ar_8, .ref ao_8, .int 0, .int 0, .int 0, .int 0, .int 0])), (as_8, .inl (cs_8, 60, .inl (fun _ => 0))), (at_8, .inl (ct_8, 60, .inl (fun _ => 0))), (ap_8, .inl (cp_8, 60, .inl (fun _ => 0))), (ai_8, .inl (ci_8, 60, .inl (fun _ => 0))), (ar_8, .inl (cr_8, 60, .inl (fun _ => 0))), (ao_8, .inl (co_8, 12, .inl (fun _ => 0))), (kn8, .inl (ck8, 26, .inl (fun _ => 0)))] : va_W) ++ w_al 8 (fun j => r_cl (c_six cC cI cZ) cI (rt_8 j))) H := hP
  have hD : va_D A (([(h, .inr (5, [.ref q1, .int 0])), (q1, .inl (cA2, 13, .inr (.inr (.inr (.inr (va_up f_8 (8 : Int32).toNatClampNeg (some q19))))))), (q19, .inr (4, [.ref tt8, .ref kn8, .int 0])), (tt8, .inr (6, [.ref as_8, .ref at_8, .ref ap_8, .ref ai_8, .ref ar_8, .ref ao_8, .int 0, .int 0, .int 0, .int 0, .int 0])), (as_8, .inl (cs_8, 60, .inl (fun _ => 0))), (at_8, .inl (ct_8, 60, .inl (fun _ => 0))), (ap_8, .inl (cp_8, 60, .inl (fun _ => 0))), (ai_8, .inl (ci_8, 60, .inl (fun _ => 0))), (ar_8, .inl (cr_8, 60, .inl (fun _ => 0))), (ao_8, .inl (co_8, 12, .inl (fun _ => 0))), (kn8, .inl (ck8, 26, .inl (fun _ => 0)))] : va_W) ++ w_al 8 (fun j => r_cl (c_six cC cI cZ) cI (rt_8 j))) := hD
  obtain ⟨f_9, hf_9⟩ : ∃ f, f = va_up f_8 (8 : Int32).toNatClampNeg (some q19) := ⟨_, rfl⟩
  rw [← hf_9] at hP hD
  have hP : va_P D wcl (([(h, .inr (5, [.ref q1, .int 0])), (q1, .inl (cA2, 13, .inr (.inr (.inr (.inr f_9))))), (q19, .inr (4, [.ref tt8, .ref kn8, .int 0])), (tt8, .inr (6, [.ref as_8, .ref at_8, .ref ap_8, .ref ai_8, .ref ar_8, .ref ao_8, .int 0, .int 0, .int 0, .int 0, .int 0])), (as_8, .inl (cs_8, 60, .inl (fun _ => 0))), (at_8, .inl (ct_8, 60, .inl (fun _ => 0))), (ap_8, .inl (cp_8, 60, .inl (fun _ => 0))), (ai_8, .inl (ci_8, 60, .inl (fun _ => 0))), (ar_8, .inl (cr_8, 60, .inl (fun _ => 0))), (ao_8, .inl (co_8, 12, .inl (fun _ => 0))), (kn8, .inl (ck8, 26, .inl (fun _ => 0)))] : va_W) ++ w_al 8 (fun j => r_cl (c_six cC cI cZ) cI (rt_8 j))) H := hP
  have hD : va_D A (([(h, .inr (5, [.ref q1, .int 0])), (q1, .inl (cA2, 13, .inr (.inr (.inr (.inr f_9))))), (q19, .inr (4, [.ref tt8, .ref kn8, .int 0])), (tt8, .inr (6, [.ref as_8, .ref at_8, .ref ap_8, .ref ai_8, .ref ar_8, .ref ao_8, .int 0, .int 0, .int 0, .int 0, .int 0])), (as_8, .inl (cs_8, 60, .inl (fun _ => 0))), (at_8, .inl (ct_8, 60, .inl (fun _ => 0))), (ap_8, .inl (cp_8, 60, .inl (fun _ => 0))), (ai_8, .inl (ci_8, 60, .inl (fun _ => 0))), (ar_8, .inl (cr_8, 60, .inl (fun _ => 0))), (ao_8, .inl (co_8, 12, .inl (fun _ => 0))), (kn8, .inl (ck8, 26, .inl (fun _ => 0)))] : va_W) ++ w_al 8 (fun j => r_cl (c_six cC cI cZ) cI (rt_8 j))) := hD
  have qi : cC = cs_8 := Option.some.inj ((va_nm_char (hK.2 1 _ rfl).2).symm.trans (va_nm_char (hK.2 4 _ rfl).2))
  subst qi
  have qi : cI = ct_8 := Option.some.inj ((va_nm_int (hK.2 2 _ rfl).2).symm.trans (va_nm_int (hK.2 5 _ rfl).2))
  subst qi
  have qi : cI = cp_8 := Option.some.inj ((va_nm_int (hK.2 2 _ rfl).2).symm.trans (va_nm_int (hK.2 6 _ rfl).2))
  subst qi
  have qi : cI = ci_8 := Option.some.inj ((va_nm_int (hK.2 2 _ rfl).2).symm.trans (va_nm_int (hK.2 7 _ rfl).2))
  subst qi
  have qi : cZ = cr_8 := Option.some.inj ((va_nm_boolean (hK.2 3 _ rfl).2).symm.trans (va_nm_boolean (hK.2 8 _ rfl).2))
  subst qi
  have qi : cI = co_8 := Option.some.inj ((va_nm_int (hK.2 2 _ rfl).2).symm.trans (va_nm_int (hK.2 9 _ rfl).2))
  subst qi
  have qi : cI = ck8 := Option.some.inj ((va_nm_int (hK.2 2 _ rfl).2).symm.trans (va_nm_int (hK.2 10 _ rfl).2))
  subst qi
  have hK := hK.sub (tys' := [(cA2, .object rc_R), (cC, .char), (cI, .int), (cZ, .boolean)]) [0, 1, 2, 3] rfl
  have hP : va_P D wcl (([(h, .inr (5, [.ref q1, .int 0])), (q1, .inl (cA2, 13, .inr (.inr (.inr (.inr f_9))))), (q19, .inr (4, [.ref tt8, .ref kn8, .int 0])), (tt8, .inr (6, [.ref as_8, .ref at_8, .ref ap_8, .ref ai_8, .ref ar_8, .ref ao_8, .int 0, .int 0, .int 0, .int 0, .int 0])), (as_8, .inl (cC, 60, .inl (fun _ => 0))), (at_8, .inl (cI, 60, .inl (fun _ => 0))), (ap_8, .inl (cI, 60, .inl (fun _ => 0))), (ai_8, .inl (cI, 60, .inl (fun _ => 0))), (ar_8, .inl (cZ, 60, .inl (fun _ => 0))), (ao_8, .inl (cI, 12, .inl (fun _ => 0))), (kn8, .inl (cI, 26, .inl (fun _ => 0)))] : va_W) ++ w_al 8 (fun j => r_cl (c_six cC cI cZ) cI (rt_8 j))) _ := hP.part [0, 1, 2, 3, 4, 5, 6, 7, 8, 9, 10] rfl
  have hD : va_D A (([(h, .inr (5, [.ref q1, .int 0])), (q1, .inl (cA2, 13, .inr (.inr (.inr (.inr f_9))))), (q19, .inr (4, [.ref tt8, .ref kn8, .int 0])), (tt8, .inr (6, [.ref as_8, .ref at_8, .ref ap_8, .ref ai_8, .ref ar_8, .ref ao_8, .int 0, .int 0, .int 0, .int 0, .int 0])), (as_8, .inl (cC, 60, .inl (fun _ => 0))), (at_8, .inl (cI, 60, .inl (fun _ => 0))), (ap_8, .inl (cI, 60, .inl (fun _ => 0))), (ai_8, .inl (cI, 60, .inl (fun _ => 0))), (ar_8, .inl (cZ, 60, .inl (fun _ => 0))), (ao_8, .inl (cI, 12, .inl (fun _ => 0))), (kn8, .inl (cI, 26, .inl (fun _ => 0)))] : va_W) ++ w_al 8 (fun j => r_cl (c_six cC cI cZ) cI (rt_8 j))) := hD.part [0, 1, 2, 3, 4, 5, 6, 7, 8, 9, 10] (by decide) rfl
  obtain ⟨rt_9, hr_9⟩ : ∃ f, f = va_up rt_8 8 (r_new q19 tt8 kn8 as_8 at_8 ap_8 ai_8 ar_8 ao_8) := ⟨_, rfl⟩
  have hP : va_P D wcl ((([(h, .inr (5, [.ref q1, .int 0])), (q1, .inl (cA2, 13, .inr (.inr (.inr (.inr f_9)))))] : va_W) ++ r_cl (c_six cC cI cZ) cI (r_new q19 tt8 kn8 as_8 at_8 ap_8 ai_8 ar_8 ao_8)) ++ w_al 8 (fun j => r_cl (c_six cC cI cZ) cI (rt_8 j))) H := hP
  have hP : va_P D wcl (([(h, .inr (5, [.ref q1, .int 0])), (q1, .inl (cA2, 13, .inr (.inr (.inr (.inr f_9)))))] : va_W) ++ w_al 9 (fun j => r_cl (c_six cC cI cZ) cI (rt_9 j))) H := hP.pm (st_pm hr_9)
  have hD : va_D A ((([(h, .inr (5, [.ref q1, .int 0])), (q1, .inl (cA2, 13, .inr (.inr (.inr (.inr f_9)))))] : va_W) ++ r_cl (c_six cC cI cZ) cI (r_new q19 tt8 kn8 as_8 at_8 ap_8 ai_8 ar_8 ao_8)) ++ w_al 8 (fun j => r_cl (c_six cC cI cZ) cI (rt_8 j))) := hD
  have hD : va_D A (([(h, .inr (5, [.ref q1, .int 0])), (q1, .inl (cA2, 13, .inr (.inr (.inr (.inr f_9)))))] : va_W) ++ w_al 9 (fun j => r_cl (c_six cC cI cZ) cI (rt_9 j))) := hD.pm (st_pm hr_9)
  have hb_9 := st_bf (i := 8) hb_8 (hf_9.trans rfl) hr_9
  have hk_9 := st_ok (i := 8) hk_8 (r_new_ok _ _ _ _ _ _ _ _ _) hr_9
  refine lv_iinc (k := 0) (v := 9) hx hb d_B_init_34 hl rfl (by rfl) (by decide) rfl (fun ls hl => ?_)
  have hl : lv_has ls 2 [(1, .int 9), (0, .ref h)] := hl
  refine lv_goto (tgt := 15) hx hb d_B_init_37 (by decide) ?_
  refine lv_iload_n hx hb d_B_init_15 rfl (lv_at hl 0 rfl) ?_
  refine lv_bipush (v := 12) hx hb d_B_init_16 (by decide) ?_
  refine lv_icmp_gt (tgt := 40) hx hb d_B_init_18 (by decide) (fun h9 => absurd h9 (by decide)) (fun _ => ?_)
  refine lv_aload_n hx hb d_B_init_21 rfl (lv_at hl 1 rfl) ?_
  refine va_get (D := D) (ci := 5) (v := .ref q1) (C := rc_B) (T := ft_B) (N := 2) hx hb hts in_B hown hK hP 0 rfl rfl 0 (by decide) (hts _ k_108) (fun _ h9 => h9) rfl d_B_init_22 ?_
  refine lv_iload_n hx hb d_B_init_25 rfl (lv_at hl 0 rfl) ?_
  refine va_new (ci := 4) (fs := [.null, .null, .int 0]) (C := rc_R) (T := ft_R) (N := 3) hx hb hts in_R ty_R tk_R hown (hts _ k_49) (hts _ k_51) (hts _ k_4) hK hP hD hS hA rfl (fun j hj => by revert j; decide) (by decide) (by decide) d_B_init_26 (fun q21 H hP hD hS => ?_)
  have hP : va_P D wcl (([(h, .inr (5, [.ref q1, .int 0])), (q1, .inl (cA2, 13, .inr (.inr (.inr (.inr f_9))))), (q21, .inr (4, [.null, .null, .int 0]))] : va_W) ++ w_al 9 (fun j => r_cl (c_six cC cI cZ) cI (rt_9 j))) H := hP.pm (pm_o2 (rx := [(h, .inr (5, [.ref q1, .int 0])), (q1, .inl (cA2, 13, .inr (.inr (.inr (.inr f_9)))))]) (n := [(q21, .inr (4, [.null, .null, .int 0]))]) (B := w_al 9 (fun j => r_cl (c_six cC cI cZ) cI (rt_9 j))))
  have hD : va_D A (([(h, .inr (5, [.ref q1, .int 0])), (q1, .inl (cA2, 13, .inr (.inr (.inr (.inr f_9))))), (q21, .inr (4, [.null, .null, .int 0]))] : va_W) ++ w_al 9 (fun j => r_cl (c_six cC cI cZ) cI (rt_9 j))) := hD.pm (pm_o2 (rx := [(h, .inr (5, [.ref q1, .int 0])), (q1, .inl (cA2, 13, .inr (.inr (.inr (.inr f_9)))))]) (n := [(q21, .inr (4, [.null, .null, .int 0]))]) (B := w_al 9 (fun j => r_cl (c_six cC cI cZ) cI (rt_9 j))))
  refine W.widen (k := 83) (n := 3184) (by decide) (by decide) ?_
  refine lv_dup hx hb d_B_init_29 rfl ?_
  refine cl_vQ (wc := [(q21, .inr (4, [.null, .null, .int 0]))]) (wr := [(h, .inr (5, [.ref q1, .int 0])), (q1, .inl (cA2, 13, .inr (.inr (.inr (.inr f_9)))))]) hP hD hK hS hA [2] [0, 1] rfl rfl (by decide) (by decide) (va_runIN (As := []) (rest := [.ref q21, .int 9, .ref q1]) ⟨hx, hb, hml, hown, hts⟩ (c_R_init l D H.size q21) (cw_IN hts 0 k_54 k_4 (hE.1 _ k_52 rfl) k_53 rfl (by decide +kernel) ⟨Nat.le_of_ble_eq_true rfl, Nat.le_of_ble_eq_true rfl⟩) (pr_S hP.lft hD.lft hK [2] [] (by decide) rfl rfl (fun U hU hW => trivial) (fun U g mk a h => h)) rfl rfl hl.1 rfl (lv_room (Nat.le_of_ble_eq_true rfl)) d_B_init_30 ⟨by decide, by decide⟩) (fun u H locs h22 hP hD hK hS => ?_)
  obtain ⟨tt9, kn9, ck9, as_9, at_9, ap_9, ai_9, ar_9, ao_9, cs_9, ct_9, cp_9, ci_9, cr_9, co_9⟩ := u
  have hP : va_P D wcl (([(h, .inr (5, [.ref q1, .int 0])), (q1, .inl (cA2, 13, .inr (.inr (.inr (.inr f_9))))), (q21, .inr (4, [.ref tt9, .ref kn9, .int 0])), (tt9, .inr (6, [.ref as_9, .ref at_9, .ref ap_9, .ref ai_9, .ref ar_9, .ref ao_9, .int 0, .int 0, .int 0, .int 0, .int 0])), (as_9, .inl (cs_9, 60, .inl (fun _ => 0))), (at_9, .inl (ct_9, 60, .inl (fun _ => 0))), (ap_9, .inl (cp_9, 60, .inl (fun _ => 0))), (ai_9, .inl (ci_9, 60, .inl (fun _ => 0))), (ar_9, .inl (cr_9, 60, .inl (fun _ => 0))), (ao_9, .inl (co_9, 12, .inl (fun _ => 0))), (kn9, .inl (ck9, 26, .inl (fun _ => 0)))] : va_W) ++ w_al 9 (fun j => r_cl (c_six cC cI cZ) cI (rt_9 j))) H := hP
  have hD : va_D A (([(h, .inr (5, [.ref q1, .int 0])), (q1, .inl (cA2, 13, .inr (.inr (.inr (.inr f_9))))), (q21, .inr (4, [.ref tt9, .ref kn9, .int 0])), (tt9, .inr (6, [.ref as_9, .ref at_9, .ref ap_9, .ref ai_9, .ref ar_9, .ref ao_9, .int 0, .int 0, .int 0, .int 0, .int 0])), (as_9, .inl (cs_9, 60, .inl (fun _ => 0))), (at_9, .inl (ct_9, 60, .inl (fun _ => 0))), (ap_9, .inl (cp_9, 60, .inl (fun _ => 0))), (ai_9, .inl (ci_9, 60, .inl (fun _ => 0))), (ar_9, .inl (cr_9, 60, .inl (fun _ => 0))), (ao_9, .inl (co_9, 12, .inl (fun _ => 0))), (kn9, .inl (ck9, 26, .inl (fun _ => 0)))] : va_W) ++ w_al 9 (fun j => r_cl (c_six cC cI cZ) cI (rt_9 j))) := hD
  have hK : va_K D wcl [(cA2, .object rc_R), (cC, .char), (cI, .int), (cZ, .boolean), (cs_9, .char), (ct_9, .int), (cp_9, .int), (ci_9, .int), (cr_9, .boolean), (co_9, .int), (ck9, .int)] s := hK
  refine W.widen (k := 91) (n := 3533) (by decide) (by decide) ?_
  refine va_astq hx hb hK hP hD hS 1 0 2 4 (r := (rc_R, ft_R, 3)) rfl rfl rfl rfl (vp_in_nI (n := 9) (N := 13) (by decide) (by decide)) d_B_init_33 (fun H locs hP hD hS => ?_)
  have hP : va_P D wcl (([(h, .inr (5, [.ref q1, .int 0])), (q1, .inl (cA2, 13, .inr (.inr (.inr (.inr (va_up f_9 (9 : Int32).toNatClampNeg (some q21))))))), (q21, .inr (4, [.ref tt9, .ref kn9, .int 0])), (tt9, .inr (6, [.ref as_9, .ref at_9, .ref ap_9, .ref ai_9, .ref ar_9, .ref ao_9, .int 0, .int 0, .int 0, .int 0, .int 0])), (as_9, .inl (cs_9, 60, .inl (fun _ => 0))), (at_9, .inl (ct_9, 60, .inl (fun _ => 0))), (ap_9, .inl (cp_9, 60, .inl (fun _ => 0))), (ai_9, .inl (ci_9, 60, .inl (fun _ => 0))), (ar_9, .inl (cr_9, 60, .inl (fun _ => 0))), (ao_9, .inl (co_9, 12, .inl (fun _ => 0))), (kn9, .inl (ck9, 26, .inl (fun _ => 0)))] : va_W) ++ w_al 9 (fun j => r_cl (c_six cC cI cZ) cI (rt_9 j))) H := hP
  have hD : va_D A (([(h, .inr (5, [.ref q1, .int 0])), (q1, .inl (cA2, 13, .inr (.inr (.inr (.inr (va_up f_9 (9 : Int32).toNatClampNeg (some q21))))))), (q21, .inr (4, [.ref tt9, .ref kn9, .int 0])), (tt9, .inr (6, [.ref as_9, .ref at_9, .ref ap_9, .ref ai_9, .ref ar_9, .ref ao_9, .int 0, .int 0, .int 0, .int 0, .int 0])), (as_9, .inl (cs_9, 60, .inl (fun _ => 0))), (at_9, .inl (ct_9, 60, .inl (fun _ => 0))), (ap_9, .inl (cp_9, 60, .inl (fun _ => 0))), (ai_9, .inl (ci_9, 60, .inl (fun _ => 0))), (ar_9, .inl (cr_9, 60, .inl (fun _ => 0))), (ao_9, .inl (co_9, 12, .inl (fun _ => 0))), (kn9, .inl (ck9, 26, .inl (fun _ => 0)))] : va_W) ++ w_al 9 (fun j => r_cl (c_six cC cI cZ) cI (rt_9 j))) := hD
  obtain ⟨f_10, hf_10⟩ : ∃ f, f = va_up f_9 (9 : Int32).toNatClampNeg (some q21) := ⟨_, rfl⟩
  rw [← hf_10] at hP hD
  have hP : va_P D wcl (([(h, .inr (5, [.ref q1, .int 0])), (q1, .inl (cA2, 13, .inr (.inr (.inr (.inr f_10))))), (q21, .inr (4, [.ref tt9, .ref kn9, .int 0])), (tt9, .inr (6, [.ref as_9, .ref at_9, .ref ap_9, .ref ai_9, .ref ar_9, .ref ao_9, .int 0, .int 0, .int 0, .int 0, .int 0])), (as_9, .inl (cs_9, 60, .inl (fun _ => 0))), (at_9, .inl (ct_9, 60, .inl (fun _ => 0))), (ap_9, .inl (cp_9, 60, .inl (fun _ => 0))), (ai_9, .inl (ci_9, 60, .inl (fun _ => 0))), (ar_9, .inl (cr_9, 60, .inl (fun _ => 0))), (ao_9, .inl (co_9, 12, .inl (fun _ => 0))), (kn9, .inl (ck9, 26, .inl (fun _ => 0)))] : va_W) ++ w_al 9 (fun j => r_cl (c_six cC cI cZ) cI (rt_9 j))) H := hP
  have hD : va_D A (([(h, .inr (5, [.ref q1, .int 0])), (q1, .inl (cA2, 13, .inr (.inr (.inr (.inr f_10))))), (q21, .inr (4, [.ref tt9, .ref kn9, .int 0])), (tt9, .inr (6, [.ref as_9, .ref at_9, .ref ap_9, .ref ai_9, .ref ar_9, .ref ao_9, .int 0, .int 0, .int 0, .int 0, .int 0])), (as_9, .inl (cs_9, 60, .inl (fun _ => 0))), (at_9, .inl (ct_9, 60, .inl (fun _ => 0))), (ap_9, .inl (cp_9, 60, .inl (fun _ => 0))), (ai_9, .inl (ci_9, 60, .inl (fun _ => 0))), (ar_9, .inl (cr_9, 60, .inl (fun _ => 0))), (ao_9, .inl (co_9, 12, .inl (fun _ => 0))), (kn9, .inl (ck9, 26, .inl (fun _ => 0)))] : va_W) ++ w_al 9 (fun j => r_cl (c_six cC cI cZ) cI (rt_9 j))) := hD
  have qi : cC = cs_9 := Option.some.inj ((va_nm_char (hK.2 1 _ rfl).2).symm.trans (va_nm_char (hK.2 4 _ rfl).2))
  subst qi
  have qi : cI = ct_9 := Option.some.inj ((va_nm_int (hK.2 2 _ rfl).2).symm.trans (va_nm_int (hK.2 5 _ rfl).2))
  subst qi
  have qi : cI = cp_9 := Option.some.inj ((va_nm_int (hK.2 2 _ rfl).2).symm.trans (va_nm_int (hK.2 6 _ rfl).2))
  subst qi
  have qi : cI = ci_9 := Option.some.inj ((va_nm_int (hK.2 2 _ rfl).2).symm.trans (va_nm_int (hK.2 7 _ rfl).2))
  subst qi
  have qi : cZ = cr_9 := Option.some.inj ((va_nm_boolean (hK.2 3 _ rfl).2).symm.trans (va_nm_boolean (hK.2 8 _ rfl).2))
  subst qi
  have qi : cI = co_9 := Option.some.inj ((va_nm_int (hK.2 2 _ rfl).2).symm.trans (va_nm_int (hK.2 9 _ rfl).2))
  subst qi
  have qi : cI = ck9 := Option.some.inj ((va_nm_int (hK.2 2 _ rfl).2).symm.trans (va_nm_int (hK.2 10 _ rfl).2))
  subst qi
  have hK := hK.sub (tys' := [(cA2, .object rc_R), (cC, .char), (cI, .int), (cZ, .boolean)]) [0, 1, 2, 3] rfl
  have hP : va_P D wcl (([(h, .inr (5, [.ref q1, .int 0])), (q1, .inl (cA2, 13, .inr (.inr (.inr (.inr f_10))))), (q21, .inr (4, [.ref tt9, .ref kn9, .int 0])), (tt9, .inr (6, [.ref as_9, .ref at_9, .ref ap_9, .ref ai_9, .ref ar_9, .ref ao_9, .int 0, .int 0, .int 0, .int 0, .int 0])), (as_9, .inl (cC, 60, .inl (fun _ => 0))), (at_9, .inl (cI, 60, .inl (fun _ => 0))), (ap_9, .inl (cI, 60, .inl (fun _ => 0))), (ai_9, .inl (cI, 60, .inl (fun _ => 0))), (ar_9, .inl (cZ, 60, .inl (fun _ => 0))), (ao_9, .inl (cI, 12, .inl (fun _ => 0))), (kn9, .inl (cI, 26, .inl (fun _ => 0)))] : va_W) ++ w_al 9 (fun j => r_cl (c_six cC cI cZ) cI (rt_9 j))) _ := hP.part [0, 1, 2, 3, 4, 5, 6, 7, 8, 9, 10] rfl
  have hD : va_D A (([(h, .inr (5, [.ref q1, .int 0])), (q1, .inl (cA2, 13, .inr (.inr (.inr (.inr f_10))))), (q21, .inr (4, [.ref tt9, .ref kn9, .int 0])), (tt9, .inr (6, [.ref as_9, .ref at_9, .ref ap_9, .ref ai_9, .ref ar_9, .ref ao_9, .int 0, .int 0, .int 0, .int 0, .int 0])), (as_9, .inl (cC, 60, .inl (fun _ => 0))), (at_9, .inl (cI, 60, .inl (fun _ => 0))), (ap_9, .inl (cI, 60, .inl (fun _ => 0))), (ai_9, .inl (cI, 60, .inl (fun _ => 0))), (ar_9, .inl (cZ, 60, .inl (fun _ => 0))), (ao_9, .inl (cI, 12, .inl (fun _ => 0))), (kn9, .inl (cI, 26, .inl (fun _ => 0)))] : va_W) ++ w_al 9 (fun j => r_cl (c_six cC cI cZ) cI (rt_9 j))) := hD.part [0, 1, 2, 3, 4, 5, 6, 7, 8, 9, 10] (by decide) rfl
  obtain ⟨rt_10, hr_10⟩ : ∃ f, f = va_up rt_9 9 (r_new q21 tt9 kn9 as_9 at_9 ap_9 ai_9 ar_9 ao_9) := ⟨_, rfl⟩
  have hP : va_P D wcl ((([(h, .inr (5, [.ref q1, .int 0])), (q1, .inl (cA2, 13, .inr (.inr (.inr (.inr f_10)))))] : va_W) ++ r_cl (c_six cC cI cZ) cI (r_new q21 tt9 kn9 as_9 at_9 ap_9 ai_9 ar_9 ao_9)) ++ w_al 9 (fun j => r_cl (c_six cC cI cZ) cI (rt_9 j))) H := hP
  have hP : va_P D wcl (([(h, .inr (5, [.ref q1, .int 0])), (q1, .inl (cA2, 13, .inr (.inr (.inr (.inr f_10)))))] : va_W) ++ w_al 10 (fun j => r_cl (c_six cC cI cZ) cI (rt_10 j))) H := hP.pm (st_pm hr_10)
  have hD : va_D A ((([(h, .inr (5, [.ref q1, .int 0])), (q1, .inl (cA2, 13, .inr (.inr (.inr (.inr f_10)))))] : va_W) ++ r_cl (c_six cC cI cZ) cI (r_new q21 tt9 kn9 as_9 at_9 ap_9 ai_9 ar_9 ao_9)) ++ w_al 9 (fun j => r_cl (c_six cC cI cZ) cI (rt_9 j))) := hD
  have hD : va_D A (([(h, .inr (5, [.ref q1, .int 0])), (q1, .inl (cA2, 13, .inr (.inr (.inr (.inr f_10)))))] : va_W) ++ w_al 10 (fun j => r_cl (c_six cC cI cZ) cI (rt_10 j))) := hD.pm (st_pm hr_10)
  have hb_10 := st_bf (i := 9) hb_9 (hf_10.trans rfl) hr_10
  have hk_10 := st_ok (i := 9) hk_9 (r_new_ok _ _ _ _ _ _ _ _ _) hr_10
  refine lv_iinc (k := 0) (v := 10) hx hb d_B_init_34 hl rfl (by rfl) (by decide) rfl (fun ls hl => ?_)
  have hl : lv_has ls 2 [(1, .int 10), (0, .ref h)] := hl
  refine lv_goto (tgt := 15) hx hb d_B_init_37 (by decide) ?_
  refine lv_iload_n hx hb d_B_init_15 rfl (lv_at hl 0 rfl) ?_
  refine lv_bipush (v := 12) hx hb d_B_init_16 (by decide) ?_
  refine lv_icmp_gt (tgt := 40) hx hb d_B_init_18 (by decide) (fun h9 => absurd h9 (by decide)) (fun _ => ?_)
  refine lv_aload_n hx hb d_B_init_21 rfl (lv_at hl 1 rfl) ?_
  refine va_get (D := D) (ci := 5) (v := .ref q1) (C := rc_B) (T := ft_B) (N := 2) hx hb hts in_B hown hK hP 0 rfl rfl 0 (by decide) (hts _ k_108) (fun _ h9 => h9) rfl d_B_init_22 ?_
  refine lv_iload_n hx hb d_B_init_25 rfl (lv_at hl 0 rfl) ?_
  refine va_new (ci := 4) (fs := [.null, .null, .int 0]) (C := rc_R) (T := ft_R) (N := 3) hx hb hts in_R ty_R tk_R hown (hts _ k_49) (hts _ k_51) (hts _ k_4) hK hP hD hS hA rfl (fun j hj => by revert j; decide) (by decide) (by decide) d_B_init_26 (fun q23 H hP hD hS => ?_)
  have hP : va_P D wcl (([(h, .inr (5, [.ref q1, .int 0])), (q1, .inl (cA2, 13, .inr (.inr (.inr (.inr f_10))))), (q23, .inr (4, [.null, .null, .int 0]))] : va_W) ++ w_al 10 (fun j => r_cl (c_six cC cI cZ) cI (rt_10 j))) H := hP.pm (pm_o2 (rx := [(h, .inr (5, [.ref q1, .int 0])), (q1, .inl (cA2, 13, .inr (.inr (.inr (.inr f_10)))))]) (n := [(q23, .inr (4, [.null, .null, .int 0]))]) (B := w_al 10 (fun j => r_cl (c_six cC cI cZ) cI (rt_10 j))))
  have hD : va_D A (([(h, .inr (5, [.ref q1, .int 0])), (q1, .inl (cA2, 13, .inr (.inr (.inr (.inr f_10))))), (q23, .inr (4, [.null, .null, .int 0]))] : va_W) ++ w_al 10 (fun j => r_cl (c_six cC cI cZ) cI (rt_10 j))) := hD.pm (pm_o2 (rx := [(h, .inr (5, [.ref q1, .int 0])), (q1, .inl (cA2, 13, .inr (.inr (.inr (.inr f_10)))))]) (n := [(q23, .inr (4, [.null, .null, .int 0]))]) (B := w_al 10 (fun j => r_cl (c_six cC cI cZ) cI (rt_10 j))))
  refine W.widen (k := 92) (n := 3536) (by decide) (by decide) ?_
  refine lv_dup hx hb d_B_init_29 rfl ?_
  refine cl_vQ (wc := [(q23, .inr (4, [.null, .null, .int 0]))]) (wr := [(h, .inr (5, [.ref q1, .int 0])), (q1, .inl (cA2, 13, .inr (.inr (.inr (.inr f_10)))))]) hP hD hK hS hA [2] [0, 1] rfl rfl (by decide) (by decide) (va_runIN (As := []) (rest := [.ref q23, .int 10, .ref q1]) ⟨hx, hb, hml, hown, hts⟩ (c_R_init l D H.size q23) (cw_IN hts 0 k_54 k_4 (hE.1 _ k_52 rfl) k_53 rfl (by decide +kernel) ⟨Nat.le_of_ble_eq_true rfl, Nat.le_of_ble_eq_true rfl⟩) (pr_S hP.lft hD.lft hK [2] [] (by decide) rfl rfl (fun U hU hW => trivial) (fun U g mk a h => h)) rfl rfl hl.1 rfl (lv_room (Nat.le_of_ble_eq_true rfl)) d_B_init_30 ⟨by decide, by decide⟩) (fun u H locs h24 hP hD hK hS => ?_)
  obtain ⟨tt10, kn10, ck10, as_10, at_10, ap_10, ai_10, ar_10, ao_10, cs_10, ct_10, cp_10, ci_10, cr_10, co_10⟩ := u
  have hP : va_P D wcl (([(h, .inr (5, [.ref q1, .int 0])), (q1, .inl (cA2, 13, .inr (.inr (.inr (.inr f_10))))), (q23, .inr (4, [.ref tt10, .ref kn10, .int 0])), (tt10, .inr (6, [.ref as_10, .ref at_10, .ref ap_10, .ref ai_10, .ref ar_10, .ref ao_10, .int 0, .int 0, .int 0, .int 0, .int 0])), (as_10, .inl (cs_10, 60, .inl (fun _ => 0))), (at_10, .inl (ct_10, 60, .inl (fun _ => 0))), (ap_10, .inl (cp_10, 60, .inl (fun _ => 0))), (ai_10, .inl (ci_10, 60, .inl (fun _ => 0))), (ar_10, .inl (cr_10, 60, .inl (fun _ => 0))), (ao_10, .inl (co_10, 12, .inl (fun _ => 0))), (kn10, .inl (ck10, 26, .inl (fun _ => 0)))] : va_W) ++ w_al 10 (fun j => r_cl (c_six cC cI cZ) cI (rt_10 j))) H := hP
  have hD : va_D A (([(h, .inr (5, [.ref q1, .int 0])), (q1, .inl (cA2, 13, .inr (.inr (.inr (.inr f_10))))), (q23, .inr (4, [.ref tt10, .ref kn10, .int 0])), (tt10, .inr (6, [.ref as_10, .ref at_10, .ref ap_10, .ref ai_10, .ref ar_10, .ref ao_10, .int 0, .int 0, .int 0, .int 0, .int 0])), (as_10, .inl (cs_10, 60, .inl (fun _ => 0))), (at_10, .inl (ct_10, 60, .inl (fun _ => 0))), (ap_10, .inl (cp_10, 60, .inl (fun _ => 0))), (ai_10, .inl (ci_10, 60, .inl (fun _ => 0))), (ar_10, .inl (cr_10, 60, .inl (fun _ => 0))), (ao_10, .inl (co_10, 12, .inl (fun _ => 0))), (kn10, .inl (ck10, 26, .inl (fun _ => 0)))] : va_W) ++ w_al 10 (fun j => r_cl (c_six cC cI cZ) cI (rt_10 j))) := hD
  have hK : va_K D wcl [(cA2, .object rc_R), (cC, .char), (cI, .int), (cZ, .boolean), (cs_10, .char), (ct_10, .int), (cp_10, .int), (ci_10, .int), (cr_10, .boolean), (co_10, .int), (ck10, .int)] s := hK
  refine W.widen (k := 100) (n := 3885) (by decide) (by decide) ?_
  refine va_astq hx hb hK hP hD hS 1 0 2 4 (r := (rc_R, ft_R, 3)) rfl rfl rfl rfl (vp_in_nI (n := 10) (N := 13) (by decide) (by decide)) d_B_init_33 (fun H locs hP hD hS => ?_)
  have hP : va_P D wcl (([(h, .inr (5, [.ref q1, .int 0])), (q1, .inl (cA2, 13, .inr (.inr (.inr (.inr (va_up f_10 (10 : Int32).toNatClampNeg (some q23))))))), (q23, .inr (4, [.ref tt10, .ref kn10, .int 0])), (tt10, .inr (6, [.ref as_10, .ref at_10, .ref ap_10, .ref ai_10, .ref ar_10, .ref ao_10, .int 0, .int 0, .int 0, .int 0, .int 0])), (as_10, .inl (cs_10, 60, .inl (fun _ => 0))), (at_10, .inl (ct_10, 60, .inl (fun _ => 0))), (ap_10, .inl (cp_10, 60, .inl (fun _ => 0))), (ai_10, .inl (ci_10, 60, .inl (fun _ => 0))), (ar_10, .inl (cr_10, 60, .inl (fun _ => 0))), (ao_10, .inl (co_10, 12, .inl (fun _ => 0))), (kn10, .inl (ck10, 26, .inl (fun _ => 0)))] : va_W) ++ w_al 10 (fun j => r_cl (c_six cC cI cZ) cI (rt_10 j))) H := hP
  have hD : va_D A (([(h, .inr (5, [.ref q1, .int 0])), (q1, .inl (cA2, 13, .inr (.inr (.inr (.inr (va_up f_10 (10 : Int32).toNatClampNeg (some q23))))))), (q23, .inr (4, [.ref tt10, .ref kn10, .int 0])), (tt10, .inr (6, [.ref as_10, .ref at_10, .ref ap_10, .ref ai_10, .ref ar_10, .ref ao_10, .int 0, .int 0, .int 0, .int 0, .int 0])), (as_10, .inl (cs_10, 60, .inl (fun _ => 0))), (at_10, .inl (ct_10, 60, .inl (fun _ => 0))), (ap_10, .inl (cp_10, 60, .inl (fun _ => 0))), (ai_10, .inl (ci_10, 60, .inl (fun _ => 0))), (ar_10, .inl (cr_10, 60, .inl (fun _ => 0))), (ao_10, .inl (co_10, 12, .inl (fun _ => 0))), (kn10, .inl (ck10, 26, .inl (fun _ => 0)))] : va_W) ++ w_al 10 (fun j => r_cl (c_six cC cI cZ) cI (rt_10 j))) := hD
  obtain ⟨f_11, hf_11⟩ : ∃ f, f = va_up f_10 (10 : Int32).toNatClampNeg (some q23) := ⟨_, rfl⟩
  rw [← hf_11] at hP hD
  have hP : va_P D wcl (([(h, .inr (5, [.ref q1, .int 0])), (q1, .inl (cA2, 13, .inr (.inr (.inr (.inr f_11))))), (q23, .inr (4, [.ref tt10, .ref kn10, .int 0])), (tt10, .inr (6, [.ref as_10, .ref at_10, .ref ap_10, .ref ai_10, .ref ar_10, .ref ao_10, .int 0, .int 0, .int 0, .int 0, .int 0])), (as_10, .inl (cs_10, 60, .inl (fun _ => 0))), (at_10, .inl (ct_10, 60, .inl (fun _ => 0))), (ap_10, .inl (cp_10, 60, .inl (fun _ => 0))), (ai_10, .inl (ci_10, 60, .inl (fun _ => 0))), (ar_10, .inl (cr_10, 60, .inl (fun _ => 0))), (ao_10, .inl (co_10, 12, .inl (fun _ => 0))), (kn10, .inl (ck10, 26, .inl (fun _ => 0)))] : va_W) ++ w_al 10 (fun j => r_cl (c_six cC cI cZ) cI (rt_10 j))) H := hP
  have hD : va_D A (([(h, .inr (5, [.ref q1, .int 0])), (q1, .inl (cA2, 13, .inr (.inr (.inr (.inr f_11))))), (q23, .inr (4, [.ref tt10, .ref kn10, .int 0])), (tt10, .inr (6, [.ref as_10, .ref at_10, .ref ap_10, .ref ai_10, .ref ar_10, .ref ao_10, .int 0, .int 0, .int 0, .int 0, .int 0])), (as_10, .inl (cs_10, 60, .inl (fun _ => 0))), (at_10, .inl (ct_10, 60, .inl (fun _ => 0))), (ap_10, .inl (cp_10, 60, .inl (fun _ => 0))), (ai_10, .inl (ci_10, 60, .inl (fun _ => 0))), (ar_10, .inl (cr_10, 60, .inl (fun _ => 0))), (ao_10, .inl (co_10, 12, .inl (fun _ => 0))), (kn10, .inl (ck10, 26, .inl (fun _ => 0)))] : va_W) ++ w_al 10 (fun j => r_cl (c_six cC cI cZ) cI (rt_10 j))) := hD
  have qi : cC = cs_10 := Option.some.inj ((va_nm_char (hK.2 1 _ rfl).2).symm.trans (va_nm_char (hK.2 4 _ rfl).2))
  subst qi
  have qi : cI = ct_10 := Option.some.inj ((va_nm_int (hK.2 2 _ rfl).2).symm.trans (va_nm_int (hK.2 5 _ rfl).2))
  subst qi
  have qi : cI = cp_10 := Option.some.inj ((va_nm_int (hK.2 2 _ rfl).2).symm.trans (va_nm_int (hK.2 6 _ rfl).2))
  subst qi
  have qi : cI = ci_10 := Option.some.inj ((va_nm_int (hK.2 2 _ rfl).2).symm.trans (va_nm_int (hK.2 7 _ rfl).2))
  subst qi
  have qi : cZ = cr_10 := Option.some.inj ((va_nm_boolean (hK.2 3 _ rfl).2).symm.trans (va_nm_boolean (hK.2 8 _ rfl).2))
  subst qi
  have qi : cI = co_10 := Option.some.inj ((va_nm_int (hK.2 2 _ rfl).2).symm.trans (va_nm_int (hK.2 9 _ rfl).2))
  subst qi
  have qi : cI = ck10 := Option.some.inj ((va_nm_int (hK.2 2 _ rfl).2).symm.trans (va_nm_int (hK.2 10 _ rfl).2))
  subst qi
  have hK := hK.sub (tys' := [(cA2, .object rc_R), (cC, .char), (cI, .int), (cZ, .boolean)]) [0, 1, 2, 3] rfl
  have hP : va_P D wcl (([(h, .inr (5, [.ref q1, .int 0])), (q1, .inl (cA2, 13, .inr (.inr (.inr (.inr f_11))))), (q23, .inr (4, [.ref tt10, .ref kn10, .int 0])), (tt10, .inr (6, [.ref as_10, .ref at_10, .ref ap_10, .ref ai_10, .ref ar_10, .ref ao_10, .int 0, .int 0, .int 0, .int 0, .int 0])), (as_10, .inl (cC, 60, .inl (fun _ => 0))), (at_10, .inl (cI, 60, .inl (fun _ => 0))), (ap_10, .inl (cI, 60, .inl (fun _ => 0))), (ai_10, .inl (cI, 60, .inl (fun _ => 0))), (ar_10, .inl (cZ, 60, .inl (fun _ => 0))), (ao_10, .inl (cI, 12, .inl (fun _ => 0))), (kn10, .inl (cI, 26, .inl (fun _ => 0)))] : va_W) ++ w_al 10 (fun j => r_cl (c_six cC cI cZ) cI (rt_10 j))) _ := hP.part [0, 1, 2, 3, 4, 5, 6, 7, 8, 9, 10] rfl
  have hD : va_D A (([(h, .inr (5, [.ref q1, .int 0])), (q1, .inl (cA2, 13, .inr (.inr (.inr (.inr f_11))))), (q23, .inr (4, [.ref tt10, .ref kn10, .int 0])), (tt10, .inr (6, [.ref as_10, .ref at_10, .ref ap_10, .ref ai_10, .ref ar_10, .ref ao_10, .int 0, .int 0, .int 0, .int 0, .int 0])), (as_10, .inl (cC, 60, .inl (fun _ => 0))), (at_10, .inl (cI, 60, .inl (fun _ => 0))), (ap_10, .inl (cI, 60, .inl (fun _ => 0))), (ai_10, .inl (cI, 60, .inl (fun _ => 0))), (ar_10, .inl (cZ, 60, .inl (fun _ => 0))), (ao_10, .inl (cI, 12, .inl (fun _ => 0))), (kn10, .inl (cI, 26, .inl (fun _ => 0)))] : va_W) ++ w_al 10 (fun j => r_cl (c_six cC cI cZ) cI (rt_10 j))) := hD.part [0, 1, 2, 3, 4, 5, 6, 7, 8, 9, 10] (by decide) rfl
  obtain ⟨rt_11, hr_11⟩ : ∃ f, f = va_up rt_10 10 (r_new q23 tt10 kn10 as_10 at_10 ap_10 ai_10 ar_10 ao_10) := ⟨_, rfl⟩
  have hP : va_P D wcl ((([(h, .inr (5, [.ref q1, .int 0])), (q1, .inl (cA2, 13, .inr (.inr (.inr (.inr f_11)))))] : va_W) ++ r_cl (c_six cC cI cZ) cI (r_new q23 tt10 kn10 as_10 at_10 ap_10 ai_10 ar_10 ao_10)) ++ w_al 10 (fun j => r_cl (c_six cC cI cZ) cI (rt_10 j))) H := hP
  have hP : va_P D wcl (([(h, .inr (5, [.ref q1, .int 0])), (q1, .inl (cA2, 13, .inr (.inr (.inr (.inr f_11)))))] : va_W) ++ w_al 11 (fun j => r_cl (c_six cC cI cZ) cI (rt_11 j))) H := hP.pm (st_pm hr_11)
  have hD : va_D A ((([(h, .inr (5, [.ref q1, .int 0])), (q1, .inl (cA2, 13, .inr (.inr (.inr (.inr f_11)))))] : va_W) ++ r_cl (c_six cC cI cZ) cI (r_new q23 tt10 kn10 as_10 at_10 ap_10 ai_10 ar_10 ao_10)) ++ w_al 10 (fun j => r_cl (c_six cC cI cZ) cI (rt_10 j))) := hD
  have hD : va_D A (([(h, .inr (5, [.ref q1, .int 0])), (q1, .inl (cA2, 13, .inr (.inr (.inr (.inr f_11)))))] : va_W) ++ w_al 11 (fun j => r_cl (c_six cC cI cZ) cI (rt_11 j))) := hD.pm (st_pm hr_11)
  have hb_11 := st_bf (i := 10) hb_10 (hf_11.trans rfl) hr_11
  have hk_11 := st_ok (i := 10) hk_10 (r_new_ok _ _ _ _ _ _ _ _ _) hr_11
  refine lv_iinc (k := 0) (v := 11) hx hb d_B_init_34 hl rfl (by rfl) (by decide) rfl (fun ls hl => ?_)
  have hl : lv_has ls 2 [(1, .int 11), (0, .ref h)] := hl
  refine lv_goto (tgt := 15) hx hb d_B_init_37 (by decide) ?_
  refine lv_iload_n hx hb d_B_init_15 rfl (lv_at hl 0 rfl) ?_
  refine lv_bipush (v := 12) hx hb d_B_init_16 (by decide) ?_
  refine lv_icmp_gt (tgt := 40) hx hb d_B_init_18 (by decide) (fun h9 => absurd h9 (by decide)) (fun _ => ?_)
  refine lv_aload_n hx hb d_B_init_21 rfl (lv_at hl 1 rfl) ?_
  refine va_get (D := D) (ci := 5) (v := .ref q1) (C := rc_B) (T := ft_B) (N := 2) hx hb hts in_B hown hK hP 0 rfl rfl 0 (by decide) (hts _ k_108) (fun _ h9 => h9) rfl d_B_init_22 ?_
  refine lv_iload_n hx hb d_B_init_25 rfl (lv_at hl 0 rfl) ?_
  refine va_new (ci := 4) (fs := [.null, .null, .int 0]) (C := rc_R) (T := ft_R) (N := 3) hx hb hts in_R ty_R tk_R hown (hts _ k_49) (hts _ k_51) (hts _ k_4) hK hP hD hS hA rfl (fun j hj => by revert j; decide) (by decide) (by decide) d_B_init_26 (fun q25 H hP hD hS => ?_)
  have hP : va_P D wcl (([(h, .inr (5, [.ref q1, .int 0])), (q1, .inl (cA2, 13, .inr (.inr (.inr (.inr f_11))))), (q25, .inr (4, [.null, .null, .int 0]))] : va_W) ++ w_al 11 (fun j => r_cl (c_six cC cI cZ) cI (rt_11 j))) H := hP.pm (pm_o2 (rx := [(h, .inr (5, [.ref q1, .int 0])), (q1, .inl (cA2, 13, .inr (.inr (.inr (.inr f_11)))))]) (n := [(q25, .inr (4, [.null, .null, .int 0]))]) (B := w_al 11 (fun j => r_cl (c_six cC cI cZ) cI (rt_11 j))))
  have hD : va_D A (([(h, .inr (5, [.ref q1, .int 0])), (q1, .inl (cA2, 13, .inr (.inr (.inr (.inr f_11))))), (q25, .inr (4, [.null, .null, .int 0]))] : va_W) ++ w_al 11 (fun j => r_cl (c_six cC cI cZ) cI (rt_11 j))) := hD.pm (pm_o2 (rx := [(h, .inr (5, [.ref q1, .int 0])), (q1, .inl (cA2, 13, .inr (.inr (.inr (.inr f_11)))))]) (n := [(q25, .inr (4, [.null, .null, .int 0]))]) (B := w_al 11 (fun j => r_cl (c_six cC cI cZ) cI (rt_11 j))))
  refine W.widen (k := 101) (n := 3888) (by decide) (by decide) ?_
  refine lv_dup hx hb d_B_init_29 rfl ?_
  refine cl_vQ (wc := [(q25, .inr (4, [.null, .null, .int 0]))]) (wr := [(h, .inr (5, [.ref q1, .int 0])), (q1, .inl (cA2, 13, .inr (.inr (.inr (.inr f_11)))))]) hP hD hK hS hA [2] [0, 1] rfl rfl (by decide) (by decide) (va_runIN (As := []) (rest := [.ref q25, .int 11, .ref q1]) ⟨hx, hb, hml, hown, hts⟩ (c_R_init l D H.size q25) (cw_IN hts 0 k_54 k_4 (hE.1 _ k_52 rfl) k_53 rfl (by decide +kernel) ⟨Nat.le_of_ble_eq_true rfl, Nat.le_of_ble_eq_true rfl⟩) (pr_S hP.lft hD.lft hK [2] [] (by decide) rfl rfl (fun U hU hW => trivial) (fun U g mk a h => h)) rfl rfl hl.1 rfl (lv_room (Nat.le_of_ble_eq_true rfl)) d_B_init_30 ⟨by decide, by decide⟩) (fun u H locs h26 hP hD hK hS => ?_)
  obtain ⟨tt11, kn11, ck11, as_11, at_11, ap_11, ai_11, ar_11, ao_11, cs_11, ct_11, cp_11, ci_11, cr_11, co_11⟩ := u
  have hP : va_P D wcl (([(h, .inr (5, [.ref q1, .int 0])), (q1, .inl (cA2, 13, .inr (.inr (.inr (.inr f_11))))), (q25, .inr (4, [.ref tt11, .ref kn11, .int 0])), (tt11, .inr (6, [.ref as_11, .ref at_11, .ref ap_11, .ref ai_11, .ref ar_11, .ref ao_11, .int 0, .int 0, .int 0, .int 0, .int 0])), (as_11, .inl (cs_11, 60, .inl (fun _ => 0))), (at_11, .inl (ct_11, 60, .inl (fun _ => 0))), (ap_11, .inl (cp_11, 60, .inl (fun _ => 0))), (ai_11, .inl (ci_11, 60, .inl (fun _ => 0))), (ar_11, .inl (cr_11, 60, .inl (fun _ => 0))), (ao_11, .inl (co_11, 12, .inl (fun _ => 0))), (kn11, .inl (ck11, 26, .inl (fun _ => 0)))] : va_W) ++ w_al 11 (fun j => r_cl (c_six cC cI cZ) cI (rt_11 j))) H := hP
  have hD : va_D A (([(h, .inr (5, [.ref q1, .int 0])), (q1, .inl (cA2, 13, .inr (.inr (.inr (.inr f_11))))), (q25, .inr (4, [.ref tt11, .ref kn11, .int 0])), (tt11, .inr (6, [.ref as_11, .ref at_11, .ref ap_11, .ref ai_11, .ref ar_11, .ref ao_11, .int 0, .int 0, .int 0, .int 0, .int 0])), (as_11, .inl (cs_11, 60, .inl (fun _ => 0))), (at_11, .inl (ct_11, 60, .inl (fun _ => 0))), (ap_11, .inl (cp_11, 60, .inl (fun _ => 0))), (ai_11, .inl (ci_11, 60, .inl (fun _ => 0))), (ar_11, .inl (cr_11, 60, .inl (fun _ => 0))), (ao_11, .inl (co_11, 12, .inl (fun _ => 0))), (kn11, .inl (ck11, 26, .inl (fun _ => 0)))] : va_W) ++ w_al 11 (fun j => r_cl (c_six cC cI cZ) cI (rt_11 j))) := hD
  have hK : va_K D wcl [(cA2, .object rc_R), (cC, .char), (cI, .int), (cZ, .boolean), (cs_11, .char), (ct_11, .int), (cp_11, .int), (ci_11, .int), (cr_11, .boolean), (co_11, .int), (ck11, .int)] s := hK
  refine W.widen (k := 109) (n := 4237) (by decide) (by decide) ?_
  refine va_astq hx hb hK hP hD hS 1 0 2 4 (r := (rc_R, ft_R, 3)) rfl rfl rfl rfl (vp_in_nI (n := 11) (N := 13) (by decide) (by decide)) d_B_init_33 (fun H locs hP hD hS => ?_)
  have hP : va_P D wcl (([(h, .inr (5, [.ref q1, .int 0])), (q1, .inl (cA2, 13, .inr (.inr (.inr (.inr (va_up f_11 (11 : Int32).toNatClampNeg (some q25))))))), (q25, .inr (4, [.ref tt11, .ref kn11, .int 0])), (tt11, .inr (6, [.ref as_11, .ref at_11, .ref ap_11, .ref ai_11, .ref ar_11, .ref ao_11, .int 0, .int 0, .int 0, .int 0, .int 0])), (as_11, .inl (cs_11, 60, .inl (fun _ => 0))), (at_11, .inl (ct_11, 60, .inl (fun _ => 0))), (ap_11, .inl (cp_11, 60, .inl (fun _ => 0))), (ai_11, .inl (ci_11, 60, .inl (fun _ => 0))), (ar_11, .inl (cr_11, 60, .inl (fun _ => 0))), (ao_11, .inl (co_11, 12, .inl (fun _ => 0))), (kn11, .inl (ck11, 26, .inl (fun _ => 0)))] : va_W) ++ w_al 11 (fun j => r_cl (c_six cC cI cZ) cI (rt_11 j))) H := hP
  have hD : va_D A (([(h, .inr (5, [.ref q1, .int 0])), (q1, .inl (cA2, 13, .inr (.inr (.inr (.inr (va_up f_11 (11 : Int32).toNatClampNeg (some q25))))))), (q25, .inr (4, [.ref tt11, .ref kn11, .int 0])), (tt11, .inr (6, [.ref as_11, .ref at_11, .ref ap_11, .ref ai_11, .ref ar_11, .ref ao_11, .int 0, .int 0, .int 0, .int 0, .int 0])), (as_11, .inl (cs_11, 60, .inl (fun _ => 0))), (at_11, .inl (ct_11, 60, .inl (fun _ => 0))), (ap_11, .inl (cp_11, 60, .inl (fun _ => 0))), (ai_11, .inl (ci_11, 60, .inl (fun _ => 0))), (ar_11, .inl (cr_11, 60, .inl (fun _ => 0))), (ao_11, .inl (co_11, 12, .inl (fun _ => 0))), (kn11, .inl (ck11, 26, .inl (fun _ => 0)))] : va_W) ++ w_al 11 (fun j => r_cl (c_six cC cI cZ) cI (rt_11 j))) := hD
  obtain ⟨f_12, hf_12⟩ : ∃ f, f = va_up f_11 (11 : Int32).toNatClampNeg (some q25) := ⟨_, rfl⟩
  rw [← hf_12] at hP hD
  have hP : va_P D wcl (([(h, .inr (5, [.ref q1, .int 0])), (q1, .inl (cA2, 13, .inr (.inr (.inr (.inr f_12))))), (q25, .inr (4, [.ref tt11, .ref kn11, .int 0])), (tt11, .inr (6, [.ref as_11, .ref at_11, .ref ap_11, .ref ai_11, .ref ar_11, .ref ao_11, .int 0, .int 0, .int 0, .int 0, .int 0])), (as_11, .inl (cs_11, 60, .inl (fun _ => 0))), (at_11, .inl (ct_11, 60, .inl (fun _ => 0))), (ap_11, .inl (cp_11, 60, .inl (fun _ => 0))), (ai_11, .inl (ci_11, 60, .inl (fun _ => 0))), (ar_11, .inl (cr_11, 60, .inl (fun _ => 0))), (ao_11, .inl (co_11, 12, .inl (fun _ => 0))), (kn11, .inl (ck11, 26, .inl (fun _ => 0)))] : va_W) ++ w_al 11 (fun j => r_cl (c_six cC cI cZ) cI (rt_11 j))) H := hP
  have hD : va_D A (([(h, .inr (5, [.ref q1, .int 0])), (q1, .inl (cA2, 13, .inr (.inr (.inr (.inr f_12))))), (q25, .inr (4, [.ref tt11, .ref kn11, .int 0])), (tt11, .inr (6, [.ref as_11, .ref at_11, .ref ap_11, .ref ai_11, .ref ar_11, .ref ao_11, .int 0, .int 0, .int 0, .int 0, .int 0])), (as_11, .inl (cs_11, 60, .inl (fun _ => 0))), (at_11, .inl (ct_11, 60, .inl (fun _ => 0))), (ap_11, .inl (cp_11, 60, .inl (fun _ => 0))), (ai_11, .inl (ci_11, 60, .inl (fun _ => 0))), (ar_11, .inl (cr_11, 60, .inl (fun _ => 0))), (ao_11, .inl (co_11, 12, .inl (fun _ => 0))), (kn11, .inl (ck11, 26, .inl (fun _ => 0)))] : va_W) ++ w_al 11 (fun j => r_cl (c_six cC cI cZ) cI (rt_11 j))) := hD
  have qi : cC = cs_11 := Option.some.inj ((va_nm_char (hK.2 1 _ rfl).2).symm.trans (va_nm_char (hK.2 4 _ rfl).2))
  subst qi
  have qi : cI = ct_11 := Option.some.inj ((va_nm_int (hK.2 2 _ rfl).2).symm.trans (va_nm_int (hK.2 5 _ rfl).2))
  subst qi
  have qi : cI = cp_11 := Option.some.inj ((va_nm_int (hK.2 2 _ rfl).2).symm.trans (va_nm_int (hK.2 6 _ rfl).2))
  subst qi
  have qi : cI = ci_11 := Option.some.inj ((va_nm_int (hK.2 2 _ rfl).2).symm.trans (va_nm_int (hK.2 7 _ rfl).2))
  subst qi
  have qi : cZ = cr_11 := Option.some.inj ((va_nm_boolean (hK.2 3 _ rfl).2).symm.trans (va_nm_boolean (hK.2 8 _ rfl).2))
  subst qi
  have qi : cI = co_11 := Option.some.inj ((va_nm_int (hK.2 2 _ rfl).2).symm.trans (va_nm_int (hK.2 9 _ rfl).2))
  subst qi
  have qi : cI = ck11 := Option.some.inj ((va_nm_int (hK.2 2 _ rfl).2).symm.trans (va_nm_int (hK.2 10 _ rfl).2))
  subst qi
  have hK := hK.sub (tys' := [(cA2, .object rc_R), (cC, .char), (cI, .int), (cZ, .boolean)]) [0, 1, 2, 3] rfl
  have hP : va_P D wcl (([(h, .inr (5, [.ref q1, .int 0])), (q1, .inl (cA2, 13, .inr (.inr (.inr (.inr f_12))))), (q25, .inr (4, [.ref tt11, .ref kn11, .int 0])), (tt11, .inr (6, [.ref as_11, .ref at_11, .ref ap_11, .ref ai_11, .ref ar_11, .ref ao_11, .int 0, .int 0, .int 0, .int 0, .int 0])), (as_11, .inl (cC, 60, .inl (fun _ => 0))), (at_11, .inl (cI, 60, .inl (fun _ => 0))), (ap_11, .inl (cI, 60, .inl (fun _ => 0))), (ai_11, .inl (cI, 60, .inl (fun _ => 0))), (ar_11, .inl (cZ, 60, .inl (fun _ => 0))), (ao_11, .inl (cI, 12, .inl (fun _ => 0))), (kn11, .inl (cI, 26, .inl (fun _ => 0)))] : va_W) ++ w_al 11 (fun j => r_cl (c_six cC cI cZ) cI (rt_11 j))) _ := hP.part [0, 1, 2, 3, 4, 5, 6, 7, 8, 9, 10] rfl
  have hD : va_D A (([(h, .inr (5, [.ref q1, .int 0])), (q1, .inl (cA2, 13, .inr (.inr (.inr (.inr f_12))))), (q25, .inr (4, [.ref tt11, .ref kn11, .int 0])), (tt11, .inr (6, [.ref as_11, .ref at_11, .ref ap_11, .ref ai_11, .ref ar_11, .ref ao_11, .int 0, .int 0, .int 0, .int 0, .int 0])), (as_11, .inl (cC, 60, .inl (fun _ => 0))), (at_11, .inl (cI, 60, .inl (fun _ => 0))), (ap_11, .inl (cI, 60, .inl (fun _ => 0))), (ai_11, .inl (cI, 60, .inl (fun _ => 0))), (ar_11, .inl (cZ, 60, .inl (fun _ => 0))), (ao_11, .inl (cI, 12, .inl (fun _ => 0))), (kn11, .inl (cI, 26, .inl (fun _ => 0)))] : va_W) ++ w_al 11 (fun j => r_cl (c_six cC cI cZ) cI (rt_11 j))) := hD.part [0, 1, 2, 3, 4, 5, 6, 7, 8, 9, 10] (by decide) rfl
  obtain ⟨rt_12, hr_12⟩ : ∃ f, f = va_up rt_11 11 (r_new q25 tt11 kn11 as_11 at_11 ap_11 ai_11 ar_11 ao_11) := ⟨_, rfl⟩
  have hP : va_P D wcl ((([(h, .inr (5, [.ref q1, .int 0])), (q1, .inl (cA2, 13, .inr (.inr (.inr (.inr f_12)))))] : va_W) ++ r_cl (c_six cC cI cZ) cI (r_new q25 tt11 kn11 as_11 at_11 ap_11 ai_11 ar_11 ao_11)) ++ w_al 11 (fun j => r_cl (c_six cC cI cZ) cI (rt_11 j))) H := hP
  have hP : va_P D wcl (([(h, .inr (5, [.ref q1, .int 0])), (q1, .inl (cA2, 13, .inr (.inr (.inr (.inr f_12)))))] : va_W) ++ w_al 12 (fun j => r_cl (c_six cC cI cZ) cI (rt_12 j))) H := hP.pm (st_pm hr_12)
  have hD : va_D A ((([(h, .inr (5, [.ref q1, .int 0])), (q1, .inl (cA2, 13, .inr (.inr (.inr (.inr f_12)))))] : va_W) ++ r_cl (c_six cC cI cZ) cI (r_new q25 tt11 kn11 as_11 at_11 ap_11 ai_11 ar_11 ao_11)) ++ w_al 11 (fun j => r_cl (c_six cC cI cZ) cI (rt_11 j))) := hD
  have hD : va_D A (([(h, .inr (5, [.ref q1, .int 0])), (q1, .inl (cA2, 13, .inr (.inr (.inr (.inr f_12)))))] : va_W) ++ w_al 12 (fun j => r_cl (c_six cC cI cZ) cI (rt_12 j))) := hD.pm (st_pm hr_12)
  have hb_12 := st_bf (i := 11) hb_11 (hf_12.trans rfl) hr_12
  have hk_12 := st_ok (i := 11) hk_11 (r_new_ok _ _ _ _ _ _ _ _ _) hr_12
  refine lv_iinc (k := 0) (v := 12) hx hb d_B_init_34 hl rfl (by rfl) (by decide) rfl (fun ls hl => ?_)
  have hl : lv_has ls 2 [(1, .int 12), (0, .ref h)] := hl
  refine lv_goto (tgt := 15) hx hb d_B_init_37 (by decide) ?_
  refine lv_iload_n hx hb d_B_init_15 rfl (lv_at hl 0 rfl) ?_
  refine lv_bipush (v := 12) hx hb d_B_init_16 (by decide) ?_
  refine lv_icmp_gt (tgt := 40) hx hb d_B_init_18 (by decide) (fun h9 => absurd h9 (by decide)) (fun _ => ?_)
  refine lv_aload_n hx hb d_B_init_21 rfl (lv_at hl 1 rfl) ?_
  refine va_get (D := D) (ci := 5) (v := .ref q1) (C := rc_B) (T := ft_B) (N := 2) hx hb hts in_B hown hK hP 0 rfl rfl 0 (by decide) (hts _ k_108) (fun _ h9 => h9) rfl d_B_init_22 ?_
  refine lv_iload_n hx hb d_B_init_25 rfl (lv_at hl 0 rfl) ?_
  refine va_new (ci := 4) (fs := [.null, .null, .int 0]) (C := rc_R) (T := ft_R) (N := 3) hx hb hts in_R ty_R tk_R hown (hts _ k_49) (hts _ k_51) (hts _ k_4) hK hP hD hS hA rfl (fun j hj => by revert j; decide) (by decide) (by decide) d_B_init_26 (fun q27 H hP hD hS => ?_)
  have hP : va_P D wcl (([(h, .inr (5, [.ref q1, .int 0])), (q1, .inl (cA2, 13, .inr (.inr (.inr (.inr f_12))))), (q27, .inr (4, [.null, .null, .int 0]))] : va_W) ++ w_al 12 (fun j => r_cl (c_six cC cI cZ) cI (rt_12 j))) H := hP.pm (pm_o2 (rx := [(h, .inr (5, [.ref q1, .int 0])), (q1, .inl (cA2, 13, .inr (.inr (.inr (.inr f_12)))))]) (n := [(q27, .inr (4, [.null, .null, .int 0]))]) (B := w_al 12 (fun j => r_cl (c_six cC cI cZ) cI (rt_12 j))))
  have hD : va_D A (([(h, .inr (5, [.ref q1, .int 0])), (q1, .inl (cA2, 13, .inr (.inr (.inr (.inr f_12))))), (q27, .inr (4, [.null, .null, .int 0]))] : va_W) ++ w_al 12 (fun j => r_cl (c_six cC cI cZ) cI (rt_12 j))) := hD.pm (pm_o2 (rx := [(h, .inr (5, [.ref q1, .int 0])), (q1, .inl (cA2, 13, .inr (.inr (.inr (.inr f_12)))))]) (n := [(q27, .inr (4, [.null, .null, .int 0]))]) (B := w_al 12 (fun j => r_cl (c_six cC cI cZ) cI (rt_12 j))))
  refine W.widen (k := 110) (n := 4240) (by decide) (by decide) ?_
  refine lv_dup hx hb d_B_init_29 rfl ?_
  refine cl_vQ (wc := [(q27, .inr (4, [.null, .null, .int 0]))]) (wr := [(h, .inr (5, [.ref q1, .int 0])), (q1, .inl (cA2, 13, .inr (.inr (.inr (.inr f_12)))))]) hP hD hK hS hA [2] [0, 1] rfl rfl (by decide) (by decide) (va_runIN (As := []) (rest := [.ref q27, .int 12, .ref q1]) ⟨hx, hb, hml, hown, hts⟩ (c_R_init l D H.size q27) (cw_IN hts 0 k_54 k_4 (hE.1 _ k_52 rfl) k_53 rfl (by decide +kernel) ⟨Nat.le_of_ble_eq_true rfl, Nat.le_of_ble_eq_true rfl⟩) (pr_S hP.lft hD.lft hK [2] [] (by decide) rfl rfl (fun U hU hW => trivial) (fun U g mk a h => h)) rfl rfl hl.1 rfl (lv_room (Nat.le_of_ble_eq_true rfl)) d_B_init_30 ⟨by decide, by decide⟩) (fun u H locs h28 hP hD hK hS => ?_)
  obtain ⟨tt12, kn12, ck12, as_12, at_12, ap_12, ai_12, ar_12, ao_12, cs_12, ct_12, cp_12, ci_12, cr_12, co_12⟩ := u
  have hP : va_P D wcl (([(h, .inr (5, [.ref q1, .int 0])), (q1, .inl (cA2, 13, .inr (.inr (.inr (.inr f_12))))), (q27, .inr (4, [.ref tt12, .ref kn12, .int 0])), (tt12, .inr (6, [.ref as_12, .ref at_12, .ref ap_12, .ref ai_12, .ref ar_12, .ref ao_12, .int 0, .int 0, .int 0, .int 0, .int 0])), (as_12, .inl (cs_12, 60, .inl (fun _ => 0))), (at_12, .inl (ct_12, 60, .inl (fun _ => 0))), (ap_12, .inl (cp_12, 60, .inl (fun _ => 0))), (ai_12, .inl (ci_12, 60, .inl (fun _ => 0))), (ar_12, .inl (cr_12, 60, .inl (fun _ => 0))), (ao_12, .inl (co_12, 12, .inl (fun _ => 0))), (kn12, .inl (ck12, 26, .inl (fun _ => 0)))] : va_W) ++ w_al 12 (fun j => r_cl (c_six cC cI cZ) cI (rt_12 j))) H := hP
  have hD : va_D A (([(h, .inr (5, [.ref q1, .int 0])), (q1, .inl (cA2, 13, .inr (.inr (.inr (.inr f_12))))), (q27, .inr (4, [.ref tt12, .ref kn12, .int 0])), (tt12, .inr (6, [.ref as_12, .ref at_12, .ref ap_12, .ref ai_12, .ref ar_12, .ref ao_12, .int 0, .int 0, .int 0, .int 0, .int 0])), (as_12, .inl (cs_12, 60, .inl (fun _ => 0))), (at_12, .inl (ct_12, 60, .inl (fun _ => 0))), (ap_12, .inl (cp_12, 60, .inl (fun _ => 0))), (ai_12, .inl (ci_12, 60, .inl (fun _ => 0))), (ar_12, .inl (cr_12, 60, .inl (fun _ => 0))), (ao_12, .inl (co_12, 12, .inl (fun _ => 0))), (kn12, .inl (ck12, 26, .inl (fun _ => 0)))] : va_W) ++ w_al 12 (fun j => r_cl (c_six cC cI cZ) cI (rt_12 j))) := hD
  have hK : va_K D wcl [(cA2, .object rc_R), (cC, .char), (cI, .int), (cZ, .boolean), (cs_12, .char), (ct_12, .int), (cp_12, .int), (ci_12, .int), (cr_12, .boolean), (co_12, .int), (ck12, .int)] s := hK
  refine W.widen (k := 118) (n := 4589) (by decide) (by decide) ?_
  refine va_astq hx hb hK hP hD hS 1 0 2 4 (r := (rc_R, ft_R, 3)) rfl rfl rfl rfl (vp_in_nI (n := 12) (N := 13) (by decide) (by decide)) d_B_init_33 (fun H locs hP hD hS => ?_)
  have hP : va_P D wcl (([(h, .inr (5, [.ref q1, .int 0])), (q1, .inl (cA2, 13, .inr (.inr (.inr (.inr (va_up f_12 (12 : Int32).toNatClampNeg (some q27))))))), (q27, .inr (4, [.ref tt12, .ref kn12, .int 0])), (tt12, .inr (6, [.ref as_12, .ref at_12, .ref ap_12, .ref ai_12, .ref ar_12, .ref ao_12, .int 0, .int 0, .int 0, .int 0, .int 0])), (as_12, .inl (cs_12, 60, .inl (fun _ => 0))), (at_12, .inl (ct_12, 60, .inl (fun _ => 0))), (ap_12, .inl (cp_12, 60, .inl (fun _ => 0))), (ai_12, .inl (ci_12, 60, .inl (fun _ => 0))), (ar_12, .inl (cr_12, 60, .inl (fun _ => 0))), (ao_12, .inl (co_12, 12, .inl (fun _ => 0))), (kn12, .inl (ck12, 26, .inl (fun _ => 0)))] : va_W) ++ w_al 12 (fun j => r_cl (c_six cC cI cZ) cI (rt_12 j))) H := hP
  have hD : va_D A (([(h, .inr (5, [.ref q1, .int 0])), (q1, .inl (cA2, 13, .inr (.inr (.inr (.inr (va_up f_12 (12 : Int32).toNatClampNeg (some q27))))))), (q27, .inr (4, [.ref tt12, .ref kn12, .int 0])), (tt12, .inr (6, [.ref as_12, .ref at_12, .ref ap_12, .ref ai_12, .ref ar_12, .ref ao_12, .int 0, .int 0, .int 0, .int 0, .int 0])), (as_12, .inl (cs_12, 60, .inl (fun _ => 0))), (at_12, .inl (ct_12, 60, .inl (fun _ => 0))), (ap_12, .inl (cp_12, 60, .inl (fun _ => 0))), (ai_12, .inl (ci_12, 60, .inl (fun _ => 0))), (ar_12, .inl (cr_12, 60, .inl (fun _ => 0))), (ao_12, .inl (co_12, 12, .inl (fun _ => 0))), (kn12, .inl (ck12, 26, .inl (fun _ => 0)))] : va_W) ++ w_al 12 (fun j => r_cl (c_six cC cI cZ) cI (rt_12 j))) := hD
  obtain ⟨f_13, hf_13⟩ : ∃ f, f = va_up f_12 (12 : Int32).toNatClampNeg (some q27) := ⟨_, rfl⟩
  rw [← hf_13] at hP hD
  have hP : va_P D wcl (([(h, .inr (5, [.ref q1, .int 0])), (q1, .inl (cA2, 13, .inr (.inr (.inr (.inr f_13))))), (q27, .inr (4, [.ref tt12, .ref kn12, .int 0])), (tt12, .inr (6, [.ref as_12, .ref at_12, .ref ap_12, .ref ai_12, .ref ar_12, .ref ao_12, .int 0, .int 0, .int 0, .int 0, .int 0])), (as_12, .inl (cs_12, 60, .inl (fun _ => 0))), (at_12, .inl (ct_12, 60, .inl (fun _ => 0))), (ap_12, .inl (cp_12, 60, .inl (fun _ => 0))), (ai_12, .inl (ci_12, 60, .inl (fun _ => 0))), (ar_12, .inl (cr_12, 60, .inl (fun _ => 0))), (ao_12, .inl (co_12, 12, .inl (fun _ => 0))), (kn12, .inl (ck12, 26, .inl (fun _ => 0)))] : va_W) ++ w_al 12 (fun j => r_cl (c_six cC cI cZ) cI (rt_12 j))) H := hP
  have hD : va_D A (([(h, .inr (5, [.ref q1, .int 0])), (q1, .inl (cA2, 13, .inr (.inr (.inr (.inr f_13))))), (q27, .inr (4, [.ref tt12, .ref kn12, .int 0])), (tt12, .inr (6, [.ref as_12, .ref at_12, .ref ap_12, .ref ai_12, .ref ar_12, .ref ao_12, .int 0, .int 0, .int 0, .int 0, .int 0])), (as_12, .inl (cs_12, 60, .inl (fun _ => 0))), (at_12, .inl (ct_12, 60, .inl (fun _ => 0))), (ap_12, .inl (cp_12, 60, .inl (fun _ => 0))), (ai_12, .inl (ci_12, 60, .inl (fun _ => 0))), (ar_12, .inl (cr_12, 60, .inl (fun _ => 0))), (ao_12, .inl (co_12, 12, .inl (fun _ => 0))), (kn12, .inl (ck12, 26, .inl (fun _ => 0)))] : va_W) ++ w_al 12 (fun j => r_cl (c_six cC cI cZ) cI (rt_12 j))) := hD
  have qi : cC = cs_12 := Option.some.inj ((va_nm_char (hK.2 1 _ rfl).2).symm.trans (va_nm_char (hK.2 4 _ rfl).2))
  subst qi
  have qi : cI = ct_12 := Option.some.inj ((va_nm_int (hK.2 2 _ rfl).2).symm.trans (va_nm_int (hK.2 5 _ rfl).2))
  subst qi
  have qi : cI = cp_12 := Option.some.inj ((va_nm_int (hK.2 2 _ rfl).2).symm.trans (va_nm_int (hK.2 6 _ rfl).2))
  subst qi
  have qi : cI = ci_12 := Option.some.inj ((va_nm_int (hK.2 2 _ rfl).2).symm.trans (va_nm_int (hK.2 7 _ rfl).2))
  subst qi
  have qi : cZ = cr_12 := Option.some.inj ((va_nm_boolean (hK.2 3 _ rfl).2).symm.trans (va_nm_boolean (hK.2 8 _ rfl).2))
  subst qi
  have qi : cI = co_12 := Option.some.inj ((va_nm_int (hK.2 2 _ rfl).2).symm.trans (va_nm_int (hK.2 9 _ rfl).2))
  subst qi
  have qi : cI = ck12 := Option.some.inj ((va_nm_int (hK.2 2 _ rfl).2).symm.trans (va_nm_int (hK.2 10 _ rfl).2))
  subst qi
  have hK := hK.sub (tys' := [(cA2, .object rc_R), (cC, .char), (cI, .int), (cZ, .boolean)]) [0, 1, 2, 3] rfl
  have hP : va_P D wcl (([(h, .inr (5, [.ref q1, .int 0])), (q1, .inl (cA2, 13, .inr (.inr (.inr (.inr f_13))))), (q27, .inr (4, [.ref tt12, .ref kn12, .int 0])), (tt12, .inr (6, [.ref as_12, .ref at_12, .ref ap_12, .ref ai_12, .ref ar_12, .ref ao_12, .int 0, .int 0, .int 0, .int 0, .int 0])), (as_12, .inl (cC, 60, .inl (fun _ => 0))), (at_12, .inl (cI, 60, .inl (fun _ => 0))), (ap_12, .inl (cI, 60, .inl (fun _ => 0))), (ai_12, .inl (cI, 60, .inl (fun _ => 0))), (ar_12, .inl (cZ, 60, .inl (fun _ => 0))), (ao_12, .inl (cI, 12, .inl (fun _ => 0))), (kn12, .inl (cI, 26, .inl (fun _ => 0)))] : va_W) ++ w_al 12 (fun j => r_cl (c_six cC cI cZ) cI (rt_12 j))) _ := hP.part [0, 1, 2, 3, 4, 5, 6, 7, 8, 9, 10] rfl
  have hD : va_D A (([(h, .inr (5, [.ref q1, .int 0])), (q1, .inl (cA2, 13, .inr (.inr (.inr (.inr f_13))))), (q27, .inr (4, [.ref tt12, .ref kn12, .int 0])), (tt12, .inr (6, [.ref as_12, .ref at_12, .ref ap_12, .ref ai_12, .ref ar_12, .ref ao_12, .int 0, .int 0, .int 0, .int 0, .int 0])), (as_12, .inl (cC, 60, .inl (fun _ => 0))), (at_12, .inl (cI, 60, .inl (fun _ => 0))), (ap_12, .inl (cI, 60, .inl (fun _ => 0))), (ai_12, .inl (cI, 60, .inl (fun _ => 0))), (ar_12, .inl (cZ, 60, .inl (fun _ => 0))), (ao_12, .inl (cI, 12, .inl (fun _ => 0))), (kn12, .inl (cI, 26, .inl (fun _ => 0)))] : va_W) ++ w_al 12 (fun j => r_cl (c_six cC cI cZ) cI (rt_12 j))) := hD.part [0, 1, 2, 3, 4, 5, 6, 7, 8, 9, 10] (by decide) rfl
  obtain ⟨rt_13, hr_13⟩ : ∃ f, f = va_up rt_12 12 (r_new q27 tt12 kn12 as_12 at_12 ap_12 ai_12 ar_12 ao_12) := ⟨_, rfl⟩
  have hP : va_P D wcl ((([(h, .inr (5, [.ref q1, .int 0])), (q1, .inl (cA2, 13, .inr (.inr (.inr (.inr f_13)))))] : va_W) ++ r_cl (c_six cC cI cZ) cI (r_new q27 tt12 kn12 as_12 at_12 ap_12 ai_12 ar_12 ao_12)) ++ w_al 12 (fun j => r_cl (c_six cC cI cZ) cI (rt_12 j))) H := hP
  have hP : va_P D wcl (([(h, .inr (5, [.ref q1, .int 0])), (q1, .inl (cA2, 13, .inr (.inr (.inr (.inr f_13)))))] : va_W) ++ w_al 13 (fun j => r_cl (c_six cC cI cZ) cI (rt_13 j))) H := hP.pm (st_pm hr_13)
  have hD : va_D A ((([(h, .inr (5, [.ref q1, .int 0])), (q1, .inl (cA2, 13, .inr (.inr (.inr (.inr f_13)))))] : va_W) ++ r_cl (c_six cC cI cZ) cI (r_new q27 tt12 kn12 as_12 at_12 ap_12 ai_12 ar_12 ao_12)) ++ w_al 12 (fun j => r_cl (c_six cC cI cZ) cI (rt_12 j))) := hD
  have hD : va_D A (([(h, .inr (5, [.ref q1, .int 0])), (q1, .inl (cA2, 13, .inr (.inr (.inr (.inr f_13)))))] : va_W) ++ w_al 13 (fun j => r_cl (c_six cC cI cZ) cI (rt_13 j))) := hD.pm (st_pm hr_13)
  have hb_13 := st_bf (i := 12) hb_12 (hf_13.trans rfl) hr_13
  have hk_13 := st_ok (i := 12) hk_12 (r_new_ok _ _ _ _ _ _ _ _ _) hr_13
  refine lv_iinc (k := 0) (v := 13) hx hb d_B_init_34 hl rfl (by rfl) (by decide) rfl (fun ls hl => ?_)
  have hl : lv_has ls 2 [(1, .int 13), (0, .ref h)] := hl
  refine lv_goto (tgt := 15) hx hb d_B_init_37 (by decide) ?_
  refine lv_iload_n hx hb d_B_init_15 rfl (lv_at hl 0 rfl) ?_
  refine lv_bipush (v := 12) hx hb d_B_init_16 (by decide) ?_
  refine lv_icmp_gt (tgt := 40) hx hb d_B_init_18 (by decide) (fun _ => ?_) (fun h9 => absurd (by decide) h9)
  have hP9 : va_P D wcl (([(h, .inr (5, [.ref q1, .int 0])), (q1, .inl (cA2, 13, .inr (.inr (.inr (.inr f_13)))))] : va_W) ++ w_al 13 (fun j => r_cl (c_six cC cI cZ) cI (rt_13 j))) _ := hP.part [0, 1] rfl
  have hD9 : va_D A (([(h, .inr (5, [.ref q1, .int 0])), (q1, .inl (cA2, 13, .inr (.inr (.inr (.inr f_13)))))] : va_W) ++ w_al 13 (fun j => r_cl (c_six cC cI cZ) cI (rt_13 j))) := hD.part [0, 1] (by decide) rfl
  have hK9 := hK.sub (tys' := [(cA2, .object rc_R), (cC, .char), (cI, .int), (cZ, .boolean)]) [0, 1, 2, 3] rfl
  exact W.vret hx hb hr (fun t9 ht hW => ⟨⟨(q1, cA2, f_13, cC, cI, cZ, rt_13), rfl, ⟨hb_13, hk_13⟩, ⟨by rw [ht]; exact hP9, va_K.moved hW.alike hK9, hD9⟩⟩, hS.F ht⟩) hS.2.2 d_B_init_40
