set_option maxHeartbeats 4000000 in
set_option maxRecDepth 100000 in
/-- Match.term(c0, k0) -/
theorem c_M_term (l : Launch) (D : va_G) (sz : Nat) (mm : Nat) (fa : Nat) (cn : Nat) (cF : ClassId) (cI : ClassId) (fr : Nat → Nat) (ff : Nat → Nat → Nat) (c0 : Nat) (k0 : Nat) (hc0 : c_nm c0) (hk0 : k0 < 60) : Met l y_M_term (Cond.code y_M_term b_M_term 3 (some .int) :: wal) ({ frames := 10, cells := 0, slots := 0, locals := 120 }) (va_Pc [.ref mm, .int (nI c0), .int (nI k0)] (pr D sz (([(mm, .inr (2, [.ref fa, .ref cn])), (fa, .inl (cF, 26, .inr (.inr (.inr (.inr (fun j => some (fr j)))))))] : va_W) ++ w_al 26 (f_cl cI fr ff)) [(cF, .array .int), (cI, .int)] (fun _ => True))) (va_Qi (S := Unit) (fun r u => r = nI (ff (c0 - 97) k0)) (fun u t9 => po D (va_A (([(mm, .inr (2, [.ref fa, .ref cn])), (fa, .inl (cF, 26, .inr (.inr (.inr (.inr (fun j => some (fr j)))))))] : va_W) ++ w_al 26 (f_cl cI fr ff)) sz) ((fun u => (([(mm, .inr (2, [.ref fa, .ref cn])), (fa, .inl (cF, 26, .inr (.inr (.inr (.inr (fun j => some (fr j)))))))] : va_W) ++ w_al 26 (f_cl cI fr ff))) u) ((fun u => [(cF, .array .int), (cI, .int)]) u) t9) (va_A (([(mm, .inr (2, [.ref fa, .ref cn])), (fa, .inl (cF, 26, .inr (.inr (.inr (.inr (fun j => some (fr j)))))))] : va_W) ++ w_al 26 (f_cl cI fr ff)) sz)) 0 0 (va_A (([(mm, .inr (2, [.ref fa, .ref cn])), (fa, .inl (cF, 26, .inr (.inr (.inr (.inr (fun j => some (fr j)))))))] : va_W) ++ w_al 26 (f_cl cI fr ff)) sz) := by
  refine Met.ofW (cc := b_M_term) (maxL := 3) (ret := (some .int)) (by decide) rfl ?_
  intro p e s m args below meth c s₁ B hml hv
  obtain ⟨rfl, hsz, hP, hK, hD0, hE⟩ := hv
  have hx := B.exec
  have hb := B.bytes
  have hr := B.returns
  have hts0 := atoms_spec (ws := Cond.code y_M_term b_M_term 3 (some .int) :: wal) B.pre
  have hts : ∀ w ∈ wal, w.before _ s = true := fun w h => hts0 w (List.mem_cons_of_mem _ h)
  have hown : s.vm.findClass rc_M = some m.cls := findClass_of_methodNamed B.named
  have hlocks := B.notSynchronized
  subst hsz
  have hD := hD0.self (sz := s.heap.size)
  generalize hAe : va_A (([(mm, .inr (2, [.ref fa, .ref cn])), (fa, .inl (cF, 26, .inr (.inr (.inr (.inr (fun j => some (fr j)))))))] : va_W) ++ w_al 26 (f_cl cI fr ff)) s.heap.size = A at hD ⊢
  have hA : ∀ q : Nat, s.heap.size ≤ q → A q := fun q h => by rw [← hAe]; exact Or.inr h
  have hS : va_S A s.heap s.heap [] := va_S.rf
  have hl := lv_entry ([.ref mm, .int (nI c0), .int (nI k0)]) (n := 3) (Nat.le_of_ble_eq_true rfl)
  rw [lg_entry_eq]
  generalize (lg_sl ([.ref mm, .int (nI c0), .int (nI k0)]) ++ List.replicate (3 - (lg_sl ([.ref mm, .int (nI c0), .int (nI k0)])).length) Slot.unset).toArray = ls at hl ⊢
  have hl : lv_has ls 3 [(0, .ref mm), (1, .int (nI c0)), (2, .int (nI k0))] := hl
  have hv0 : c0 - 97 < 26 := by omega
  refine lv_aload_n hx hb d_M_term_0 rfl (lv_at hl 0 rfl) ?_
  refine va_get (D := D) (ci := 2) (v := .ref fa) (C := rc_M) (T := ft_M) (N := 2) hx hb hts in_M hown hK hP 0 rfl rfl 0 (by decide) (hts _ k_131) (fun _ h9 => h9) rfl d_M_term_1 ?_
  refine lv_iload_n hx hb d_M_term_4 rfl (lv_at hl 1 rfl) ?_
  refine lv_bipush (v := 97) hx hb d_M_term_5 (by decide) ?_
  refine lv_isub hx hb d_M_term_7 ?_
  refine lv_topi (fun z9 ez9 => ?_)
  have ez9 : z9 = (nI (c0 - 97)) := ez9.trans (nsub (b := 97) hc0.1)
  subst ez9
  refine mu_ald hx hb hK hP 1 0 rfl rfl (vp_in_nI (n := (c0 - 97)) (N := 26) (hv0) (by decide)) d_M_term_8 ?_
  have e0 : va_rf ((fun j => some (fr j)) (nI (c0 - 97)).toNatClampNeg) = .ref (fr (c0 - 97)) := by rw [nI_clamp (by omega)]; rfl
  rw [e0]
  have hP : va_P D wcl (([(mm, .inr (2, [.ref fa, .ref cn])), (fa, .inl (cF, 26, .inr (.inr (.inr (.inr (fun j => some (fr j))))))), ((fr (c0 - 97)), .inl (cI, 60, .inl (nf (ff (c0 - 97)))))] : va_W) ++ w_ot 26 (f_cl cI fr ff) (c0 - 97)) s.heap := hP.foc (X := [(mm, .inr (2, [.ref fa, .ref cn])), (fa, .inl (cF, 26, .inr (.inr (.inr (.inr (fun j => some (fr j)))))))]) (f := f_cl cI fr ff) (i := (c0 - 97)) (hv0)
  have hD : va_D A (([(mm, .inr (2, [.ref fa, .ref cn])), (fa, .inl (cF, 26, .inr (.inr (.inr (.inr (fun j => some (fr j))))))), ((fr (c0 - 97)), .inl (cI, 60, .inl (nf (ff (c0 - 97)))))] : va_W) ++ w_ot 26 (f_cl cI fr ff) (c0 - 97)) := hD.foc (X := [(mm, .inr (2, [.ref fa, .ref cn])), (fa, .inl (cF, 26, .inr (.inr (.inr (.inr (fun j => some (fr j)))))))]) (f := f_cl cI fr ff) (i := (c0 - 97)) (hv0)
  refine lv_iload_n hx hb d_M_term_9 rfl (lv_at hl 2 rfl) ?_
  refine va_iald hx hb hK hP 2 1 rfl rfl (vp_in_nI (hk0) (by decide)) d_M_term_10 ?_
  refine lv_topi (fun z9 ez9 => ?_)
  have ez9 : z9 = (nI ((ff (c0 - 97)) k0)) := ez9.trans (nf_at _ (Nat.lt_trans (hk0) (by decide)))
  subst ez9
  have hP : va_P D wcl (([(mm, .inr (2, [.ref fa, .ref cn])), (fa, .inl (cF, 26, .inr (.inr (.inr (.inr (fun j => some (fr j))))))), ((fr (c0 - 97)), .inl (cI, 60, .inl (nf (ff (c0 - 97)))))] : va_W) ++ w_ot 26 (f_cl cI fr ff) (c0 - 97)) _ := hP.part [0, 1, 2] rfl
  have hD : va_D A (([(mm, .inr (2, [.ref fa, .ref cn])), (fa, .inl (cF, 26, .inr (.inr (.inr (.inr (fun j => some (fr j))))))), ((fr (c0 - 97)), .inl (cI, 60, .inl (nf (ff (c0 - 97)))))] : va_W) ++ w_ot 26 (f_cl cI fr ff) (c0 - 97)) := hD.part [0, 1, 2] (by decide) rfl
  have hP : va_P D wcl (([(mm, .inr (2, [.ref fa, .ref cn])), (fa, .inl (cF, 26, .inr (.inr (.inr (.inr (fun j => some (fr j)))))))] : va_W) ++ w_al 26 (f_cl cI fr ff)) s.heap := hP.unf (X := [(mm, .inr (2, [.ref fa, .ref cn])), (fa, .inl (cF, 26, .inr (.inr (.inr (.inr (fun j => some (fr j)))))))]) (g := [((fr (c0 - 97)), .inl (cI, 60, .inl (nf (ff (c0 - 97)))))]) (f := f_cl cI fr ff) (f' := f_cl cI fr ff) (i := (c0 - 97)) (hv0) (rfl) (fun _ _ => rfl)
  have hD : va_D A (([(mm, .inr (2, [.ref fa, .ref cn])), (fa, .inl (cF, 26, .inr (.inr (.inr (.inr (fun j => some (fr j)))))))] : va_W) ++ w_al 26 (f_cl cI fr ff)) := hD.unf (X := [(mm, .inr (2, [.ref fa, .ref cn])), (fa, .inl (cF, 26, .inr (.inr (.inr (.inr (fun j => some (fr j)))))))]) (g := [((fr (c0 - 97)), .inl (cI, 60, .inl (nf (ff (c0 - 97)))))]) (f := f_cl cI fr ff) (f' := f_cl cI fr ff) (i := (c0 - 97)) (hv0) (rfl) (fun _ _ => rfl)
  have hP9 : va_P D wcl (([(mm, .inr (2, [.ref fa, .ref cn])), (fa, .inl (cF, 26, .inr (.inr (.inr (.inr (fun j => some (fr j)))))))] : va_W) ++ w_al 26 (f_cl cI fr ff)) _ := hP.part [0, 1] rfl
  have hD9 : va_D A (([(mm, .inr (2, [.ref fa, .ref cn])), (fa, .inl (cF, 26, .inr (.inr (.inr (.inr (fun j => some (fr j)))))))] : va_W) ++ w_al 26 (f_cl cI fr ff)) := hD.part [0, 1] (by decide) rfl
  have hK9 := hK.sub (tys' := [(cF, .array .int), (cI, .int)]) [0, 1] rfl
  exact W.iret (v := (nI ((ff (c0 - 97)) k0))) hx hb hr (fun t9 ht hW => ⟨⟨(nI ((ff (c0 - 97)) k0)), (), rfl, rfl, ⟨by rw [ht]; exact hP9, va_K.moved hW.alike hK9, hD9⟩⟩, hS.F ht⟩) hS.2.2 d_M_term_11

set_option maxHeartbeats 4000000 in
set_option maxRecDepth 100000 in
/-- Match.bind(v0, t0) -/
theorem c_M_bind (l : Launch) (D : va_G) (sz : Nat) (mm : Nat) (fa : Nat) (cn : Nat) (cF : ClassId) (cI : ClassId) (fr : Nat → Nat) (ff : Nat → Nat → Nat) (cN : ClassId) (ct : Nat → Nat) (v0 : Nat) (t0 : Nat) (hv0 : v0 < 26) (hct : ct v0 ≤ 60) : Met l y_M_bind (Cond.code y_M_bind b_M_bind 3 (some .boolean) :: wal) ({ frames := 10, cells := 0, slots := 0, locals := 120 }) (va_Pc [.ref mm, .int (nI v0), .int (nI t0)] (pr D sz (([(mm, .inr (2, [.ref fa, .ref cn])), (fa, .inl (cF, 26, .inr (.inr (.inr (.inr (fun j => some (fr j))))))), (cn, .inl (cN, 26, .inl (nf ct)))] : va_W) ++ w_al 26 (f_cl cI fr ff)) [(cF, .array .int), (cI, .int), (cN, .int)] (fun _ => True))) (va_Qi (S := (Nat → Nat) × (Nat → Nat → Nat)) (fun r u => (r = 0 ∧ ct v0 = 60 ∧ u.1 = ct ∧ u.2 = ff) ∨ (r = 1 ∧ ct v0 < 60 ∧ u.1 = va_up ct v0 (ct v0 + 1) ∧ u.2 = m_put ff v0 (ct v0) t0)) (fun u t9 => po D (va_A (([(mm, .inr (2, [.ref fa, .ref cn])), (fa, .inl (cF, 26, .inr (.inr (.inr (.inr (fun j => some (fr j))))))), (cn, .inl (cN, 26, .inl (nf ct)))] : va_W) ++ w_al 26 (f_cl cI fr ff)) sz) ((fun u => (([(mm, .inr (2, [.ref fa, .ref cn])), (fa, .inl (cF, 26, .inr (.inr (.inr (.inr (fun j => some (fr j))))))), (cn, .inl (cN, 26, .inl (nf u.1)))] : va_W) ++ w_al 26 (f_cl cI fr u.2))) u) ((fun u => [(cF, .array .int), (cI, .int), (cN, .int)]) u) t9) (va_A (([(mm, .inr (2, [.ref fa, .ref cn])), (fa, .inl (cF, 26, .inr (.inr (.inr (.inr (fun j => some (fr j))))))), (cn, .inl (cN, 26, .inl (nf ct)))] : va_W) ++ w_al 26 (f_cl cI fr ff)) sz)) 0 0 (va_A (([(mm, .inr (2, [.ref fa, .ref cn])), (fa, .inl (cF, 26, .inr (.inr (.inr (.inr (fun j => some (fr j))))))), (cn, .inl (cN, 26, .inl (nf ct)))] : va_W) ++ w_al 26 (f_cl cI fr ff)) sz) := by
  refine Met.ofW (cc := b_M_bind) (maxL := 3) (ret := (some .boolean)) (by decide) rfl ?_
  intro p e s m args below meth c s₁ B hml hv
  obtain ⟨rfl, hsz, hP, hK, hD0, hE⟩ := hv
  have hx := B.exec
  have hb := B.bytes
  have hr := B.returns
  have hts0 := atoms_spec (ws := Cond.code y_M_bind b_M_bind 3 (some .boolean) :: wal) B.pre
  have hts : ∀ w ∈ wal, w.before _ s = true := fun w h => hts0 w (List.mem_cons_of_mem _ h)
  have hown : s.vm.findClass rc_M = some m.cls := findClass_of_methodNamed B.named
  have hlocks := B.notSynchronized
  subst hsz
  have hD := hD0.self (sz := s.heap.size)
  generalize hAe : va_A (([(mm, .inr (2, [.ref fa, .ref cn])), (fa, .inl (cF, 26, .inr (.inr (.inr (.inr (fun j => some (fr j))))))), (cn, .inl (cN, 26, .inl (nf ct)))] : va_W) ++ w_al 26 (f_cl cI fr ff)) s.heap.size = A at hD ⊢
  have hA : ∀ q : Nat, s.heap.size ≤ q → A q := fun q h => by rw [← hAe]; exact Or.inr h
  have hS : va_S A s.heap s.heap [] := va_S.rf
  have hl := lv_entry ([.ref mm, .int (nI v0), .int (nI t0)]) (n := 3) (Nat.le_of_ble_eq_true rfl)
  rw [lg_entry_eq]
  generalize (lg_sl ([.ref mm, .int (nI v0), .int (nI t0)]) ++ List.replicate (3 - (lg_sl ([.ref mm, .int (nI v0), .int (nI t0)])).length) Slot.unset).toArray = ls at hl ⊢
  have hl : lv_has ls 3 [(0, .ref mm), (1, .int (nI v0)), (2, .int (nI t0))] := hl
  refine lv_aload_n hx hb d_M_bind_0 rfl (lv_at hl 0 rfl) ?_
  refine va_get (D := D) (ci := 2) (v := .ref cn) (C := rc_M) (T := ft_M) (N := 2) hx hb hts in_M hown hK hP 0 rfl rfl 1 (by decide) (hts _ k_132) (fun _ h9 => h9) rfl d_M_bind_1 ?_
  refine lv_iload_n hx hb d_M_bind_4 rfl (lv_at hl 1 rfl) ?_
  refine va_iald hx hb hK hP 2 2 rfl rfl (vp_in_nI (hv0) (by decide)) d_M_bind_5 ?_
  refine lv_topi (fun z9 ez9 => ?_)
  have ez9 : z9 = (nI (ct v0)) := ez9.trans (nf_at _ (Nat.lt_trans (hv0) (by decide)))
  subst ez9
  refine lv_bipush (v := 60) hx hb d_M_bind_6 (by decide) ?_
  refine lv_icmp_lt (tgt := 13) hx hb d_M_bind_8 (by decide) (fun h1 => ?_) (fun h1 => ?_)
  · have h2 : ct v0 < 60 := Nat.lt_of_not_le (fun h => absurd h1 (nI_nlt (b := 60) h (by omega)))
    refine lv_aload_n hx hb d_M_bind_13 rfl (lv_at hl 0 rfl) ?_
    refine va_get (D := D) (ci := 2) (v := .ref fa) (C := rc_M) (T := ft_M) (N := 2) hx hb hts in_M hown hK hP 0 rfl rfl 0 (by decide) (hts _ k_131) (fun _ h9 => h9) rfl d_M_bind_14 ?_
    refine lv_iload_n hx hb d_M_bind_17 rfl (lv_at hl 1 rfl) ?_
    refine mu_ald hx hb hK hP 1 0 rfl rfl (vp_in_nI (n := v0) (N := 26) (hv0) (by decide)) d_M_bind_18 ?_
    have e0 : va_rf ((fun j => some (fr j)) (nI v0).toNatClampNeg) = .ref (fr v0) := by rw [nI_clamp (by omega)]; rfl
    rw [e0]
    refine lv_aload_n hx hb d_M_bind_19 rfl (lv_at hl 0 rfl) ?_
    refine va_get (D := D) (ci := 2) (v := .ref cn) (C := rc_M) (T := ft_M) (N := 2) hx hb hts in_M hown hK hP 0 rfl rfl 1 (by decide) (hts _ k_132) (fun _ h9 => h9) rfl d_M_bind_20 ?_
    refine lv_iload_n hx hb d_M_bind_23 rfl (lv_at hl 1 rfl) ?_
    refine va_iald hx hb hK hP 2 2 rfl rfl (vp_in_nI (hv0) (by decide)) d_M_bind_24 ?_
    refine lv_topi (fun z9 ez9 => ?_)
    have ez9 : z9 = (nI (ct v0)) := ez9.trans (nf_at _ (Nat.lt_trans (hv0) (by decide)))
    subst ez9
    refine lv_iload_n hx hb d_M_bind_25 rfl (lv_at hl 2 rfl) ?_
    have hP : va_P D wcl (([(mm, .inr (2, [.ref fa, .ref cn])), (fa, .inl (cF, 26, .inr (.inr (.inr (.inr (fun j => some (fr j))))))), (cn, .inl (cN, 26, .inl (nf ct))), ((fr v0), .inl (cI, 60, .inl (nf (ff v0))))] : va_W) ++ w_ot 26 (f_cl cI fr ff) v0) s.heap := hP.foc (X := [(mm, .inr (2, [.ref fa, .ref cn])), (fa, .inl (cF, 26, .inr (.inr (.inr (.inr (fun j => some (fr j))))))), (cn, .inl (cN, 26, .inl (nf ct)))]) (f := f_cl cI fr ff) (i := v0) (hv0)
    have hD : va_D A (([(mm, .inr (2, [.ref fa, .ref cn])), (fa, .inl (cF, 26, .inr (.inr (.inr (.inr (fun j => some (fr j))))))), (cn, .inl (cN, 26, .inl (nf ct))), ((fr v0), .inl (cI, 60, .inl (nf (ff v0))))] : va_W) ++ w_ot 26 (f_cl cI fr ff) v0) := hD.foc (X := [(mm, .inr (2, [.ref fa, .ref cn])), (fa, .inl (cF, 26, .inr (.inr (.inr (.inr (fun j => some (fr j))))))), (cn, .inl (cN, 26, .inl (nf ct)))]) (f := f_cl cI fr ff) (i := v0) (hv0)
    refine va_iast hx hb hK hP hD hS 3 1 rfl rfl (vp_in_nI (h2) (by decide)) d_M_bind_26 (fun H locs hP hD hS => ?_)
    have hP : va_P D wcl (([(mm, .inr (2, [.ref fa, .ref cn])), (fa, .inl (cF, 26, .inr (.inr (.inr (.inr (fun j => some (fr j))))))), (cn, .inl (cN, 26, .inl (nf ct))), ((fr v0), .inl (cI, 60, .inl (upd (nf (ff v0)) (nI (ct v0)).toNatClampNeg (nI t0))))] : va_W) ++ w_ot 26 (f_cl cI fr ff) v0) H := hP
    have hD : va_D A (([(mm, .inr (2, [.ref fa, .ref cn])), (fa, .inl (cF, 26, .inr (.inr (.inr (.inr (fun j => some (fr j))))))), (cn, .inl (cN, 26, .inl (nf ct))), ((fr v0), .inl (cI, 60, .inl (upd (nf (ff v0)) (nI (ct v0)).toNatClampNeg (nI t0))))] : va_W) ++ w_ot 26 (f_cl cI fr ff) v0) := hD
    rw [nf_upi (ff v0) (Nat.lt_trans (h2) (by decide))] at hP hD
    have hP : va_P D wcl (([(mm, .inr (2, [.ref fa, .ref cn])), (fa, .inl (cF, 26, .inr (.inr (.inr (.inr (fun j => some (fr j))))))), (cn, .inl (cN, 26, .inl (nf ct))), ((fr v0), .inl (cI, 60, .inl (nf (va_up (ff v0) (ct v0) t0))))] : va_W) ++ w_ot 26 (f_cl cI fr ff) v0) H := hP
    have hD : va_D A (([(mm, .inr (2, [.ref fa, .ref cn])), (fa, .inl (cF, 26, .inr (.inr (.inr (.inr (fun j => some (fr j))))))), (cn, .inl (cN, 26, .inl (nf ct))), ((fr v0), .inl (cI, 60, .inl (nf (va_up (ff v0) (ct v0) t0))))] : va_W) ++ w_ot 26 (f_cl cI fr ff) v0) := hD
    have hP : va_P D wcl (([(mm, .inr (2, [.ref fa, .ref cn])), (fa, .inl (cF, 26, .inr (.inr (.inr (.inr (fun j => some (fr j))))))), (cn, .inl (cN, 26, .inl (nf ct))), ((fr v0), .inl (cI, 60, .inl (nf (va_up (ff v0) (ct v0) t0))))] : va_W) ++ w_ot 26 (f_cl cI fr ff) v0) _ := hP.part [0, 1, 2, 3] rfl
    have hD : va_D A (([(mm, .inr (2, [.ref fa, .ref cn])), (fa, .inl (cF, 26, .inr (.inr (.inr (.inr (fun j => some (fr j))))))), (cn, .inl (cN, 26, .inl (nf ct))), ((fr v0), .inl (cI, 60, .inl (nf (va_up (ff v0) (ct v0) t0))))] : va_W) ++ w_ot 26 (f_cl cI fr ff) v0) := hD.part [0, 1, 2, 3] (by decide) rfl
    have hP : va_P D wcl (([(mm, .inr (2, [.ref fa, .ref cn])), (fa, .inl (cF, 26, .inr (.inr (.inr (.inr (fun j => some (fr j))))))), (cn, .inl (cN, 26, .inl (nf ct)))] : va_W) ++ w_al 26 (f_cl cI fr (m_put ff v0 (ct v0) t0))) H := hP.unf (X := [(mm, .inr (2, [.ref fa, .ref cn])), (fa, .inl (cF, 26, .inr (.inr (.inr (.inr (fun j => some (fr j))))))), (cn, .inl (cN, 26, .inl (nf ct)))]) (g := [((fr v0), .inl (cI, 60, .inl (nf (va_up (ff v0) (ct v0) t0))))]) (f := f_cl cI fr ff) (f' := f_cl cI fr (m_put ff v0 (ct v0) t0)) (i := v0) (hv0) (by unfold f_cl; rw [m_put_self]) (fun j9 h9 => by unfold f_cl; rw [m_put_ne _ h9])
    have hD : va_D A (([(mm, .inr (2, [.ref fa, .ref cn])), (fa, .inl (cF, 26, .inr (.inr (.inr (.inr (fun j => some (fr j))))))), (cn, .inl (cN, 26, .inl (nf ct)))] : va_W) ++ w_al 26 (f_cl cI fr (m_put ff v0 (ct v0) t0))) := hD.unf (X := [(mm, .inr (2, [.ref fa, .ref cn])), (fa, .inl (cF, 26, .inr (.inr (.inr (.inr (fun j => some (fr j))))))), (cn, .inl (cN, 26, .inl (nf ct)))]) (g := [((fr v0), .inl (cI, 60, .inl (nf (va_up (ff v0) (ct v0) t0))))]) (f := f_cl cI fr ff) (f' := f_cl cI fr (m_put ff v0 (ct v0) t0)) (i := v0) (hv0) (by unfold f_cl; rw [m_put_self]) (fun j9 h9 => by unfold f_cl; rw [m_put_ne _ h9])
    refine lv_aload_n hx hb d_M_bind_27 rfl (lv_at hl 0 rfl) ?_
    refine va_get (D := D) (ci := 2) (v := .ref cn) (C := rc_M) (T := ft_M) (N := 2) hx hb hts in_M hown hK hP 0 rfl rfl 1 (by decide) (hts _ k_132) (fun _ h9 => h9) rfl d_M_bind_28 ?_
    refine lv_iload_n hx hb d_M_bind_31 rfl (lv_at hl 1 rfl) ?_
    refine lv_dup2_11 hx hb d_M_bind_32 rfl rfl ?_
    refine va_iald hx hb hK hP 2 2 rfl rfl (vp_in_nI (hv0) (by decide)) d_M_bind_33 ?_
    refine lv_topi (fun z9 ez9 => ?_)
    have ez9 : z9 = (nI (ct v0)) := ez9.trans (nf_at _ (Nat.lt_trans (hv0) (by decide)))
    subst ez9
    refine lv_iconst (v := 1) hx hb d_M_bind_34 (by decide) ?_
    refine lv_iadd hx hb d_M_bind_35 ?_
    refine lv_topi (fun z9 ez9 => ?_)
    have ez9 : z9 = (nI (ct v0 + 1)) := ez9.trans (nI_1 _)
    subst ez9
    refine va_iast hx hb hK hP hD hS 2 2 rfl rfl (vp_in_nI (hv0) (by decide)) d_M_bind_36 (fun H locs hP hD hS => ?_)
    have hP : va_P D wcl (([(mm, .inr (2, [.ref fa, .ref cn])), (fa, .inl (cF, 26, .inr (.inr (.inr (.inr (fun j => some (fr j))))))), (cn, .inl (cN, 26, .inl (upd (nf ct) (nI v0).toNatClampNeg (nI (ct v0 + 1)))))] : va_W) ++ w_al 26 (f_cl cI fr (m_put ff v0 (ct v0) t0))) H := hP
    have hD : va_D A (([(mm, .inr (2, [.ref fa, .ref cn])), (fa, .inl (cF, 26, .inr (.inr (.inr (.inr (fun j => some (fr j))))))), (cn, .inl (cN, 26, .inl (upd (nf ct) (nI v0).toNatClampNeg (nI (ct v0 + 1)))))] : va_W) ++ w_al 26 (f_cl cI fr (m_put ff v0 (ct v0) t0))) := hD
    rw [nf_upi ct (Nat.lt_trans (hv0) (by decide))] at hP hD
    have hP : va_P D wcl (([(mm, .inr (2, [.ref fa, .ref cn])), (fa, .inl (cF, 26, .inr (.inr (.inr (.inr (fun j => some (fr j))))))), (cn, .inl (cN, 26, .inl (nf (va_up ct v0 (ct v0 + 1)))))] : va_W) ++ w_al 26 (f_cl cI fr (m_put ff v0 (ct v0) t0))) H := hP
    have hD : va_D A (([(mm, .inr (2, [.ref fa, .ref cn])), (fa, .inl (cF, 26, .inr (.inr (.inr (.inr (fun j => some (fr j))))))), (cn, .inl (cN, 26, .inl (nf (va_up ct v0 (ct v0 + 1)))))] : va_W) ++ w_al 26 (f_cl cI fr (m_put ff v0 (ct v0) t0))) := hD
    refine lv_iconst (v := 1) hx hb d_M_bind_37 (by decide) ?_
    have hP9 : va_P D wcl (([(mm, .inr (2, [.ref fa, .ref cn])), (fa, .inl (cF, 26, .inr (.inr (.inr (.inr (fun j => some (fr j))))))), (cn, .inl (cN, 26, .inl (nf (va_up ct v0 (ct v0 + 1)))))] : va_W) ++ w_al 26 (f_cl cI fr (m_put ff v0 (ct v0) t0))) _ := hP.part [0, 1, 2] rfl
    have hD9 : va_D A (([(mm, .inr (2, [.ref fa, .ref cn])), (fa, .inl (cF, 26, .inr (.inr (.inr (.inr (fun j => some (fr j))))))), (cn, .inl (cN, 26, .inl (nf (va_up ct v0 (ct v0 + 1)))))] : va_W) ++ w_al 26 (f_cl cI fr (m_put ff v0 (ct v0) t0))) := hD.part [0, 1, 2] (by decide) rfl
    have hK9 := hK.sub (tys' := [(cF, .array .int), (cI, .int), (cN, .int)]) [0, 1, 2] rfl
    exact W.zret (v := 1) hx hb hr (by decide) (fun t9 ht hW => ⟨⟨1, (va_up ct v0 (ct v0 + 1), m_put ff v0 (ct v0) t0), rfl, Or.inr ⟨rfl, h2, rfl, rfl⟩, ⟨by rw [ht]; exact hP9, va_K.moved hW.alike hK9, hD9⟩⟩, hS.F ht⟩) hS.2.2 d_M_bind_38
  · have h2 : ct v0 = 60 := Nat.le_antisymm hct (Nat.not_lt.mp (fun h => h1 (nI_lt (b := 60) h (by decide))))
    refine lv_iconst (v := 0) hx hb d_M_bind_11 (by decide) ?_
    have hP9 : va_P D wcl (([(mm, .inr (2, [.ref fa, .ref cn])), (fa, .inl (cF, 26, .inr (.inr (.inr (.inr (fun j => some (fr j))))))), (cn, .inl (cN, 26, .inl (nf ct)))] : va_W) ++ w_al 26 (f_cl cI fr ff)) _ := hP.part [0, 1, 2] rfl
    have hD9 : va_D A (([(mm, .inr (2, [.ref fa, .ref cn])), (fa, .inl (cF, 26, .inr (.inr (.inr (.inr (fun j => some (fr j))))))), (cn, .inl (cN, 26, .inl (nf ct)))] : va_W) ++ w_al 26 (f_cl cI fr ff)) := hD.part [0, 1, 2] (by decide) rfl
    have hK9 := hK.sub (tys' := [(cF, .array .int), (cI, .int), (cN, .int)]) [0, 1, 2] rfl
    exact W.zret (v := 0) hx hb hr (by decide) (fun t9 ht hW => ⟨⟨0, (ct, ff), rfl, Or.inl ⟨rfl, h2, rfl, rfl⟩, ⟨by rw [ht]; exact hP9, va_K.moved hW.alike hK9, hD9⟩⟩, hS.F ht⟩) hS.2.2 d_M_bind_12
