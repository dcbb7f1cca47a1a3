set_option maxHeartbeats 4000000 in
set_option maxRecDepth 100000 in
theorem x_L_expandG {S : Type} {p1 : Option Value → S → Prop} {p2 : String → S → Prop} {w1 : S → va_W} {t1 : S → List (ClassId × FieldType)} {E : State → Prop} (l : Launch) (D : va_G) (sz : Nat) (f0 oo : Nat) (k : Int32) (wF : va_W) (tF : List (ClassId × FieldType)) (fs : List Value) (cO : ClassId) (fo : Nat → Int64)
    (h0 : wF[0]? = some (f0, .inr (7, fs)))
    (hM : ey_Met l y_F_expand (Cond.code y_F_expand b_F_expand 3 (some .int) :: wal) ({ frames := 242, cells := 1, slots := 6, locals := 14040 }) (va_Pc [.ref f0, .int k] (pr D sz wF tF E)) (vx p1 p2 (fun u t => po D (va_A wF sz) (w1 u) (t1 u) t) (va_A wF sz)) (va_A wF sz))
    (h1 : ∀ v u, p1 v u → ∃ r : Int32, v = some (.int r)) (h2 : ∀ xN u, p2 xN u → xN = iaN ∨ xN = isN ∨ xN = uoN)
    (hEg : ∀ s U : State, E s → U.heap = s.heap → s.WarmedH U.vm → E U) (hEb : ∀ (U : State) (g : JFrame) (mk : MethodId) (a : Array Value), E U → E (U.calling g mk a)) :
    ex_Met l y_L_expand (Cond.codeWith y_L_expand b_L_expand 4 (some .int) [(0, 9, 12, 13), (0, 9, 15, 21), (0, 9, 18, 15)] :: wal) ({ frames := 243, cells := 1, slots := 6, locals := 14100 }) (va_Pc [.ref f0, .int k, .ref oo] (pr D sz (wF ++ [(oo, .inl (cO, 1, .inr (.inl fo)))]) (tF ++ [(cO, .long)]) (fun U => E U ∧ nc U)))
      (va_Qi (S := S × (Nat → Int64)) (fun r u => (r = 0 ∧ ∃ v : Int32, p1 (some (.int v)) u.1 ∧ u.2 0 = v.toInt64) ∨ (r = 1 ∧ p2 iaN u.1) ∨ (r = 2 ∧ p2 isN u.1) ∨ (r = 3 ∧ p2 uoN u.1)) (fun u t9 => po D (va_A (wF ++ [(oo, .inl (cO, 1, .inr (.inl fo)))]) sz) (w1 u.1 ++ [(oo, .inl (cO, 1, .inr (.inl u.2)))]) (t1 u.1 ++ [(cO, .long)]) t9) (va_A (wF ++ [(oo, .inl (cO, 1, .inr (.inl fo)))]) sz)) 1 6 (va_A (wF ++ [(oo, .inl (cO, 1, .inr (.inl fo)))]) sz) := by
  refine ex_ofW (cc := b_L_expand) (maxL := 4) (ret := (some .int)) (by decide) rfl ?_
  intro p e s m args below meth c s₁ B hml htab hv
  obtain ⟨rfl, hsz, hP, hK, hD0, hE, hnc⟩ := hv
  have hx := B.exec
  have hb := B.bytes
  have hr := B.returns
  have hts0 := atoms_spec (ws := Cond.codeWith y_L_expand b_L_expand 4 (some .int) [(0, 9, 12, 13), (0, 9, 15, 21), (0, 9, 18, 15)] :: wal) B.pre
  have hts : ∀ w ∈ wal, w.before _ s = true := fun w h => hts0 w (List.mem_cons_of_mem _ h)
  have hown : s.vm.findClass rc_L = some m.cls := findClass_of_methodNamed B.named
  have hlocks := B.notSynchronized
  subst hsz
  have hD := hD0.self (sz := s.heap.size)
  generalize hAe : va_A (wF ++ [(oo, .inl (cO, 1, .inr (.inl fo)))]) s.heap.size = A at hD ⊢
  have hA : ∀ q : Nat, s.heap.size ≤ q → A q := fun q h => by rw [← hAe]; exact Or.inr h
  have hS : va_S A s.heap s.heap [] := va_S.rf
  have hl := lv_entry ([.ref f0, .int k, .ref oo]) (n := 4) (Nat.le_of_ble_eq_true rfl)
  rw [lg_entry_eq]
  generalize (lg_sl ([.ref f0, .int k, .ref oo]) ++ List.replicate (4 - (lg_sl ([.ref f0, .int k, .ref oo])).length) Slot.unset).toArray = ls at hl ⊢
  have hl : lv_has ls 4 [(0, .ref f0), (1, .int k), (2, .ref oo)] := hl
  refine lv_aload_n hx hb d_L_expand_0 rfl (lv_at hl 2 rfl) ?_
  refine lv_iconst (v := 0) hx hb d_L_expand_1 (by decide) ?_
  refine lv_aload_n hx hb d_L_expand_2 rfl (lv_at hl 0 rfl) ?_
  refine lv_iload_n hx hb d_L_expand_3 rfl (lv_at hl 1 rfl) ?_
  refine cl_X (wc := wF) (wr := [(oo, .inl (cO, 1, .inr (.inl fo)))]) hP hD hK hS hA (List.Perm.refl _) (ey_runV (As := [.int k]) (rest := [.int 0, .ref oo]) ⟨hx, hb, hml, hown, hts⟩ hM (cw_V hts 1 k_467 k_1 k_464 k_465 k_466 (by decide +kernel) ⟨Nat.le_of_ble_eq_true rfl, Nat.le_of_ble_eq_true rfl⟩) (pr_VG hP hD hK (List.Perm.refl _) (List.range tF.length) (fm_rangeL _ _) (fun U hU hW => hEg s U hE hU hW) hEb (q0 := 0) (ci := 7) rfl h0) rfl rfl hl.1 rfl (lv_room (Nat.le_of_ble_eq_true rfl)) d_L_expand_4 ⟨by decide, by decide⟩) (fun v u H locs hp hP hD hK hS => ?_) (fun xN x ce u H locs hp hP hD hK hS e1 n1 a1 v1 => ?_)
  · obtain ⟨r, rfl⟩ := h1 v u hp
    refine W.eq (g2 := F0 m 7 ls [.int r, .int 0, .ref oo]) rfl ?_
    refine lv_i2l (v := r.toInt64) hx hb d_L_expand_7 rfl ?_
    refine va_last hx hb hK hP hD hS 0 tF.length (cA := cO) (n := 1) (f := fo) rfl (by rw [List.append_assoc, List.getElem?_append_right (Nat.le_refl _), Nat.sub_self]; rfl) (vp_in_nI (n := 0) (N := 1) (by decide) (by decide)) d_L_expand_8 (fun H locs hP hD hS => ?_)
    have hP : va_P D wcl ((oo, .inl (cO, 1, .inr (.inl (vp_updL fo (Int32.toNatClampNeg 0) r.toInt64)))) :: w1 u) H := hP
    have hD : va_D A ((oo, .inl (cO, 1, .inr (.inl (vp_updL fo (Int32.toNatClampNeg 0) r.toInt64)))) :: w1 u) := hD
    refine lv_goto hx hb (tgt := 21) d_L_expand_9 (by decide) ?_
    refine lv_iconst (v := 0) hx hb d_L_expand_21 (by decide) ?_
    refine W.widen (k := 1) (n := 6) (by decide) (by decide) ?_
    refine ex_mono (fun t9 h9 => ex_of_MQ h9) (W.iret (v := 0) hx hb hr (fun t9 ht9 hW => ⟨⟨0, (u, vp_updL fo (Int32.toNatClampNeg 0) r.toInt64), rfl, Or.inl ⟨rfl, r, hp, ?_⟩, ⟨?_, ?_, ?_⟩⟩, hS.F ht9⟩) hS.2.2 d_L_expand_22)
    · rfl
    · rw [ht9]
      exact hP.pm (pm_c1 _ _)
    · exact va_K.moved hW.alike (hK.mem (fun q hq => by
        rcases List.mem_append.mp hq with hq | hq
        · exact List.mem_append_right _ hq
        · exact List.mem_append_left _ (List.mem_append_right _ hq)))
    · exact hD.pm (pm_c1 _ _)
  · have hpo : ∀ t9 : State, t9.heap = H → s.WarmedH t9.vm → po D A (w1 u ++ [(oo, .inl (cO, 1, .inr (.inl fo)))]) (t1 u ++ [(cO, .long)]) t9 := fun t9 ht9 hW =>
      ⟨by rw [ht9]; exact hP.pm (pm_c1 _ _), va_K.moved hW.alike (hK.mem (fun q hq => by
        rcases List.mem_append.mp hq with hq | hq
        · exact List.mem_append_right _ hq
        · exact List.mem_append_left _ (List.mem_append_right _ hq))), hD.pm (pm_c1 _ _)⟩
    rcases h2 xN u hp with rfl | rfl | rfl
    · refine ex_caught (xN := iaN) (cell := ce) hx rfl htab ⟨Nat.le_of_ble_eq_true rfl, Nat.le_of_ble_eq_true rfl⟩ (by decide) hown (hts _ k_258) e1 (by rw [v1]; rfl) n1 a1 ?_
      refine W.eq (g2 := F0 m 12 ls [.ref x]) rfl ?_
      refine lv_astore_n hx hb d_L_expand_12 rfl hl (by decide) rfl (fun ls hl => ?_)
      refine lv_iconst (v := 1) hx hb d_L_expand_13 (by decide) ?_
      exact ex_mono (fun t9 h9 => ex_of_MQ h9) (W.iret (v := 1) hx hb hr (fun t9 ht9 hW => ⟨⟨1, (u, fo), rfl, Or.inr (Or.inl ⟨rfl, hp⟩), hpo t9 ht9 hW⟩, hS.F ht9⟩) hS.2.2 d_L_expand_14)
    · refine ex_caught2 (xN := isN) (yN := iaN) (cell := ce) hx rfl htab ⟨Nat.le_of_ble_eq_true rfl, Nat.le_of_ble_eq_true rfl⟩ (by decide) ⟨Nat.le_of_ble_eq_true rfl, Nat.le_of_ble_eq_true rfl⟩ (by decide) hown (hts _ k_258) (hts _ k_463) e1 (by rw [v1]; rfl) n1 a1 (fun c0 q => hnc.2.1 _ c0 n1 q) ?_
      refine W.eq (g2 := F0 m 15 ls [.ref x]) rfl ?_
      refine lv_astore_n hx hb d_L_expand_15 rfl hl (by decide) rfl (fun ls hl => ?_)
      refine lv_iconst (v := 2) hx hb d_L_expand_16 (by decide) ?_
      exact ex_mono (fun t9 h9 => ex_of_MQ h9) (W.iret (v := 2) hx hb hr (fun t9 ht9 hW => ⟨⟨2, (u, fo), rfl, Or.inr (Or.inr (Or.inl ⟨rfl, hp⟩)), hpo t9 ht9 hW⟩, hS.F ht9⟩) hS.2.2 d_L_expand_17)
    · refine ex_caught3 (xN := uoN) (yN := iaN) (zN := isN) (cell := ce) hx rfl htab ⟨Nat.le_of_ble_eq_true rfl, Nat.le_of_ble_eq_true rfl⟩ (by decide) ⟨Nat.le_of_ble_eq_true rfl, Nat.le_of_ble_eq_true rfl⟩ (by decide) ⟨Nat.le_of_ble_eq_true rfl, Nat.le_of_ble_eq_true rfl⟩ (by decide) hown (hts _ k_258) (hts _ k_463) (hts _ k_259) e1 (by rw [v1]; rfl) n1 a1 (fun c0 q => hnc.1 _ c0 n1 q) (fun c0 q => hnc.2.2 _ c0 n1 q) ?_
      refine W.eq (g2 := F0 m 18 ls [.ref x]) rfl ?_
      refine lv_astore_n hx hb d_L_expand_18 rfl hl (by decide) rfl (fun ls hl => ?_)
      refine lv_iconst (v := 3) hx hb d_L_expand_19 (by decide) ?_
      exact ex_mono (fun t9 h9 => ex_of_MQ h9) (W.iret (v := 3) hx hb hr (fun t9 ht9 hW => ⟨⟨3, (u, fo), rfl, Or.inr (Or.inr (Or.inr ⟨rfl, hp⟩)), hpo t9 ht9 hW⟩, hS.F ht9⟩) hS.2.2 d_L_expand_20)
