set_option maxHeartbeats 4000000 in
set_option maxRecDepth 100000 in
/-- Terms.repeatLast() -/
theorem c_T_repeatLast (l : Launch) (D : va_G) (sz : Nat) (h : Nat) (ad : Nat → Nat) (ca : Nat → ClassId) (cap : Nat) (rp : Nat → Nat) (z : Nat) (dp : Nat) (lo : Option Nat) (v2 : Int32) (v4 : Int32) (hc : cap < 2 ^ 31) (hz : z ≤ cap) (hd : dp < 2 ^ 31) (hl0 : ∀ l, lo = some l → l < z) (hrp : ∀ i, rp i < 2) : Met l y_T_repeatLast (Cond.code y_T_repeatLast b_T_repeatLast 2 (some .boolean) :: wal) ({ frames := 10, cells := 0, slots := 0, locals := 120 }) (va_Pc [.ref h] (pr D sz [(h, .inr (6, [.ref (ad 0), .ref (ad 1), .ref (ad 2), .ref (ad 3), .ref (ad 4), .ref (ad 5), .int (nI z), .int v2, .int (nI dp), .int v4, .int (lI lo)])), ((ad 4), .inl ((ca 4), cap, .inl (nf rp)))] [((ca 4), .boolean)] (fun _ => True))) (va_Qi (S := (Nat → Nat)) (fun r u => (r = 0 ∧ u = rp ∧ (dp = 0 ∨ lo = none ∨ ∃ l i, lo = some l ∧ l ≤ i ∧ i < z ∧ ¬ rp i = 0)) ∨ (r = 1 ∧ 0 < dp ∧ ∃ l, lo = some l ∧ (∀ i, l ≤ i → i < z → rp i = 0) ∧ u = va_up rp l 1)) (fun u t9 => po D (va_A ([(h, .inr (6, [.ref (ad 0), .ref (ad 1), .ref (ad 2), .ref (ad 3), .ref (ad 4), .ref (ad 5), .int (nI z), .int v2, .int (nI dp), .int v4, .int (lI lo)])), ((ad 4), .inl ((ca 4), cap, .inl (nf rp)))]) sz) ((fun u => [(h, .inr (6, [.ref (ad 0), .ref (ad 1), .ref (ad 2), .ref (ad 3), .ref (ad 4), .ref (ad 5), .int (nI z), .int v2, .int (nI dp), .int v4, .int (lI lo)])), ((ad 4), .inl ((ca 4), cap, .inl (nf u)))]) u) ((fun u => [((ca 4), .boolean)]) u) t9) (va_A ([(h, .inr (6, [.ref (ad 0), .ref (ad 1), .ref (ad 2), .ref (ad 3), .ref (ad 4), .ref (ad 5), .int (nI z), .int v2, .int (nI dp), .int v4, .int (lI lo)])), ((ad 4), .inl ((ca 4), cap, .inl (nf rp)))]) sz)) 0 0 (va_A ([(h, .inr (6, [.ref (ad 0), .ref (ad 1), .ref (ad 2), .ref (ad 3), .ref (ad 4), .ref (ad 5), .int (nI z), .int v2, .int (nI dp), .int v4, .int (lI lo)])), ((ad 4), .inl ((ca 4), cap, .inl (nf rp)))]) sz) := by
  refine Met.ofW (cc := b_T_repeatLast) (maxL := 2) (ret := (some .boolean)) (by decide) rfl ?_
  intro p e s m args below meth c s₁ B hml hv
  obtain ⟨rfl, hsz, hP, hK, hD0, hE⟩ := hv
  have hx := B.exec
  have hb := B.bytes
  have hr := B.returns
  have hts0 := atoms_spec (ws := Cond.code y_T_repeatLast b_T_repeatLast 2 (some .boolean) :: wal) B.pre
  have hts : ∀ w ∈ wal, w.before _ s = true := fun w h => hts0 w (List.mem_cons_of_mem _ h)
  have hown : s.vm.findClass rc_T = some m.cls := findClass_of_methodNamed B.named
  have hlocks := B.notSynchronized
  subst hsz
  have hD := hD0.self (sz := s.heap.size)
  generalize hAe : va_A ([(h, .inr (6, [.ref (ad 0), .ref (ad 1), .ref (ad 2), .ref (ad 3), .ref (ad 4), .ref (ad 5), .int (nI z), .int v2, .int (nI dp), .int v4, .int (lI lo)])), ((ad 4), .inl ((ca 4), cap, .inl (nf rp)))]) s.heap.size = A at hD ⊢
  have hA : ∀ q : Nat, s.heap.size ≤ q → A q := fun q h => by rw [← hAe]; exact Or.inr h
  have hS : va_S A s.heap s.heap [] := va_S.rf
  have hl := lv_entry ([.ref h]) (n := 2) (Nat.le_of_ble_eq_true rfl)
  rw [lg_entry_eq]
  generalize (lg_sl ([.ref h]) ++ List.replicate (2 - (lg_sl ([.ref h])).length) Slot.unset).toArray = ls at hl ⊢
  have hl : lv_has ls 2 [(0, .ref h)] := hl
  refine lv_aload_n hx hb d_T_repeatLast_0 rfl (lv_at hl 0 rfl) ?_
  refine va_get (D := D) (ci := 6) (v := .int (nI dp)) (C := rc_T) (T := ft_T) (N := 11) hx hb hts in_T hown hK hP 0 rfl rfl 8 (by decide) (hts _ k_70) (fun _ h9 => h9) rfl d_T_repeatLast_1 ?_
  refine lv_if_eq (tgt := 14) hx hb d_T_repeatLast_4 (by decide) (fun h1 => ?_) (fun h1 => ?_)
  · refine lv_iconst (v := 0) hx hb d_T_repeatLast_14 (by decide) ?_
    have hP9 := hP.sub (ws' := [(h, .inr (6, [.ref (ad 0), .ref (ad 1), .ref (ad 2), .ref (ad 3), .ref (ad 4), .ref (ad 5), .int (nI z), .int v2, .int (nI dp), .int v4, .int (lI lo)])), ((ad 4), .inl ((ca 4), cap, .inl (nf rp)))]) [0, 1] rfl
    have hD9 := hD.sub (ws' := [(h, .inr (6, [.ref (ad 0), .ref (ad 1), .ref (ad 2), .ref (ad 3), .ref (ad 4), .ref (ad 5), .int (nI z), .int v2, .int (nI dp), .int v4, .int (lI lo)])), ((ad 4), .inl ((ca 4), cap, .inl (nf rp)))]) [0, 1] (by decide) rfl
    have hK9 := hK.sub (tys' := [((ca 4), .boolean)]) [0] rfl
    exact W.zret (v := 0) hx hb hr (by decide) (fun t9 ht hW => ⟨⟨0, rp, rfl, Or.inl ⟨rfl, rfl, Or.inl (nI_inj (b := 0) hd (by decide) h1)⟩, ⟨by rw [ht]; exact hP9, va_K.moved hW.alike hK9, hD9⟩⟩, hS.F ht⟩) hS.2.2 d_T_repeatLast_15
  · have d0 : 0 < dp := Nat.pos_of_ne_zero (fun h => h1 (by rw [h]; rfl))
    refine lv_aload_n hx hb d_T_repeatLast_7 rfl (lv_at hl 0 rfl) ?_
    refine va_get (D := D) (ci := 6) (v := .int (lI lo)) (C := rc_T) (T := ft_T) (N := 11) hx hb hts in_T hown hK hP 0 rfl rfl 10 (by decide) (hts _ k_72) (fun _ h9 => h9) rfl d_T_repeatLast_8 ?_
    refine lv_if_ge (tgt := 16) hx hb d_T_repeatLast_11 (by decide) (fun h2 => ?_) (fun h2 => ?_)
    · obtain ⟨lz, hlo⟩ : ∃ lz, lo = some lz := by
        cases hlo : lo with
        | none => rw [hlo] at h2; exact absurd h2 (by decide)
        | some lz => exact ⟨lz, rfl⟩
      have hlzz := hl0 lz hlo
      refine lv_aload_n hx hb d_T_repeatLast_16 rfl (lv_at hl 0 rfl) ?_
      refine va_get (D := D) (ci := 6) (v := .int (lI lo)) (C := rc_T) (T := ft_T) (N := 11) hx hb hts in_T hown hK hP 0 rfl rfl 10 (by decide) (hts _ k_72) (fun _ h9 => h9) rfl d_T_repeatLast_17 ?_
      refine lv_topi (fun z9 ez9 => ?_)
      have ez9 : z9 = (nI lz) := ez9.trans (by rw [hlo]; rfl)
      subst ez9
      refine lv_istore_n hx hb d_T_repeatLast_20 rfl hl (by decide) rfl (fun ls hl => ?_)
      have hl : lv_has ls 2 [(1, .int (nI lz)), (0, .ref h)] := hl
      have key : ∀ (d : Nat) (i : Nat) (ls : Array Slot), z - i < d → (lz ≤ i) → (i ≤ z) → (∀ j, lz ≤ j → j < i → rp j = 0) → lv_has ls 2 [(1, .int (nI i)), (0, .ref h)] → W p l e (headSpec (Cond.code y_T_repeatLast b_T_repeatLast 2 (some .boolean) :: wal) ({ frames := 10, cells := 0, slots := 0, locals := 120 })).room s m ([.ref h] : List Value).toArray below meth c s.heap [] 0 0 (MQ below (va_Qi (S := (Nat → Nat)) (fun r u => (r = 0 ∧ u = rp ∧ (dp = 0 ∨ lo = none ∨ ∃ l i, lo = some l ∧ l ≤ i ∧ i < z ∧ ¬ rp i = 0)) ∨ (r = 1 ∧ 0 < dp ∧ ∃ l, lo = some l ∧ (∀ i, l ≤ i → i < z → rp i = 0) ∧ u = va_up rp l 1)) (fun u t9 => po D (A) ((fun u => [(h, .inr (6, [.ref (ad 0), .ref (ad 1), .ref (ad 2), .ref (ad 3), .ref (ad 4), .ref (ad 5), .int (nI z), .int v2, .int (nI dp), .int v4, .int (lI lo)])), ((ad 4), .inl ((ca 4), cap, .inl (nf u)))]) u) ((fun u => [((ca 4), .boolean)]) u) t9) (A)) ([.ref h] : List Value).toArray s 0 0 A) (F0 m 21 ls []) := by
        intro d
        induction d with
        | zero => intro i ls hd; exact absurd hd (Nat.not_lt_zero _)
        | succ d ih =>
          intro i ls hd hi hi2 hv hl
          refine lv_iload_n hx hb d_T_repeatLast_21 rfl (lv_at hl 0 rfl) ?_
          refine lv_aload_n hx hb d_T_repeatLast_22 rfl (lv_at hl 1 rfl) ?_
          refine va_get (D := D) (ci := 6) (v := .int (nI z)) (C := rc_T) (T := ft_T) (N := 11) hx hb hts in_T hown hK hP 0 rfl rfl 6 (by decide) (hts _ k_68) (fun _ h9 => h9) rfl d_T_repeatLast_23 ?_
          refine lv_icmp_ge (tgt := 46) hx hb d_T_repeatLast_26 (by decide) (fun h3 => ?_) (fun h3 => ?_)
          · have h4 : ¬ i < z := fun h => absurd h3 (nI_ge h (by omega))
            refine lv_aload_n hx hb d_T_repeatLast_46 rfl (lv_at hl 1 rfl) ?_
            refine va_get (D := D) (ci := 6) (v := .ref (ad 4)) (C := rc_T) (T := ft_T) (N := 11) hx hb hts in_T hown hK hP 0 rfl rfl 4 (by decide) (hts _ k_66) (fun _ h9 => h9) rfl d_T_repeatLast_47 ?_
            refine lv_aload_n hx hb d_T_repeatLast_50 rfl (lv_at hl 1 rfl) ?_
            refine va_get (D := D) (ci := 6) (v := .int (lI lo)) (C := rc_T) (T := ft_T) (N := 11) hx hb hts in_T hown hK hP 0 rfl rfl 10 (by decide) (hts _ k_72) (fun _ h9 => h9) rfl d_T_repeatLast_51 ?_
            refine lv_topi (fun z9 ez9 => ?_)
            have ez9 : z9 = (nI lz) := ez9.trans (by rw [hlo]; rfl)
            subst ez9
            refine lv_iconst (v := 1) hx hb d_T_repeatLast_54 (by decide) ?_
            refine va_zast hx hb hK hP hD hS 1 0 rfl rfl (vp_in_nI (show lz < cap by omega) (hc)) d_T_repeatLast_55 (fun H locs hP hD hS => ?_)
            have hP : va_P D wcl [(h, .inr (6, [.ref (ad 0), .ref (ad 1), .ref (ad 2), .ref (ad 3), .ref (ad 4), .ref (ad 5), .int (nI z), .int v2, .int (nI dp), .int v4, .int (lI lo)])), ((ad 4), .inl ((ca 4), cap, .inl (upd (nf rp) (nI lz).toNatClampNeg (vp_nar .boolean (nI 1)))))] H := hP
            have hD : va_D A [(h, .inr (6, [.ref (ad 0), .ref (ad 1), .ref (ad 2), .ref (ad 3), .ref (ad 4), .ref (ad 5), .int (nI z), .int v2, .int (nI dp), .int v4, .int (lI lo)])), ((ad 4), .inl ((ca 4), cap, .inl (upd (nf rp) (nI lz).toNatClampNeg (vp_nar .boolean (nI 1)))))] := hD
            rw [nf_upb rp (Nat.lt_trans (show lz < cap by omega) (hc)) (by decide)] at hP hD
            have hP : va_P D wcl [(h, .inr (6, [.ref (ad 0), .ref (ad 1), .ref (ad 2), .ref (ad 3), .ref (ad 4), .ref (ad 5), .int (nI z), .int v2, .int (nI dp), .int v4, .int (lI lo)])), ((ad 4), .inl ((ca 4), cap, .inl (nf (va_up rp lz 1))))] H := hP
            have hD : va_D A [(h, .inr (6, [.ref (ad 0), .ref (ad 1), .ref (ad 2), .ref (ad 3), .ref (ad 4), .ref (ad 5), .int (nI z), .int v2, .int (nI dp), .int v4, .int (lI lo)])), ((ad 4), .inl ((ca 4), cap, .inl (nf (va_up rp lz 1))))] := hD
            refine lv_iconst (v := 1) hx hb d_T_repeatLast_56 (by decide) ?_
            have hP9 := hP.sub (ws' := [(h, .inr (6, [.ref (ad 0), .ref (ad 1), .ref (ad 2), .ref (ad 3), .ref (ad 4), .ref (ad 5), .int (nI z), .int v2, .int (nI dp), .int v4, .int (lI lo)])), ((ad 4), .inl ((ca 4), cap, .inl (nf (va_up rp lz 1))))]) [0, 1] rfl
            have hD9 := hD.sub (ws' := [(h, .inr (6, [.ref (ad 0), .ref (ad 1), .ref (ad 2), .ref (ad 3), .ref (ad 4), .ref (ad 5), .int (nI z), .int v2, .int (nI dp), .int v4, .int (lI lo)])), ((ad 4), .inl ((ca 4), cap, .inl (nf (va_up rp lz 1))))]) [0, 1] (by decide) rfl
            have hK9 := hK.sub (tys' := [((ca 4), .boolean)]) [0] rfl
            exact W.zret (v := 1) hx hb hr (by decide) (fun t9 ht hW => ⟨⟨1, va_up rp lz 1, rfl, Or.inr ⟨rfl, d0, lz, hlo, fun i9 a9 b9 => hv i9 a9 (by omega), rfl⟩, ⟨by rw [ht]; exact hP9, va_K.moved hW.alike hK9, hD9⟩⟩, hS.F ht⟩) hS.2.2 d_T_repeatLast_57
          · have h4 : i < z := Nat.not_le.mp (fun h => h3 (nI_le h (by omega)))
            refine lv_aload_n hx hb d_T_repeatLast_29 rfl (lv_at hl 1 rfl) ?_
            refine va_get (D := D) (ci := 6) (v := .ref (ad 4)) (C := rc_T) (T := ft_T) (N := 11) hx hb hts in_T hown hK hP 0 rfl rfl 4 (by decide) (hts _ k_66) (fun _ h9 => h9) rfl d_T_repeatLast_30 ?_
            refine lv_iload_n hx hb d_T_repeatLast_33 rfl (lv_at hl 0 rfl) ?_
            refine va_zald hx hb hK hP 1 0 rfl rfl (vp_in_nI (show i < cap by omega) (hc)) d_T_repeatLast_34 ?_
            refine lv_topi (fun z9 ez9 => ?_)
            have ez9 : z9 = (nI (rp i)) := ez9.trans (nf_at _ (Nat.lt_trans (show i < cap by omega) (hc)))
            subst ez9
            refine lv_if_eq (tgt := 40) hx hb d_T_repeatLast_35 (by decide) (fun h5 => ?_) (fun h5 => ?_)
            · have h6 : rp i = 0 := nI_inj (b := 0) (Nat.lt_trans (hrp i) (by decide)) (by decide) h5
              refine lv_iinc (k := 0) (v := nI (i + 1)) hx hb d_T_repeatLast_40 hl rfl (nI_1 i) (by decide) rfl (fun ls hl => ?_)
              have hl : lv_has ls 2 [(1, .int (nI (i + 1))), (0, .ref h)] := hl
              refine lv_goto (tgt := 21) hx hb d_T_repeatLast_43 (by decide) ?_
              exact ih (i + 1) ls (by omega) (by omega) (by omega) (fun j a9 b9 => by rcases Nat.lt_succ_iff_lt_or_eq.mp b9 with h9 | h9; exact hv j a9 h9; rw [h9]; exact h6) hl
            · refine lv_iconst (v := 0) hx hb d_T_repeatLast_38 (by decide) ?_
              have hP9 := hP.sub (ws' := [(h, .inr (6, [.ref (ad 0), .ref (ad 1), .ref (ad 2), .ref (ad 3), .ref (ad 4), .ref (ad 5), .int (nI z), .int v2, .int (nI dp), .int v4, .int (lI lo)])), ((ad 4), .inl ((ca 4), cap, .inl (nf rp)))]) [0, 1] rfl
              have hD9 := hD.sub (ws' := [(h, .inr (6, [.ref (ad 0), .ref (ad 1), .ref (ad 2), .ref (ad 3), .ref (ad 4), .ref (ad 5), .int (nI z), .int v2, .int (nI dp), .int v4, .int (lI lo)])), ((ad 4), .inl ((ca 4), cap, .inl (nf rp)))]) [0, 1] (by decide) rfl
              have hK9 := hK.sub (tys' := [((ca 4), .boolean)]) [0] rfl
              exact W.zret (v := 0) hx hb hr (by decide) (fun t9 ht hW => ⟨⟨0, rp, rfl, Or.inl ⟨rfl, rfl, Or.inr (Or.inr ⟨lz, i, hlo, hi, h4, fun h => h5 (by rw [h]; rfl)⟩)⟩, ⟨by rw [ht]; exact hP9, va_K.moved hW.alike hK9, hD9⟩⟩, hS.F ht⟩) hS.2.2 d_T_repeatLast_39
      exact key _ lz ls (Nat.lt_succ_self _) (Nat.le_refl _) (Nat.le_of_lt hlzz) (fun j a9 b9 => absurd b9 (Nat.not_lt.mpr a9)) hl
    · have h4 : lo = none := (lI_neg lo (fun l h => by have := hl0 l h; omega)).mp (Int32.not_le.mp h2)
      refine lv_iconst (v := 0) hx hb d_T_repeatLast_14 (by decide) ?_
      have hP9 := hP.sub (ws' := [(h, .inr (6, [.ref (ad 0), .ref (ad 1), .ref (ad 2), .ref (ad 3), .ref (ad 4), .ref (ad 5), .int (nI z), .int v2, .int (nI dp), .int v4, .int (lI lo)])), ((ad 4), .inl ((ca 4), cap, .inl (nf rp)))]) [0, 1] rfl
      have hD9 := hD.sub (ws' := [(h, .inr (6, [.ref (ad 0), .ref (ad 1), .ref (ad 2), .ref (ad 3), .ref (ad 4), .ref (ad 5), .int (nI z), .int v2, .int (nI dp), .int v4, .int (lI lo)])), ((ad 4), .inl ((ca 4), cap, .inl (nf rp)))]) [0, 1] (by decide) rfl
      have hK9 := hK.sub (tys' := [((ca 4), .boolean)]) [0] rfl
      exact W.zret (v := 0) hx hb hr (by decide) (fun t9 ht hW => ⟨⟨0, rp, rfl, Or.inl ⟨rfl, rfl, Or.inr (Or.inl h4)⟩, ⟨by rw [ht]; exact hP9, va_K.moved hW.alike hK9, hD9⟩⟩, hS.F ht⟩) hS.2.2 d_T_repeatLast_15
