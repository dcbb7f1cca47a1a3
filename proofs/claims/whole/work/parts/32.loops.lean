set_option maxHeartbeats 4000000 in
set_option maxRecDepth 100000 in
/-- Draft.find(k) -/
theorem c_D_find (l : Launch) (D : va_G) (sz : Nat) (h : Nat) (a1 : Nat) (cC : ClassId) (sg : Nat → Nat) (n : Nat) (y : Int32) (k : Nat) (hn : n ≤ 60) (hk : k < 65536) (hs : ∀ i, sg i < 65536) : Met l y_D_find (Cond.code y_D_find b_D_find 3 (some .int) :: wal) ({ frames := 10, cells := 0, slots := 0, locals := 120 }) (va_Pc [.ref h, .int (nI k)] (pr D sz [(h, .inr (0, [.ref a1, .int (nI n), .int y])), (a1, .inl (cC, 60, .inl (nf sg)))] [(cC, .char)] (fun _ => True))) (va_Qi (S := Nat) (fun r u => r = nI u ∧ u ≤ n ∧ (∀ i, i < u → ¬ sg i = k) ∧ (u < n → sg u = k)) (fun u t9 => po D (va_A ([(h, .inr (0, [.ref a1, .int (nI n), .int y])), (a1, .inl (cC, 60, .inl (nf sg)))]) sz) ((fun u => [(h, .inr (0, [.ref a1, .int (nI n), .int y])), (a1, .inl (cC, 60, .inl (nf sg)))]) u) ((fun u => [(cC, .char)]) u) t9) (va_A ([(h, .inr (0, [.ref a1, .int (nI n), .int y])), (a1, .inl (cC, 60, .inl (nf sg)))]) sz)) 0 0 (va_A ([(h, .inr (0, [.ref a1, .int (nI n), .int y])), (a1, .inl (cC, 60, .inl (nf sg)))]) sz) := by
  refine Met.ofW (cc := b_D_find) (maxL := 3) (ret := (some .int)) (by decide) rfl ?_
  intro p e s m args below meth c s₁ B hml hv
  obtain ⟨rfl, hsz, hP, hK, hD0, hE⟩ := hv
  have hx := B.exec
  have hb := B.bytes
  have hr := B.returns
  have hts0 := atoms_spec (ws := Cond.code y_D_find b_D_find 3 (some .int) :: wal) B.pre
  have hts : ∀ w ∈ wal, w.before _ s = true := fun w h => hts0 w (List.mem_cons_of_mem _ h)
  have hown : s.vm.findClass rc_D = some m.cls := findClass_of_methodNamed B.named
  have hlocks := B.notSynchronized
  subst hsz
  have hD := hD0.self (sz := s.heap.size)
  generalize hAe : va_A ([(h, .inr (0, [.ref a1, .int (nI n), .int y])), (a1, .inl (cC, 60, .inl (nf sg)))]) s.heap.size = A at hD ⊢
  have hA : ∀ q : Nat, s.heap.size ≤ q → A q := fun q h => by rw [← hAe]; exact Or.inr h
  have hS : va_S A s.heap s.heap [] := va_S.rf
  have hl := lv_entry ([.ref h, .int (nI k)]) (n := 3) (Nat.le_of_ble_eq_true rfl)
  rw [lg_entry_eq]
  generalize (lg_sl ([.ref h, .int (nI k)]) ++ List.replicate (3 - (lg_sl ([.ref h, .int (nI k)])).length) Slot.unset).toArray = ls at hl ⊢
  have hl : lv_has ls 3 [(0, .ref h), (1, .int (nI k))] := hl
  refine lv_iconst (v := 0) hx hb d_D_find_0 (by decide) ?_
  refine lv_istore_n hx hb d_D_find_1 rfl hl (by decide) rfl (fun ls hl => ?_)
  have hl : lv_has ls 3 [(2, .int 0), (0, .ref h), (1, .int (nI k))] := hl
  have key : ∀ (d : Nat) (i : Nat) (ls : Array Slot), n - i < d → (i ≤ n) → (∀ j, j < i → ¬ sg j = k) → lv_has ls 3 [(2, .int (nI i)), (0, .ref h), (1, .int (nI k))] → W p l e (headSpec (Cond.code y_D_find b_D_find 3 (some .int) :: wal) ({ frames := 10, cells := 0, slots := 0, locals := 120 })).room s m ([.ref h, .int (nI k)] : List Value).toArray below meth c s.heap [] 0 0 (MQ below (va_Qi (S := Nat) (fun r u => r = nI u ∧ u ≤ n ∧ (∀ i, i < u → ¬ sg i = k) ∧ (u < n → sg u = k)) (fun u t9 => po D (A) ((fun u => [(h, .inr (0, [.ref a1, .int (nI n), .int y])), (a1, .inl (cC, 60, .inl (nf sg)))]) u) ((fun u => [(cC, .char)]) u) t9) (A)) ([.ref h, .int (nI k)] : List Value).toArray s 0 0 A) (F0 m 2 ls []) := by
    intro d
    induction d with
    | zero => intro i ls hd; exact absurd hd (Nat.not_lt_zero _)
    | succ d ih =>
      intro i ls hd hi hv hl
      refine lv_iload_n hx hb d_D_find_2 rfl (lv_at hl 0 rfl) ?_
      refine lv_aload_n hx hb d_D_find_3 rfl (lv_at hl 1 rfl) ?_
      refine va_get (D := D) (ci := 0) (v := .int (nI n)) (C := rc_D) (T := ft_D) (N := 3) hx hb hts in_D hown hK hP 0 rfl rfl 1 (by decide) (hts _ k_33) (fun _ h9 => h9) rfl d_D_find_4 ?_
      refine lv_icmp_ge (tgt := 28) hx hb d_D_find_7 (by decide) (fun h1 => ?_) (fun h1 => ?_)
      · have h2 : ¬ i < n := fun h => absurd h1 (nI_ge h (by omega))
        refine lv_aload_n hx hb d_D_find_28 rfl (lv_at hl 1 rfl) ?_
        refine va_get (D := D) (ci := 0) (v := .int (nI n)) (C := rc_D) (T := ft_D) (N := 3) hx hb hts in_D hown hK hP 0 rfl rfl 1 (by decide) (hts _ k_33) (fun _ h9 => h9) rfl d_D_find_29 ?_
        have hP9 := hP.sub (ws' := [(h, .inr (0, [.ref a1, .int (nI n), .int y])), (a1, .inl (cC, 60, .inl (nf sg)))]) [0, 1] rfl
        have hD9 := hD.sub (ws' := [(h, .inr (0, [.ref a1, .int (nI n), .int y])), (a1, .inl (cC, 60, .inl (nf sg)))]) [0, 1] (by decide) rfl
        have hK9 := hK.sub (tys' := [(cC, .char)]) [0] rfl
        exact W.iret (v := (nI n)) hx hb hr (fun t9 ht hW => ⟨⟨(nI n), n, rfl, ⟨rfl, Nat.le_refl _, fun j hj => hv j (by omega), fun h => absurd h (Nat.lt_irrefl _)⟩, ⟨by rw [ht]; exact hP9, va_K.moved hW.alike hK9, hD9⟩⟩, hS.F ht⟩) hS.2.2 d_D_find_32
      · have h2 : i < n := Nat.not_le.mp (fun h => h1 (nI_le h (by omega)))
        refine lv_aload_n hx hb d_D_find_10 rfl (lv_at hl 1 rfl) ?_
        refine va_get (D := D) (ci := 0) (v := .ref a1) (C := rc_D) (T := ft_D) (N := 3) hx hb hts in_D hown hK hP 0 rfl rfl 0 (by decide) (hts _ k_32) (fun _ h9 => h9) rfl d_D_find_11 ?_
        refine lv_iload_n hx hb d_D_find_14 rfl (lv_at hl 0 rfl) ?_
        refine va_cald hx hb hK hP 1 0 rfl rfl (vp_in_nI (show i < 60 by omega) (by decide)) d_D_find_15 ?_
        refine lv_topi (fun z9 ez9 => ?_)
        have ez9 : z9 = (nI (sg i)) := ez9.trans (nf_at _ (Nat.lt_trans (show i < 60 by omega) (by decide)))
        subst ez9
        refine lv_iload_n hx hb d_D_find_16 rfl (lv_at hl 2 rfl) ?_
        refine lv_icmp_ne (tgt := 22) hx hb d_D_find_17 (by decide) (fun h3 => ?_) (fun h3 => ?_)
        · have h4 : ¬ sg i = k := fun h => h3 (by rw [h])
          refine lv_iinc (k := 0) (v := nI (i + 1)) hx hb d_D_find_22 hl rfl (nI_1 i) (by decide) rfl (fun ls hl => ?_)
          have hl : lv_has ls 3 [(2, .int (nI (i + 1))), (0, .ref h), (1, .int (nI k))] := hl
          refine lv_goto (tgt := 2) hx hb d_D_find_25 (by decide) ?_
          exact ih (i + 1) ls (by omega) (by omega) (fun j hj => by rcases Nat.lt_succ_iff_lt_or_eq.mp hj with h9 | h9; exact hv j h9; rw [h9]; exact h4) hl
        · refine lv_iload_n hx hb d_D_find_20 rfl (lv_at hl 0 rfl) ?_
          have hP9 := hP.sub (ws' := [(h, .inr (0, [.ref a1, .int (nI n), .int y])), (a1, .inl (cC, 60, .inl (nf sg)))]) [0, 1] rfl
          have hD9 := hD.sub (ws' := [(h, .inr (0, [.ref a1, .int (nI n), .int y])), (a1, .inl (cC, 60, .inl (nf sg)))]) [0, 1] (by decide) rfl
          have hK9 := hK.sub (tys' := [(cC, .char)]) [0] rfl
          exact W.iret (v := (nI i)) hx hb hr (fun t9 ht hW => ⟨⟨(nI i), i, rfl, ⟨rfl, Nat.le_of_lt h2, hv, fun _ => nI_inj (Nat.lt_trans (hs i) (by decide)) (Nat.lt_trans hk (by decide)) h3⟩, ⟨by rw [ht]; exact hP9, va_K.moved hW.alike hK9, hD9⟩⟩, hS.F ht⟩) hS.2.2 d_D_find_21
  exact key _ 0 ls (Nat.lt_succ_self _) (Nat.zero_le _) (fun j hj => absurd hj (Nat.not_lt_zero _)) hl
