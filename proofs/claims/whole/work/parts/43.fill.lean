theorem d_J_fill_0 : decode b_J_fill 0 = .ok (.iconst 0, 1) := by decide +kernel
theorem d_J_fill_1 : decode b_J_fill 1 = .ok (.istore_n 2, 1) := by decide +kernel
theorem d_J_fill_2 : decode b_J_fill 2 = .ok (.aload_n 0, 1) := by decide +kernel
theorem d_J_fill_3 : decode b_J_fill 3 = .ok (.arraylength, 1) := by decide +kernel
theorem d_J_fill_4 : decode b_J_fill 4 = .ok (.istore_n 3, 1) := by decide +kernel
theorem d_J_fill_5 : decode b_J_fill 5 = .ok (.iload_n 2, 1) := by decide +kernel
theorem d_J_fill_6 : decode b_J_fill 6 = .ok (.iload_n 3, 1) := by decide +kernel
theorem d_J_fill_7 : decode b_J_fill 7 = .ok (.if_icmp .ge 13, 3) := by decide +kernel
theorem d_J_fill_10 : decode b_J_fill 10 = .ok (.aload_n 0, 1) := by decide +kernel
theorem d_J_fill_11 : decode b_J_fill 11 = .ok (.iload_n 2, 1) := by decide +kernel
theorem d_J_fill_12 : decode b_J_fill 12 = .ok (.iload_n 1, 1) := by decide +kernel
theorem d_J_fill_13 : decode b_J_fill 13 = .ok (.iastore, 1) := by decide +kernel
theorem d_J_fill_14 : decode b_J_fill 14 = .ok (.iinc 2 1, 3) := by decide +kernel
theorem d_J_fill_17 : decode b_J_fill 17 = .ok (.goto (-12), 3) := by decide +kernel
theorem d_J_fill_20 : decode b_J_fill 20 = .ok (.return_, 1) := by decide +kernel
set_option maxHeartbeats 4000000 in
set_option maxRecDepth 100000 in
/-- Arrays.fill(int[26], v0) -/
theorem c_J_fill (l : Launch) (D : va_G) (sz : Nat) (q0 : Nat) (ck : ClassId) (kf : Nat → Nat) (v0 : Nat) : Met l y_J_fill (Cond.code y_J_fill b_J_fill 4 none :: wal) ({ frames := 10, cells := 0, slots := 0, locals := 120 }) (va_Pc [.ref q0, .int (nI v0)] (pr D sz [(q0, .inl (ck, 26, .inl (nf kf)))] [(ck, .int)] (fun _ => True))) (va_Qv (S := Unit) (fun u => True) (fun u t9 => po D (va_A ([(q0, .inl (ck, 26, .inl (nf kf)))]) sz) ((fun u => [(q0, .inl (ck, 26, .inl (nf (fun j => if j < 26 then v0 else kf j))))]) u) ((fun u => [(ck, .int)]) u) t9) (va_A ([(q0, .inl (ck, 26, .inl (nf kf)))]) sz)) 0 0 (va_A ([(q0, .inl (ck, 26, .inl (nf kf)))]) sz) := by
  refine Met.ofW (cc := b_J_fill) (maxL := 4) (ret := none) (by decide) rfl ?_
  intro p e s m args below meth c s₁ B hml hv
  obtain ⟨rfl, hsz, hP, hK, hD0, hE⟩ := hv
  have hx := B.exec
  have hb := B.bytes
  have hr := B.returns
  have hts0 := atoms_spec (ws := Cond.code y_J_fill b_J_fill 4 none :: wal) B.pre
  have hts : ∀ w ∈ wal, w.before _ s = true := fun w h => hts0 w (List.mem_cons_of_mem _ h)
  have hown : s.vm.findClass rc_J = some m.cls := findClass_of_methodNamed B.named
  have hlocks := B.notSynchronized
  subst hsz
  have hD := hD0.self (sz := s.heap.size)
  generalize hAe : va_A ([(q0, .inl (ck, 26, .inl (nf kf)))]) s.heap.size = A at hD ⊢
  have hA : ∀ q : Nat, s.heap.size ≤ q → A q := fun q h => by rw [← hAe]; exact Or.inr h
  have hS : va_S A s.heap s.heap [] := va_S.rf
  have hl := lv_entry ([.ref q0, .int (nI v0)]) (n := 4) (Nat.le_of_ble_eq_true rfl)
  rw [lg_entry_eq]
  generalize (lg_sl ([.ref q0, .int (nI v0)]) ++ List.replicate (4 - (lg_sl ([.ref q0, .int (nI v0)])).length) Slot.unset).toArray = ls at hl ⊢
  have hl : lv_has ls 4 [(0, .ref q0), (1, .int (nI v0))] := hl
  refine lv_iconst (v := 0) hx hb d_J_fill_0 (by decide) ?_
  refine lv_istore_n hx hb d_J_fill_1 rfl hl (by decide) rfl (fun ls hl => ?_)
  have hl : lv_has ls 4 [(2, .int 0), (0, .ref q0), (1, .int (nI v0))] := hl
  refine lv_aload_n hx hb d_J_fill_2 rfl (lv_at hl 1 rfl) ?_
  refine va_alen (v := nI 26) hx hb hK hP 0 0 rfl rfl rfl d_J_fill_3 ?_
  refine lv_istore_n hx hb d_J_fill_4 rfl hl (by decide) rfl (fun ls hl => ?_)
  have hl : lv_has ls 4 [(3, .int (nI 26)), (2, .int 0), (0, .ref q0), (1, .int (nI v0))] := hl
  have key : ∀ (d : Nat) (i : Nat) (H : Heap) (locs : List Loc) (ls : Array Slot), 26 - i < d → (i ≤ 26) → va_P D wcl [(q0, .inl (ck, 26, .inl (nf (fun j => if j < i then v0 else kf j))))] H → va_D A [(q0, .inl (ck, 26, .inl (nf (fun j => if j < i then v0 else kf j))))] → va_S A s.heap H locs → lv_has ls 4 [(3, .int (nI 26)), (2, .int (nI i)), (0, .ref q0), (1, .int (nI v0))] → W p l e (headSpec (Cond.code y_J_fill b_J_fill 4 none :: wal) ({ frames := 10, cells := 0, slots := 0, locals := 120 })).room s m ([.ref q0, .int (nI v0)] : List Value).toArray below meth c H locs 0 0 (MQ below (va_Qv (S := Unit) (fun u => True) (fun u t9 => po D (A) ((fun u => [(q0, .inl (ck, 26, .inl (nf (fun j => if j < 26 then v0 else kf j))))]) u) ((fun u => [(ck, .int)]) u) t9) (A)) ([.ref q0, .int (nI v0)] : List Value).toArray s 0 0 A) (F0 m 5 ls []) := by
    intro d
    induction d with
    | zero => intro i H locs ls hd; exact absurd hd (Nat.not_lt_zero _)
    | succ d ih =>
      intro i H locs ls hd hi hP hD hS hl
      refine lv_iload_n hx hb d_J_fill_5 rfl (lv_at hl 1 rfl) ?_
      refine lv_iload_n hx hb d_J_fill_6 rfl (lv_at hl 0 rfl) ?_
      refine lv_icmp_ge (tgt := 20) hx hb d_J_fill_7 (by decide) (fun h1 => ?_) (fun h1 => ?_)
      · have h2 : ¬ i < 26 := fun h => absurd h1 (nI_ge (b := 26) h (by decide))
        have h3 : i = 26 := by omega
        subst h3
        have hP9 := hP.sub (ws' := [(q0, .inl (ck, 26, .inl (nf (fun j => if j < 26 then v0 else kf j))))]) [0] rfl
        have hD9 := hD.sub (ws' := [(q0, .inl (ck, 26, .inl (nf (fun j => if j < 26 then v0 else kf j))))]) [0] (by decide) rfl
        have hK9 := hK.sub (tys' := [(ck, .int)]) [0] rfl
        exact W.vret hx hb hr (fun t9 ht hW => ⟨⟨(), rfl, trivial, ⟨by rw [ht]; exact hP9, va_K.moved hW.alike hK9, hD9⟩⟩, hS.F ht⟩) hS.2.2 d_J_fill_20
      · have h2 : i < 26 := Nat.not_le.mp (fun h => h1 (nI_le (a := 26) h (by omega)))
        refine lv_aload_n hx hb d_J_fill_10 rfl (lv_at hl 2 rfl) ?_
        refine lv_iload_n hx hb d_J_fill_11 rfl (lv_at hl 1 rfl) ?_
        refine lv_iload_n hx hb d_J_fill_12 rfl (lv_at hl 3 rfl) ?_
        refine va_iast hx hb hK hP hD hS 0 0 rfl rfl (vp_in_nI (h2) (by decide)) d_J_fill_13 (fun H locs hP hD hS => ?_)
        have hP : va_P D wcl [(q0, .inl (ck, 26, .inl (upd (nf (fun j => if j < i then v0 else kf j)) (nI i).toNatClampNeg (nI v0))))] H := hP
        have hD : va_D A [(q0, .inl (ck, 26, .inl (upd (nf (fun j => if j < i then v0 else kf j)) (nI i).toNatClampNeg (nI v0))))] := hD
        rw [nf_upi (fun j => if j < i then v0 else kf j) (Nat.lt_trans (h2) (by decide))] at hP hD
        have hP : va_P D wcl [(q0, .inl (ck, 26, .inl (nf (va_up (fun j => if j < i then v0 else kf j) i v0))))] H := hP
        have hD : va_D A [(q0, .inl (ck, 26, .inl (nf (va_up (fun j => if j < i then v0 else kf j) i v0))))] := hD
        have e9 : va_up (fun j => if j < i then v0 else kf j) i v0 = (fun j => if j < i + 1 then v0 else kf j) := by
          funext j
          by_cases h9 : j = i
          · rw [h9, va_up_self]
            exact (if_pos (Nat.lt_succ_self _)).symm
          · rw [va_up_ne _ _ h9]
            by_cases h8 : j < i
            · rw [if_pos h8, if_pos (by omega)]
            · rw [if_neg h8, if_neg (by omega)]
        rw [e9] at hP hD
        have hP : va_P D wcl [(q0, .inl (ck, 26, .inl (nf (fun j => if j < i + 1 then v0 else kf j))))] H := hP
        have hD : va_D A [(q0, .inl (ck, 26, .inl (nf (fun j => if j < i + 1 then v0 else kf j))))] := hD
        refine lv_iinc (k := 1) (v := nI (i + 1)) hx hb d_J_fill_14 hl rfl (nI_1 i) (by decide) rfl (fun ls hl => ?_)
        have hl : lv_has ls 4 [(2, .int (nI (i + 1))), (3, .int (nI 26)), (0, .ref q0), (1, .int (nI v0))] := hl
        refine lv_goto (tgt := 5) hx hb d_J_fill_17 (by decide) ?_
        exact ih (i + 1) H locs ls (by omega) (by omega) hP hD hS (lv_sub hl [1, 0, 2, 3] rfl)
  exact key _ 0 s.heap [] ls (Nat.lt_succ_self _) (Nat.zero_le _) hP hD hS hl
