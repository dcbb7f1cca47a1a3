/-- the reference's number of a sign -/
def o_tk (c : Nat) : Nat := if c_nm c then c + 3 else if c_nu c then c - 38 else if c = 40 then 1 else if c = 41 then 2 else if c = 61 then 8 else if c = 73 then 4 else if c = 76 then 3 else if c = 81 then 5 else if c = 95 then 6 else if c = 126 then 7 else 0
theorem o_tk_lt {c : Nat} (h : c < 65536) : o_tk c < 126 := by
  unfold o_tk
  repeat (first | (split) | omega)
theorem nI_and31 {a : Nat} (h : a < 2 ^ 31) : nI a &&& 31 = nI (a % 32) := by
  apply Int32.toBitVec_inj.mp
  apply BitVec.eq_of_toNat_eq
  have e1 : (nI a &&& 31).toBitVec = (nI a).toBitVec &&& (31 : Int32).toBitVec := rfl
  rw [e1, BitVec.toNat_and]
  have e2 : ((31 : Int32).toBitVec).toNat = 2 ^ 5 - 1 := by decide
  have e3 : ∀ n, n < 2 ^ 31 → ((nI n).toBitVec).toNat = n := fun n hn => by
    show (BitVec.ofNat 32 n).toNat = n
    rw [BitVec.toNat_ofNat]
    exact Nat.mod_eq_of_lt (by omega)
  rw [e2, Nat.and_two_pow_sub_one_eq_mod, e3 a h, e3 (a % 32) (by omega)]
/-- the draft's signs as tokens: k of them from i on, m there already, gd whether all are good -/
def td_go (dg : Nat → Nat) : Nat → Nat → Nat → (Nat → Nat) → Nat → Nat × (Nat → Nat) × Nat
  | 0, _, m, tk, gd => (m, tk, gd)
  | k + 1, i, m, tk, gd => if dg i = 32 then td_go dg k (i + 1) m tk gd else td_go dg k (i + 1) (m + 1) (va_up tk m (o_tk (dg i))) (if gd = 0 ∨ o_tk (dg i) = 0 then 0 else 1)
set_option maxHeartbeats 4000000 in
set_option maxRecDepth 100000 in
/-- the reference: tokenOf(c0) -/
theorem c_O_tokenOf (l : Launch) (D : va_G) (sz : Nat) (c0 : Nat) (hc0 : c0 < 65536) : Met l y_O_tokenOf (Cond.code y_O_tokenOf b_O_tokenOf 1 (some .int) :: wal) ({ frames := 10, cells := 0, slots := 0, locals := 120 }) (va_Pc [.int (nI c0)] (pr D sz [] [] (fun _ => True))) (va_Qi (S := Unit) (fun r u => r = nI (o_tk c0)) (fun u t9 => po D (va_A ([]) sz) ((fun u => []) u) ((fun u => []) u) t9) (va_A ([]) sz)) 0 0 (va_A ([]) sz) := by
  refine Met.ofW (cc := b_O_tokenOf) (maxL := 1) (ret := (some .int)) (by decide) rfl ?_
  intro p e s m args below meth c s₁ B hml hv
  obtain ⟨rfl, hsz, hP, hK, hD0, hE⟩ := hv
  have hx := B.exec
  have hb := B.bytes
  have hr := B.returns
  have hts0 := atoms_spec (ws := Cond.code y_O_tokenOf b_O_tokenOf 1 (some .int) :: wal) B.pre
  have hts : ∀ w ∈ wal, w.before _ s = true := fun w h => hts0 w (List.mem_cons_of_mem _ h)
  have hown : s.vm.findClass rc_O = some m.cls := findClass_of_methodNamed B.named
  have hlocks := B.notSynchronized
  subst hsz
  have hD := hD0.self (sz := s.heap.size)
  generalize hAe : va_A ([]) s.heap.size = A at hD ⊢
  have hA : ∀ q : Nat, s.heap.size ≤ q → A q := fun q h => by rw [← hAe]; exact Or.inr h
  have hS : va_S A s.heap s.heap [] := va_S.rf
  have hl := lv_entry ([.int (nI c0)]) (n := 1) (Nat.le_of_ble_eq_true rfl)
  rw [lg_entry_eq]
  generalize (lg_sl ([.int (nI c0)]) ++ List.replicate (1 - (lg_sl ([.int (nI c0)])).length) Slot.unset).toArray = ls at hl ⊢
  have hl : lv_has ls 1 [(0, .int (nI c0))] := hl
  refine lv_iload_n hx hb d_O_tokenOf_0 rfl (lv_at hl 0 rfl) ?_
  refine lv_bipush (v := 97) hx hb d_O_tokenOf_1 (by decide) ?_
  refine lv_icmp_lt (tgt := 20) hx hb d_O_tokenOf_3 (by decide) (fun h1 => ?_) (fun h1 => ?_)
  · have n1 : ¬ c_nm c0 := fun q => absurd h1 (nI_nlt (b := 97) q.1 (by omega))
    refine lv_iload_n hx hb d_O_tokenOf_20 rfl (lv_at hl 0 rfl) ?_
    refine lv_bipush (v := 48) hx hb d_O_tokenOf_21 (by decide) ?_
    refine lv_icmp_lt (tgt := 40) hx hb d_O_tokenOf_23 (by decide) (fun h3 => ?_) (fun h3 => ?_)
    · have n2 : ¬ c_nu c0 := fun q => absurd h3 (nI_nlt (b := 48) q.1 (by omega))
      refine lv_iload_n hx hb d_O_tokenOf_40 rfl (lv_at hl 0 rfl) ?_
      by_cases s40 : c0 = 40
      · refine lv_lookup (tgt := 116) hx hb d_O_tokenOf_41 (by decide) (show _ = 75 by rw [s40]; decide) (by decide) ?_
        have ev : o_tk c0 = 1 := by unfold o_tk; rw [if_neg n1, if_neg n2, if_pos s40]
        refine lv_iconst (v := 1) hx hb d_O_tokenOf_116 (by decide) ?_
        have hP9 := hP.sub (ws' := []) [] rfl
        have hD9 := hD.sub (ws' := []) [] (by decide) rfl
        have hK9 := hK.sub (tys' := []) [] rfl
        exact W.iret (v := 1) hx hb hr (fun t9 ht hW => ⟨⟨1, (), rfl, by rw [ev]; rfl, ⟨by rw [ht]; exact hP9, va_K.moved hW.alike hK9, hD9⟩⟩, hS.F ht⟩) hS.2.2 d_O_tokenOf_117
      by_cases s41 : c0 = 41
      · refine lv_lookup (tgt := 118) hx hb d_O_tokenOf_41 (by decide) (show _ = 77 by rw [s41]; decide) (by decide) ?_
        have ev : o_tk c0 = 2 := by unfold o_tk; rw [if_neg n1, if_neg n2, if_neg s40, if_pos s41]
        refine lv_iconst (v := 2) hx hb d_O_tokenOf_118 (by decide) ?_
        have hP9 := hP.sub (ws' := []) [] rfl
        have hD9 := hD.sub (ws' := []) [] (by decide) rfl
        have hK9 := hK.sub (tys' := []) [] rfl
        exact W.iret (v := 2) hx hb hr (fun t9 ht hW => ⟨⟨2, (), rfl, by rw [ev]; rfl, ⟨by rw [ht]; exact hP9, va_K.moved hW.alike hK9, hD9⟩⟩, hS.F ht⟩) hS.2.2 d_O_tokenOf_119
      by_cases s61 : c0 = 61
      · refine lv_lookup (tgt := 132) hx hb d_O_tokenOf_41 (by decide) (show _ = 91 by rw [s61]; decide) (by decide) ?_
        have ev : o_tk c0 = 8 := by unfold o_tk; rw [if_neg n1, if_neg n2, if_neg s40, if_neg s41, if_pos s61]
        refine lv_bipush (v := 8) hx hb d_O_tokenOf_132 (by decide) ?_
        have hP9 := hP.sub (ws' := []) [] rfl
        have hD9 := hD.sub (ws' := []) [] (by decide) rfl
        have hK9 := hK.sub (tys' := []) [] rfl
        exact W.iret (v := 8) hx hb hr (fun t9 ht hW => ⟨⟨8, (), rfl, by rw [ev]; rfl, ⟨by rw [ht]; exact hP9, va_K.moved hW.alike hK9, hD9⟩⟩, hS.F ht⟩) hS.2.2 d_O_tokenOf_134
      by_cases s73 : c0 = 73
      · refine lv_lookup (tgt := 122) hx hb d_O_tokenOf_41 (by decide) (show _ = 81 by rw [s73]; decide) (by decide) ?_
        have ev : o_tk c0 = 4 := by unfold o_tk; rw [if_neg n1, if_neg n2, if_neg s40, if_neg s41, if_neg s61, if_pos s73]
        refine lv_iconst (v := 4) hx hb d_O_tokenOf_122 (by decide) ?_
        have hP9 := hP.sub (ws' := []) [] rfl
        have hD9 := hD.sub (ws' := []) [] (by decide) rfl
        have hK9 := hK.sub (tys' := []) [] rfl
        exact W.iret (v := 4) hx hb hr (fun t9 ht hW => ⟨⟨4, (), rfl, by rw [ev]; rfl, ⟨by rw [ht]; exact hP9, va_K.moved hW.alike hK9, hD9⟩⟩, hS.F ht⟩) hS.2.2 d_O_tokenOf_123
      by_cases s76 : c0 = 76
      · refine lv_lookup (tgt := 120) hx hb d_O_tokenOf_41 (by decide) (show _ = 79 by rw [s76]; decide) (by decide) ?_
        have ev : o_tk c0 = 3 := by unfold o_tk; rw [if_neg n1, if_neg n2, if_neg s40, if_neg s41, if_neg s61, if_neg s73, if_pos s76]
        refine lv_iconst (v := 3) hx hb d_O_tokenOf_120 (by decide) ?_
        have hP9 := hP.sub (ws' := []) [] rfl
        have hD9 := hD.sub (ws' := []) [] (by decide) rfl
        have hK9 := hK.sub (tys' := []) [] rfl
        exact W.iret (v := 3) hx hb hr (fun t9 ht hW => ⟨⟨3, (), rfl, by rw [ev]; rfl, ⟨by rw [ht]; exact hP9, va_K.moved hW.alike hK9, hD9⟩⟩, hS.F ht⟩) hS.2.2 d_O_tokenOf_121
      by_cases s81 : c0 = 81
      · refine lv_lookup (tgt := 124) hx hb d_O_tokenOf_41 (by decide) (show _ = 83 by rw [s81]; decide) (by decide) ?_
        have ev : o_tk c0 = 5 := by unfold o_tk; rw [if_neg n1, if_neg n2, if_neg s40, if_neg s41, if_neg s61, if_neg s73, if_neg s76, if_pos s81]
        refine lv_iconst (v := 5) hx hb d_O_tokenOf_124 (by decide) ?_
        have hP9 := hP.sub (ws' := []) [] rfl
        have hD9 := hD.sub (ws' := []) [] (by decide) rfl
        have hK9 := hK.sub (tys' := []) [] rfl
        exact W.iret (v := 5) hx hb hr (fun t9 ht hW => ⟨⟨5, (), rfl, by rw [ev]; rfl, ⟨by rw [ht]; exact hP9, va_K.moved hW.alike hK9, hD9⟩⟩, hS.F ht⟩) hS.2.2 d_O_tokenOf_125
      by_cases s95 : c0 = 95
      · refine lv_lookup (tgt := 126) hx hb d_O_tokenOf_41 (by decide) (show _ = 85 by rw [s95]; decide) (by decide) ?_
        have ev : o_tk c0 = 6 := by unfold o_tk; rw [if_neg n1, if_neg n2, if_neg s40, if_neg s41, if_neg s61, if_neg s73, if_neg s76, if_neg s81, if_pos s95]
        refine lv_bipush (v := 6) hx hb d_O_tokenOf_126 (by decide) ?_
        have hP9 := hP.sub (ws' := []) [] rfl
        have hD9 := hD.sub (ws' := []) [] (by decide) rfl
        have hK9 := hK.sub (tys' := []) [] rfl
        exact W.iret (v := 6) hx hb hr (fun t9 ht hW => ⟨⟨6, (), rfl, by rw [ev]; rfl, ⟨by rw [ht]; exact hP9, va_K.moved hW.alike hK9, hD9⟩⟩, hS.F ht⟩) hS.2.2 d_O_tokenOf_128
      by_cases s126 : c0 = 126
      · refine lv_lookup (tgt := 129) hx hb d_O_tokenOf_41 (by decide) (show _ = 88 by rw [s126]; decide) (by decide) ?_
        have ev : o_tk c0 = 7 := by unfold o_tk; rw [if_neg n1, if_neg n2, if_neg s40, if_neg s41, if_neg s61, if_neg s73, if_neg s76, if_neg s81, if_neg s95, if_pos s126]
        refine lv_bipush (v := 7) hx hb d_O_tokenOf_129 (by decide) ?_
        have hP9 := hP.sub (ws' := []) [] rfl
        have hD9 := hD.sub (ws' := []) [] (by decide) rfl
        have hK9 := hK.sub (tys' := []) [] rfl
        exact W.iret (v := 7) hx hb hr (fun t9 ht hW => ⟨⟨7, (), rfl, by rw [ev]; rfl, ⟨by rw [ht]; exact hP9, va_K.moved hW.alike hK9, hD9⟩⟩, hS.F ht⟩) hS.2.2 d_O_tokenOf_131
      have ho : Op.lookupswitch.offset [(40, 75), (41, 77), (61, 91), (73, 81), (76, 79), (81, 83), (95, 85), (126, 88)] 94 (nI c0).toInt = 94 := by rw [lv_osw (k := 40) (fun q => s40 ((ceq hc0 (by decide)).mp q)) (by decide), lv_osw (k := 41) (fun q => s41 ((ceq hc0 (by decide)).mp q)) (by decide), lv_osw (k := 61) (fun q => s61 ((ceq hc0 (by decide)).mp q)) (by decide), lv_osw (k := 73) (fun q => s73 ((ceq hc0 (by decide)).mp q)) (by decide), lv_osw (k := 76) (fun q => s76 ((ceq hc0 (by decide)).mp q)) (by decide), lv_osw (k := 81) (fun q => s81 ((ceq hc0 (by decide)).mp q)) (by decide), lv_osw (k := 95) (fun q => s95 ((ceq hc0 (by decide)).mp q)) (by decide), lv_osw (k := 126) (fun q => s126 ((ceq hc0 (by decide)).mp q)) (by decide)]; rfl
      refine lv_lookup (tgt := 135) hx hb d_O_tokenOf_41 (by decide) ho (by decide) ?_
      have ev : o_tk c0 = 0 := by unfold o_tk; rw [if_neg n1, if_neg n2, if_neg s40, if_neg s41, if_neg s61, if_neg s73, if_neg s76, if_neg s81, if_neg s95, if_neg s126]
      refine lv_iconst (v := 0) hx hb d_O_tokenOf_135 (by decide) ?_
      have hP9 := hP.sub (ws' := []) [] rfl
      have hD9 := hD.sub (ws' := []) [] (by decide) rfl
      have hK9 := hK.sub (tys' := []) [] rfl
      exact W.iret (v := 0) hx hb hr (fun t9 ht hW => ⟨⟨0, (), rfl, by rw [ev]; rfl, ⟨by rw [ht]; exact hP9, va_K.moved hW.alike hK9, hD9⟩⟩, hS.F ht⟩) hS.2.2 d_O_tokenOf_136
    · have g3 : 48 ≤ c0 := Nat.not_lt.mp (fun h => h3 (nI_lt (b := 48) h (by decide)))
      refine lv_iload_n hx hb d_O_tokenOf_26 rfl (lv_at hl 0 rfl) ?_
      refine lv_bipush (v := 57) hx hb d_O_tokenOf_27 (by decide) ?_
      refine lv_icmp_gt (tgt := 40) hx hb d_O_tokenOf_29 (by decide) (fun h4 => ?_) (fun h4 => ?_)
      · have n2 : ¬ c_nu c0 := fun q => absurd h4 (Int32.not_lt.mpr (nI_le (b := 57) q.2 (by decide)))
        refine lv_iload_n hx hb d_O_tokenOf_40 rfl (lv_at hl 0 rfl) ?_
        by_cases s40 : c0 = 40
        · refine lv_lookup (tgt := 116) hx hb d_O_tokenOf_41 (by decide) (show _ = 75 by rw [s40]; decide) (by decide) ?_
          have ev : o_tk c0 = 1 := by unfold o_tk; rw [if_neg n1, if_neg n2, if_pos s40]
          refine lv_iconst (v := 1) hx hb d_O_tokenOf_116 (by decide) ?_
          have hP9 := hP.sub (ws' := []) [] rfl
          have hD9 := hD.sub (ws' := []) [] (by decide) rfl
          have hK9 := hK.sub (tys' := []) [] rfl
          exact W.iret (v := 1) hx hb hr (fun t9 ht hW => ⟨⟨1, (), rfl, by rw [ev]; rfl, ⟨by rw [ht]; exact hP9, va_K.moved hW.alike hK9, hD9⟩⟩, hS.F ht⟩) hS.2.2 d_O_tokenOf_117
        by_cases s41 : c0 = 41
        · refine lv_lookup (tgt := 118) hx hb d_O_tokenOf_41 (by decide) (show _ = 77 by rw [s41]; decide) (by decide) ?_
          have ev : o_tk c0 = 2 := by unfold o_tk; rw [if_neg n1, if_neg n2, if_neg s40, if_pos s41]
          refine lv_iconst (v := 2) hx hb d_O_tokenOf_118 (by decide) ?_
          have hP9 := hP.sub (ws' := []) [] rfl
          have hD9 := hD.sub (ws' := []) [] (by decide) rfl
          have hK9 := hK.sub (tys' := []) [] rfl
          exact W.iret (v := 2) hx hb hr (fun t9 ht hW => ⟨⟨2, (), rfl, by rw [ev]; rfl, ⟨by rw [ht]; exact hP9, va_K.moved hW.alike hK9, hD9⟩⟩, hS.F ht⟩) hS.2.2 d_O_tokenOf_119
        by_cases s61 : c0 = 61
        · refine lv_lookup (tgt := 132) hx hb d_O_tokenOf_41 (by decide) (show _ = 91 by rw [s61]; decide) (by decide) ?_
          have ev : o_tk c0 = 8 := by unfold o_tk; rw [if_neg n1, if_neg n2, if_neg s40, if_neg s41, if_pos s61]
          refine lv_bipush (v := 8) hx hb d_O_tokenOf_132 (by decide) ?_
          have hP9 := hP.sub (ws' := []) [] rfl
          have hD9 := hD.sub (ws' := []) [] (by decide) rfl
          have hK9 := hK.sub (tys' := []) [] rfl
          exact W.iret (v := 8) hx hb hr (fun t9 ht hW => ⟨⟨8, (), rfl, by rw [ev]; rfl, ⟨by rw [ht]; exact hP9, va_K.moved hW.alike hK9, hD9⟩⟩, hS.F ht⟩) hS.2.2 d_O_tokenOf_134
        by_cases s73 : c0 = 73
        · refine lv_lookup (tgt := 122) hx hb d_O_tokenOf_41 (by decide) (show _ = 81 by rw [s73]; decide) (by decide) ?_
          have ev : o_tk c0 = 4 := by unfold o_tk; rw [if_neg n1, if_neg n2, if_neg s40, if_neg s41, if_neg s61, if_pos s73]
          refine lv_iconst (v := 4) hx hb d_O_tokenOf_122 (by decide) ?_
          have hP9 := hP.sub (ws' := []) [] rfl
          have hD9 := hD.sub (ws' := []) [] (by decide) rfl
          have hK9 := hK.sub (tys' := []) [] rfl
          exact W.iret (v := 4) hx hb hr (fun t9 ht hW => ⟨⟨4, (), rfl, by rw [ev]; rfl, ⟨by rw [ht]; exact hP9, va_K.moved hW.alike hK9, hD9⟩⟩, hS.F ht⟩) hS.2.2 d_O_tokenOf_123
        by_cases s76 : c0 = 76
        · refine lv_lookup (tgt := 120) hx hb d_O_tokenOf_41 (by decide) (show _ = 79 by rw [s76]; decide) (by decide) ?_
          have ev : o_tk c0 = 3 := by unfold o_tk; rw [if_neg n1, if_neg n2, if_neg s40, if_neg s41, if_neg s61, if_neg s73, if_pos s76]
          refine lv_iconst (v := 3) hx hb d_O_tokenOf_120 (by decide) ?_
          have hP9 := hP.sub (ws' := []) [] rfl
          have hD9 := hD.sub (ws' := []) [] (by decide) rfl
          have hK9 := hK.sub (tys' := []) [] rfl
          exact W.iret (v := 3) hx hb hr (fun t9 ht hW => ⟨⟨3, (), rfl, by rw [ev]; rfl, ⟨by rw [ht]; exact hP9, va_K.moved hW.alike hK9, hD9⟩⟩, hS.F ht⟩) hS.2.2 d_O_tokenOf_121
        by_cases s81 : c0 = 81
        · refine lv_lookup (tgt := 124) hx hb d_O_tokenOf_41 (by decide) (show _ = 83 by rw [s81]; decide) (by decide) ?_
          have ev : o_tk c0 = 5 := by unfold o_tk; rw [if_neg n1, if_neg n2, if_neg s40, if_neg s41, if_neg s61, if_neg s73, if_neg s76, if_pos s81]
          refine lv_iconst (v := 5) hx hb d_O_tokenOf_124 (by decide) ?_
          have hP9 := hP.sub (ws' := []) [] rfl
          have hD9 := hD.sub (ws' := []) [] (by decide) rfl
          have hK9 := hK.sub (tys' := []) [] rfl
          exact W.iret (v := 5) hx hb hr (fun t9 ht hW => ⟨⟨5, (), rfl, by rw [ev]; rfl, ⟨by rw [ht]; exact hP9, va_K.moved hW.alike hK9, hD9⟩⟩, hS.F ht⟩) hS.2.2 d_O_tokenOf_125
        by_cases s95 : c0 = 95
        · refine lv_lookup (tgt := 126) hx hb d_O_tokenOf_41 (by decide) (show _ = 85 by rw [s95]; decide) (by decide) ?_
          have ev : o_tk c0 = 6 := by unfold o_tk; rw [if_neg n1, if_neg n2, if_neg s40, if_neg s41, if_neg s61, if_neg s73, if_neg s76, if_neg s81, if_pos s95]
          refine lv_bipush (v := 6) hx hb d_O_tokenOf_126 (by decide) ?_
          have hP9 := hP.sub (ws' := []) [] rfl
          have hD9 := hD.sub (ws' := []) [] (by decide) rfl
          have hK9 := hK.sub (tys' := []) [] rfl
          exact W.iret (v := 6) hx hb hr (fun t9 ht hW => ⟨⟨6, (), rfl, by rw [ev]; rfl, ⟨by rw [ht]; exact hP9, va_K.moved hW.alike hK9, hD9⟩⟩, hS.F ht⟩) hS.2.2 d_O_tokenOf_128
        by_cases s126 : c0 = 126
        · refine lv_lookup (tgt := 129) hx hb d_O_tokenOf_41 (by decide) (show _ = 88 by rw [s126]; decide) (by decide) ?_
          have ev : o_tk c0 = 7 := by unfold o_tk; rw [if_neg n1, if_neg n2, if_neg s40, if_neg s41, if_neg s61, if_neg s73, if_neg s76, if_neg s81, if_neg s95, if_pos s126]
          refine lv_bipush (v := 7) hx hb d_O_tokenOf_129 (by decide) ?_
          have hP9 := hP.sub (ws' := []) [] rfl
          have hD9 := hD.sub (ws' := []) [] (by decide) rfl
          have hK9 := hK.sub (tys' := []) [] rfl
          exact W.iret (v := 7) hx hb hr (fun t9 ht hW => ⟨⟨7, (), rfl, by rw [ev]; rfl, ⟨by rw [ht]; exact hP9, va_K.moved hW.alike hK9, hD9⟩⟩, hS.F ht⟩) hS.2.2 d_O_tokenOf_131
        have ho : Op.lookupswitch.offset [(40, 75), (41, 77), (61, 91), (73, 81), (76, 79), (81, 83), (95, 85), (126, 88)] 94 (nI c0).toInt = 94 := by rw [lv_osw (k := 40) (fun q => s40 ((ceq hc0 (by decide)).mp q)) (by decide), lv_osw (k := 41) (fun q => s41 ((ceq hc0 (by decide)).mp q)) (by decide), lv_osw (k := 61) (fun q => s61 ((ceq hc0 (by decide)).mp q)) (by decide), lv_osw (k := 73) (fun q => s73 ((ceq hc0 (by decide)).mp q)) (by decide), lv_osw (k := 76) (fun q => s76 ((ceq hc0 (by decide)).mp q)) (by decide), lv_osw (k := 81) (fun q => s81 ((ceq hc0 (by decide)).mp q)) (by decide), lv_osw (k := 95) (fun q => s95 ((ceq hc0 (by decide)).mp q)) (by decide), lv_osw (k := 126) (fun q => s126 ((ceq hc0 (by decide)).mp q)) (by decide)]; rfl
        refine lv_lookup (tgt := 135) hx hb d_O_tokenOf_41 (by decide) ho (by decide) ?_
        have ev : o_tk c0 = 0 := by unfold o_tk; rw [if_neg n1, if_neg n2, if_neg s40, if_neg s41, if_neg s61, if_neg s73, if_neg s76, if_neg s81, if_neg s95, if_neg s126]
        refine lv_iconst (v := 0) hx hb d_O_tokenOf_135 (by decide) ?_
        have hP9 := hP.sub (ws' := []) [] rfl
        have hD9 := hD.sub (ws' := []) [] (by decide) rfl
        have hK9 := hK.sub (tys' := []) [] rfl
        exact W.iret (v := 0) hx hb hr (fun t9 ht hW => ⟨⟨0, (), rfl, by rw [ev]; rfl, ⟨by rw [ht]; exact hP9, va_K.moved hW.alike hK9, hD9⟩⟩, hS.F ht⟩) hS.2.2 d_O_tokenOf_136
      · have g4 : c_nu c0 := ⟨g3, Nat.not_lt.mp (fun h => h4 (nI_lt (a := 57) h (by omega)))⟩
        have ev : o_tk c0 = c0 - 38 := by unfold o_tk; rw [if_neg n1, if_pos g4]
        refine lv_bipush (v := 10) hx hb d_O_tokenOf_32 (by decide) ?_
        refine lv_iload_n hx hb d_O_tokenOf_34 rfl (lv_at hl 0 rfl) ?_
        refine lv_iadd hx hb d_O_tokenOf_35 ?_
        refine lv_bipush (v := 48) hx hb d_O_tokenOf_36 (by decide) ?_
        refine lv_isub hx hb d_O_tokenOf_38 ?_
        have hP9 := hP.sub (ws' := []) [] rfl
        have hD9 := hD.sub (ws' := []) [] (by decide) rfl
        have hK9 := hK.sub (tys' := []) [] rfl
        exact W.iret (v := ((10 + (nI c0)) - 48)) hx hb hr (fun t9 ht hW => ⟨⟨((10 + (nI c0)) - 48), (), rfl, by rw [ev]; show nI 10 + nI c0 - nI 48 = _; rw [nI_add, nsub (by omega)]; congr 1; omega, ⟨by rw [ht]; exact hP9, va_K.moved hW.alike hK9, hD9⟩⟩, hS.F ht⟩) hS.2.2 d_O_tokenOf_39
  · have g1 : 97 ≤ c0 := Nat.not_lt.mp (fun h => h1 (nI_lt (b := 97) h (by decide)))
    refine lv_iload_n hx hb d_O_tokenOf_6 rfl (lv_at hl 0 rfl) ?_
    refine lv_bipush (v := 122) hx hb d_O_tokenOf_7 (by decide) ?_
    refine lv_icmp_gt (tgt := 20) hx hb d_O_tokenOf_9 (by decide) (fun h2 => ?_) (fun h2 => ?_)
    · have n1 : ¬ c_nm c0 := fun q => absurd h2 (Int32.not_lt.mpr (nI_le (b := 122) q.2 (by decide)))
      refine lv_iload_n hx hb d_O_tokenOf_20 rfl (lv_at hl 0 rfl) ?_
      refine lv_bipush (v := 48) hx hb d_O_tokenOf_21 (by decide) ?_
      refine lv_icmp_lt (tgt := 40) hx hb d_O_tokenOf_23 (by decide) (fun h3 => ?_) (fun h3 => ?_)
      · have n2 : ¬ c_nu c0 := fun q => absurd h3 (nI_nlt (b := 48) q.1 (by omega))
        refine lv_iload_n hx hb d_O_tokenOf_40 rfl (lv_at hl 0 rfl) ?_
        by_cases s40 : c0 = 40
        · refine lv_lookup (tgt := 116) hx hb d_O_tokenOf_41 (by decide) (show _ = 75 by rw [s40]; decide) (by decide) ?_
          have ev : o_tk c0 = 1 := by unfold o_tk; rw [if_neg n1, if_neg n2, if_pos s40]
          refine lv_iconst (v := 1) hx hb d_O_tokenOf_116 (by decide) ?_
          have hP9 := hP.sub (ws' := []) [] rfl
          have hD9 := hD.sub (ws' := []) [] (by decide) rfl
          have hK9 := hK.sub (tys' := []) [] rfl
          exact W.iret (v := 1) hx hb hr (fun t9 ht hW => ⟨⟨1, (), rfl, by rw [ev]; rfl, ⟨by rw [ht]; exact hP9, va_K.moved hW.alike hK9, hD9⟩⟩, hS.F ht⟩) hS.2.2 d_O_tokenOf_117
        by_cases s41 : c0 = 41
        · refine lv_lookup (tgt := 118) hx hb d_O_tokenOf_41 (by decide) (show _ = 77 by rw [s41]; decide) (by decide) ?_
          have ev : o_tk c0 = 2 := by unfold o_tk; rw [if_neg n1, if_neg n2, if_neg s40, if_pos s41]
          refine lv_iconst (v := 2) hx hb d_O_tokenOf_118 (by decide) ?_
          have hP9 := hP.sub (ws' := []) [] rfl
          have hD9 := hD.sub (ws' := []) [] (by decide) rfl
          have hK9 := hK.sub (tys' := []) [] rfl
          exact W.iret (v := 2) hx hb hr (fun t9 ht hW => ⟨⟨2, (), rfl, by rw [ev]; rfl, ⟨by rw [ht]; exact hP9, va_K.moved hW.alike hK9, hD9⟩⟩, hS.F ht⟩) hS.2.2 d_O_tokenOf_119
        by_cases s61 : c0 = 61
        · refine lv_lookup (tgt := 132) hx hb d_O_tokenOf_41 (by decide) (show _ = 91 by rw [s61]; decide) (by decide) ?_
          have ev : o_tk c0 = 8 := by unfold o_tk; rw [if_neg n1, if_neg n2, if_neg s40, if_neg s41, if_pos s61]
          refine lv_bipush (v := 8) hx hb d_O_tokenOf_132 (by decide) ?_
          have hP9 := hP.sub (ws' := []) [] rfl
          have hD9 := hD.sub (ws' := []) [] (by decide) rfl
          have hK9 := hK.sub (tys' := []) [] rfl
          exact W.iret (v := 8) hx hb hr (fun t9 ht hW => ⟨⟨8, (), rfl, by rw [ev]; rfl, ⟨by rw [ht]; exact hP9, va_K.moved hW.alike hK9, hD9⟩⟩, hS.F ht⟩) hS.2.2 d_O_tokenOf_134
        by_cases s73 : c0 = 73
        · refine lv_lookup (tgt := 122) hx hb d_O_tokenOf_41 (by decide) (show _ = 81 by rw [s73]; decide) (by decide) ?_
          have ev : o_tk c0 = 4 := by unfold o_tk; rw [if_neg n1, if_neg n2, if_neg s40, if_neg s41, if_neg s61, if_pos s73]
          refine lv_iconst (v := 4) hx hb d_O_tokenOf_122 (by decide) ?_
          have hP9 := hP.sub (ws' := []) [] rfl
          have hD9 := hD.sub (ws' := []) [] (by decide) rfl
          have hK9 := hK.sub (tys' := []) [] rfl
          exact W.iret (v := 4) hx hb hr (fun t9 ht hW => ⟨⟨4, (), rfl, by rw [ev]; rfl, ⟨by rw [ht]; exact hP9, va_K.moved hW.alike hK9, hD9⟩⟩, hS.F ht⟩) hS.2.2 d_O_tokenOf_123
        by_cases s76 : c0 = 76
        · refine lv_lookup (tgt := 120) hx hb d_O_tokenOf_41 (by decide) (show _ = 79 by rw [s76]; decide) (by decide) ?_
          have ev : o_tk c0 = 3 := by unfold o_tk; rw [if_neg n1, if_neg n2, if_neg s40, if_neg s41, if_neg s61, if_neg s73, if_pos s76]
          refine lv_iconst (v := 3) hx hb d_O_tokenOf_120 (by decide) ?_
          have hP9 := hP.sub (ws' := []) [] rfl
          have hD9 := hD.sub (ws' := []) [] (by decide) rfl
          have hK9 := hK.sub (tys' := []) [] rfl
          exact W.iret (v := 3) hx hb hr (fun t9 ht hW => ⟨⟨3, (), rfl, by rw [ev]; rfl, ⟨by rw [ht]; exact hP9, va_K.moved hW.alike hK9, hD9⟩⟩, hS.F ht⟩) hS.2.2 d_O_tokenOf_121
        by_cases s81 : c0 = 81
        · refine lv_lookup (tgt := 124) hx hb d_O_tokenOf_41 (by decide) (show _ = 83 by rw [s81]; decide) (by decide) ?_
          have ev : o_tk c0 = 5 := by unfold o_tk; rw [if_neg n1, if_neg n2, if_neg s40, if_neg s41, if_neg s61, if_neg s73, if_neg s76, if_pos s81]
          refine lv_iconst (v := 5) hx hb d_O_tokenOf_124 (by decide) ?_
          have hP9 := hP.sub (ws' := []) [] rfl
          have hD9 := hD.sub (ws' := []) [] (by decide) rfl
          have hK9 := hK.sub (tys' := []) [] rfl
          exact W.iret (v := 5) hx hb hr (fun t9 ht hW => ⟨⟨5, (), rfl, by rw [ev]; rfl, ⟨by rw [ht]; exact hP9, va_K.moved hW.alike hK9, hD9⟩⟩, hS.F ht⟩) hS.2.2 d_O_tokenOf_125
        by_cases s95 : c0 = 95
        · refine lv_lookup (tgt := 126) hx hb d_O_tokenOf_41 (by decide) (show _ = 85 by rw [s95]; decide) (by decide) ?_
          have ev : o_tk c0 = 6 := by unfold o_tk; rw [if_neg n1, if_neg n2, if_neg s40, if_neg s41, if_neg s61, if_neg s73, if_neg s76, if_neg s81, if_pos s95]
          refine lv_bipush (v := 6) hx hb d_O_tokenOf_126 (by decide) ?_
          have hP9 := hP.sub (ws' := []) [] rfl
          have hD9 := hD.sub (ws' := []) [] (by decide) rfl
          have hK9 := hK.sub (tys' := []) [] rfl
          exact W.iret (v := 6) hx hb hr (fun t9 ht hW => ⟨⟨6, (), rfl, by rw [ev]; rfl, ⟨by rw [ht]; exact hP9, va_K.moved hW.alike hK9, hD9⟩⟩, hS.F ht⟩) hS.2.2 d_O_tokenOf_128
        by_cases s126 : c0 = 126
        · refine lv_lookup (tgt := 129) hx hb d_O_tokenOf_41 (by decide) (show _ = 88 by rw [s126]; decide) (by decide) ?_
          have ev : o_tk c0 = 7 := by unfold o_tk; rw [if_neg n1, if_neg n2, if_neg s40, if_neg s41, if_neg s61, if_neg s73, if_neg s76, if_neg s81, if_neg s95, if_pos s126]
          refine lv_bipush (v := 7) hx hb d_O_tokenOf_129 (by decide) ?_
          have hP9 := hP.sub (ws' := []) [] rfl
          have hD9 := hD.sub (ws' := []) [] (by decide) rfl
          have hK9 := hK.sub (tys' := []) [] rfl
          exact W.iret (v := 7) hx hb hr (fun t9 ht hW => ⟨⟨7, (), rfl, by rw [ev]; rfl, ⟨by rw [ht]; exact hP9, va_K.moved hW.alike hK9, hD9⟩⟩, hS.F ht⟩) hS.2.2 d_O_tokenOf_131
        have ho : Op.lookupswitch.offset [(40, 75), (41, 77), (61, 91), (73, 81), (76, 79), (81, 83), (95, 85), (126, 88)] 94 (nI c0).toInt = 94 := by rw [lv_osw (k := 40) (fun q => s40 ((ceq hc0 (by decide)).mp q)) (by decide), lv_osw (k := 41) (fun q => s41 ((ceq hc0 (by decide)).mp q)) (by decide), lv_osw (k := 61) (fun q => s61 ((ceq hc0 (by decide)).mp q)) (by decide), lv_osw (k := 73) (fun q => s73 ((ceq hc0 (by decide)).mp q)) (by decide), lv_osw (k := 76) (fun q => s76 ((ceq hc0 (by decide)).mp q)) (by decide), lv_osw (k := 81) (fun q => s81 ((ceq hc0 (by decide)).mp q)) (by decide), lv_osw (k := 95) (fun q => s95 ((ceq hc0 (by decide)).mp q)) (by decide), lv_osw (k := 126) (fun q => s126 ((ceq hc0 (by decide)).mp q)) (by decide)]; rfl
        refine lv_lookup (tgt := 135) hx hb d_O_tokenOf_41 (by decide) ho (by decide) ?_
        have ev : o_tk c0 = 0 := by unfold o_tk; rw [if_neg n1, if_neg n2, if_neg s40, if_neg s41, if_neg s61, if_neg s73, if_neg s76, if_neg s81, if_neg s95, if_neg s126]
        refine lv_iconst (v := 0) hx hb d_O_tokenOf_135 (by decide) ?_
        have hP9 := hP.sub (ws' := []) [] rfl
        have hD9 := hD.sub (ws' := []) [] (by decide) rfl
        have hK9 := hK.sub (tys' := []) [] rfl
        exact W.iret (v := 0) hx hb hr (fun t9 ht hW => ⟨⟨0, (), rfl, by rw [ev]; rfl, ⟨by rw [ht]; exact hP9, va_K.moved hW.alike hK9, hD9⟩⟩, hS.F ht⟩) hS.2.2 d_O_tokenOf_136
      · have g3 : 48 ≤ c0 := Nat.not_lt.mp (fun h => h3 (nI_lt (b := 48) h (by decide)))
        refine lv_iload_n hx hb d_O_tokenOf_26 rfl (lv_at hl 0 rfl) ?_
        refine lv_bipush (v := 57) hx hb d_O_tokenOf_27 (by decide) ?_
        refine lv_icmp_gt (tgt := 40) hx hb d_O_tokenOf_29 (by decide) (fun h4 => ?_) (fun h4 => ?_)
        · have n2 : ¬ c_nu c0 := fun q => absurd h4 (Int32.not_lt.mpr (nI_le (b := 57) q.2 (by decide)))
          refine lv_iload_n hx hb d_O_tokenOf_40 rfl (lv_at hl 0 rfl) ?_
          by_cases s40 : c0 = 40
          · refine lv_lookup (tgt := 116) hx hb d_O_tokenOf_41 (by decide) (show _ = 75 by rw [s40]; decide) (by decide) ?_
            have ev : o_tk c0 = 1 := by unfold o_tk; rw [if_neg n1, if_neg n2, if_pos s40]
            refine lv_iconst (v := 1) hx hb d_O_tokenOf_116 (by decide) ?_
            have hP9 := hP.sub (ws' := []) [] rfl
            have hD9 := hD.sub (ws' := []) [] (by decide) rfl
            have hK9 := hK.sub (tys' := []) [] rfl
            exact W.iret (v := 1) hx hb hr (fun t9 ht hW => ⟨⟨1, (), rfl, by rw [ev]; rfl, ⟨by rw [ht]; exact hP9, va_K.moved hW.alike hK9, hD9⟩⟩, hS.F ht⟩) hS.2.2 d_O_tokenOf_117
          by_cases s41 : c0 = 41
          · refine lv_lookup (tgt := 118) hx hb d_O_tokenOf_41 (by decide) (show _ = 77 by rw [s41]; decide) (by decide) ?_
            have ev : o_tk c0 = 2 := by unfold o_tk; rw [if_neg n1, if_neg n2, if_neg s40, if_pos s41]
            refine lv_iconst (v := 2) hx hb d_O_tokenOf_118 (by decide) ?_
            have hP9 := hP.sub (ws' := []) [] rfl
            have hD9 := hD.sub (ws' := []) [] (by decide) rfl
            have hK9 := hK.sub (tys' := []) [] rfl
            exact W.iret (v := 2) hx hb hr (fun t9 ht hW => ⟨⟨2, (), rfl, by rw [ev]; rfl, ⟨by rw [ht]; exact hP9, va_K.moved hW.alike hK9, hD9⟩⟩, hS.F ht⟩) hS.2.2 d_O_tokenOf_119
          by_cases s61 : c0 = 61
          · refine lv_lookup (tgt := 132) hx hb d_O_tokenOf_41 (by decide) (show _ = 91 by rw [s61]; decide) (by decide) ?_
            have ev : o_tk c0 = 8 := by unfold o_tk; rw [if_neg n1, if_neg n2, if_neg s40, if_neg s41, if_pos s61]
            refine lv_bipush (v := 8) hx hb d_O_tokenOf_132 (by decide) ?_
            have hP9 := hP.sub (ws' := []) [] rfl
            have hD9 := hD.sub (ws' := []) [] (by decide) rfl
            have hK9 := hK.sub (tys' := []) [] rfl
            exact W.iret (v := 8) hx hb hr (fun t9 ht hW => ⟨⟨8, (), rfl, by rw [ev]; rfl, ⟨by rw [ht]; exact hP9, va_K.moved hW.alike hK9, hD9⟩⟩, hS.F ht⟩) hS.2.2 d_O_tokenOf_134
          by_cases s73 : c0 = 73
          · refine lv_lookup (tgt := 122) hx hb d_O_tokenOf_41 (by decide) (show _ = 81 by rw [s73]; decide) (by decide) ?_
            have ev : o_tk c0 = 4 := by unfold o_tk; rw [if_neg n1, if_neg n2, if_neg s40, if_neg s41, if_neg s61, if_pos s73]
            refine lv_iconst (v := 4) hx hb d_O_tokenOf_122 (by decide) ?_
            have hP9 := hP.sub (ws' := []) [] rfl
            have hD9 := hD.sub (ws' := []) [] (by decide) rfl
            have hK9 := hK.sub (tys' := []) [] rfl
            exact W.iret (v := 4) hx hb hr (fun t9 ht hW => ⟨⟨4, (), rfl, by rw [ev]; rfl, ⟨by rw [ht]; exact hP9, va_K.moved hW.alike hK9, hD9⟩⟩, hS.F ht⟩) hS.2.2 d_O_tokenOf_123
          by_cases s76 : c0 = 76
          · refine lv_lookup (tgt := 120) hx hb d_O_tokenOf_41 (by decide) (show _ = 79 by rw [s76]; decide) (by decide) ?_
            have ev : o_tk c0 = 3 := by unfold o_tk; rw [if_neg n1, if_neg n2, if_neg s40, if_neg s41, if_neg s61, if_neg s73, if_pos s76]
            refine lv_iconst (v := 3) hx hb d_O_tokenOf_120 (by decide) ?_
            have hP9 := hP.sub (ws' := []) [] rfl
            have hD9 := hD.sub (ws' := []) [] (by decide) rfl
            have hK9 := hK.sub (tys' := []) [] rfl
            exact W.iret (v := 3) hx hb hr (fun t9 ht hW => ⟨⟨3, (), rfl, by rw [ev]; rfl, ⟨by rw [ht]; exact hP9, va_K.moved hW.alike hK9, hD9⟩⟩, hS.F ht⟩) hS.2.2 d_O_tokenOf_121
          by_cases s81 : c0 = 81
          · refine lv_lookup (tgt := 124) hx hb d_O_tokenOf_41 (by decide) (show _ = 83 by rw [s81]; decide) (by decide) ?_
            have ev : o_tk c0 = 5 := by unfold o_tk; rw [if_neg n1, if_neg n2, if_neg s40, if_neg s41, if_neg s61, if_neg s73, if_neg s76, if_pos s81]
            refine lv_iconst (v := 5) hx hb d_O_tokenOf_124 (by decide) ?_
            have hP9 := hP.sub (ws' := []) [] rfl
            have hD9 := hD.sub (ws' := []) [] (by decide) rfl
            have hK9 := hK.sub (tys' := []) [] rfl
            exact W.iret (v := 5) hx hb hr (fun t9 ht hW => ⟨⟨5, (), rfl, by rw [ev]; rfl, ⟨by rw [ht]; exact hP9, va_K.moved hW.alike hK9, hD9⟩⟩, hS.F ht⟩) hS.2.2 d_O_tokenOf_125
          by_cases s95 : c0 = 95
          · refine lv_lookup (tgt := 126) hx hb d_O_tokenOf_41 (by decide) (show _ = 85 by rw [s95]; decide) (by decide) ?_
            have ev : o_tk c0 = 6 := by unfold o_tk; rw [if_neg n1, if_neg n2, if_neg s40, if_neg s41, if_neg s61, if_neg s73, if_neg s76, if_neg s81, if_pos s95]
            refine lv_bipush (v := 6) hx hb d_O_tokenOf_126 (by decide) ?_
            have hP9 := hP.sub (ws' := []) [] rfl
            have hD9 := hD.sub (ws' := []) [] (by decide) rfl
            have hK9 := hK.sub (tys' := []) [] rfl
            exact W.iret (v := 6) hx hb hr (fun t9 ht hW => ⟨⟨6, (), rfl, by rw [ev]; rfl, ⟨by rw [ht]; exact hP9, va_K.moved hW.alike hK9, hD9⟩⟩, hS.F ht⟩) hS.2.2 d_O_tokenOf_128
          by_cases s126 : c0 = 126
          · refine lv_lookup (tgt := 129) hx hb d_O_tokenOf_41 (by decide) (show _ = 88 by rw [s126]; decide) (by decide) ?_
            have ev : o_tk c0 = 7 := by unfold o_tk; rw [if_neg n1, if_neg n2, if_neg s40, if_neg s41, if_neg s61, if_neg s73, if_neg s76, if_neg s81, if_neg s95, if_pos s126]
            refine lv_bipush (v := 7) hx hb d_O_tokenOf_129 (by decide) ?_
            have hP9 := hP.sub (ws' := []) [] rfl
            have hD9 := hD.sub (ws' := []) [] (by decide) rfl
            have hK9 := hK.sub (tys' := []) [] rfl
            exact W.iret (v := 7) hx hb hr (fun t9 ht hW => ⟨⟨7, (), rfl, by rw [ev]; rfl, ⟨by rw [ht]; exact hP9, va_K.moved hW.alike hK9, hD9⟩⟩, hS.F ht⟩) hS.2.2 d_O_tokenOf_131
          have ho : Op.lookupswitch.offset [(40, 75), (41, 77), (61, 91), (73, 81), (76, 79), (81, 83), (95, 85), (126, 88)] 94 (nI c0).toInt = 94 := by rw [lv_osw (k := 40) (fun q => s40 ((ceq hc0 (by decide)).mp q)) (by decide), lv_osw (k := 41) (fun q => s41 ((ceq hc0 (by decide)).mp q)) (by decide), lv_osw (k := 61) (fun q => s61 ((ceq hc0 (by decide)).mp q)) (by decide), lv_osw (k := 73) (fun q => s73 ((ceq hc0 (by decide)).mp q)) (by decide), lv_osw (k := 76) (fun q => s76 ((ceq hc0 (by decide)).mp q)) (by decide), lv_osw (k := 81) (fun q => s81 ((ceq hc0 (by decide)).mp q)) (by decide), lv_osw (k := 95) (fun q => s95 ((ceq hc0 (by decide)).mp q)) (by decide), lv_osw (k := 126) (fun q => s126 ((ceq hc0 (by decide)).mp q)) (by decide)]; rfl
          refine lv_lookup (tgt := 135) hx hb d_O_tokenOf_41 (by decide) ho (by decide) ?_
          have ev : o_tk c0 = 0 := by unfold o_tk; rw [if_neg n1, if_neg n2, if_neg s40, if_neg s41, if_neg s61, if_neg s73, if_neg s76, if_neg s81, if_neg s95, if_neg s126]
          refine lv_iconst (v := 0) hx hb d_O_tokenOf_135 (by decide) ?_
          have hP9 := hP.sub (ws' := []) [] rfl
          have hD9 := hD.sub (ws' := []) [] (by decide) rfl
          have hK9 := hK.sub (tys' := []) [] rfl
          exact W.iret (v := 0) hx hb hr (fun t9 ht hW => ⟨⟨0, (), rfl, by rw [ev]; rfl, ⟨by rw [ht]; exact hP9, va_K.moved hW.alike hK9, hD9⟩⟩, hS.F ht⟩) hS.2.2 d_O_tokenOf_136
        · have g4 : c_nu c0 := ⟨g3, Nat.not_lt.mp (fun h => h4 (nI_lt (a := 57) h (by omega)))⟩
          have ev : o_tk c0 = c0 - 38 := by unfold o_tk; rw [if_neg n1, if_pos g4]
          refine lv_bipush (v := 10) hx hb d_O_tokenOf_32 (by decide) ?_
          refine lv_iload_n hx hb d_O_tokenOf_34 rfl (lv_at hl 0 rfl) ?_
          refine lv_iadd hx hb d_O_tokenOf_35 ?_
          refine lv_bipush (v := 48) hx hb d_O_tokenOf_36 (by decide) ?_
          refine lv_isub hx hb d_O_tokenOf_38 ?_
          have hP9 := hP.sub (ws' := []) [] rfl
          have hD9 := hD.sub (ws' := []) [] (by decide) rfl
          have hK9 := hK.sub (tys' := []) [] rfl
          exact W.iret (v := ((10 + (nI c0)) - 48)) hx hb hr (fun t9 ht hW => ⟨⟨((10 + (nI c0)) - 48), (), rfl, by rw [ev]; show nI 10 + nI c0 - nI 48 = _; rw [nI_add, nsub (by omega)]; congr 1; omega, ⟨by rw [ht]; exact hP9, va_K.moved hW.alike hK9, hD9⟩⟩, hS.F ht⟩) hS.2.2 d_O_tokenOf_39
    · have g2 : c_nm c0 := ⟨g1, Nat.not_lt.mp (fun h => h2 (nI_lt (a := 122) h (by omega)))⟩
      have ev : o_tk c0 = c0 + 3 := by unfold o_tk; rw [if_pos g2]
      refine lv_bipush (v := 100) hx hb d_O_tokenOf_12 (by decide) ?_
      refine lv_iload_n hx hb d_O_tokenOf_14 rfl (lv_at hl 0 rfl) ?_
      refine lv_iadd hx hb d_O_tokenOf_15 ?_
      refine lv_bipush (v := 97) hx hb d_O_tokenOf_16 (by decide) ?_
      refine lv_isub hx hb d_O_tokenOf_18 ?_
      have hP9 := hP.sub (ws' := []) [] rfl
      have hD9 := hD.sub (ws' := []) [] (by decide) rfl
      have hK9 := hK.sub (tys' := []) [] rfl
      exact W.iret (v := ((100 + (nI c0)) - 97)) hx hb hr (fun t9 ht hW => ⟨⟨((100 + (nI c0)) - 97), (), rfl, by rw [ev]; show nI 100 + nI c0 - nI 97 = _; rw [nI_add, nsub (by omega)]; congr 1; omega, ⟨by rw [ht]; exact hP9, va_K.moved hW.alike hK9, hD9⟩⟩, hS.F ht⟩) hS.2.2 d_O_tokenOf_19

set_option maxHeartbeats 4000000 in
set_option maxRecDepth 100000 in
/-- the reference: letterOf(t0) -/
theorem c_O_letterOf (l : Launch) (D : va_G) (sz : Nat) (t0 : Nat) (h0 : 100 ≤ t0) (h1 : t0 < 2 ^ 31) : Met l y_O_letterOf (Cond.code y_O_letterOf b_O_letterOf 1 (some .int) :: wal) ({ frames := 10, cells := 0, slots := 0, locals := 120 }) (va_Pc [.int (nI t0)] (pr D sz [] [] (fun _ => True))) (va_Qi (S := Unit) (fun r u => r = nI ((t0 - 100) % 32)) (fun u t9 => po D (va_A ([]) sz) ((fun u => []) u) ((fun u => []) u) t9) (va_A ([]) sz)) 0 0 (va_A ([]) sz) := by
  refine Met.ofW (cc := b_O_letterOf) (maxL := 1) (ret := (some .int)) (by decide) rfl ?_
  intro p e s m args below meth c s₁ B hml hv
  obtain ⟨rfl, hsz, hP, hK, hD0, hE⟩ := hv
  have hx := B.exec
  have hb := B.bytes
  have hr := B.returns
  have hts0 := atoms_spec (ws := Cond.code y_O_letterOf b_O_letterOf 1 (some .int) :: wal) B.pre
  have hts : ∀ w ∈ wal, w.before _ s = true := fun w h => hts0 w (List.mem_cons_of_mem _ h)
  have hown : s.vm.findClass rc_O = some m.cls := findClass_of_methodNamed B.named
  have hlocks := B.notSynchronized
  subst hsz
  have hD := hD0.self (sz := s.heap.size)
  generalize hAe : va_A ([]) s.heap.size = A at hD ⊢
  have hA : ∀ q : Nat, s.heap.size ≤ q → A q := fun q h => by rw [← hAe]; exact Or.inr h
  have hS : va_S A s.heap s.heap [] := va_S.rf
  have hl := lv_entry ([.int (nI t0)]) (n := 1) (Nat.le_of_ble_eq_true rfl)
  rw [lg_entry_eq]
  generalize (lg_sl ([.int (nI t0)]) ++ List.replicate (1 - (lg_sl ([.int (nI t0)])).length) Slot.unset).toArray = ls at hl ⊢
  have hl : lv_has ls 1 [(0, .int (nI t0))] := hl
  refine lv_iload_n hx hb d_O_letterOf_0 rfl (lv_at hl 0 rfl) ?_
  refine lv_bipush (v := 100) hx hb d_O_letterOf_1 (by decide) ?_
  refine lv_isub hx hb d_O_letterOf_3 ?_
  refine lv_topi (fun z9 ez9 => ?_)
  have ez9 : z9 = (nI (t0 - 100)) := ez9.trans (nsub (b := 100) h0)
  subst ez9
  refine lv_bipush (v := 31) hx hb d_O_letterOf_4 (by decide) ?_
  refine lv_iand hx hb d_O_letterOf_6 ?_
  have hP9 := hP.sub (ws' := []) [] rfl
  have hD9 := hD.sub (ws' := []) [] (by decide) rfl
  have hK9 := hK.sub (tys' := []) [] rfl
  exact W.iret (v := ((nI (t0 - 100)) &&& 31)) hx hb hr (fun t9 ht hW => ⟨⟨((nI (t0 - 100)) &&& 31), (), rfl, nI_and31 (by omega), ⟨by rw [ht]; exact hP9, va_K.moved hW.alike hK9, hD9⟩⟩, hS.F ht⟩) hS.2.2 d_O_letterOf_7

set_option maxHeartbeats 4000000 in
set_option maxRecDepth 100000 in
/-- the reference: takeDraft() -/
theorem c_O_takeDraft (l : Launch) (D : va_G) (sz : Nat) (g : Nat) (o_draft : Nat) (o_token : Nat) (o_macro : Nat) (o_patternSize : Nat) (o_pattern : Nat) (o_templateSize : Nat) (o_template : Nat) (o_singles : Nat) (o_manies : Nat) (o_begins : Nat) (o_hasTilde : Nat) (o_covered : Nat) (o_row : Nat) (o_fresh : Nat) (o_where : Nat) (o_times : Nat) (o_places : Nat) (o_binds : Nat) (o_names : Nat) (o_mark : Nat) (v_code : Int32) (v_size : Int32) (v_rules : Int32) (v_deep : Int32) (v_item : Int32) (v_itemTilde : Int32) (v_single : Int32) (v_many : Int32) (v_end : Int32) (v_made : Int32) (v_nodes : Int32) (v_lists : Int32) (v_deepest : Int32) (v_great : Int32) (v_open : Int32) (v_bound : Int32) (v_pos : Int32) (v_replaced : Int32) (v_marks : Int32) (v_fault : Int32) (v_reached : Int32) (c_draft : ClassId) (c_token : ClassId) (n : Nat) (dg : Nat → Nat) (tk : Nat → Nat) (hn : n ≤ 60) (hdg : ∀ i, dg i < 65536) : Met l y_O_takeDraft (Cond.code y_O_takeDraft b_O_takeDraft 4 (some .boolean) :: wal) ({ frames := 11, cells := 0, slots := 0, locals := 180 }) (va_Pc [.ref g] (pr D sz [(g, .inr (8, [.int v_code, .int (nI n), .ref o_draft, .int v_size, .ref o_token, .int v_rules, .ref o_macro, .ref o_patternSize, .ref o_pattern, .ref o_templateSize, .ref o_template, .ref o_singles, .ref o_manies, .int v_deep, .ref o_begins, .ref o_hasTilde, .int v_item, .int v_itemTilde, .int v_single, .int v_many, .ref o_covered, .int v_end, .ref o_row, .int v_made, .ref o_fresh, .int v_nodes, .int v_lists, .int v_deepest, .int v_great, .ref o_where, .ref o_times, .ref o_places, .int v_open, .ref o_binds, .int v_bound, .ref o_names, .int v_pos, .int v_replaced, .int v_marks, .ref o_mark, .int v_fault, .int v_reached])), (o_draft, .inl (c_draft, 60, .inl (nf dg))), (o_token, .inl (c_token, 61, .inl (nf tk)))] [(c_draft, .char), (c_token, .int)] (fun _ => True))) (va_Qi (S := Nat × (Nat → Nat) × Nat) (fun r u => u.1 ≤ n ∧ u.2.2 < 2 ∧ r = nI u.2.2 ∧ td_go dg n 0 0 tk 1 = (u.1, u.2.1, u.2.2)) (fun u t9 => po D (va_A ([(g, .inr (8, [.int v_code, .int (nI n), .ref o_draft, .int v_size, .ref o_token, .int v_rules, .ref o_macro, .ref o_patternSize, .ref o_pattern, .ref o_templateSize, .ref o_template, .ref o_singles, .ref o_manies, .int v_deep, .ref o_begins, .ref o_hasTilde, .int v_item, .int v_itemTilde, .int v_single, .int v_many, .ref o_covered, .int v_end, .ref o_row, .int v_made, .ref o_fresh, .int v_nodes, .int v_lists, .int v_deepest, .int v_great, .ref o_where, .ref o_times, .ref o_places, .int v_open, .ref o_binds, .int v_bound, .ref o_names, .int v_pos, .int v_replaced, .int v_marks, .ref o_mark, .int v_fault, .int v_reached])), (o_draft, .inl (c_draft, 60, .inl (nf dg))), (o_token, .inl (c_token, 61, .inl (nf tk)))]) sz) ((fun u => [(g, .inr (8, [.int v_code, .int 0, .ref o_draft, .int (nI u.1), .ref o_token, .int v_rules, .ref o_macro, .ref o_patternSize, .ref o_pattern, .ref o_templateSize, .ref o_template, .ref o_singles, .ref o_manies, .int v_deep, .ref o_begins, .ref o_hasTilde, .int v_item, .int v_itemTilde, .int v_single, .int v_many, .ref o_covered, .int v_end, .ref o_row, .int v_made, .ref o_fresh, .int v_nodes, .int v_lists, .int v_deepest, .int v_great, .ref o_where, .ref o_times, .ref o_places, .int v_open, .ref o_binds, .int v_bound, .ref o_names, .int v_pos, .int v_replaced, .int v_marks, .ref o_mark, .int v_fault, .int v_reached])), (o_draft, .inl (c_draft, 60, .inl (nf dg))), (o_token, .inl (c_token, 61, .inl (nf (va_up u.2.1 u.1 0))))]) u) ((fun u => [(c_draft, .char), (c_token, .int)]) u) t9) (va_A ([(g, .inr (8, [.int v_code, .int (nI n), .ref o_draft, .int v_size, .ref o_token, .int v_rules, .ref o_macro, .ref o_patternSize, .ref o_pattern, .ref o_templateSize, .ref o_template, .ref o_singles, .ref o_manies, .int v_deep, .ref o_begins, .ref o_hasTilde, .int v_item, .int v_itemTilde, .int v_single, .int v_many, .ref o_covered, .int v_end, .ref o_row, .int v_made, .ref o_fresh, .int v_nodes, .int v_lists, .int v_deepest, .int v_great, .ref o_where, .ref o_times, .ref o_places, .int v_open, .ref o_binds, .int v_bound, .ref o_names, .int v_pos, .int v_replaced, .int v_marks, .ref o_mark, .int v_fault, .int v_reached])), (o_draft, .inl (c_draft, 60, .inl (nf dg))), (o_token, .inl (c_token, 61, .inl (nf tk)))]) sz)) 0 0 (va_A ([(g, .inr (8, [.int v_code, .int (nI n), .ref o_draft, .int v_size, .ref o_token, .int v_rules, .ref o_macro, .ref o_patternSize, .ref o_pattern, .ref o_templateSize, .ref o_template, .ref o_singles, .ref o_manies, .int v_deep, .ref o_begins, .ref o_hasTilde, .int v_item, .int v_itemTilde, .int v_single, .int v_many, .ref o_covered, .int v_end, .ref o_row, .int v_made, .ref o_fresh, .int v_nodes, .int v_lists, .int v_deepest, .int v_great, .ref o_where, .ref o_times, .ref o_places, .int v_open, .ref o_binds, .int v_bound, .ref o_names, .int v_pos, .int v_replaced, .int v_marks, .ref o_mark, .int v_fault, .int v_reached])), (o_draft, .inl (c_draft, 60, .inl (nf dg))), (o_token, .inl (c_token, 61, .inl (nf tk)))]) sz) := by
  refine Met.ofW (cc := b_O_takeDraft) (maxL := 4) (ret := (some .boolean)) (by decide) rfl ?_
  intro p e s m args below meth c s₁ B hml hv
  obtain ⟨rfl, hsz, hP, hK, hD0, hE⟩ := hv
  have hx := B.exec
  have hb := B.bytes
  have hr := B.returns
  have hts0 := atoms_spec (ws := Cond.code y_O_takeDraft b_O_takeDraft 4 (some .boolean) :: wal) B.pre
  have hts : ∀ w ∈ wal, w.before _ s = true := fun w h => hts0 w (List.mem_cons_of_mem _ h)
  have hown : s.vm.findClass rc_O = some m.cls := findClass_of_methodNamed B.named
  have hlocks := B.notSynchronized
  subst hsz
  have hD := hD0.self (sz := s.heap.size)
  generalize hAe : va_A ([(g, .inr (8, [.int v_code, .int (nI n), .ref o_draft, .int v_size, .ref o_token, .int v_rules, .ref o_macro, .ref o_patternSize, .ref o_pattern, .ref o_templateSize, .ref o_template, .ref o_singles, .ref o_manies, .int v_deep, .ref o_begins, .ref o_hasTilde, .int v_item, .int v_itemTilde, .int v_single, .int v_many, .ref o_covered, .int v_end, .ref o_row, .int v_made, .ref o_fresh, .int v_nodes, .int v_lists, .int v_deepest, .int v_great, .ref o_where, .ref o_times, .ref o_places, .int v_open, .ref o_binds, .int v_bound, .ref o_names, .int v_pos, .int v_replaced, .int v_marks, .ref o_mark, .int v_fault, .int v_reached])), (o_draft, .inl (c_draft, 60, .inl (nf dg))), (o_token, .inl (c_token, 61, .inl (nf tk)))]) s.heap.size = A at hD ⊢
  have hA : ∀ q : Nat, s.heap.size ≤ q → A q := fun q h => by rw [← hAe]; exact Or.inr h
  have hS : va_S A s.heap s.heap [] := va_S.rf
  have hl := lv_entry ([.ref g]) (n := 4) (Nat.le_of_ble_eq_true rfl)
  rw [lg_entry_eq]
  generalize (lg_sl ([.ref g]) ++ List.replicate (4 - (lg_sl ([.ref g])).length) Slot.unset).toArray = ls at hl ⊢
  have hl : lv_has ls 4 [(0, .ref g)] := hl
  refine lv_aload_n hx hb d_O_takeDraft_0 rfl (lv_at hl 0 rfl) ?_
  refine lv_iconst (v := 0) hx hb d_O_takeDraft_1 (by decide) ?_
  refine va_put (D := D) (ci := 8) (v := .int 0) (ty := .int) (C := rc_O) (T := ft_O) (N := 42) hx hb hts in_O ty_O tk_O nm_O hown hK hP hD hS 0 rfl rfl 3 (by decide) (hts _ k_658) (fun _ h9 => h9) rfl (by decide +kernel) rfl rfl (Nat.le_of_ble_eq_true rfl) d_O_takeDraft_2 (fun H locs hP hD hS => ?_)
  have hP : va_P D wcl [(g, .inr (8, [.int v_code, .int (nI n), .ref o_draft, .int 0, .ref o_token, .int v_rules, .ref o_macro, .ref o_patternSize, .ref o_pattern, .ref o_templateSize, .ref o_template, .ref o_singles, .ref o_manies, .int v_deep, .ref o_begins, .ref o_hasTilde, .int v_item, .int v_itemTilde, .int v_single, .int v_many, .ref o_covered, .int v_end, .ref o_row, .int v_made, .ref o_fresh, .int v_nodes, .int v_lists, .int v_deepest, .int v_great, .ref o_where, .ref o_times, .ref o_places, .int v_open, .ref o_binds, .int v_bound, .ref o_names, .int v_pos, .int v_replaced, .int v_marks, .ref o_mark, .int v_fault, .int v_reached])), (o_draft, .inl (c_draft, 60, .inl (nf dg))), (o_token, .inl (c_token, 61, .inl (nf tk)))] H := hP
  have hD : va_D A [(g, .inr (8, [.int v_code, .int (nI n), .ref o_draft, .int 0, .ref o_token, .int v_rules, .ref o_macro, .ref o_patternSize, .ref o_pattern, .ref o_templateSize, .ref o_template, .ref o_singles, .ref o_manies, .int v_deep, .ref o_begins, .ref o_hasTilde, .int v_item, .int v_itemTilde, .int v_single, .int v_many, .ref o_covered, .int v_end, .ref o_row, .int v_made, .ref o_fresh, .int v_nodes, .int v_lists, .int v_deepest, .int v_great, .ref o_where, .ref o_times, .ref o_places, .int v_open, .ref o_binds, .int v_bound, .ref o_names, .int v_pos, .int v_replaced, .int v_marks, .ref o_mark, .int v_fault, .int v_reached])), (o_draft, .inl (c_draft, 60, .inl (nf dg))), (o_token, .inl (c_token, 61, .inl (nf tk)))] := hD
  refine lv_iconst (v := 1) hx hb d_O_takeDraft_5 (by decide) ?_
  refine lv_istore_n hx hb d_O_takeDraft_6 rfl hl (by decide) rfl (fun ls hl => ?_)
  have hl : lv_has ls 4 [(1, .int 1), (0, .ref g)] := hl
  refine lv_iconst (v := 0) hx hb d_O_takeDraft_7 (by decide) ?_
  refine lv_istore_n hx hb d_O_takeDraft_8 rfl hl (by decide) rfl (fun ls hl => ?_)
  have hl : lv_has ls 4 [(2, .int 0), (1, .int 1), (0, .ref g)] := hl
  have hl : lv_has ls 4 [(2, .int (nI 0)), (1, .int (nI 1)), (0, .ref g)] := hl
  have hP : va_P D wcl [(g, .inr (8, [.int v_code, .int (nI n), .ref o_draft, .int (nI 0), .ref o_token, .int v_rules, .ref o_macro, .ref o_patternSize, .ref o_pattern, .ref o_templateSize, .ref o_template, .ref o_singles, .ref o_manies, .int v_deep, .ref o_begins, .ref o_hasTilde, .int v_item, .int v_itemTilde, .int v_single, .int v_many, .ref o_covered, .int v_end, .ref o_row, .int v_made, .ref o_fresh, .int v_nodes, .int v_lists, .int v_deepest, .int v_great, .ref o_where, .ref o_times, .ref o_places, .int v_open, .ref o_binds, .int v_bound, .ref o_names, .int v_pos, .int v_replaced, .int v_marks, .ref o_mark, .int v_fault, .int v_reached])), (o_draft, .inl (c_draft, 60, .inl (nf dg))), (o_token, .inl (c_token, 61, .inl (nf tk)))] H := hP
  have hD : va_D A [(g, .inr (8, [.int v_code, .int (nI n), .ref o_draft, .int (nI 0), .ref o_token, .int v_rules, .ref o_macro, .ref o_patternSize, .ref o_pattern, .ref o_templateSize, .ref o_template, .ref o_singles, .ref o_manies, .int v_deep, .ref o_begins, .ref o_hasTilde, .int v_item, .int v_itemTilde, .int v_single, .int v_many, .ref o_covered, .int v_end, .ref o_row, .int v_made, .ref o_fresh, .int v_nodes, .int v_lists, .int v_deepest, .int v_great, .ref o_where, .ref o_times, .ref o_places, .int v_open, .ref o_binds, .int v_bound, .ref o_names, .int v_pos, .int v_replaced, .int v_marks, .ref o_mark, .int v_fault, .int v_reached])), (o_draft, .inl (c_draft, 60, .inl (nf dg))), (o_token, .inl (c_token, 61, .inl (nf tk)))] := hD
  have key : ∀ (d : Nat) (i : Nat) (m1 : Nat) (tk1 : Nat → Nat) (gd1 : Nat) (H : Heap) (locs : List Loc) (ls : Array Slot), n - i < d → (i ≤ n) → (m1 ≤ i) → (gd1 < 2) → (td_go dg (n - i) i m1 tk1 gd1 = td_go dg n 0 0 tk 1) → va_P D wcl [(g, .inr (8, [.int v_code, .int (nI n), .ref o_draft, .int (nI m1), .ref o_token, .int v_rules, .ref o_macro, .ref o_patternSize, .ref o_pattern, .ref o_templateSize, .ref o_template, .ref o_singles, .ref o_manies, .int v_deep, .ref o_begins, .ref o_hasTilde, .int v_item, .int v_itemTilde, .int v_single, .int v_many, .ref o_covered, .int v_end, .ref o_row, .int v_made, .ref o_fresh, .int v_nodes, .int v_lists, .int v_deepest, .int v_great, .ref o_where, .ref o_times, .ref o_places, .int v_open, .ref o_binds, .int v_bound, .ref o_names, .int v_pos, .int v_replaced, .int v_marks, .ref o_mark, .int v_fault, .int v_reached])), (o_draft, .inl (c_draft, 60, .inl (nf dg))), (o_token, .inl (c_token, 61, .inl (nf tk1)))] H → va_D A [(g, .inr (8, [.int v_code, .int (nI n), .ref o_draft, .int (nI m1), .ref o_token, .int v_rules, .ref o_macro, .ref o_patternSize, .ref o_pattern, .ref o_templateSize, .ref o_template, .ref o_singles, .ref o_manies, .int v_deep, .ref o_begins, .ref o_hasTilde, .int v_item, .int v_itemTilde, .int v_single, .int v_many, .ref o_covered, .int v_end, .ref o_row, .int v_made, .ref o_fresh, .int v_nodes, .int v_lists, .int v_deepest, .int v_great, .ref o_where, .ref o_times, .ref o_places, .int v_open, .ref o_binds, .int v_bound, .ref o_names, .int v_pos, .int v_replaced, .int v_marks, .ref o_mark, .int v_fault, .int v_reached])), (o_draft, .inl (c_draft, 60, .inl (nf dg))), (o_token, .inl (c_token, 61, .inl (nf tk1)))] → va_S A s.heap H locs → lv_has ls 4 [(2, .int (nI i)), (1, .int (nI gd1)), (0, .ref g)] → W p l e (headSpec (Cond.code y_O_takeDraft b_O_takeDraft 4 (some .boolean) :: wal) ({ frames := 11, cells := 0, slots := 0, locals := 180 })).room s m ([.ref g] : List Value).toArray below meth c H locs 0 0 (MQ below (va_Qi (S := Nat × (Nat → Nat) × Nat) (fun r u => u.1 ≤ n ∧ u.2.2 < 2 ∧ r = nI u.2.2 ∧ td_go dg n 0 0 tk 1 = (u.1, u.2.1, u.2.2)) (fun u t9 => po D (A) ((fun u => [(g, .inr (8, [.int v_code, .int 0, .ref o_draft, .int (nI u.1), .ref o_token, .int v_rules, .ref o_macro, .ref o_patternSize, .ref o_pattern, .ref o_templateSize, .ref o_template, .ref o_singles, .ref o_manies, .int v_deep, .ref o_begins, .ref o_hasTilde, .int v_item, .int v_itemTilde, .int v_single, .int v_many, .ref o_covered, .int v_end, .ref o_row, .int v_made, .ref o_fresh, .int v_nodes, .int v_lists, .int v_deepest, .int v_great, .ref o_where, .ref o_times, .ref o_places, .int v_open, .ref o_binds, .int v_bound, .ref o_names, .int v_pos, .int v_replaced, .int v_marks, .ref o_mark, .int v_fault, .int v_reached])), (o_draft, .inl (c_draft, 60, .inl (nf dg))), (o_token, .inl (c_token, 61, .inl (nf (va_up u.2.1 u.1 0))))]) u) ((fun u => [(c_draft, .char), (c_token, .int)]) u) t9) (A)) ([.ref g] : List Value).toArray s 0 0 A) (F0 m 9 ls []) := by
    intro d
    induction d with
    | zero => intro i m1 tk1 gd1 H locs ls hd; exact absurd hd (Nat.not_lt_zero _)
    | succ d ih =>
      intro i m1 tk1 gd1 H locs ls hd hi hm1 hg1 hv hP hD hS hl
      refine lv_iload_n hx hb d_O_takeDraft_9 rfl (lv_at hl 0 rfl) ?_
      refine lv_aload_n hx hb d_O_takeDraft_10 rfl (lv_at hl 2 rfl) ?_
      refine va_get (D := D) (ci := 8) (v := .int (nI n)) (C := rc_O) (T := ft_O) (N := 42) hx hb hts in_O hown hK hP 0 rfl rfl 1 (by decide) (hts _ k_656) (fun _ h9 => h9) rfl d_O_takeDraft_11 ?_
      refine lv_icmp_ge (tgt := 81) hx hb d_O_takeDraft_14 (by decide) (fun h1 => ?_) (fun h1 => ?_)
      · have h2 : ¬ i < n := fun h => absurd h1 (nI_ge h (by omega))
        have e0 : n - i = 0 := by omega
        rw [e0, td_go] at hv
        refine lv_aload_n hx hb d_O_takeDraft_81 rfl (lv_at hl 2 rfl) ?_
        refine lv_iconst (v := 0) hx hb d_O_takeDraft_82 (by decide) ?_
        refine va_put (D := D) (ci := 8) (v := .int 0) (ty := .int) (C := rc_O) (T := ft_O) (N := 42) hx hb hts in_O ty_O tk_O nm_O hown hK hP hD hS 0 rfl rfl 1 (by decide) (hts _ k_656) (fun _ h9 => h9) rfl (by decide +kernel) rfl rfl (Nat.le_of_ble_eq_true rfl) d_O_takeDraft_83 (fun H locs hP hD hS => ?_)
        have hP : va_P D wcl [(g, .inr (8, [.int v_code, .int 0, .ref o_draft, .int (nI m1), .ref o_token, .int v_rules, .ref o_macro, .ref o_patternSize, .ref o_pattern, .ref o_templateSize, .ref o_template, .ref o_singles, .ref o_manies, .int v_deep, .ref o_begins, .ref o_hasTilde, .int v_item, .int v_itemTilde, .int v_single, .int v_many, .ref o_covered, .int v_end, .ref o_row, .int v_made, .ref o_fresh, .int v_nodes, .int v_lists, .int v_deepest, .int v_great, .ref o_where, .ref o_times, .ref o_places, .int v_open, .ref o_binds, .int v_bound, .ref o_names, .int v_pos, .int v_replaced, .int v_marks, .ref o_mark, .int v_fault, .int v_reached])), (o_draft, .inl (c_draft, 60, .inl (nf dg))), (o_token, .inl (c_token, 61, .inl (nf tk1)))] H := hP
        have hD : va_D A [(g, .inr (8, [.int v_code, .int 0, .ref o_draft, .int (nI m1), .ref o_token, .int v_rules, .ref o_macro, .ref o_patternSize, .ref o_pattern, .ref o_templateSize, .ref o_template, .ref o_singles, .ref o_manies, .int v_deep, .ref o_begins, .ref o_hasTilde, .int v_item, .int v_itemTilde, .int v_single, .int v_many, .ref o_covered, .int v_end, .ref o_row, .int v_made, .ref o_fresh, .int v_nodes, .int v_lists, .int v_deepest, .int v_great, .ref o_where, .ref o_times, .ref o_places, .int v_open, .ref o_binds, .int v_bound, .ref o_names, .int v_pos, .int v_replaced, .int v_marks, .ref o_mark, .int v_fault, .int v_reached])), (o_draft, .inl (c_draft, 60, .inl (nf dg))), (o_token, .inl (c_token, 61, .inl (nf tk1)))] := hD
        refine lv_aload_n hx hb d_O_takeDraft_86 rfl (lv_at hl 2 rfl) ?_
        refine va_get (D := D) (ci := 8) (v := .ref o_token) (C := rc_O) (T := ft_O) (N := 42) hx hb hts in_O hown hK hP 0 rfl rfl 4 (by decide) (hts _ k_659) (fun _ h9 => h9) rfl d_O_takeDraft_87 ?_
        refine lv_aload_n hx hb d_O_takeDraft_90 rfl (lv_at hl 2 rfl) ?_
        refine va_get (D := D) (ci := 8) (v := .int (nI m1)) (C := rc_O) (T := ft_O) (N := 42) hx hb hts in_O hown hK hP 0 rfl rfl 3 (by decide) (hts _ k_658) (fun _ h9 => h9) rfl d_O_takeDraft_91 ?_
        refine lv_iconst (v := 0) hx hb d_O_takeDraft_94 (by decide) ?_
        refine va_iast hx hb hK hP hD hS 2 1 rfl rfl (vp_in_nI (show m1 < 61 by omega) (by decide)) d_O_takeDraft_95 (fun H locs hP hD hS => ?_)
        have hP : va_P D wcl [(g, .inr (8, [.int v_code, .int 0, .ref o_draft, .int (nI m1), .ref o_token, .int v_rules, .ref o_macro, .ref o_patternSize, .ref o_pattern, .ref o_templateSize, .ref o_template, .ref o_singles, .ref o_manies, .int v_deep, .ref o_begins, .ref o_hasTilde, .int v_item, .int v_itemTilde, .int v_single, .int v_many, .ref o_covered, .int v_end, .ref o_row, .int v_made, .ref o_fresh, .int v_nodes, .int v_lists, .int v_deepest, .int v_great, .ref o_where, .ref o_times, .ref o_places, .int v_open, .ref o_binds, .int v_bound, .ref o_names, .int v_pos, .int v_replaced, .int v_marks, .ref o_mark, .int v_fault, .int v_reached])), (o_draft, .inl (c_draft, 60, .inl (nf dg))), (o_token, .inl (c_token, 61, .inl (upd (nf tk1) (nI m1).toNatClampNeg (nI 0))))] H := hP
        have hD : va_D A [(g, .inr (8, [.int v_code, .int 0, .ref o_draft, .int (nI m1), .ref o_token, .int v_rules, .ref o_macro, .ref o_patternSize, .ref o_pattern, .ref o_templateSize, .ref o_template, .ref o_singles, .ref o_manies, .int v_deep, .ref o_begins, .ref o_hasTilde, .int v_item, .int v_itemTilde, .int v_single, .int v_many, .ref o_covered, .int v_end, .ref o_row, .int v_made, .ref o_fresh, .int v_nodes, .int v_lists, .int v_deepest, .int v_great, .ref o_where, .ref o_times, .ref o_places, .int v_open, .ref o_binds, .int v_bound, .ref o_names, .int v_pos, .int v_replaced, .int v_marks, .ref o_mark, .int v_fault, .int v_reached])), (o_draft, .inl (c_draft, 60, .inl (nf dg))), (o_token, .inl (c_token, 61, .inl (upd (nf tk1) (nI m1).toNatClampNeg (nI 0))))] := hD
        rw [nf_upi tk1 (Nat.lt_trans (show m1 < 61 by omega) (by decide))] at hP hD
        have hP : va_P D wcl [(g, .inr (8, [.int v_code, .int 0, .ref o_draft, .int (nI m1), .ref o_token, .int v_rules, .ref o_macro, .ref o_patternSize, .ref o_pattern, .ref o_templateSize, .ref o_template, .ref o_singles, .ref o_manies, .int v_deep, .ref o_begins, .ref o_hasTilde, .int v_item, .int v_itemTilde, .int v_single, .int v_many, .ref o_covered, .int v_end, .ref o_row, .int v_made, .ref o_fresh, .int v_nodes, .int v_lists, .int v_deepest, .int v_great, .ref o_where, .ref o_times, .ref o_places, .int v_open, .ref o_binds, .int v_bound, .ref o_names, .int v_pos, .int v_replaced, .int v_marks, .ref o_mark, .int v_fault, .int v_reached])), (o_draft, .inl (c_draft, 60, .inl (nf dg))), (o_token, .inl (c_token, 61, .inl (nf (va_up tk1 m1 0))))] H := hP
        have hD : va_D A [(g, .inr (8, [.int v_code, .int 0, .ref o_draft, .int (nI m1), .ref o_token, .int v_rules, .ref o_macro, .ref o_patternSize, .ref o_pattern, .ref o_templateSize, .ref o_template, .ref o_singles, .ref o_manies, .int v_deep, .ref o_begins, .ref o_hasTilde, .int v_item, .int v_itemTilde, .int v_single, .int v_many, .ref o_covered, .int v_end, .ref o_row, .int v_made, .ref o_fresh, .int v_nodes, .int v_lists, .int v_deepest, .int v_great, .ref o_where, .ref o_times, .ref o_places, .int v_open, .ref o_binds, .int v_bound, .ref o_names, .int v_pos, .int v_replaced, .int v_marks, .ref o_mark, .int v_fault, .int v_reached])), (o_draft, .inl (c_draft, 60, .inl (nf dg))), (o_token, .inl (c_token, 61, .inl (nf (va_up tk1 m1 0))))] := hD
        refine lv_iload_n hx hb d_O_takeDraft_96 rfl (lv_at hl 1 rfl) ?_
        have hP9 := hP.sub (ws' := [(g, .inr (8, [.int v_code, .int 0, .ref o_draft, .int (nI m1), .ref o_token, .int v_rules, .ref o_macro, .ref o_patternSize, .ref o_pattern, .ref o_templateSize, .ref o_template, .ref o_singles, .ref o_manies, .int v_deep, .ref o_begins, .ref o_hasTilde, .int v_item, .int v_itemTilde, .int v_single, .int v_many, .ref o_covered, .int v_end, .ref o_row, .int v_made, .ref o_fresh, .int v_nodes, .int v_lists, .int v_deepest, .int v_great, .ref o_where, .ref o_times, .ref o_places, .int v_open, .ref o_binds, .int v_bound, .ref o_names, .int v_pos, .int v_replaced, .int v_marks, .ref o_mark, .int v_fault, .int v_reached])), (o_draft, .inl (c_draft, 60, .inl (nf dg))), (o_token, .inl (c_token, 61, .inl (nf (va_up tk1 m1 0))))]) [0, 1, 2] rfl
        have hD9 := hD.sub (ws' := [(g, .inr (8, [.int v_code, .int 0, .ref o_draft, .int (nI m1), .ref o_token, .int v_rules, .ref o_macro, .ref o_patternSize, .ref o_pattern, .ref o_templateSize, .ref o_template, .ref o_singles, .ref o_manies, .int v_deep, .ref o_begins, .ref o_hasTilde, .int v_item, .int v_itemTilde, .int v_single, .int v_many, .ref o_covered, .int v_end, .ref o_row, .int v_made, .ref o_fresh, .int v_nodes, .int v_lists, .int v_deepest, .int v_great, .ref o_where, .ref o_times, .ref o_places, .int v_open, .ref o_binds, .int v_bound, .ref o_names, .int v_pos, .int v_replaced, .int v_marks, .ref o_mark, .int v_fault, .int v_reached])), (o_draft, .inl (c_draft, 60, .inl (nf dg))), (o_token, .inl (c_token, 61, .inl (nf (va_up tk1 m1 0))))]) [0, 1, 2] (by decide) rfl
        have hK9 := hK.sub (tys' := [(c_draft, .char), (c_token, .int)]) [0, 1] rfl
        exact W.zret (v := (nI gd1)) hx hb hr (nar_bz hg1) (fun t9 ht hW => ⟨⟨(nI gd1), (m1, tk1, gd1), rfl, ⟨by show m1 ≤ n; omega, hg1, rfl, hv.symm⟩, ⟨by rw [ht]; exact hP9, va_K.moved hW.alike hK9, hD9⟩⟩, hS.F ht⟩) hS.2.2 d_O_takeDraft_97
      · have h2 : i < n := Nat.not_le.mp (fun h => h1 (nI_le h (by omega)))
        obtain ⟨k9, hk9⟩ : ∃ k9, n - i = k9 + 1 := ⟨n - i - 1, by omega⟩
        have ek : n - (i + 1) = k9 := by omega
        rw [hk9, td_go] at hv
        refine lv_aload_n hx hb d_O_takeDraft_17 rfl (lv_at hl 2 rfl) ?_
        refine va_get (D := D) (ci := 8) (v := .ref o_draft) (C := rc_O) (T := ft_O) (N := 42) hx hb hts in_O hown hK hP 0 rfl rfl 2 (by decide) (hts _ k_657) (fun _ h9 => h9) rfl d_O_takeDraft_18 ?_
        refine lv_iload_n hx hb d_O_takeDraft_21 rfl (lv_at hl 0 rfl) ?_
        refine va_cald hx hb hK hP 1 0 rfl rfl (vp_in_nI (show i < 60 by omega) (by decide)) d_O_takeDraft_22 ?_
        refine lv_topi (fun z9 ez9 => ?_)
        have ez9 : z9 = (nI (dg i)) := ez9.trans (nf_at _ (Nat.lt_trans (show i < 60 by omega) (by decide)))
        subst ez9
        refine lv_bipush (v := 32) hx hb d_O_takeDraft_23 (by decide) ?_
        refine lv_icmp_ne (tgt := 31) hx hb d_O_takeDraft_25 (by decide) (fun h3 => ?_) (fun h3 => ?_)
        · have g1 : ¬ dg i = 32 := fun q => h3 (by rw [q]; rfl)
          rw [if_neg g1] at hv
          refine lv_aload_n hx hb d_O_takeDraft_31 rfl (lv_at hl 2 rfl) ?_
          refine va_get (D := D) (ci := 8) (v := .ref o_draft) (C := rc_O) (T := ft_O) (N := 42) hx hb hts in_O hown hK hP 0 rfl rfl 2 (by decide) (hts _ k_657) (fun _ h9 => h9) rfl d_O_takeDraft_32 ?_
          refine lv_iload_n hx hb d_O_takeDraft_35 rfl (lv_at hl 0 rfl) ?_
          refine va_cald hx hb hK hP 1 0 rfl rfl (vp_in_nI (show i < 60 by omega) (by decide)) d_O_takeDraft_36 ?_
          refine lv_topi (fun z9 ez9 => ?_)
          have ez9 : z9 = (nI (dg i)) := ez9.trans (nf_at _ (Nat.lt_trans (show i < 60 by omega) (by decide)))
          subst ez9
          refine cl_i (wc := []) (wr := [(g, .inr (8, [.int v_code, .int (nI n), .ref o_draft, .int (nI m1), .ref o_token, .int v_rules, .ref o_macro, .ref o_patternSize, .ref o_pattern, .ref o_templateSize, .ref o_template, .ref o_singles, .ref o_manies, .int v_deep, .ref o_begins, .ref o_hasTilde, .int v_item, .int v_itemTilde, .int v_single, .int v_many, .ref o_covered, .int v_end, .ref o_row, .int v_made, .ref o_fresh, .int v_nodes, .int v_lists, .int v_deepest, .int v_great, .ref o_where, .ref o_times, .ref o_places, .int v_open, .ref o_binds, .int v_bound, .ref o_names, .int v_pos, .int v_replaced, .int v_marks, .ref o_mark, .int v_fault, .int v_reached])), (o_draft, .inl (c_draft, 60, .inl (nf dg))), (o_token, .inl (c_token, 61, .inl (nf tk1)))]) hP hD hK hS hA [] [0, 1, 2] rfl rfl (by decide) (by decide) (va_runS (As := [.int (nI (dg i))]) (rest := []) ⟨hx, hb, hml, hown, hts⟩ (c_O_tokenOf l D H.size (dg i) (hdg i)) (cw_S hts 1 k_800 k_9 k_798 k_799 (by decide +kernel) ⟨Nat.le_of_ble_eq_true rfl, Nat.le_of_ble_eq_true rfl⟩) (pr_S hP hD hK [] [] (by decide) rfl rfl (fun U hU hW => trivial) (fun U g mk a h => h)) rfl rfl hl.1 rfl (lv_room (Nat.le_of_ble_eq_true rfl)) d_O_takeDraft_37 ⟨by decide, by decide⟩) (fun r2 u H locs h1 hP hD hK hS => ?_)
          have hP : va_P D wcl [(g, .inr (8, [.int v_code, .int (nI n), .ref o_draft, .int (nI m1), .ref o_token, .int v_rules, .ref o_macro, .ref o_patternSize, .ref o_pattern, .ref o_templateSize, .ref o_template, .ref o_singles, .ref o_manies, .int v_deep, .ref o_begins, .ref o_hasTilde, .int v_item, .int v_itemTilde, .int v_single, .int v_many, .ref o_covered, .int v_end, .ref o_row, .int v_made, .ref o_fresh, .int v_nodes, .int v_lists, .int v_deepest, .int v_great, .ref o_where, .ref o_times, .ref o_places, .int v_open, .ref o_binds, .int v_bound, .ref o_names, .int v_pos, .int v_replaced, .int v_marks, .ref o_mark, .int v_fault, .int v_reached])), (o_draft, .inl (c_draft, 60, .inl (nf dg))), (o_token, .inl (c_token, 61, .inl (nf tk1)))] H := hP
          have hD : va_D A [(g, .inr (8, [.int v_code, .int (nI n), .ref o_draft, .int (nI m1), .ref o_token, .int v_rules, .ref o_macro, .ref o_patternSize, .ref o_pattern, .ref o_templateSize, .ref o_template, .ref o_singles, .ref o_manies, .int v_deep, .ref o_begins, .ref o_hasTilde, .int v_item, .int v_itemTilde, .int v_single, .int v_many, .ref o_covered, .int v_end, .ref o_row, .int v_made, .ref o_fresh, .int v_nodes, .int v_lists, .int v_deepest, .int v_great, .ref o_where, .ref o_times, .ref o_places, .int v_open, .ref o_binds, .int v_bound, .ref o_names, .int v_pos, .int v_replaced, .int v_marks, .ref o_mark, .int v_fault, .int v_reached])), (o_draft, .inl (c_draft, 60, .inl (nf dg))), (o_token, .inl (c_token, 61, .inl (nf tk1)))] := hD
          have hK : va_K D wcl [(c_draft, .char), (c_token, .int)] s := hK
          have h1 : r2 = nI (o_tk (dg i)) := h1
          subst h1
          have hP := hP.sub (ws' := [(g, .inr (8, [.int v_code, .int (nI n), .ref o_draft, .int (nI m1), .ref o_token, .int v_rules, .ref o_macro, .ref o_patternSize, .ref o_pattern, .ref o_templateSize, .ref o_template, .ref o_singles, .ref o_manies, .int v_deep, .ref o_begins, .ref o_hasTilde, .int v_item, .int v_itemTilde, .int v_single, .int v_many, .ref o_covered, .int v_end, .ref o_row, .int v_made, .ref o_fresh, .int v_nodes, .int v_lists, .int v_deepest, .int v_great, .ref o_where, .ref o_times, .ref o_places, .int v_open, .ref o_binds, .int v_bound, .ref o_names, .int v_pos, .int v_replaced, .int v_marks, .ref o_mark, .int v_fault, .int v_reached])), (o_draft, .inl (c_draft, 60, .inl (nf dg))), (o_token, .inl (c_token, 61, .inl (nf tk1)))]) [0, 1, 2] rfl
          have hD := hD.sub (ws' := [(g, .inr (8, [.int v_code, .int (nI n), .ref o_draft, .int (nI m1), .ref o_token, .int v_rules, .ref o_macro, .ref o_patternSize, .ref o_pattern, .ref o_templateSize, .ref o_template, .ref o_singles, .ref o_manies, .int v_deep, .ref o_begins, .ref o_hasTilde, .int v_item, .int v_itemTilde, .int v_single, .int v_many, .ref o_covered, .int v_end, .ref o_row, .int v_made, .ref o_fresh, .int v_nodes, .int v_lists, .int v_deepest, .int v_great, .ref o_where, .ref o_times, .ref o_places, .int v_open, .ref o_binds, .int v_bound, .ref o_names, .int v_pos, .int v_replaced, .int v_marks, .ref o_mark, .int v_fault, .int v_reached])), (o_draft, .inl (c_draft, 60, .inl (nf dg))), (o_token, .inl (c_token, 61, .inl (nf tk1)))]) [0, 1, 2] (by decide) rfl
          have hK := hK.sub (tys' := [(c_draft, .char), (c_token, .int)]) [0, 1] rfl
          have ht := o_tk_lt (hdg i)
          refine lv_istore_n hx hb d_O_takeDraft_40 rfl hl (by decide) rfl (fun ls hl => ?_)
          have hl : lv_has ls 4 [(3, .int (nI (o_tk (dg i)))), (2, .int (nI i)), (1, .int (nI gd1)), (0, .ref g)] := hl
          refine lv_iload_n hx hb d_O_takeDraft_41 rfl (lv_at hl 2 rfl) ?_
          have mg : ∀ (gg : Nat) (H : Heap) (locs : List Loc) (ls : Array Slot), (gg < 2) → (gg = if gd1 = 0 ∨ o_tk (dg i) = 0 then 0 else 1) → va_P D wcl [(g, .inr (8, [.int v_code, .int (nI n), .ref o_draft, .int (nI m1), .ref o_token, .int v_rules, .ref o_macro, .ref o_patternSize, .ref o_pattern, .ref o_templateSize, .ref o_template, .ref o_singles, .ref o_manies, .int v_deep, .ref o_begins, .ref o_hasTilde, .int v_item, .int v_itemTilde, .int v_single, .int v_many, .ref o_covered, .int v_end, .ref o_row, .int v_made, .ref o_fresh, .int v_nodes, .int v_lists, .int v_deepest, .int v_great, .ref o_where, .ref o_times, .ref o_places, .int v_open, .ref o_binds, .int v_bound, .ref o_names, .int v_pos, .int v_replaced, .int v_marks, .ref o_mark, .int v_fault, .int v_reached])), (o_draft, .inl (c_draft, 60, .inl (nf dg))), (o_token, .inl (c_token, 61, .inl (nf tk1)))] H → va_D A [(g, .inr (8, [.int v_code, .int (nI n), .ref o_draft, .int (nI m1), .ref o_token, .int v_rules, .ref o_macro, .ref o_patternSize, .ref o_pattern, .ref o_templateSize, .ref o_template, .ref o_singles, .ref o_manies, .int v_deep, .ref o_begins, .ref o_hasTilde, .int v_item, .int v_itemTilde, .int v_single, .int v_many, .ref o_covered, .int v_end, .ref o_row, .int v_made, .ref o_fresh, .int v_nodes, .int v_lists, .int v_deepest, .int v_great, .ref o_where, .ref o_times, .ref o_places, .int v_open, .ref o_binds, .int v_bound, .ref o_names, .int v_pos, .int v_replaced, .int v_marks, .ref o_mark, .int v_fault, .int v_reached])), (o_draft, .inl (c_draft, 60, .inl (nf dg))), (o_token, .inl (c_token, 61, .inl (nf tk1)))] → va_S A s.heap H locs → lv_has ls 4 [(3, .int (nI (o_tk (dg i)))), (2, .int (nI i)), (1, .int (nI gd1)), (0, .ref g)] → W p l e (headSpec (Cond.code y_O_takeDraft b_O_takeDraft 4 (some .boolean) :: wal) ({ frames := 11, cells := 0, slots := 0, locals := 180 })).room s m ([.ref g] : List Value).toArray below meth c H locs 0 0 (MQ below (va_Qi (S := Nat × (Nat → Nat) × Nat) (fun r u => u.1 ≤ n ∧ u.2.2 < 2 ∧ r = nI u.2.2 ∧ td_go dg n 0 0 tk 1 = (u.1, u.2.1, u.2.2)) (fun u t9 => po D (A) ((fun u => [(g, .inr (8, [.int v_code, .int 0, .ref o_draft, .int (nI u.1), .ref o_token, .int v_rules, .ref o_macro, .ref o_patternSize, .ref o_pattern, .ref o_templateSize, .ref o_template, .ref o_singles, .ref o_manies, .int v_deep, .ref o_begins, .ref o_hasTilde, .int v_item, .int v_itemTilde, .int v_single, .int v_many, .ref o_covered, .int v_end, .ref o_row, .int v_made, .ref o_fresh, .int v_nodes, .int v_lists, .int v_deepest, .int v_great, .ref o_where, .ref o_times, .ref o_places, .int v_open, .ref o_binds, .int v_bound, .ref o_names, .int v_pos, .int v_replaced, .int v_marks, .ref o_mark, .int v_fault, .int v_reached])), (o_draft, .inl (c_draft, 60, .inl (nf dg))), (o_token, .inl (c_token, 61, .inl (nf (va_up u.2.1 u.1 0))))]) u) ((fun u => [(c_draft, .char), (c_token, .int)]) u) t9) (A)) ([.ref g] : List Value).toArray s 0 0 A) (F0 m 54 ls [.int (nI gg)]) := by
            intro gg H locs ls hg2 hgg hP hD hS hl
            rw [← hgg] at hv
            refine lv_istore_n hx hb d_O_takeDraft_54 rfl hl (by decide) rfl (fun ls hl => ?_)
            have hl : lv_has ls 4 [(1, .int (nI gg)), (3, .int (nI (o_tk (dg i)))), (2, .int (nI i)), (0, .ref g)] := hl
            refine lv_aload_n hx hb d_O_takeDraft_55 rfl (lv_at hl 3 rfl) ?_
            refine va_get (D := D) (ci := 8) (v := .ref o_token) (C := rc_O) (T := ft_O) (N := 42) hx hb hts in_O hown hK hP 0 rfl rfl 4 (by decide) (hts _ k_659) (fun _ h9 => h9) rfl d_O_takeDraft_56 ?_
            refine lv_aload_n hx hb d_O_takeDraft_59 rfl (lv_at hl 3 rfl) ?_
            refine va_get (D := D) (ci := 8) (v := .int (nI m1)) (C := rc_O) (T := ft_O) (N := 42) hx hb hts in_O hown hK hP 0 rfl rfl 3 (by decide) (hts _ k_658) (fun _ h9 => h9) rfl d_O_takeDraft_60 ?_
            refine lv_iload_n hx hb d_O_takeDraft_63 rfl (lv_at hl 1 rfl) ?_
            refine va_iast hx hb hK hP hD hS 2 1 rfl rfl (vp_in_nI (show m1 < 61 by omega) (by decide)) d_O_takeDraft_64 (fun H locs hP hD hS => ?_)
            have hP : va_P D wcl [(g, .inr (8, [.int v_code, .int (nI n), .ref o_draft, .int (nI m1), .ref o_token, .int v_rules, .ref o_macro, .ref o_patternSize, .ref o_pattern, .ref o_templateSize, .ref o_template, .ref o_singles, .ref o_manies, .int v_deep, .ref o_begins, .ref o_hasTilde, .int v_item, .int v_itemTilde, .int v_single, .int v_many, .ref o_covered, .int v_end, .ref o_row, .int v_made, .ref o_fresh, .int v_nodes, .int v_lists, .int v_deepest, .int v_great, .ref o_where, .ref o_times, .ref o_places, .int v_open, .ref o_binds, .int v_bound, .ref o_names, .int v_pos, .int v_replaced, .int v_marks, .ref o_mark, .int v_fault, .int v_reached])), (o_draft, .inl (c_draft, 60, .inl (nf dg))), (o_token, .inl (c_token, 61, .inl (upd (nf tk1) (nI m1).toNatClampNeg (nI (o_tk (dg i))))))] H := hP
            have hD : va_D A [(g, .inr (8, [.int v_code, .int (nI n), .ref o_draft, .int (nI m1), .ref o_token, .int v_rules, .ref o_macro, .ref o_patternSize, .ref o_pattern, .ref o_templateSize, .ref o_template, .ref o_singles, .ref o_manies, .int v_deep, .ref o_begins, .ref o_hasTilde, .int v_item, .int v_itemTilde, .int v_single, .int v_many, .ref o_covered, .int v_end, .ref o_row, .int v_made, .ref o_fresh, .int v_nodes, .int v_lists, .int v_deepest, .int v_great, .ref o_where, .ref o_times, .ref o_places, .int v_open, .ref o_binds, .int v_bound, .ref o_names, .int v_pos, .int v_replaced, .int v_marks, .ref o_mark, .int v_fault, .int v_reached])), (o_draft, .inl (c_draft, 60, .inl (nf dg))), (o_token, .inl (c_token, 61, .inl (upd (nf tk1) (nI m1).toNatClampNeg (nI (o_tk (dg i))))))] := hD
            rw [nf_upi tk1 (Nat.lt_trans (show m1 < 61 by omega) (by decide))] at hP hD
            have hP : va_P D wcl [(g, .inr (8, [.int v_code, .int (nI n), .ref o_draft, .int (nI m1), .ref o_token, .int v_rules, .ref o_macro, .ref o_patternSize, .ref o_pattern, .ref o_templateSize, .ref o_template, .ref o_singles, .ref o_manies, .int v_deep, .ref o_begins, .ref o_hasTilde, .int v_item, .int v_itemTilde, .int v_single, .int v_many, .ref o_covered, .int v_end, .ref o_row, .int v_made, .ref o_fresh, .int v_nodes, .int v_lists, .int v_deepest, .int v_great, .ref o_where, .ref o_times, .ref o_places, .int v_open, .ref o_binds, .int v_bound, .ref o_names, .int v_pos, .int v_replaced, .int v_marks, .ref o_mark, .int v_fault, .int v_reached])), (o_draft, .inl (c_draft, 60, .inl (nf dg))), (o_token, .inl (c_token, 61, .inl (nf (va_up tk1 m1 (o_tk (dg i))))))] H := hP
            have hD : va_D A [(g, .inr (8, [.int v_code, .int (nI n), .ref o_draft, .int (nI m1), .ref o_token, .int v_rules, .ref o_macro, .ref o_patternSize, .ref o_pattern, .ref o_templateSize, .ref o_template, .ref o_singles, .ref o_manies, .int v_deep, .ref o_begins, .ref o_hasTilde, .int v_item, .int v_itemTilde, .int v_single, .int v_many, .ref o_covered, .int v_end, .ref o_row, .int v_made, .ref o_fresh, .int v_nodes, .int v_lists, .int v_deepest, .int v_great, .ref o_where, .ref o_times, .ref o_places, .int v_open, .ref o_binds, .int v_bound, .ref o_names, .int v_pos, .int v_replaced, .int v_marks, .ref o_mark, .int v_fault, .int v_reached])), (o_draft, .inl (c_draft, 60, .inl (nf dg))), (o_token, .inl (c_token, 61, .inl (nf (va_up tk1 m1 (o_tk (dg i))))))] := hD
            refine lv_aload_n hx hb d_O_takeDraft_65 rfl (lv_at hl 3 rfl) ?_
            refine lv_dup hx hb d_O_takeDraft_66 rfl ?_
            refine va_get (D := D) (ci := 8) (v := .int (nI m1)) (C := rc_O) (T := ft_O) (N := 42) hx hb hts in_O hown hK hP 0 rfl rfl 3 (by decide) (hts _ k_658) (fun _ h9 => h9) rfl d_O_takeDraft_67 ?_
            refine lv_iconst (v := 1) hx hb d_O_takeDraft_70 (by decide) ?_
            refine lv_iadd hx hb d_O_takeDraft_71 ?_
            refine lv_topi (fun z9 ez9 => ?_)
            have ez9 : z9 = (nI (m1 + 1)) := ez9.trans (nI_1 _)
            subst ez9
            refine va_put (D := D) (ci := 8) (v := .int (nI (m1 + 1))) (ty := .int) (C := rc_O) (T := ft_O) (N := 42) hx hb hts in_O ty_O tk_O nm_O hown hK hP hD hS 0 rfl rfl 3 (by decide) (hts _ k_658) (fun _ h9 => h9) rfl (by decide +kernel) rfl rfl (Nat.le_of_ble_eq_true rfl) d_O_takeDraft_72 (fun H locs hP hD hS => ?_)
            have hP : va_P D wcl [(g, .inr (8, [.int v_code, .int (nI n), .ref o_draft, .int (nI (m1 + 1)), .ref o_token, .int v_rules, .ref o_macro, .ref o_patternSize, .ref o_pattern, .ref o_templateSize, .ref o_template, .ref o_singles, .ref o_manies, .int v_deep, .ref o_begins, .ref o_hasTilde, .int v_item, .int v_itemTilde, .int v_single, .int v_many, .ref o_covered, .int v_end, .ref o_row, .int v_made, .ref o_fresh, .int v_nodes, .int v_lists, .int v_deepest, .int v_great, .ref o_where, .ref o_times, .ref o_places, .int v_open, .ref o_binds, .int v_bound, .ref o_names, .int v_pos, .int v_replaced, .int v_marks, .ref o_mark, .int v_fault, .int v_reached])), (o_draft, .inl (c_draft, 60, .inl (nf dg))), (o_token, .inl (c_token, 61, .inl (nf (va_up tk1 m1 (o_tk (dg i))))))] H := hP
            have hD : va_D A [(g, .inr (8, [.int v_code, .int (nI n), .ref o_draft, .int (nI (m1 + 1)), .ref o_token, .int v_rules, .ref o_macro, .ref o_patternSize, .ref o_pattern, .ref o_templateSize, .ref o_template, .ref o_singles, .ref o_manies, .int v_deep, .ref o_begins, .ref o_hasTilde, .int v_item, .int v_itemTilde, .int v_single, .int v_many, .ref o_covered, .int v_end, .ref o_row, .int v_made, .ref o_fresh, .int v_nodes, .int v_lists, .int v_deepest, .int v_great, .ref o_where, .ref o_times, .ref o_places, .int v_open, .ref o_binds, .int v_bound, .ref o_names, .int v_pos, .int v_replaced, .int v_marks, .ref o_mark, .int v_fault, .int v_reached])), (o_draft, .inl (c_draft, 60, .inl (nf dg))), (o_token, .inl (c_token, 61, .inl (nf (va_up tk1 m1 (o_tk (dg i))))))] := hD
            refine lv_iinc (k := 2) (v := nI (i + 1)) hx hb d_O_takeDraft_75 hl rfl (nI_1 i) (by decide) rfl (fun ls hl => ?_)
            have hl : lv_has ls 4 [(2, .int (nI (i + 1))), (1, .int (nI gg)), (3, .int (nI (o_tk (dg i)))), (0, .ref g)] := hl
            refine lv_goto (tgt := 9) hx hb d_O_takeDraft_78 (by decide) ?_
            have hl := lv_sub hl [0, 1, 3] rfl
            have hl : lv_has ls 4 [(2, .int (nI (i + 1))), (1, .int (nI gg)), (0, .ref g)] := hl
            exact ih (i + 1) (m1 + 1) (va_up tk1 m1 (o_tk (dg i))) gg H locs ls (by omega) (by omega) (by omega) (hg2) (by rw [ek]; exact hv) hP hD hS hl
          refine lv_if_eq (tgt := 53) hx hb d_O_takeDraft_42 (by decide) (fun h4 => ?_) (fun h4 => ?_)
          · have z1 : gd1 = 0 := nI_inj (b := 0) (by omega) (by decide) h4
            refine lv_iconst (v := 0) hx hb d_O_takeDraft_53 (by decide) ?_
            exact mg 0 H locs ls (by decide) ((if_pos (Or.inl z1)).symm) hP hD hS hl
          · have z1 : ¬ gd1 = 0 := fun q9 => h4 (by rw [q9]; rfl)
            refine lv_iload_n hx hb d_O_takeDraft_45 rfl (lv_at hl 0 rfl) ?_
            refine lv_if_eq (tgt := 53) hx hb d_O_takeDraft_46 (by decide) (fun h5 => ?_) (fun h5 => ?_)
            · have z2 : o_tk (dg i) = 0 := nI_inj (b := 0) (by omega) (by decide) h5
              refine lv_iconst (v := 0) hx hb d_O_takeDraft_53 (by decide) ?_
              exact mg 0 H locs ls (by decide) ((if_pos (Or.inr z2)).symm) hP hD hS hl
            · have z2 : ¬ o_tk (dg i) = 0 := fun q9 => h5 (by rw [q9]; rfl)
              refine lv_iconst (v := 1) hx hb d_O_takeDraft_49 (by decide) ?_
              refine lv_goto (tgt := 54) hx hb d_O_takeDraft_50 (by decide) ?_
              exact mg 1 H locs ls (by decide) ((if_neg (fun q9 => q9.elim z1 z2)).symm) hP hD hS hl
        · have g1 : dg i = 32 := (ceq (hdg i) (by decide)).mp h3
          rw [if_pos g1] at hv
          refine lv_goto (tgt := 75) hx hb d_O_takeDraft_28 (by decide) ?_
          refine lv_iinc (k := 0) (v := nI (i + 1)) hx hb d_O_takeDraft_75 hl rfl (nI_1 i) (by decide) rfl (fun ls hl => ?_)
          have hl : lv_has ls 4 [(2, .int (nI (i + 1))), (1, .int (nI gd1)), (0, .ref g)] := hl
          refine lv_goto (tgt := 9) hx hb d_O_takeDraft_78 (by decide) ?_
          have hl := lv_sub hl [0, 1, 2] rfl
          have hl : lv_has ls 4 [(2, .int (nI (i + 1))), (1, .int (nI gd1)), (0, .ref g)] := hl
          exact ih (i + 1) m1 tk1 gd1 H locs ls (by omega) (by omega) (by omega) (hg1) (by rw [ek]; exact hv) hP hD hS hl
  exact key _ 0 0 tk 1 H locs ls (Nat.lt_succ_self _) (Nat.zero_le _) (Nat.le_refl _) (by decide) (rfl) hP hD hS hl
