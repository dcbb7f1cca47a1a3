/-! The law's rounds: type, rules, replaced, mark, depth, forget. -/
theorem pmA {X wc wr Q M : va_W} (h : X.Perm (wc ++ wr)) : ((X ++ Q) ++ M).Perm (wc ++ ((wr ++ Q) ++ M)) := by
  have h2 := (h.append_right Q).append_right M
  rw [List.append_assoc wc wr Q, List.append_assoc wc (wr ++ Q) M] at h2
  exact h2
theorem pmO {X M O : va_W} : (X ++ (M ++ O)).Perm (M ++ (X ++ O)) := by
  have h : ((X ++ M) ++ O).Perm ((M ++ X) ++ O) := List.Perm.append_right O List.perm_append_comm
  rw [List.append_assoc, List.append_assoc] at h
  exact h
theorem SD_to {D : va_G} {A : Nat → Prop} {s : State} {X Y : va_W} {T T2 : List (ClassId × FieldType)} {H : Heap} {locs : List Loc} (hP : va_P D wcl X H) (hD : va_D A X) (hK : va_K D wcl (T ++ T2) s) (hS : va_S A s.heap H locs) (h : X.Perm Y) : SD D A s Y T H locs := ⟨hP.pm h, hD.pm h, hK.mem (fun q hq => List.mem_append_left _ hq), hS⟩
theorem i2c_lt (x : Int32) : ∃ c : Nat, c < 65536 ∧ (x.toUInt32 % 65536).toInt32 = nI c := by
  refine ⟨(x.toUInt32 % 65536).toNat, ?_, ?_⟩
  · have : (x.toUInt32 % 65536).toNat = x.toUInt32.toNat % 65536 := rfl
    rw [this]
    exact Nat.mod_lt _ (by decide)
  · generalize x.toUInt32 % 65536 = v
    rw [show nI v.toNat = (UInt32.ofNat v.toNat).toInt32 from rfl, UInt32.ofNat_toNat]
section LAW2
variable {p : Program} {l : Launch} {e : Env} {s : State} {m : MethodId} {below : List Frame} {meth : Method} {c : Code} {b L i : Nat} {xs : Nat → Int32} {A : Nat → Prop} {D : va_G} {P : Nat → Nat} {C : Nat → ClassId} {fr : Nat → Nat} {g oo : Nat} {ad : Nat → Nat} {ca : Nat → ClassId}
  {sgn : Nat → Nat} {dn dt : Nat} {rt : Nat → RSt} {n : Nat} {bf : Nat → Option Nat} {md ln : Nat} {mk : Nat → Int32} {y : TSt} {J : JS} {gs : OS} {fo : Nat → Int64} {H : Heap} {locs : List Loc} {ls : Array Slot} {cells slots : Nat}
set_option maxHeartbeats 4000000 in
set_option maxRecDepth 100000 in
theorem law_type (K : LC p l s m meth c b L xs A) (hd : HD p l e s m below meth c b A D P C fr g oo ad ca (i + 2)) (hs : SD D A s (LW P C fr g oo ad ca sgn dn dt rt n bf md ln mk y J gs fo) (LT C ca) H locs) (hl : SL sgn dn dt rt n bf md ln mk y J gs)
    (hv : lv_has ls 7 [(4, .int (nI i)), (3, .ref oo), (2, .ref g), (1, .ref (P 0)), (0, .ref b)]) (hi : i + 1 < L) : W p l e room_1 s m #[Value.ref b] below meth c H locs (200 + i) (20000 + 6 * i) (lw_Z below #[Value.ref b] s) (F0 m 84 ls []) := by
  obtain ⟨hx, hb, hr, hml, hown, hts, hX, hbl, hlocks, hA, hA2, hbA, hcx, hnc, htr, hL⟩ := id K
  obtain ⟨hP, hD, hK, hS⟩ := hs
  obtain ⟨hlr, hbf, hok, hy, hsm, hj⟩ := hl
  obtain ⟨le1, le2, _⟩ := LR_le hlr
  refine lv_aload_n hx hb d_L_law_84 rfl (lv_at hv 3 rfl) ?_
  refine lv_aload_n hx hb d_L_law_85 rfl (lv_at hv 4 rfl) ?_
  refine lv_iload hx hb d_L_law_86 (lv_at hv 0 rfl) ?_
  refine lv_iconst (v := 1) hx hb d_L_law_88 (by decide) ?_
  refine lv_iadd hx hb d_L_law_89 ?_
  refine lv_topi (fun z ez => ?_)
  have ez : z = nI (i + 1) := ez.trans (nI_1 i)
  subst ez
  refine va_sld hx hb hX hbl hbA hS (vp_in_nI (n := i + 1) (N := L) hi (by omega)) d_L_law_90 ?_
  obtain ⟨kc, hkc⟩ : ∃ kc, kc = ((xs (nI (i + 1)).toNatClampNeg).toUInt32 % 65536).toInt32 := ⟨_, rfl⟩
  refine lv_i2c (v := kc) hx hb d_L_law_91 hkc.symm ?_
  have hpm : (LW P C fr g oo ad ca sgn dn dt rt n bf md ln mk y J gs fo).Perm (W3 P C sgn dn dt ++ ((W17 P C fr n bf md ln mk y J ++ (WR C rt ++ WF C fr J)) ++ (MO g ad ca gs ++ WO C oo fo))) := pmA (List.Perm.refl _)
  refine cl_iG (wc := W3 P C sgn dn dt) (wr := (W17 P C fr n bf md ln mk y J ++ (WR C rt ++ WF C fr J)) ++ (MO g ad ca gs ++ WO C oo fo)) hP hD hK hS hA hpm (va_runV (As := [.int kc]) (rest := []) ⟨hx, hb, hml, hown, hts⟩ (c_F_type l D H.size (P 0) (P 1) (P 15) (P 3) (P 2) (C 2) (nf sgn) dn dt kc le1 le2) (cw_V hts 1 k_195 k_1 k_192 k_193 k_194 (by decide +kernel) ⟨Nat.le_of_ble_eq_true rfl, Nat.le_of_ble_eq_true rfl⟩) (pr_VG hP hD hK hpm [0] rfl (fun U hU hW => trivial) (fun U g mk a h => h) (q0 := 0) (ci := 7) rfl rfl) rfl rfl hv.1 rfl (lv_room (Nat.le_of_ble_eq_true rfl)) d_L_law_92 ⟨by show 200 + i + 0 ≤ 601024; omega, by show 20000 + 6 * i + 0 ≤ 7293034; omega⟩) (fun r u H locs hq hP hD hK hS => ?_)
  obtain ⟨g2, sgn2, hrf, hu, hlr2⟩ := S_type (F := 5000) hlr hq
  obtain ⟨hP, hD, hK, hS⟩ : SD D A s (LW P C fr g oo ad ca sgn2 u.1 u.2.1 rt n bf md ln mk y J gs fo) (LT C ca) H locs := SD_to hP hD hK hS (by
    have e1 : ([(P 0, .inr (7, [.ref (P 1), .ref (P 15), .ref (P 3)])), (P 1, .inr (0, [.ref (P 2), .int (nI u.1), .int (nI u.2.1)])), (P 2, .inl (C 2, 60, .inl u.2.2))] : va_W) = W3 P C sgn2 u.1 u.2.1 := by rw [hu]; rfl
    show (_ ++ ([(P 0, .inr (7, [.ref (P 1), .ref (P 15), .ref (P 3)])), (P 1, .inr (0, [.ref (P 2), .int (nI u.1), .int (nI u.2.1)])), (P 2, .inl (C 2, 60, .inl u.2.2))] : va_W)).Perm _
    rw [e1]
    exact List.perm_append_comm.trans (List.Perm.symm (pmA (List.Perm.refl _))))
  refine lv_aload_n hx hb d_L_law_95 rfl (lv_at hv 2 rfl) ?_
  refine lv_aload_n hx hb d_L_law_96 rfl (lv_at hv 4 rfl) ?_
  refine lv_iload hx hb d_L_law_97 (lv_at hv 0 rfl) ?_
  refine lv_iconst (v := 1) hx hb d_L_law_99 (by decide) ?_
  refine lv_iadd hx hb d_L_law_100 ?_
  refine lv_topi (fun z ez => ?_)
  have ez : z = nI (i + 1) := ez.trans (nI_1 i)
  subst ez
  refine va_sld hx hb hX hbl hbA hS (vp_in_nI (n := i + 1) (N := L) hi (by omega)) d_L_law_101 ?_
  refine lv_i2c (v := kc) hx hb d_L_law_102 hkc.symm ?_
  have hpm : (LW P C fr g oo ad ca sgn2 u.1 u.2.1 rt n bf md ln mk y J gs fo).Perm (MO g ad ca gs ++ (((W3 P C sgn2 u.1 u.2.1 ++ W17 P C fr n bf md ln mk y J) ++ (WR C rt ++ WF C fr J)) ++ WO C oo fo)) := pmO
  refine cl_iG (wc := MO g ad ca gs) (wr := ((W3 P C sgn2 u.1 u.2.1 ++ W17 P C fr n bf md ln mk y J) ++ (WR C rt ++ WF C fr J)) ++ WO C oo fo) hP hD hK hS hA hpm (va_runV (As := [.int kc]) (rest := [.int r]) ⟨hx, hb, hml, hown, hts⟩ (a_type l D H.size g ad ca 5000 gs kc r g2 hrf) (cw_V hts 1 k_789 k_9 k_786 k_787 k_788 (by decide +kernel) ⟨Nat.le_of_ble_eq_true rfl, Nat.le_of_ble_eq_true rfl⟩) (pr_VG hP hD hK hpm [21, 22, 23, 24, 25, 26, 27, 28, 29, 30, 31, 32, 33, 34, 35, 36, 37, 38, 39, 40] rfl (fun U hU hW => trivial) (fun U g mk a h => h) (q0 := 0) (ci := 8) rfl rfl) rfl rfl hv.1 rfl (lv_room (Nat.le_of_ble_eq_true rfl)) d_L_law_103 ⟨by show 200 + i + 0 + 0 ≤ 601024; omega, by show 20000 + 6 * i + 0 + 0 ≤ 7293034; omega⟩) (fun r2 u2 H locs hq2 hP hD hK hS => ?_)
  refine lv_icmp_eq (tgt := 302) hx hb d_L_law_106 (by decide) (fun _ => ?_) (fun h9 => absurd hq2 h9)
  exact law_tail K hd (SD_to hP hD hK hS (List.perm_append_comm.trans (List.Perm.symm pmO))) ⟨hlr2, hbf, hok, hy, hsm, hj⟩ hv (by omega) (by omega)
end LAW2
