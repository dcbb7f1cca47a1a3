/-! The law's rounds: rules, replaced, mark, depth, forget. -/
def pk (X : va_W) (is : List Nat) : va_W := is.filterMap (fun i => X[i]?)
theorem pmB {X wc wr Q B M : va_W} (h : X.Perm (wc ++ wr)) : ((X ++ (Q ++ B)) ++ M).Perm ((wc ++ Q) ++ ((wr ++ B) ++ M)) := by
  have h2 := (pm_i4 (A := Q) (B := B) h).append_right M
  rw [List.append_assoc (wc ++ Q) (wr ++ B) M] at h2
  exact h2
section LAW3
variable {p : Program} {l : Launch} {e : Env} {s : State} {m : MethodId} {below : List Frame} {meth : Method} {c : Code} {b L i : Nat} {xs : Nat → Int32} {A : Nat → Prop} {D : va_G} {P : Nat → Nat} {C : Nat → ClassId} {fr : Nat → Nat} {g oo : Nat} {ad : Nat → Nat} {ca : Nat → ClassId}
  {sgn : Nat → Nat} {dn dt : Nat} {rt : Nat → RSt} {n : Nat} {bf : Nat → Option Nat} {md ln : Nat} {mk : Nat → Int32} {y : TSt} {J : JS} {gs : OS} {fo : Nat → Int64} {H : Heap} {locs : List Loc} {ls : Array Slot} {cells slots : Nat}
set_option maxHeartbeats 4000000 in
set_option maxRecDepth 100000 in
theorem law_rules (K : LC p l s m meth c b L xs A) (hd : HD p l e s m below meth c b A D P C fr g oo ad ca (i + 2)) (hs : SD D A s (LW P C fr g oo ad ca sgn dn dt rt n bf md ln mk y J gs fo) (LT C ca) H locs) (hl : SL sgn dn dt rt n bf md ln mk y J gs)
    (hv : lv_has ls 7 [(4, .int (nI i)), (3, .ref oo), (2, .ref g), (1, .ref (P 0)), (0, .ref b)]) (hi : i + 1 < L) : W p l e room_1 s m #[Value.ref b] below meth c H locs (200 + i) (20000 + 6 * i) (lw_Z below #[Value.ref b] s) (F0 m 182 ls []) := by
  obtain ⟨hx, hb, hr, hml, hown, hts, hX, hbl, hlocks, hA, hA2, hbA, hcx, hnc, htr, hL⟩ := id K
  obtain ⟨hP, hD, hK, hS⟩ := hs
  obtain ⟨hlr, hbf, hok, hy, hsm, hj⟩ := hl
  obtain ⟨le1, le2, le3, le4, le5, _⟩ := LR_le hlr
  refine lv_aload_n hx hb d_L_law_182 rfl (lv_at hv 3 rfl) ?_
  have hpm : (LW P C fr g oo ad ca sgn dn dt rt n bf md ln mk y J gs fo).Perm (([(P 0, .inr (7, [.ref (P 1), .ref (P 15), .ref (P 3)])), (P 15, .inr (5, [.ref (P 16), .int (nI n)]))] : va_W) ++ ((pk (W3 P C sgn dn dt ++ W17 P C fr n bf md ln mk y J) [1, 2, 3, 4, 5, 6, 7, 8, 9, 10, 11, 12, 13, 14, 16, 17, 18, 19] ++ (WR C rt ++ WF C fr J)) ++ (MO g ad ca gs ++ WO C oo fo))) := pmA (pm_ix 20 [0, 15] [1, 2, 3, 4, 5, 6, 7, 8, 9, 10, 11, 12, 13, 14, 16, 17, 18, 19] rfl rfl rfl (by decide))
  refine cl_iG (wc := [(P 0, .inr (7, [.ref (P 1), .ref (P 15), .ref (P 3)])), (P 15, .inr (5, [.ref (P 16), .int (nI n)]))]) (wr := (pk (W3 P C sgn dn dt ++ W17 P C fr n bf md ln mk y J) [1, 2, 3, 4, 5, 6, 7, 8, 9, 10, 11, 12, 13, 14, 16, 17, 18, 19] ++ (WR C rt ++ WF C fr J)) ++ (MO g ad ca gs ++ WO C oo fo)) hP hD hK hS hA hpm (va_runV (As := []) (rest := []) ⟨hx, hb, hml, hown, hts⟩ (c_F_rules l D H.size (P 0) (P 1) (P 15) (P 3) (P 16) (nI n)) (cw_V hts 0 k_219 k_1 k_216 k_217 k_218 (by decide +kernel) ⟨Nat.le_of_ble_eq_true rfl, Nat.le_of_ble_eq_true rfl⟩) (pr_VG hP hD hK hpm [] rfl (fun U hU hW => trivial) (fun U g mk a h => h) (q0 := 0) (ci := 7) rfl rfl) rfl rfl hv.1 rfl (lv_room (Nat.le_of_ble_eq_true rfl)) d_L_law_183 ⟨by show 200 + i + 0 ≤ 601024; omega, by show 20000 + 6 * i + 0 ≤ 7293034; omega⟩) (fun r u H locs hq hP hD hK hS => ?_)
  obtain ⟨hP, hD, hK, hS⟩ : SD D A s (LW P C fr g oo ad ca sgn dn dt rt n bf md ln mk y J gs fo) (LT C ca) H locs := SD_to hP hD hK hS (List.perm_append_comm.trans hpm.symm)
  have hq : r = nI n := hq
  refine lv_aload_n hx hb d_L_law_186 rfl (lv_at hv 2 rfl) ?_
  have hpm : (LW P C fr g oo ad ca sgn dn dt rt n bf md ln mk y J gs fo).Perm (MO g ad ca gs ++ (((W3 P C sgn dn dt ++ W17 P C fr n bf md ln mk y J) ++ (WR C rt ++ WF C fr J)) ++ WO C oo fo)) := pmO
  refine cl_iG (wc := MO g ad ca gs) (wr := ((W3 P C sgn dn dt ++ W17 P C fr n bf md ln mk y J) ++ (WR C rt ++ WF C fr J)) ++ WO C oo fo) hP hD hK hS hA hpm (va_runV (As := []) (rest := [.int r]) ⟨hx, hb, hml, hown, hts⟩ (a_rules l D H.size g ad ca 5000 gs (nI n) (sI gs 0 0) (S_rules hlr)) (cw_V hts 0 k_880 k_9 k_877 k_878 k_879 (by decide +kernel) ⟨Nat.le_of_ble_eq_true rfl, Nat.le_of_ble_eq_true rfl⟩) (pr_VG hP hD hK hpm [21, 22, 23, 24, 25, 26, 27, 28, 29, 30, 31, 32, 33, 34, 35, 36, 37, 38, 39, 40] rfl (fun U hU hW => trivial) (fun U g mk a h => h) (q0 := 0) (ci := 8) rfl rfl) rfl rfl hv.1 rfl (lv_room (Nat.le_of_ble_eq_true rfl)) d_L_law_187 ⟨by show 200 + i + 0 + 0 ≤ 601024; omega, by show 20000 + 6 * i + 0 + 0 ≤ 7293034; omega⟩) (fun r2 u2 H locs hq2 hP hD hK hS => ?_)
  refine lv_icmp_eq (tgt := 302) hx hb d_L_law_190 (by decide) (fun _ => ?_) (fun h9 => absurd (hq.trans hq2) h9)
  exact law_tail K hd (SD_to hP hD hK hS (List.perm_append_comm.trans (List.Perm.symm pmO))) ⟨LR_0 hlr, hbf, hok, hy, hsm, hj⟩ hv (by omega) (by omega)
set_option maxHeartbeats 4000000 in
set_option maxRecDepth 100000 in
theorem law_replaced (K : LC p l s m meth c b L xs A) (hd : HD p l e s m below meth c b A D P C fr g oo ad ca (i + 2)) (hs : SD D A s (LW P C fr g oo ad ca sgn dn dt rt n bf md ln mk y J gs fo) (LT C ca) H locs) (hl : SL sgn dn dt rt n bf md ln mk y J gs)
    (hv : lv_has ls 7 [(4, .int (nI i)), (3, .ref oo), (2, .ref g), (1, .ref (P 0)), (0, .ref b)]) (hi : i + 1 < L) : W p l e room_1 s m #[Value.ref b] below meth c H locs (200 + i) (20000 + 6 * i) (lw_Z below #[Value.ref b] s) (F0 m 251 ls []) := by
  obtain ⟨hx, hb, hr, hml, hown, hts, hX, hbl, hlocks, hA, hA2, hbA, hcx, hnc, htr, hL⟩ := id K
  obtain ⟨hP, hD, hK, hS⟩ := hs
  obtain ⟨hlr, hbf, hok, hy, hsm, hj⟩ := hl
  obtain ⟨le1, le2, le3, le4, le5, _⟩ := LR_le hlr
  refine lv_aload_n hx hb d_L_law_251 rfl (lv_at hv 3 rfl) ?_
  have hpm : (LW P C fr g oo ad ca sgn dn dt rt n bf md ln mk y J gs fo).Perm (([(P 0, .inr (7, [.ref (P 1), .ref (P 15), .ref (P 3)])), (P 3, .inr (1, [.ref (P 6), .ref (P 17), .ref (P 13), .ref (P 4), .ref (P 5), j_bk J, .int (nI (j_bd J)), .int (j_b7 J), .int (nI md)]))] : va_W) ++ ((pk (W3 P C sgn dn dt ++ W17 P C fr n bf md ln mk y J) [1, 2, 4, 5, 6, 7, 8, 9, 10, 11, 12, 13, 14, 15, 16, 17, 18, 19] ++ (WR C rt ++ WF C fr J)) ++ (MO g ad ca gs ++ WO C oo fo))) := pmA (pm_ix 20 [0, 3] [1, 2, 4, 5, 6, 7, 8, 9, 10, 11, 12, 13, 14, 15, 16, 17, 18, 19] rfl rfl rfl (by decide))
  refine cl_iG (wc := [(P 0, .inr (7, [.ref (P 1), .ref (P 15), .ref (P 3)])), (P 3, .inr (1, [.ref (P 6), .ref (P 17), .ref (P 13), .ref (P 4), .ref (P 5), j_bk J, .int (nI (j_bd J)), .int (j_b7 J), .int (nI md)]))]) (wr := (pk (W3 P C sgn dn dt ++ W17 P C fr n bf md ln mk y J) [1, 2, 4, 5, 6, 7, 8, 9, 10, 11, 12, 13, 14, 15, 16, 17, 18, 19] ++ (WR C rt ++ WF C fr J)) ++ (MO g ad ca gs ++ WO C oo fo)) hP hD hK hS hA hpm (va_runV (As := []) (rest := []) ⟨hx, hb, hml, hown, hts⟩ (c_F_replaced l D H.size (P 0) (P 1) (P 15) (P 3) (P 6) (P 17) (P 13) (P 4) (P 5) (j_bk J) (j_bd J) (j_b7 J) md) (cw_V hts 0 k_227 k_1 k_224 k_225 k_226 (by decide +kernel) ⟨Nat.le_of_ble_eq_true rfl, Nat.le_of_ble_eq_true rfl⟩) (pr_VG hP hD hK hpm [] rfl (fun U hU hW => hcx.1.warm hW) (fun U g mk a h => h.blind g mk a) (q0 := 0) (ci := 7) rfl rfl) rfl rfl hv.1 rfl (lv_room (Nat.le_of_ble_eq_true rfl)) d_L_law_252 ⟨by show 200 + i + 0 ≤ 601024; omega, by show 20000 + 6 * i + 0 ≤ 7293034; omega⟩) (fun r u H locs hq hP hD hK hS => ?_)
  obtain ⟨hP, hD, hK, hS⟩ : SD D A s (LW P C fr g oo ad ca sgn dn dt rt n bf md ln mk y J gs fo) (LT C ca) H locs := SD_to hP hD hK hS (List.perm_append_comm.trans hpm.symm)
  have hq : r = nI md := hq
  refine lv_aload_n hx hb d_L_law_255 rfl (lv_at hv 2 rfl) ?_
  have hpm : (LW P C fr g oo ad ca sgn dn dt rt n bf md ln mk y J gs fo).Perm (MO g ad ca gs ++ (((W3 P C sgn dn dt ++ W17 P C fr n bf md ln mk y J) ++ (WR C rt ++ WF C fr J)) ++ WO C oo fo)) := pmO
  refine cl_iG (wc := MO g ad ca gs) (wr := ((W3 P C sgn dn dt ++ W17 P C fr n bf md ln mk y J) ++ (WR C rt ++ WF C fr J)) ++ WO C oo fo) hP hD hK hS hA hpm (va_runV (As := []) (rest := [.int r]) ⟨hx, hb, hml, hown, hts⟩ (a_replaced l D H.size g ad ca 5000 gs (nI md) (sI gs 0 0) (S_replaced hlr)) (cw_V hts 0 k_968 k_9 k_965 k_966 k_967 (by decide +kernel) ⟨Nat.le_of_ble_eq_true rfl, Nat.le_of_ble_eq_true rfl⟩) (pr_VG hP hD hK hpm [21, 22, 23, 24, 25, 26, 27, 28, 29, 30, 31, 32, 33, 34, 35, 36, 37, 38, 39, 40] rfl (fun U hU hW => trivial) (fun U g mk a h => h) (q0 := 0) (ci := 8) rfl rfl) rfl rfl hv.1 rfl (lv_room (Nat.le_of_ble_eq_true rfl)) d_L_law_256 ⟨by show 200 + i + 0 + 0 ≤ 601024; omega, by show 20000 + 6 * i + 0 + 0 ≤ 7293034; omega⟩) (fun r2 u2 H locs hq2 hP hD hK hS => ?_)
  refine lv_icmp_eq (tgt := 302) hx hb d_L_law_259 (by decide) (fun _ => ?_) (fun h9 => absurd (hq.trans hq2) h9)
  exact law_tail K hd (SD_to hP hD hK hS (List.perm_append_comm.trans (List.Perm.symm pmO))) ⟨LR_0 hlr, hbf, hok, hy, hsm, hj⟩ hv (by omega) (by omega)
set_option maxHeartbeats 4000000 in
set_option maxRecDepth 100000 in
theorem law_depth (K : LC p l s m meth c b L xs A) (hd : HD p l e s m below meth c b A D P C fr g oo ad ca (i + 2)) (hs : SD D A s (LW P C fr g oo ad ca sgn dn dt rt n bf md ln mk y J gs fo) (LT C ca) H locs) (hl : SL sgn dn dt rt n bf md ln mk y J gs)
    (hv : lv_has ls 7 [(4, .int (nI i)), (3, .ref oo), (2, .ref g), (1, .ref (P 0)), (0, .ref b)]) (hi : i + 1 < L) : W p l e room_1 s m #[Value.ref b] below meth c H locs (200 + i) (20000 + 6 * i) (lw_Z below #[Value.ref b] s) (F0 m 289 ls []) := by
  obtain ⟨hx, hb, hr, hml, hown, hts, hX, hbl, hlocks, hA, hA2, hbA, hcx, hnc, htr, hL⟩ := id K
  obtain ⟨hP, hD, hK, hS⟩ := hs
  obtain ⟨hlr, hbf, hok, hy, hsm, hj⟩ := hl
  obtain ⟨le1, le2, le3, le4, le5, _⟩ := LR_le hlr
  refine lv_aload_n hx hb d_L_law_289 rfl (lv_at hv 3 rfl) ?_
  have hpm : (LW P C fr g oo ad ca sgn dn dt rt n bf md ln mk y J gs fo).Perm (([(P 0, .inr (7, [.ref (P 1), .ref (P 15), .ref (P 3)])), (P 3, .inr (1, [.ref (P 6), .ref (P 17), .ref (P 13), .ref (P 4), .ref (P 5), j_bk J, .int (nI (j_bd J)), .int (j_b7 J), .int (nI md)])), (P 13, .inr (3, [.ref (P 14), .int (nI (j_fd J)), .int (nI ln)])), (P 14, .inl (C 14, 150, .inl mk))] : va_W) ++ ((pk (W3 P C sgn dn dt ++ W17 P C fr n bf md ln mk y J) [1, 2, 4, 5, 6, 7, 8, 9, 10, 11, 12, 15, 16, 17, 18, 19] ++ (WR C rt ++ WF C fr J)) ++ (MO g ad ca gs ++ WO C oo fo))) := pmA (pm_ix 20 [0, 3, 13, 14] [1, 2, 4, 5, 6, 7, 8, 9, 10, 11, 12, 15, 16, 17, 18, 19] rfl rfl rfl (by decide))
  refine cl_iG (wc := [(P 0, .inr (7, [.ref (P 1), .ref (P 15), .ref (P 3)])), (P 3, .inr (1, [.ref (P 6), .ref (P 17), .ref (P 13), .ref (P 4), .ref (P 5), j_bk J, .int (nI (j_bd J)), .int (j_b7 J), .int (nI md)])), (P 13, .inr (3, [.ref (P 14), .int (nI (j_fd J)), .int (nI ln)])), (P 14, .inl (C 14, 150, .inl mk))]) (wr := (pk (W3 P C sgn dn dt ++ W17 P C fr n bf md ln mk y J) [1, 2, 4, 5, 6, 7, 8, 9, 10, 11, 12, 15, 16, 17, 18, 19] ++ (WR C rt ++ WF C fr J)) ++ (MO g ad ca gs ++ WO C oo fo)) hP hD hK hS hA hpm (va_runV (As := []) (rest := []) ⟨hx, hb, hml, hown, hts⟩ (c_F_depth l D H.size (P 0) (P 1) (P 15) (P 3) (P 6) (P 17) (P 13) (P 4) (P 5) (j_bk J) (j_bd J) (j_b7 J) md (P 14) (C 14) mk (nI (j_fd J)) ln le5) (cw_V hts 0 k_247 k_1 k_244 k_245 k_246 (by decide +kernel) ⟨Nat.le_of_ble_eq_true rfl, Nat.le_of_ble_eq_true rfl⟩) (pr_VG hP hD hK hpm [9] rfl (fun U hU hW => hcx.1.warm hW) (fun U g mk a h => h.blind g mk a) (q0 := 0) (ci := 7) rfl rfl) rfl rfl hv.1 rfl (lv_room (Nat.le_of_ble_eq_true rfl)) d_L_law_290 ⟨by show 200 + i + 0 ≤ 601024; omega, by show 20000 + 6 * i + 0 ≤ 7293034; omega⟩) (fun r u H locs hq hP hD hK hS => ?_)
  obtain ⟨hP, hD, hK, hS⟩ : SD D A s (LW P C fr g oo ad ca sgn dn dt rt n bf md ln mk y J gs fo) (LT C ca) H locs := SD_to hP hD hK hS (List.perm_append_comm.trans hpm.symm)
  have hq : r = s_dp mk ln 0 0 0 := hq
  refine lv_aload_n hx hb d_L_law_293 rfl (lv_at hv 2 rfl) ?_
  have hpm : (LW P C fr g oo ad ca sgn dn dt rt n bf md ln mk y J gs fo).Perm (MO g ad ca gs ++ (((W3 P C sgn dn dt ++ W17 P C fr n bf md ln mk y J) ++ (WR C rt ++ WF C fr J)) ++ WO C oo fo)) := pmO
  refine cl_iG (wc := MO g ad ca gs) (wr := ((W3 P C sgn dn dt ++ W17 P C fr n bf md ln mk y J) ++ (WR C rt ++ WF C fr J)) ++ WO C oo fo) hP hD hK hS hA hpm (va_runV (As := []) (rest := [.int r]) ⟨hx, hb, hml, hown, hts⟩ (a_depth l D H.size g ad ca 5000 gs (s_dp mk ln 0 0 0) (sI gs 0 0) (S_depth (Nat.le_refl _) hlr)) (cw_V hts 0 k_976 k_9 k_973 k_974 k_975 (by decide +kernel) ⟨Nat.le_of_ble_eq_true rfl, Nat.le_of_ble_eq_true rfl⟩) (pr_VG hP hD hK hpm [21, 22, 23, 24, 25, 26, 27, 28, 29, 30, 31, 32, 33, 34, 35, 36, 37, 38, 39, 40] rfl (fun U hU hW => trivial) (fun U g mk a h => h) (q0 := 0) (ci := 8) rfl rfl) rfl rfl hv.1 rfl (lv_room (Nat.le_of_ble_eq_true rfl)) d_L_law_294 ⟨by show 200 + i + 0 + 0 ≤ 601024; omega, by show 20000 + 6 * i + 0 + 0 ≤ 7293034; omega⟩) (fun r2 u2 H locs hq2 hP hD hK hS => ?_)
  refine lv_icmp_eq (tgt := 302) hx hb d_L_law_297 (by decide) (fun _ => ?_) (fun h9 => absurd (hq.trans hq2) h9)
  exact law_tail K hd (SD_to hP hD hK hS (List.perm_append_comm.trans (List.Perm.symm pmO))) ⟨LR_0 hlr, hbf, hok, hy, hsm, hj⟩ hv (by omega) (by omega)
set_option maxHeartbeats 4000000 in
set_option maxRecDepth 100000 in
theorem law_mark (K : LC p l s m meth c b L xs A) (hd : HD p l e s m below meth c b A D P C fr g oo ad ca (i + 2)) (hs : SD D A s (LW P C fr g oo ad ca sgn dn dt rt n bf md ln mk y J gs fo) (LT C ca) H locs) (hl : SL sgn dn dt rt n bf md ln mk y J gs)
    (hv : lv_has ls 7 [(4, .int (nI i)), (3, .ref oo), (2, .ref g), (1, .ref (P 0)), (0, .ref b)]) (hi : i + 1 < L) : W p l e room_1 s m #[Value.ref b] below meth c H locs (200 + i) (20000 + 6 * i) (lw_Z below #[Value.ref b] s) (F0 m 264 ls []) := by
  obtain ⟨hx, hb, hr, hml, hown, hts, hX, hbl, hlocks, hA, hA2, hbA, hcx, hnc, htr, hL⟩ := id K
  obtain ⟨hP, hD, hK, hS⟩ := hs
  obtain ⟨hlr, hbf, hok, hy, hsm, hj⟩ := hl
  obtain ⟨le1, le2, le3, le4, le5, _⟩ := LR_le hlr
  refine lv_aload_n hx hb d_L_law_264 rfl (lv_at hv 3 rfl) ?_
  refine lv_aload_n hx hb d_L_law_265 rfl (lv_at hv 4 rfl) ?_
  refine lv_iload hx hb d_L_law_266 (lv_at hv 0 rfl) ?_
  refine lv_iconst (v := 1) hx hb d_L_law_268 (by decide) ?_
  refine lv_iadd hx hb d_L_law_269 ?_
  refine lv_topi (fun z ez => ?_)
  have ez : z = nI (i + 1) := ez.trans (nI_1 i)
  subst ez
  refine va_sld hx hb hX hbl hbA hS (vp_in_nI (n := i + 1) (N := L) hi (by omega)) d_L_law_270 ?_
  have hpm : (LW P C fr g oo ad ca sgn dn dt rt n bf md ln mk y J gs fo).Perm (([(P 0, .inr (7, [.ref (P 1), .ref (P 15), .ref (P 3)])), (P 3, .inr (1, [.ref (P 6), .ref (P 17), .ref (P 13), .ref (P 4), .ref (P 5), j_bk J, .int (nI (j_bd J)), .int (j_b7 J), .int (nI md)])), (P 13, .inr (3, [.ref (P 14), .int (nI (j_fd J)), .int (nI ln)])), (P 14, .inl (C 14, 150, .inl mk))] : va_W) ++ ((pk (W3 P C sgn dn dt ++ W17 P C fr n bf md ln mk y J) [1, 2, 4, 5, 6, 7, 8, 9, 10, 11, 12, 15, 16, 17, 18, 19] ++ (WR C rt ++ WF C fr J)) ++ (MO g ad ca gs ++ WO C oo fo))) := pmA (pm_ix 20 [0, 3, 13, 14] [1, 2, 4, 5, 6, 7, 8, 9, 10, 11, 12, 15, 16, 17, 18, 19] rfl rfl rfl (by decide))
  refine cl_iG (wc := [(P 0, .inr (7, [.ref (P 1), .ref (P 15), .ref (P 3)])), (P 3, .inr (1, [.ref (P 6), .ref (P 17), .ref (P 13), .ref (P 4), .ref (P 5), j_bk J, .int (nI (j_bd J)), .int (j_b7 J), .int (nI md)])), (P 13, .inr (3, [.ref (P 14), .int (nI (j_fd J)), .int (nI ln)])), (P 14, .inl (C 14, 150, .inl mk))]) (wr := (pk (W3 P C sgn dn dt ++ W17 P C fr n bf md ln mk y J) [1, 2, 4, 5, 6, 7, 8, 9, 10, 11, 12, 15, 16, 17, 18, 19] ++ (WR C rt ++ WF C fr J)) ++ (MO g ad ca gs ++ WO C oo fo)) hP hD hK hS hA hpm (va_runV (As := [.int (xs (nI (i + 1)).toNatClampNeg)]) (rest := []) ⟨hx, hb, hml, hown, hts⟩ (c_F_mark l D H.size (P 0) (P 1) (P 15) (P 3) (P 6) (P 17) (P 13) (P 4) (P 5) (j_bk J) (j_bd J) (j_b7 J) md (P 14) (C 14) mk (nI (j_fd J)) ln (xs (nI (i + 1)).toNatClampNeg) le5) (cw_V hts 1 k_235 k_1 k_232 k_233 k_234 (by decide +kernel) ⟨Nat.le_of_ble_eq_true rfl, Nat.le_of_ble_eq_true rfl⟩) (pr_VG hP hD hK hpm [9] rfl (fun U hU hW => hcx.1.warm hW) (fun U g mk a h => h.blind g mk a) (q0 := 0) (ci := 7) rfl rfl) rfl rfl hv.1 rfl (lv_room (Nat.le_of_ble_eq_true rfl)) d_L_law_271 ⟨by show 200 + i + 0 ≤ 601024; omega, by show 20000 + 6 * i + 0 ≤ 7293034; omega⟩) (fun r u H locs hq hP hD hK hS => ?_)
  obtain ⟨hP, hD, hK, hS⟩ : SD D A s (LW P C fr g oo ad ca sgn dn dt rt n bf md ln mk y J gs fo) (LT C ca) H locs := SD_to hP hD hK hS (List.perm_append_comm.trans hpm.symm)
  have hq : r = s_at mk ln (xs (nI (i + 1)).toNatClampNeg) := hq
  refine lv_aload_n hx hb d_L_law_274 rfl (lv_at hv 2 rfl) ?_
  refine lv_aload_n hx hb d_L_law_275 rfl (lv_at hv 4 rfl) ?_
  refine lv_iload hx hb d_L_law_276 (lv_at hv 0 rfl) ?_
  refine lv_iconst (v := 1) hx hb d_L_law_278 (by decide) ?_
  refine lv_iadd hx hb d_L_law_279 ?_
  refine lv_topi (fun z ez => ?_)
  have ez : z = nI (i + 1) := ez.trans (nI_1 i)
  subst ez
  refine va_sld hx hb hX hbl hbA hS (vp_in_nI (n := i + 1) (N := L) hi (by omega)) d_L_law_280 ?_
  have hpm : (LW P C fr g oo ad ca sgn dn dt rt n bf md ln mk y J gs fo).Perm (MO g ad ca gs ++ (((W3 P C sgn dn dt ++ W17 P C fr n bf md ln mk y J) ++ (WR C rt ++ WF C fr J)) ++ WO C oo fo)) := pmO
  refine cl_iG (wc := MO g ad ca gs) (wr := ((W3 P C sgn dn dt ++ W17 P C fr n bf md ln mk y J) ++ (WR C rt ++ WF C fr J)) ++ WO C oo fo) hP hD hK hS hA hpm (va_runV (As := [.int (xs (nI (i + 1)).toNatClampNeg)]) (rest := [.int r]) ⟨hx, hb, hml, hown, hts⟩ (a_mark l D H.size g ad ca 5000 gs (xs (nI (i + 1)).toNatClampNeg) (s_at mk ln (xs (nI (i + 1)).toNatClampNeg)) (sI gs 0 0) (S_mark hlr)) (cw_V hts 1 k_972 k_9 k_969 k_970 k_971 (by decide +kernel) ⟨Nat.le_of_ble_eq_true rfl, Nat.le_of_ble_eq_true rfl⟩) (pr_VG hP hD hK hpm [21, 22, 23, 24, 25, 26, 27, 28, 29, 30, 31, 32, 33, 34, 35, 36, 37, 38, 39, 40] rfl (fun U hU hW => trivial) (fun U g mk a h => h) (q0 := 0) (ci := 8) rfl rfl) rfl rfl hv.1 rfl (lv_room (Nat.le_of_ble_eq_true rfl)) d_L_law_281 ⟨by show 200 + i + 0 + 0 ≤ 601024; omega, by show 20000 + 6 * i + 0 + 0 ≤ 7293034; omega⟩) (fun r2 u2 H locs hq2 hP hD hK hS => ?_)
  refine lv_icmp_eq (tgt := 302) hx hb d_L_law_284 (by decide) (fun _ => ?_) (fun h9 => absurd (hq.trans hq2) h9)
  exact law_tail K hd (SD_to hP hD hK hS (List.perm_append_comm.trans (List.Perm.symm pmO))) ⟨LR_0 hlr, hbf, hok, hy, hsm, hj⟩ hv (by omega) (by omega)
set_option maxHeartbeats 4000000 in
set_option maxRecDepth 100000 in
theorem law_forget (K : LC p l s m meth c b L xs A) (hd : HD p l e s m below meth c b A D P C fr g oo ad ca (i + 2)) (hs : SD D A s (LW P C fr g oo ad ca sgn dn dt rt n bf md ln mk y J gs fo) (LT C ca) H locs) (hl : SL sgn dn dt rt n bf md ln mk y J gs)
    (hv : lv_has ls 7 [(4, .int (nI i)), (3, .ref oo), (2, .ref g), (1, .ref (P 0)), (0, .ref b)]) (hi : i + 1 < L) : W p l e room_1 s m #[Value.ref b] below meth c H locs (200 + i) (20000 + 6 * i) (lw_Z below #[Value.ref b] s) (F0 m 155 ls []) := by
  obtain ⟨hx, hb, hr, hml, hown, hts, hX, hbl, hlocks, hA, hA2, hbA, hcx, hnc, htr, hL⟩ := id K
  obtain ⟨hP, hD, hK, hS⟩ := hs
  obtain ⟨hlr, hbf, hok, hy, hsm, hj⟩ := hl
  obtain ⟨le1, le2, le3, le4, le5, _⟩ := LR_le hlr
  obtain ⟨c0, hc0, hkc⟩ := i2c_lt (xs (nI (i + 1)).toNatClampNeg)
  refine lv_aload_n hx hb d_L_law_155 rfl (lv_at hv 3 rfl) ?_
  refine lv_aload_n hx hb d_L_law_156 rfl (lv_at hv 4 rfl) ?_
  refine lv_iload hx hb d_L_law_157 (lv_at hv 0 rfl) ?_
  refine lv_iconst (v := 1) hx hb d_L_law_159 (by decide) ?_
  refine lv_iadd hx hb d_L_law_160 ?_
  refine lv_topi (fun z ez => ?_)
  have ez : z = nI (i + 1) := ez.trans (nI_1 i)
  subst ez
  refine va_sld hx hb hX hbl hbA hS (vp_in_nI (n := i + 1) (N := L) hi (by omega)) d_L_law_161 ?_
  refine lv_i2c (v := nI c0) hx hb d_L_law_162 hkc ?_
  have hpm : (LW P C fr g oo ad ca sgn dn dt rt n bf md ln mk y J gs fo).Perm ((([(P 0, .inr (7, [.ref (P 1), .ref (P 15), .ref (P 3)])), (P 15, .inr (5, [.ref (P 16), .int (nI n)])), (P 16, .inl (C 16, 13, .inr (.inr (.inr (.inr bf)))))] : va_W) ++ WR C rt) ++ ((pk (W3 P C sgn dn dt ++ W17 P C fr n bf md ln mk y J) [1, 2, 3, 4, 5, 6, 7, 8, 9, 10, 11, 12, 13, 14, 17, 18, 19] ++ WF C fr J) ++ (MO g ad ca gs ++ WO C oo fo))) := pmB (pm_ix 20 [0, 15, 16] [1, 2, 3, 4, 5, 6, 7, 8, 9, 10, 11, 12, 13, 14, 17, 18, 19] rfl rfl rfl (by decide))
  refine cl_iG (wc := ([(P 0, .inr (7, [.ref (P 1), .ref (P 15), .ref (P 3)])), (P 15, .inr (5, [.ref (P 16), .int (nI n)])), (P 16, .inl (C 16, 13, .inr (.inr (.inr (.inr bf)))))] : va_W) ++ WR C rt) (wr := (pk (W3 P C sgn dn dt ++ W17 P C fr n bf md ln mk y J) [1, 2, 3, 4, 5, 6, 7, 8, 9, 10, 11, 12, 13, 14, 17, 18, 19] ++ WF C fr J) ++ (MO g ad ca gs ++ WO C oo fo)) hP hD hK hS hA hpm (va_runV (As := [.int (nI c0)]) (rest := []) ⟨hx, hb, hml, hown, hts⟩ (c_F_forget l D H.size (P 0) (P 1) (P 3) (P 15) (P 16) (C 16) bf (fun k => C (20 + k)) (C 26) rt n c0 hbf hok (by omega) hc0) (cw_V hts 1 k_203 k_1 k_200 k_201 k_202 (by decide +kernel) ⟨Nat.le_of_ble_eq_true rfl, Nat.le_of_ble_eq_true rfl⟩) (pr_VG hP hD hK hpm [10, 11, 12, 13, 14, 15, 16, 17] rfl (fun U hU hW => hcx.1.warm hW) (fun U g mk a h => h.blind g mk a) (q0 := 0) (ci := 7) rfl rfl) rfl rfl hv.1 rfl (lv_room (Nat.le_of_ble_eq_true rfl)) d_L_law_163 ⟨by show 200 + i + 0 ≤ 601024; omega, by show 20000 + 6 * i + 0 ≤ 7293034; omega⟩) (fun r u H locs hq hP hD hK hS => ?_)
  obtain ⟨q1, q2, q3, q4, q5⟩ := hq
  obtain ⟨g2, hrf, hlr2⟩ := S_forget (F := 5000) (Nat.le_refl _) hc0 hlr q1 q3
  have hpm2 : (LW P C fr g oo ad ca sgn dn dt u.2.1 u.2.2 u.1 md ln mk y J gs fo).Perm ((([(P 0, .inr (7, [.ref (P 1), .ref (P 15), .ref (P 3)])), (P 15, .inr (5, [.ref (P 16), .int (nI u.2.2)])), (P 16, .inl (C 16, 13, .inr (.inr (.inr (.inr u.1)))))] : va_W) ++ WR C u.2.1) ++ ((pk (W3 P C sgn dn dt ++ W17 P C fr n bf md ln mk y J) [1, 2, 3, 4, 5, 6, 7, 8, 9, 10, 11, 12, 13, 14, 17, 18, 19] ++ WF C fr J) ++ (MO g ad ca gs ++ WO C oo fo))) := pmB (pm_ix 20 [0, 15, 16] [1, 2, 3, 4, 5, 6, 7, 8, 9, 10, 11, 12, 13, 14, 17, 18, 19] rfl rfl rfl (by decide))
  obtain ⟨hP, hD, hK, hS⟩ : SD D A s (LW P C fr g oo ad ca sgn dn dt u.2.1 u.2.2 u.1 md ln mk y J gs fo) (LT C ca) H locs := SD_to hP hD hK hS (List.perm_append_comm.trans hpm2.symm)
  refine lv_aload_n hx hb d_L_law_166 rfl (lv_at hv 2 rfl) ?_
  refine lv_aload_n hx hb d_L_law_167 rfl (lv_at hv 4 rfl) ?_
  refine lv_iload hx hb d_L_law_168 (lv_at hv 0 rfl) ?_
  refine lv_iconst (v := 1) hx hb d_L_law_170 (by decide) ?_
  refine lv_iadd hx hb d_L_law_171 ?_
  refine lv_topi (fun z ez => ?_)
  have ez : z = nI (i + 1) := ez.trans (nI_1 i)
  subst ez
  refine va_sld hx hb hX hbl hbA hS (vp_in_nI (n := i + 1) (N := L) hi (by omega)) d_L_law_172 ?_
  refine lv_i2c (v := nI c0) hx hb d_L_law_173 hkc ?_
  have hpm : (LW P C fr g oo ad ca sgn dn dt u.2.1 u.2.2 u.1 md ln mk y J gs fo).Perm (MO g ad ca gs ++ (((W3 P C sgn dn dt ++ W17 P C fr u.2.2 u.1 md ln mk y J) ++ (WR C u.2.1 ++ WF C fr J)) ++ WO C oo fo)) := pmO
  refine cl_iG (wc := MO g ad ca gs) (wr := ((W3 P C sgn dn dt ++ W17 P C fr u.2.2 u.1 md ln mk y J) ++ (WR C u.2.1 ++ WF C fr J)) ++ WO C oo fo) hP hD hK hS hA hpm (va_runV (As := [.int (nI c0)]) (rest := [.int r]) ⟨hx, hb, hml, hown, hts⟩ (a_forget l D H.size g ad ca 5000 gs (nI c0) r g2 hrf) (cw_V hts 1 k_872 k_9 k_869 k_870 k_871 (by decide +kernel) ⟨Nat.le_of_ble_eq_true rfl, Nat.le_of_ble_eq_true rfl⟩) (pr_VG hP hD hK hpm [21, 22, 23, 24, 25, 26, 27, 28, 29, 30, 31, 32, 33, 34, 35, 36, 37, 38, 39, 40] rfl (fun U hU hW => trivial) (fun U g mk a h => h) (q0 := 0) (ci := 8) rfl rfl) rfl rfl hv.1 rfl (lv_room (Nat.le_of_ble_eq_true rfl)) d_L_law_174 ⟨by show 200 + i + 0 + 0 ≤ 601024; omega, by show 20000 + 6 * i + 0 + 0 ≤ 7293034; omega⟩) (fun r2 u2 H locs hq2 hP hD hK hS => ?_)
  refine lv_icmp_eq (tgt := 302) hx hb d_L_law_177 (by decide) (fun _ => ?_) (fun h9 => absurd hq2 h9)
  exact law_tail K hd (SD_to hP hD hK hS (List.perm_append_comm.trans (List.Perm.symm pmO))) ⟨hlr2, q4, q5, hy, hsm, hj⟩ hv (by omega) (by omega)
end LAW3
