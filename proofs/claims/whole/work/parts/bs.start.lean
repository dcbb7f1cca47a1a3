/-! The law's start. -/
def iP (p0 p1 p2 p3 p4 p5 p6 p7 p8 p9 p10 p11 p12 p13 p14 p15 p16 p17 p18 p19 : Nat) : Nat → Nat
  | 0 => p0
  | 1 => p1
  | 2 => p2
  | 3 => p3
  | 4 => p4
  | 5 => p5
  | 6 => p6
  | 7 => p7
  | 8 => p8
  | 9 => p9
  | 10 => p10
  | 11 => p11
  | 12 => p12
  | 13 => p13
  | 14 => p14
  | 15 => p15
  | 16 => p16
  | 17 => p17
  | 18 => p18
  | _ => p19
def iC (cC cI cZ cb cF cL : ClassId) : Nat → ClassId
  | 2 => cC
  | 4 => cC
  | 7 => cC
  | 11 => cZ
  | 16 => cb
  | 18 => cF
  | 20 => cC
  | 24 => cZ
  | 28 => cL
  | _ => cI
def y00 : TSt := (fun _ => 0, fun _ => 0, fun _ => 0, fun _ => 0, fun _ => 0, fun _ => 0, 0, 0, none)
def J00 : JS := (.null, 0, 0, fun _ => 0, fun _ => 0, 0, 0, 0, 0, 0, fun _ _ => 0, fun _ => 0)
theorem y00_raw : t_raw 780 y00 := ⟨by decide, Nat.zero_le _, fun _ => by show 0 < 65536; decide, fun _ => by show 0 < 2; decide⟩
theorem y00_sm : t_sm (2 ^ 31) y00 := fun _ => by show 0 < 2 ^ 31; decide
theorem J00_I : JI J00 := ⟨Nat.zero_le _, fun _ => by show 0 < 65536; decide, fun _ => by show 0 < 2 ^ 31; decide, Nat.zero_le _, fun _ => Nat.zero_le _⟩
theorem st_nc {args : Array Value} {s : State} (h : (Jvm.Cond.and given_1 narrow_1).before args s = true) : nc s :=
  nc_of (flat_of_before _ h (.not (.castable uoN iaN)) (by decide +kernel)) (flat_of_before _ h (.not (.castable isN iaN)) (by decide +kernel)) (flat_of_before _ h (.not (.castable uoN isN)) (by decide +kernel))
set_option maxHeartbeats 8000000 in
set_option maxRecDepth 100000 in
theorem whole_start {p : Program} {e : Env} {s : State} {m : MethodId} {below : List Frame} {meth : Method} {c : Code} (l : Launch) (htr : l.stackTraces = false) {b L : Nat} {xs : Nat → Int32} (hL : L ≤ 1024) (C0 : lw_At p s m meth c b L xs) : W p l e room_1 s m #[Value.ref b] below meth c s.heap [] 0 0 (lw_Z below #[Value.ref b] s) (entryFrame m ([Value.ref b] : List Value).toArray 7) := by
  obtain ⟨hx, hb, hr, hml, hown, hts0, hX, hbl, hlocks, hgv⟩ := C0
  have hb : c.code = b_L_law := hb
  have hts : ∀ w ∈ wal, w.before #[Value.ref b] s = true := fun w h => hts0 w (wal_t h)
  have hown : s.vm.findClass rc_L = some m.cls := hown
  obtain ⟨D, hK⟩ := st_K hts
  obtain ⟨A, hAe⟩ : ∃ A : Nat → Prop, A = fun q => s.heap.size ≤ q := ⟨_, rfl⟩
  have hA : ∀ q : Nat, s.heap.size ≤ q → A q := fun q h => by rw [hAe]; exact h
  have hA2 : ∀ q : Nat, A q → s.heap.size ≤ q := fun q h => by rw [hAe] at h; exact h
  have hbA : ¬ A b := fun h => absurd (hA2 b h) (Nat.not_le.mpr hbl)
  have hcx : cx A s s.heap := st_cx hts0 hgv (fun a h1 h2 => absurd (hA2 a h2) (Nat.not_le.mpr h1))
  have hE := hcx.1
  have hP : va_P D wcl [] s.heap := fun k q h => (nomatch (by simpa using h : False))
  have hD : va_D A [] := ⟨fun i j a b h => (nomatch (by simpa using h : False)), fun k q h => (nomatch (by simpa using h : False))⟩
  have hS : va_S A s.heap s.heap [] := va_S.rf
  have hl := lv_entry ([.ref b]) (n := 7) (Nat.le_of_ble_eq_true rfl)
  rw [lg_entry_eq]
  generalize (lg_sl ([.ref b]) ++ List.replicate (7 - (lg_sl ([.ref b])).length) Slot.unset).toArray = ls at hl ⊢
  have hl : lv_has ls 7 [(0, .ref b)] := hl
  refine va_new (ci := 7) (fs := [.null, .null, .null]) (C := rc_F) (T := ft_F) (N := 3) hx hb hts in_F ty_F tk_F hown (hts _ k_18) (hts _ k_19) (hts _ k_1) hK hP hD hS hA rfl (fun j hj => by revert j; decide) (by decide) (by decide) d_L_law_0 (fun q1 H hP hD hS => ?_)
  have hP : va_P D wcl [(q1, .inr (7, [.null, .null, .null]))] H := hP
  have hD : va_D A [(q1, .inr (7, [.null, .null, .null]))] := hD
  refine lv_dup hx hb d_L_law_3 rfl ?_
  refine cl_v (wc := [(q1, .inr (7, [.null, .null, .null]))]) (wr := []) hP hD hK hS hA [0] [] rfl rfl (by decide) (by decide) (va_runI (As := []) (rest := [.ref q1]) ⟨hx, hb, hml, hown, hts⟩ (c_F_init l D H.size q1) (cw_I hts 0 k_22 k_1 k_20 k_21 rfl (by decide +kernel) ⟨Nat.le_of_ble_eq_true rfl, Nat.le_of_ble_eq_true rfl⟩) (pr_S hP hD hK [0] [] (by decide) rfl rfl (fun U hU hW => hE.warm hW) (fun U g mk a h => h.blind g mk a)) rfl rfl hl.1 rfl (lv_room (Nat.le_of_ble_eq_true rfl)) d_L_law_4 ⟨by decide, by decide⟩) (fun u H locs h2 hP hD hK hS => ?_)
  obtain ⟨dd, da, bb, ba, cb, bf, rt, ee, et, em, er, el, es, a0, a1, a2, a3, a4, a5, ma, fa, cn, fr, cC, cI, cZ, cF⟩ := u
  obtain ⟨hbf, hok⟩ : (∀ j, j < 13 → bf j = some (rt j).1) ∧ ∀ j, j < 13 → r_ok (rt j) := h2
  have hP : va_P D wcl (([(q1, .inr (7, [.ref dd, .ref bb, .ref ee])), (dd, .inr (0, [.ref da, .int 0, .int 0])), (da, .inl (cC, 60, .inl (fun _ => 0))), (bb, .inr (5, [.ref ba, .int 0])), (ba, .inl (cb, 13, .inr (.inr (.inr (.inr bf))))), (ee, .inr (1, [.ref et, .ref em, .ref er, .ref el, .ref es, .null, .int 0, .int 0, .int 0])), (el, .inl (cC, 12, .inl (fun _ => 0))), (es, .inl (cI, 12, .inl (fun _ => 0))), (et, .inr (6, [.ref a0, .ref a1, .ref a2, .ref a3, .ref a4, .ref a5, .int 0, .int 0, .int 0, .int 0, .int 0])), (a0, .inl (cC, 780, .inl (fun _ => 0))), (a1, .inl (cI, 780, .inl (fun _ => 0))), (a2, .inl (cI, 780, .inl (fun _ => 0))), (a3, .inl (cI, 780, .inl (fun _ => 0))), (a4, .inl (cZ, 780, .inl (fun _ => 0))), (a5, .inl (cI, 12, .inl (fun _ => 0))), (er, .inr (3, [.ref ma, .int 0, .int 0])), (ma, .inl (cI, 150, .inl (fun _ => 0))), (em, .inr (2, [.ref fa, .ref cn])), (fa, .inl (cF, 26, .inr (.inr (.inr (.inr (fun j => some (fr j))))))), (cn, .inl (cI, 26, .inl (fun _ => 0)))] : va_W) ++ (w_al 13 (fun j => r_cl (c_six cC cI cZ) cI (rt j)) ++ w_al 26 (f_cl cI fr (fun _ _ => 0)))) H := hP
  have hD : va_D A (([(q1, .inr (7, [.ref dd, .ref bb, .ref ee])), (dd, .inr (0, [.ref da, .int 0, .int 0])), (da, .inl (cC, 60, .inl (fun _ => 0))), (bb, .inr (5, [.ref ba, .int 0])), (ba, .inl (cb, 13, .inr (.inr (.inr (.inr bf))))), (ee, .inr (1, [.ref et, .ref em, .ref er, .ref el, .ref es, .null, .int 0, .int 0, .int 0])), (el, .inl (cC, 12, .inl (fun _ => 0))), (es, .inl (cI, 12, .inl (fun _ => 0))), (et, .inr (6, [.ref a0, .ref a1, .ref a2, .ref a3, .ref a4, .ref a5, .int 0, .int 0, .int 0, .int 0, .int 0])), (a0, .inl (cC, 780, .inl (fun _ => 0))), (a1, .inl (cI, 780, .inl (fun _ => 0))), (a2, .inl (cI, 780, .inl (fun _ => 0))), (a3, .inl (cI, 780, .inl (fun _ => 0))), (a4, .inl (cZ, 780, .inl (fun _ => 0))), (a5, .inl (cI, 12, .inl (fun _ => 0))), (er, .inr (3, [.ref ma, .int 0, .int 0])), (ma, .inl (cI, 150, .inl (fun _ => 0))), (em, .inr (2, [.ref fa, .ref cn])), (fa, .inl (cF, 26, .inr (.inr (.inr (.inr (fun j => some (fr j))))))), (cn, .inl (cI, 26, .inl (fun _ => 0)))] : va_W) ++ (w_al 13 (fun j => r_cl (c_six cC cI cZ) cI (rt j)) ++ w_al 26 (f_cl cI fr (fun _ _ => 0)))) := hD
  have hK : va_K D wcl [(cb, .object rc_R), (cC, .char), (cI, .int), (cZ, .boolean), (cF, .array .int)] s := hK
  obtain ⟨X0, hX0⟩ : ∃ X0 : va_W, X0 = [(q1, .inr (7, [.ref dd, .ref bb, .ref ee])), (dd, .inr (0, [.ref da, .int 0, .int 0])), (da, .inl (cC, 60, .inl (fun _ => 0))), (bb, .inr (5, [.ref ba, .int 0])), (ba, .inl (cb, 13, .inr (.inr (.inr (.inr bf))))), (ee, .inr (1, [.ref et, .ref em, .ref er, .ref el, .ref es, .null, .int 0, .int 0, .int 0])), (el, .inl (cC, 12, .inl (fun _ => 0))), (es, .inl (cI, 12, .inl (fun _ => 0))), (et, .inr (6, [.ref a0, .ref a1, .ref a2, .ref a3, .ref a4, .ref a5, .int 0, .int 0, .int 0, .int 0, .int 0])), (a0, .inl (cC, 780, .inl (fun _ => 0))), (a1, .inl (cI, 780, .inl (fun _ => 0))), (a2, .inl (cI, 780, .inl (fun _ => 0))), (a3, .inl (cI, 780, .inl (fun _ => 0))), (a4, .inl (cZ, 780, .inl (fun _ => 0))), (a5, .inl (cI, 12, .inl (fun _ => 0))), (er, .inr (3, [.ref ma, .int 0, .int 0])), (ma, .inl (cI, 150, .inl (fun _ => 0))), (em, .inr (2, [.ref fa, .ref cn])), (fa, .inl (cF, 26, .inr (.inr (.inr (.inr (fun j => some (fr j))))))), (cn, .inl (cI, 26, .inl (fun _ => 0)))] := ⟨_, rfl⟩
  obtain ⟨Q0, hQ0⟩ : ∃ Q0 : va_W, Q0 = (w_al 13 (fun j => r_cl (c_six cC cI cZ) cI (rt j)) ++ w_al 26 (f_cl cI fr (fun _ _ => 0))) := ⟨_, rfl⟩
  rw [← hX0, ← hQ0] at hP hD
  refine W.widen (k := 163) (n := 10380) (by decide) (by decide) ?_
  refine lv_astore_n hx hb d_L_law_7 rfl hl (by decide) rfl (fun ls hl => ?_)
  have hl : lv_has ls 7 [(1, .ref q1), (0, .ref b)] := hl
  refine va_new (ci := 8) (fs := [.int 0, .int 0, .null, .int 0, .null, .int 0, .null, .null, .null, .null, .null, .null, .null, .int 0, .null, .null, .int 0, .int 0, .int 0, .int 0, .null, .int 0, .null, .int 0, .null, .int 0, .int 0, .int 0, .int 0, .null, .null, .null, .int 0, .null, .int 0, .null, .int 0, .int 0, .int 0, .null, .int 0, .int 0]) (C := rc_O) (T := ft_O) (N := 42) hx hb hts in_O ty_O tk_O hown (hts _ k_649) (hts _ k_650) (hts _ k_9) hK hP hD hS hA rfl (fun j hj => by revert j; decide) (by decide) (by decide) d_L_law_8 (fun q3 H hP hD hS => ?_)
  refine W.widen (k := 164) (n := 10422) (by decide) (by decide) ?_
  refine lv_dup hx hb d_L_law_11 rfl ?_
  have hpm : ((X0 ++ Q0) ++ ([(q3, .inr (8, [.int 0, .int 0, .null, .int 0, .null, .int 0, .null, .null, .null, .null, .null, .null, .null, .int 0, .null, .null, .int 0, .int 0, .int 0, .int 0, .null, .int 0, .null, .int 0, .null, .int 0, .int 0, .int 0, .int 0, .null, .null, .null, .int 0, .null, .int 0, .null, .int 0, .int 0, .int 0, .null, .int 0, .int 0]))] : va_W)).Perm (([(q3, .inr (8, [.int 0, .int 0, .null, .int 0, .null, .int 0, .null, .null, .null, .null, .null, .null, .null, .int 0, .null, .null, .int 0, .int 0, .int 0, .int 0, .null, .int 0, .null, .int 0, .null, .int 0, .int 0, .int 0, .int 0, .null, .null, .null, .int 0, .null, .int 0, .null, .int 0, .int 0, .int 0, .null, .int 0, .int 0]))] : va_W) ++ (X0 ++ Q0)) := List.perm_append_comm
  refine cl_vG (wc := [(q3, .inr (8, [.int 0, .int 0, .null, .int 0, .null, .int 0, .null, .null, .null, .null, .null, .null, .null, .int 0, .null, .null, .int 0, .int 0, .int 0, .int 0, .null, .int 0, .null, .int 0, .null, .int 0, .int 0, .int 0, .int 0, .null, .null, .null, .int 0, .null, .int 0, .null, .int 0, .int 0, .int 0, .null, .int 0, .int 0]))]) (wr := X0 ++ Q0) hP hD hK hS hA hpm (va_runI (As := []) (rest := [.ref q3]) ⟨hx, hb, hml, hown, hts⟩ (c_O_init9 l D H.size q3) (cw_I hts 0 k_653 k_9 k_651 k_652 rfl (by decide +kernel) ⟨Nat.le_of_ble_eq_true rfl, Nat.le_of_ble_eq_true rfl⟩) (pr_SG hP hD hK hpm [] rfl (fun U hU hW => trivial) (fun U g mk a h => h)) rfl rfl hl.1 rfl (lv_room (Nat.le_of_ble_eq_true rfl)) d_L_law_12 ⟨by decide, by decide⟩) (fun u H locs h4 hP hD hK hS => ?_)
  obtain ⟨ad, ca⟩ := u
  have hP : va_P D wcl ((X0 ++ Q0) ++ MO q3 ad ca Z0) H := hP
  have hD : va_D A ((X0 ++ Q0) ++ MO q3 ad ca Z0) := hD
  have hK : va_K D wcl ([(cb, .object rc_R), (cC, .char), (cI, .int), (cZ, .boolean), (cF, .array .int)] ++ MT ca) s := hK
  refine W.widen (k := 184) (n := 16782) (by decide) (by decide) ?_
  refine lv_astore_n hx hb d_L_law_15 rfl hl (by decide) rfl (fun ls hl => ?_)
  have hl : lv_has ls 7 [(2, .ref q3), (1, .ref q1), (0, .ref b)] := hl
  refine lv_iconst (v := 1) hx hb d_L_law_16 (by decide) ?_
  refine va_newa (atype := .long) (ty := .long) (N' := 1) (a0 := (1, .inr (.inl (fun _ => 0)))) hx hb (hts _ k_977) rfl hK hP hD hS hA (fun cA => rfl) (by decide) (by decide) (by decide) (by decide) (by decide) d_L_law_17 (fun q5 cL H hK hP hD hS => ?_)
  refine W.widen (k := 185) (n := 16783) (by decide) (by decide) ?_
  refine lv_astore_n hx hb d_L_law_19 rfl hl (by decide) rfl (fun ls hl => ?_)
  have hl : lv_has ls 7 [(3, .ref q5), (2, .ref q3), (1, .ref q1), (0, .ref b)] := hl
  refine lv_iconst (v := 0) hx hb d_L_law_20 (by decide) ?_
  refine lv_istore hx hb d_L_law_21 hl (by decide) rfl (fun ls hl => ?_)
  have hl : lv_has ls 7 [(4, .int (nI 0)), (3, .ref q5), (2, .ref q3), (1, .ref q1), (0, .ref b)] := hl
  refine W.widen (k := 200 + 0) (n := 20000 + 6 * 0) (by decide) (by decide) ?_
  have K : LC p l s m meth c b L xs A := ⟨hx, hb, hr, hml, hown, hts, hX, hbl, hlocks, hA, hA2, hbA, hcx, st_nc hgv, htr, hL⟩
  obtain ⟨P, hPe⟩ : ∃ P, P = iP q1 dd da ee el es et a0 a1 a2 a3 a4 a5 er ma bb ba em fa cn := ⟨_, rfl⟩
  obtain ⟨C, hCe⟩ : ∃ C, C = iC cC cI cZ cb cF cL := ⟨_, rfl⟩
  have e1 : X0.Perm (W3 P C (fun _ => 0) 0 0 ++ W17 P C fr 0 bf 0 0 (fun _ => 0) y00 J00) := by
    rw [hX0, hPe, hCe]
    have h := pm_ix (X := [(q1, .inr (7, [.ref dd, .ref bb, .ref ee])), (dd, .inr (0, [.ref da, .int 0, .int 0])), (da, .inl (cC, 60, .inl (fun _ => 0))), (bb, .inr (5, [.ref ba, .int 0])), (ba, .inl (cb, 13, .inr (.inr (.inr (.inr bf))))), (ee, .inr (1, [.ref et, .ref em, .ref er, .ref el, .ref es, .null, .int 0, .int 0, .int 0])), (el, .inl (cC, 12, .inl (fun _ => 0))), (es, .inl (cI, 12, .inl (fun _ => 0))), (et, .inr (6, [.ref a0, .ref a1, .ref a2, .ref a3, .ref a4, .ref a5, .int 0, .int 0, .int 0, .int 0, .int 0])), (a0, .inl (cC, 780, .inl (fun _ => 0))), (a1, .inl (cI, 780, .inl (fun _ => 0))), (a2, .inl (cI, 780, .inl (fun _ => 0))), (a3, .inl (cI, 780, .inl (fun _ => 0))), (a4, .inl (cZ, 780, .inl (fun _ => 0))), (a5, .inl (cI, 12, .inl (fun _ => 0))), (er, .inr (3, [.ref ma, .int 0, .int 0])), (ma, .inl (cI, 150, .inl (fun _ => 0))), (em, .inr (2, [.ref fa, .ref cn])), (fa, .inl (cF, 26, .inr (.inr (.inr (.inr (fun j => some (fr j))))))), (cn, .inl (cI, 26, .inl (fun _ => 0)))]) (wc := W3 (iP q1 dd da ee el es et a0 a1 a2 a3 a4 a5 er ma bb ba em fa cn) (iC cC cI cZ cb cF cL) (fun _ => 0) 0 0 ++ W17 (iP q1 dd da ee el es et a0 a1 a2 a3 a4 a5 er ma bb ba em fa cn) (iC cC cI cZ cb cF cL) fr 0 bf 0 0 (fun _ => 0) y00 J00) (wr := []) 20 [0, 1, 2, 5, 6, 7, 8, 9, 10, 11, 12, 13, 14, 15, 16, 3, 4, 17, 18, 19] [] rfl rfl rfl (by decide)
    rw [List.append_nil] at h
    exact h
  have e2 : Q0 = WR C rt ++ WF C fr J00 := by
    rw [hQ0, hCe]
    rfl
  have hpm9 : (((X0 ++ Q0) ++ MO q3 ad ca Z0) ++ ([(q5, .inl (cL, 1, .inr (.inl (fun _ => 0))))] : va_W)).Perm (LW P C fr q3 q5 ad ca (fun _ => 0) 0 0 rt 0 bf 0 0 (fun _ => 0) y00 J00 Z0 (fun _ => 0)) := by
    have h := (e1.append_right Q0).append_right (MO q3 ad ca Z0 ++ ([(q5, .inl (cL, 1, .inr (.inl (fun _ => 0))))] : va_W))
    rw [← List.append_assoc (X0 ++ Q0)] at h
    refine h.trans ?_
    rw [e2]
    have e3 : ([(q5, .inl (cL, 1, .inr (.inl (fun _ => 0))))] : va_W) = WO C q5 (fun _ => 0) := by rw [hCe]; rfl
    rw [e3]
    exact List.Perm.refl _
  have hK9 : va_K D wcl (LT C ca) s := by
    rw [hCe]
    exact hK.sub [1, 1, 2, 1, 2, 2, 2, 3, 2, 2, 0, 1, 2, 2, 2, 3, 2, 2, 4, 2, 2, 5, 6, 7, 8, 9, 10, 11, 12, 13, 14, 15, 16, 17, 18, 19, 20, 21, 22, 23, 24, 25] rfl
  have hv : lv_has ls 7 [(4, .int (nI 0)), (3, .ref q5), (2, .ref q3), (1, .ref (P 0)), (0, .ref b)] := by
    rw [hPe]
    exact hl
  exact law_loop (e := e) (below := below) (D := D) (P := P) (C := C) (fr := fr) (g := q3) (oo := q5) (ad := ad) (ca := ca) K L 0 (by omega) (Nat.zero_le _) _ _ _ _ _ _ _ _ _ _ _ _ _ H _ ls ⟨hP.pm hpm9, hD.pm hpm9, hK9, hS⟩ ⟨LR_start rfl rfl rfl rfl (fun _ => by show 0 < 65536; decide), hbf, hok, y00_raw, y00_sm, J00_I⟩ hv
