/-! The law's rounds: rule and expand. -/
theorem pmC {Y Z M O : va_W} : (Y ++ (Z ++ (M ++ O))).Perm ((Y ++ O) ++ (Z ++ M)) := by
  rw [← List.append_assoc Z M O, List.append_assoc Y O (Z ++ M)]
  exact List.perm_append_comm.append_left Y
theorem pmE {X M O : va_W} : (X ++ (M ++ O)).Perm ((X ++ O) ++ M) := by
  rw [List.append_assoc X O M]
  exact List.perm_append_comm.append_left X
theorem pmQ {X M O : va_W} : (X ++ (M ++ O)).Perm (O ++ (X ++ M)) := by
  rw [← List.append_assoc X M O]
  exact List.perm_append_comm
theorem lg_same {x z : Int64} (h : x = z) : lg_cmp x z = 0 := by
  subst h
  have h1 : ¬ x > x := Int64.lt_irrefl
  unfold lg_cmp
  rw [if_neg h1, if_pos rfl]
section BACKXG
variable {p : Program} {l : Launch} {e : Env} {R : Room} {s : State} {m : MethodId} {args : Array Value} {below : List Frame} {meth : Method} {c : Code} {H H0 : Heap} {locs : List Loc} {cells slots mc ms pc : Nat} {Q : State → Prop} {ls : Array Slot} {st0 rest : List Value} {a : Array Value}
  {D : va_G} {A0 : Nat → Prop} {ws wc wr : va_W} {tys : List (ClassId × FieldType)}
theorem cl_xG {S : Type} {post : Int32 → S → Prop} {w1 : S → va_W} {t1 : S → List (ClassId × FieldType)} (hP : va_P D wcl ws H) (hD : va_D A0 ws) (hK : va_K D wcl tys s) (hS : va_S A0 H0 H locs) (hA : ∀ q, H0.size ≤ q → A0 q) (hp : ws.Perm (wc ++ wr))
    (hr : ex_Run p l e R s m args below meth c H locs cells slots mc ms (F0 m pc ls st0) rest (va_Qi post (fun u t => po D (va_A wc H.size) (w1 u) (t1 u) t) (va_A wc H.size) a) (va_A wc H.size))
    (kk : ∀ (r : Int32) (u : S) (H1 : Heap) (locs1 : List Loc), post r u → va_P D wcl (wr ++ w1 u) H1 → va_D A0 (wr ++ w1 u) → va_K D wcl (tys ++ t1 u) s → va_S A0 H0 H1 locs1 → W p l e R s m args below meth c H1 locs1 (cells + mc) (slots + ms) Q (F0 m (pc + 3) ls (.int r :: rest))) :
    W p l e R s m args below meth c H locs cells slots Q (F0 m pc ls st0) := by
  have hFc := va_freeG hD hS hA hp
  refine ex_call hr hS hFc (fun st o t h => ⟨h.2.1, fun q h1 h2 => h.2.2 q h1 (fun z => h2 (hFc q z))⟩) (fun v st t H1 locs1 h0 ht hal hq hS1 => ?_) (fun x st t H1 locs1 h0 ht hal hq hS1 => ?_)
  · obtain ⟨⟨r, u, hv, hp1, hP1, hK1, hD1⟩, hz, hk⟩ := hq
    cases hv
    rw [ht] at hP1
    obtain ⟨hP2, hD2⟩ := va_joinG hP hD hp (fun q h1 h2 => by rw [← ht, hk q (by rw [h0]; exact h1) h2, h0]) hFc hP1 hD1
    exact kk r u H1 locs1 hp1 hP2 hD2 (hK.app (va_K.moved hal.symm hK1)) hS1
  · obtain ⟨⟨r, u, hv, -⟩, -⟩ := hq
    cases hv
end BACKXG
theorem ne_iu : iaN ≠ uoN := by decide
theorem ne_ii : iaN ≠ isN := by decide
theorem ne_su : isN ≠ uoN := by decide
/-- what the law's rule hands on, and the reference's rule -/
theorem lr_pure {gs : OS} {sgn : Nat → Nat} {dn dt : Nat} {rt : Nat → RSt} {n md ln : Nat} {mk : Nat → Int32} {bf : Nat → Option Nat} (hlr : LR gs sgn dn dt rt n md ln mk) (hbf : ∀ j, j < 13 → bf j = some (rt j).1) (hok : ∀ j, j < 13 → r_ok (rt j)) {r : Int32} {u : ((Nat → RSt) × Nat) × (Nat → Int64)}
    (hq : (r = 0 ∧ ∃ v : Int32, (∃ r : Int32, some (Value.int v) = some (Value.int r) ∧ (r = nI (r_ct u.1.1 (r_mc (u.1.1 n)) (n + 1)) ∧ u.1.2 = n + 1 ∧ n < 12 ∧ r_rd sgn dn (rt n) (u.1.1 n) 1 ∧ (u.1.1 n).1 = (rt n).1 ∧ (∀ j, j ≠ n → u.1.1 j = rt j) ∧ r_ok (u.1.1 n))) ∧ u.2 0 = v.toInt64) ∨
      (r = 1 ∧ ((iaN = iaN ∧ r_rd sgn dn (rt n) (u.1.1 n) 0) ∨ (iaN = uoN ∧ r_rd sgn dn (rt n) (u.1.1 n) 1 ∧ n = 12)) ∧ u.1.2 = n ∧ (u.1.1 n).1 = (rt n).1 ∧ (∀ j, j ≠ n → u.1.1 j = rt j) ∧ r_ok (u.1.1 n)) ∨
      (r = 2 ∧ ((uoN = iaN ∧ r_rd sgn dn (rt n) (u.1.1 n) 0) ∨ (uoN = uoN ∧ r_rd sgn dn (rt n) (u.1.1 n) 1 ∧ n = 12)) ∧ u.1.2 = n ∧ (u.1.1 n).1 = (rt n).1 ∧ (∀ j, j ≠ n → u.1.1 j = rt j) ∧ r_ok (u.1.1 n))) :
    ∃ rr g2, rf_rule 5000 gs = some (rr, g2) ∧ g2.1 0 = r ∧ LR g2 sgn 0 0 u.1.1 u.1.2 md ln mk ∧ (r = 0 → u.2 0 = rr.toInt64) ∧ (∀ j, j < 13 → bf j = some (u.1.1 j).1) ∧ ∀ j, j < 13 → r_ok (u.1.1 j) := by
  have hn : n ≤ 12 := (LR_le hlr).2.2.1
  obtain ⟨k1, k2, k3⟩ := S_rule (F := 5000) (u1 := u.1.1) (Nat.le_refl _) hlr (hok n (by omega))
  have same : (u.1.1 n).1 = (rt n).1 → (∀ j, j ≠ n → u.1.1 j = rt j) → r_ok (u.1.1 n) → (∀ j, j < 13 → bf j = some (u.1.1 j).1) ∧ ∀ j, j < 13 → r_ok (u.1.1 j) := fun a1 a2 a3 => by
    refine ⟨fun j hj => ?_, fun j hj => ?_⟩
    · by_cases q : j = n
      · rw [q, a1]; exact hbf n (by omega)
      · rw [a2 j q]; exact hbf j hj
    · by_cases q : j = n
      · rw [q]; exact a3
      · rw [a2 j q]; exact hok j hj
  rcases hq with ⟨r0, v, ⟨v2, hv2, e1, e2, e3, e4, e5, e6, e7⟩, ho⟩ | ⟨r0, hp, e2, e5, e6, e7⟩ | ⟨r0, hp, e2, e5, e6, e7⟩
  · obtain ⟨g2, h1, h2, h3⟩ := k1 e3 e4 e6 e7
    have hvv : v = v2 := by cases hv2; rfl
    exact ⟨_, g2, h1, by rw [h2, r0]; rfl, by rw [e2]; exact h3, fun _ => by rw [ho, hvv, e1], same e5 e6 e7⟩
  · rcases hp with ⟨_, hp⟩ | ⟨hp, _⟩
    · obtain ⟨g2, h1, h2, h3⟩ := k2 hp e6
      exact ⟨_, g2, h1, by rw [h2, r0]; rfl, by rw [e2]; exact h3, fun q => absurd (r0.symm.trans q) (by decide), same e5 e6 e7⟩
    · exact absurd hp ne_iu
  · rcases hp with ⟨hp, _⟩ | ⟨_, hp, h12⟩
    · exact absurd hp.symm ne_iu
    · obtain ⟨g2, h1, h2, h3⟩ := k3 h12 hp e6
      exact ⟨_, g2, h1, by rw [h2, r0]; rfl, by rw [e2]; exact h3, fun q => absurd (r0.symm.trans q) (by decide), same e5 e6 e7⟩
section LAW4
variable {p : Program} {l : Launch} {e : Env} {s : State} {m : MethodId} {below : List Frame} {meth : Method} {c : Code} {b L i : Nat} {xs : Nat → Int32} {A : Nat → Prop} {D : va_G} {P : Nat → Nat} {C : Nat → ClassId} {fr : Nat → Nat} {g oo : Nat} {ad : Nat → Nat} {ca : Nat → ClassId}
  {sgn : Nat → Nat} {dn dt : Nat} {rt : Nat → RSt} {n : Nat} {bf : Nat → Option Nat} {md ln : Nat} {mk : Nat → Int32} {y : TSt} {J : JS} {gs : OS} {fo : Nat → Int64} {H : Heap} {locs : List Loc} {ls : Array Slot} {cells slots : Nat}
set_option maxHeartbeats 4000000 in
set_option maxRecDepth 100000 in
theorem law_rule (K : LC p l s m meth c b L xs A) (hd : HD p l e s m below meth c b A D P C fr g oo ad ca (i + 2)) (hs : SD D A s (LW P C fr g oo ad ca sgn dn dt rt n bf md ln mk y J gs fo) (LT C ca) H locs) (hl : SL sgn dn dt rt n bf md ln mk y J gs)
    (hv : lv_has ls 7 [(4, .int (nI i)), (3, .ref oo), (2, .ref g), (1, .ref (P 0)), (0, .ref b)]) (hi : i + 1 < L) : W p l e room_1 s m #[Value.ref b] below meth c H locs (200 + i) (20000 + 6 * i) (lw_Z below #[Value.ref b] s) (F0 m 111 ls []) := by
  obtain ⟨hx, hb, hr, hml, hown, hts, hX, hbl, hlocks, hA, hA2, hbA, hcx, hnc, htr, hL⟩ := id K
  obtain ⟨hP, hD, hK, hS⟩ := hs
  obtain ⟨hlr, hbf, hok, hy, hsm, hj⟩ := hl
  obtain ⟨le1, le2, le3, le4, le5, le6, le7⟩ := LR_le hlr
  refine lv_aload_n hx hb d_L_law_111 rfl (lv_at hv 3 rfl) ?_
  refine lv_aload_n hx hb d_L_law_112 rfl (lv_at hv 1 rfl) ?_
  have hpm0 : (LW P C fr g oo ad ca sgn dn dt rt n bf md ln mk y J gs fo).Perm ((([(P 0, .inr (7, [.ref (P 1), .ref (P 15), .ref (P 3)])), (P 15, .inr (5, [.ref (P 16), .int (nI n)])), (P 16, .inl (C 16, 13, .inr (.inr (.inr (.inr bf))))), (P 1, .inr (0, [.ref (P 2), .int (nI dn), .int (nI dt)])), (P 2, .inl (C 2, 60, .inl (nf sgn)))] : va_W) ++ WR C rt) ++ ((pk (W3 P C sgn dn dt ++ W17 P C fr n bf md ln mk y J) [3, 4, 5, 6, 7, 8, 9, 10, 11, 12, 13, 14, 17, 18, 19] ++ WF C fr J) ++ (MO g ad ca gs ++ WO C oo fo))) := pmB (pm_ix 20 [0, 15, 16, 1, 2] [3, 4, 5, 6, 7, 8, 9, 10, 11, 12, 13, 14, 17, 18, 19] rfl rfl rfl (by decide))
  have hFx := va_freeG hD hS hA hpm0
  have hpm := hpm0.trans pmC
  refine cl_xG (wc := (([(P 0, .inr (7, [.ref (P 1), .ref (P 15), .ref (P 3)])), (P 15, .inr (5, [.ref (P 16), .int (nI n)])), (P 16, .inl (C 16, 13, .inr (.inr (.inr (.inr bf))))), (P 1, .inr (0, [.ref (P 2), .int (nI dn), .int (nI dt)])), (P 2, .inl (C 2, 60, .inl (nf sgn)))] : va_W) ++ WR C rt) ++ WO C oo fo) (wr := (pk (W3 P C sgn dn dt ++ W17 P C fr n bf md ln mk y J) [3, 4, 5, 6, 7, 8, 9, 10, 11, 12, 13, 14, 17, 18, 19] ++ WF C fr J) ++ MO g ad ca gs) hP hD hK hS hA hpm (ex_runS (n := 2) (As := [.ref (P 0), .ref oo]) (rest := []) ⟨hx, hb, hml, hown, hts⟩ (x_L_ruleG l D H.size (P 0) oo (([(P 0, .inr (7, [.ref (P 1), .ref (P 15), .ref (P 3)])), (P 15, .inr (5, [.ref (P 16), .int (nI n)])), (P 16, .inl (C 16, 13, .inr (.inr (.inr (.inr bf))))), (P 1, .inr (0, [.ref (P 2), .int (nI dn), .int (nI dt)])), (P 2, .inl (C 2, 60, .inl (nf sgn)))] : va_W) ++ WR C rt) [(C 16, .object rc_R), (C 20, .char), (C 21, .int), (C 22, .int), (C 23, .int), (C 24, .boolean), (C 25, .int), (C 26, .int), (C 2, .char)] [.ref (P 1), .ref (P 15), .ref (P 3)] (C 28) fo rfl (c_F_rule l htr D H.size (P 0) (P 3) (P 15) (P 16) (C 16) bf (fun k => C (20 + k)) (C 26) rt n (P 1) (P 2) (C 2) sgn dn (nI dt) hbf hok le3 (by omega) le6) (fun v u h => h.elim (fun r h => ⟨r, h.1⟩)) (fun xN u h => h.1.elim (fun h => Or.inl h.1) (fun h => Or.inr h.1)) (fun s U h hU hW => h.go va_S.rf hU hW) (fun U g mk a h => h.blind g mk a)) (wal_good k_257) rfl rfl rfl (hts _ k_0) (hts _ k_255) (hts _ k_256) (by decide +kernel) ⟨Nat.le_of_ble_eq_true rfl, Nat.le_of_ble_eq_true rfl⟩ (pr_SG hP hD hK hpm [10, 11, 12, 13, 14, 15, 16, 17, 0, 41] rfl (fun U hU hW => ⟨(hcx.go hS hU hW).narrow hFx, nc_warm hnc hW⟩) (fun U g mk a h => ⟨h.1.blind g mk a, h.2⟩)) rfl rfl hv.1 rfl (lv_room (Nat.le_of_ble_eq_true rfl)) d_L_law_113 ⟨by show 200 + i + 1 ≤ 601024; omega, by show 20000 + 6 * i + 6 ≤ 7293034; omega⟩) (fun r u H locs hq hP hD hK hS => ?_)
  obtain ⟨rr, g2, hrf, hz0, hlr2, hout, hbf2, hok2⟩ := lr_pure hlr hbf hok hq
  have hpm2 : (LW P C fr g oo ad ca sgn 0 0 u.1.1 u.1.2 bf md ln mk y J gs u.2).Perm (((([(P 0, .inr (7, [.ref (P 1), .ref (P 15), .ref (P 3)])), (P 15, .inr (5, [.ref (P 16), .int (nI u.1.2)])), (P 16, .inl (C 16, 13, .inr (.inr (.inr (.inr bf))))), (P 1, .inr (0, [.ref (P 2), .int (nI 0), .int (nI 0)])), (P 2, .inl (C 2, 60, .inl (nf sgn)))] : va_W) ++ WR C u.1.1) ++ WO C oo u.2) ++ ((pk (W3 P C sgn dn dt ++ W17 P C fr n bf md ln mk y J) [3, 4, 5, 6, 7, 8, 9, 10, 11, 12, 13, 14, 17, 18, 19] ++ WF C fr J) ++ MO g ad ca gs)) := (pmB (pm_ix 20 [0, 15, 16, 1, 2] [3, 4, 5, 6, 7, 8, 9, 10, 11, 12, 13, 14, 17, 18, 19] rfl rfl rfl (by decide))).trans pmC
  obtain ⟨hP, hD, hK, hS⟩ : SD D A s (LW P C fr g oo ad ca sgn 0 0 u.1.1 u.1.2 bf md ln mk y J gs u.2) (LT C ca) H locs := SD_to hP hD hK hS (List.perm_append_comm.trans hpm2.symm)
  refine lv_istore hx hb d_L_law_116 hv (by decide) rfl (fun ls hv => ?_)
  have hv : lv_has ls 7 [(5, .int r), (4, .int (nI i)), (3, .ref oo), (2, .ref g), (1, .ref (P 0)), (0, .ref b)] := hv
  refine lv_aload_n hx hb d_L_law_118 rfl (lv_at hv 3 rfl) ?_
  have hpm : (LW P C fr g oo ad ca sgn 0 0 u.1.1 u.1.2 bf md ln mk y J gs u.2).Perm (MO g ad ca gs ++ (((W3 P C sgn 0 0 ++ W17 P C fr u.1.2 bf md ln mk y J) ++ (WR C u.1.1 ++ WF C fr J)) ++ WO C oo u.2)) := pmO
  refine cl_iG (wc := MO g ad ca gs) (wr := ((W3 P C sgn 0 0 ++ W17 P C fr u.1.2 bf md ln mk y J) ++ (WR C u.1.1 ++ WF C fr J)) ++ WO C oo u.2) hP hD hK hS hA hpm (va_runV (As := []) (rest := []) ⟨hx, hb, hml, hown, hts⟩ (a_rule l D H.size g ad ca 5000 gs rr g2 hrf) (cw_V hts 0 k_793 k_9 k_790 k_791 k_792 (by decide +kernel) ⟨Nat.le_of_ble_eq_true rfl, Nat.le_of_ble_eq_true rfl⟩) (pr_VG hP hD hK hpm [21, 22, 23, 24, 25, 26, 27, 28, 29, 30, 31, 32, 33, 34, 35, 36, 37, 38, 39, 40] rfl (fun U hU hW => trivial) (fun U g mk a h => h) (q0 := 0) (ci := 8) rfl rfl) rfl rfl hv.1 rfl (lv_room (Nat.le_of_ble_eq_true rfl)) d_L_law_119 ⟨by show 200 + i + 1 + _ ≤ 601024; omega, by show 20000 + 6 * i + 6 + _ ≤ 7293034; omega⟩) (fun r3 u2 H locs hq2 hP hD hK hS => ?_)
  obtain ⟨hP, hD, hK, hS⟩ : SD D A s (LW P C fr g oo ad ca sgn 0 0 u.1.1 u.1.2 bf md ln mk y J g2 u.2) (LT C ca) H locs := SD_to hP hD hK hS (List.perm_append_comm.trans (List.Perm.symm pmO))
  refine lv_istore hx hb d_L_law_122 hv (by decide) rfl (fun ls hv => ?_)
  have hv : lv_has ls 7 [(6, .int r3), (5, .int r), (4, .int (nI i)), (3, .ref oo), (2, .ref g), (1, .ref (P 0)), (0, .ref b)] := hv
  refine lv_aload_n hx hb d_L_law_124 rfl (lv_at hv 4 rfl) ?_
  have hpm : (LW P C fr g oo ad ca sgn 0 0 u.1.1 u.1.2 bf md ln mk y J g2 u.2).Perm (MO g ad ca g2 ++ (((W3 P C sgn 0 0 ++ W17 P C fr u.1.2 bf md ln mk y J) ++ (WR C u.1.1 ++ WF C fr J)) ++ WO C oo u.2)) := pmO
  refine cl_iG (wc := MO g ad ca g2) (wr := ((W3 P C sgn 0 0 ++ W17 P C fr u.1.2 bf md ln mk y J) ++ (WR C u.1.1 ++ WF C fr J)) ++ WO C oo u.2) hP hD hK hS hA hpm (va_runV (As := []) (rest := []) ⟨hx, hb, hml, hown, hts⟩ (a_thrown l D H.size g ad ca 5000 g2 (g2.1 0) g2 rfl) (cw_V hts 0 k_785 k_9 k_782 k_783 k_784 (by decide +kernel) ⟨Nat.le_of_ble_eq_true rfl, Nat.le_of_ble_eq_true rfl⟩) (pr_VG hP hD hK hpm [21, 22, 23, 24, 25, 26, 27, 28, 29, 30, 31, 32, 33, 34, 35, 36, 37, 38, 39, 40] rfl (fun U hU hW => trivial) (fun U g mk a h => h) (q0 := 0) (ci := 8) rfl rfl) rfl rfl hv.1 rfl (lv_room (Nat.le_of_ble_eq_true rfl)) d_L_law_125 ⟨by show 200 + i + 1 + _ ≤ 601024; omega, by show 20000 + 6 * i + 6 + _ ≤ 7293034; omega⟩) (fun r4 u3 H locs hq3 hP hD hK hS => ?_)
  obtain ⟨hP, hD, hK, hS⟩ : SD D A s (LW P C fr g oo ad ca sgn 0 0 u.1.1 u.1.2 bf md ln mk y J g2 u.2) (LT C ca) H locs := SD_to hP hD hK hS (List.perm_append_comm.trans (List.Perm.symm pmO))
  have fin : W p l e room_1 s m #[Value.ref b] below meth c H locs (200 + i + 1 + 0 + 0) (20000 + 6 * i + 6 + 0 + 0) (lw_Z below #[Value.ref b] s) (F0 m 152 ls []) := by
    refine lv_goto (tgt := 302) hx hb d_L_law_152 (by decide) ?_
    exact law_tail K hd ⟨hP, hD, hK, hS⟩ ⟨hlr2, hbf2, hok2, hy, hsm, hj⟩ (lv_sub9 hv (fun q hq => List.mem_cons_of_mem _ (List.mem_cons_of_mem _ hq))) (by omega) (by omega)
  refine lv_iload hx hb d_L_law_128 (lv_at hv 1 rfl) ?_
  refine lv_icmp_eq (tgt := 135) hx hb d_L_law_130 (by decide) (fun _ => ?_) (fun h9 => absurd (hq3.symm.trans hz0) h9)
  refine lv_iload hx hb d_L_law_135 (lv_at hv 1 rfl) ?_
  refine lv_if_ne (tgt := 152) hx hb d_L_law_137 (by decide) (fun _ => fin) (fun h9 => ?_)
  refine lv_aload_n hx hb d_L_law_140 rfl (lv_at hv 3 rfl) ?_
  refine lv_iconst (v := 0) hx hb d_L_law_141 (by decide) ?_
  refine va_lald hx hb hK (hP.pm pmQ) 0 41 (cA := C 28) (n := 1) (f := u.2) rfl rfl (vp_in_nI (n := 0) (N := 1) (by decide) (by decide)) d_L_law_142 ?_
  refine lv_iload hx hb d_L_law_143 (lv_at hv 0 rfl) ?_
  refine lv_i2l (v := r3.toInt64) hx hb d_L_law_145 rfl ?_
  refine W.lcmp hx hb d_L_law_146 ?_
  exact lv_if_eq (tgt := 152) hx hb d_L_law_147 (by decide) (fun _ => fin) (fun h8 => absurd (lg_same ((hout h9).trans (by rw [hq2]))) h8)
end LAW4
