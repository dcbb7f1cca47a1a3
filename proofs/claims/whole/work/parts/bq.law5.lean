/-! The law's rounds: expand. -/
abbrev US : Type := TSt × Int32 × Int32 × Int32 × Int32 × (Nat → Nat) × (Nat → Nat → Nat) × Nat × (Nat → Int32) × Nat × (Nat → Nat) × (Nat → Nat) × Nat × Nat × Value × Int32
/-- what the law's expand hands on, and the reference's expand -/
theorem le_pure {gs : OS} {sgn : Nat → Nat} {dn dt : Nat} {rt : Nat → RSt} {n md ln : Nat} {mk : Nat → Int32} {y : TSt} {k : Int32} (hlr : LR gs sgn dn dt rt n md ln mk) (hok : ∀ j, j < 13 → r_ok (rt j)) (hy : t_raw 780 y) (hsm : t_sm (2 ^ 31) y) {r : Int32} {u : US × (Nat → Int64)}
    (hq : (r = 0 ∧ ∃ v : Int32, (∃ r : Int32, some (Value.int v) = some (Value.int r) ∧ (∃ y1, t_res 780 0 sgn dn 0 dn (t_clr y) = some y1 ∧ (¬ k < 0 ∧ ¬ 12 < k) ∧ e_ex 780 rt n k.toNatClampNeg 12 0 [] (y1, 0, mk, 0) = .ok (u.1.1, u.1.2.2.2.2.2.2.2.1, u.1.2.2.2.2.2.2.2.2.1, u.1.2.2.2.2.2.2.2.2.2.1) ∧ r = nI u.1.2.2.2.2.2.2.2.2.2.1 ∧ u.1.2.2.2.2.2.2.2.2.2.2.2.2.2.1 = u.1.2.2.2.2.2.2.2.2.2.1 ∧ t_raw 780 u.1.1 ∧ t_sm (2 ^ 31) u.1.1 ∧ (∀ j, u.1.2.2.2.2.2.1 j ≤ 60) ∧ (∀ i, u.1.2.2.2.2.2.2.2.2.2.2.1 i < 65536) ∧ (∀ i, u.1.2.2.2.2.2.2.2.2.2.2.2.1 i < 2 ^ 31) ∧ u.1.2.2.2.2.2.2.2.2.2.2.2.2.1 ≤ 12 ∧ u.1.2.2.2.2.2.2.2.2.2.1 ≤ 150 ∧ u.1.2.2.2.2.2.2.2.1 ≤ 12 ∧ u.1.2.2.2.2.2.2.2.2.2.2.2.2.2.1 ≤ 150)) ∧ u.2 0 = v.toInt64) ∨ (r = 1 ∧ (((iaN = iaN ∧ (t_res 780 0 sgn dn 0 dn (t_clr y) = none ∨ k < 0 ∨ 12 < k) ∧ u.1.2.2.2.2.2.2.2.1 = md ∧ u.1.2.2.2.2.2.2.2.2.1 = mk ∧ u.1.2.2.2.2.2.2.2.2.2.2.2.2.2.1 = ln) ∨ (∃ y1, t_res 780 0 sgn dn 0 dn (t_clr y) = some y1 ∧ (¬ k < 0 ∧ ¬ 12 < k) ∧ e_ex 780 rt n k.toNatClampNeg 12 0 [] (y1, 0, mk, 0) = .error (iaN, u.1.2.2.2.2.2.2.2.1) ∧ u.1.2.2.2.2.2.2.2.2.2.2.2.2.2.1 = 0)) ∧ t_raw 780 u.1.1 ∧ t_sm (2 ^ 31) u.1.1 ∧ (∀ j, u.1.2.2.2.2.2.1 j ≤ 60) ∧ (∀ i, u.1.2.2.2.2.2.2.2.2.2.2.1 i < 65536) ∧ (∀ i, u.1.2.2.2.2.2.2.2.2.2.2.2.1 i < 2 ^ 31) ∧ u.1.2.2.2.2.2.2.2.2.2.2.2.2.1 ≤ 12 ∧ u.1.2.2.2.2.2.2.2.2.2.1 ≤ 150 ∧ u.1.2.2.2.2.2.2.2.1 ≤ 12 ∧ u.1.2.2.2.2.2.2.2.2.2.2.2.2.2.1 ≤ 150)) ∨ (r = 2 ∧ (((isN = iaN ∧ (t_res 780 0 sgn dn 0 dn (t_clr y) = none ∨ k < 0 ∨ 12 < k) ∧ u.1.2.2.2.2.2.2.2.1 = md ∧ u.1.2.2.2.2.2.2.2.2.1 = mk ∧ u.1.2.2.2.2.2.2.2.2.2.2.2.2.2.1 = ln) ∨ (∃ y1, t_res 780 0 sgn dn 0 dn (t_clr y) = some y1 ∧ (¬ k < 0 ∧ ¬ 12 < k) ∧ e_ex 780 rt n k.toNatClampNeg 12 0 [] (y1, 0, mk, 0) = .error (isN, u.1.2.2.2.2.2.2.2.1) ∧ u.1.2.2.2.2.2.2.2.2.2.2.2.2.2.1 = 0)) ∧ t_raw 780 u.1.1 ∧ t_sm (2 ^ 31) u.1.1 ∧ (∀ j, u.1.2.2.2.2.2.1 j ≤ 60) ∧ (∀ i, u.1.2.2.2.2.2.2.2.2.2.2.1 i < 65536) ∧ (∀ i, u.1.2.2.2.2.2.2.2.2.2.2.2.1 i < 2 ^ 31) ∧ u.1.2.2.2.2.2.2.2.2.2.2.2.2.1 ≤ 12 ∧ u.1.2.2.2.2.2.2.2.2.2.1 ≤ 150 ∧ u.1.2.2.2.2.2.2.2.1 ≤ 12 ∧ u.1.2.2.2.2.2.2.2.2.2.2.2.2.2.1 ≤ 150)) ∨ (r = 3 ∧ (((uoN = iaN ∧ (t_res 780 0 sgn dn 0 dn (t_clr y) = none ∨ k < 0 ∨ 12 < k) ∧ u.1.2.2.2.2.2.2.2.1 = md ∧ u.1.2.2.2.2.2.2.2.2.1 = mk ∧ u.1.2.2.2.2.2.2.2.2.2.2.2.2.2.1 = ln) ∨ (∃ y1, t_res 780 0 sgn dn 0 dn (t_clr y) = some y1 ∧ (¬ k < 0 ∧ ¬ 12 < k) ∧ e_ex 780 rt n k.toNatClampNeg 12 0 [] (y1, 0, mk, 0) = .error (uoN, u.1.2.2.2.2.2.2.2.1) ∧ u.1.2.2.2.2.2.2.2.2.2.2.2.2.2.1 = 0)) ∧ t_raw 780 u.1.1 ∧ t_sm (2 ^ 31) u.1.1 ∧ (∀ j, u.1.2.2.2.2.2.1 j ≤ 60) ∧ (∀ i, u.1.2.2.2.2.2.2.2.2.2.2.1 i < 65536) ∧ (∀ i, u.1.2.2.2.2.2.2.2.2.2.2.2.1 i < 2 ^ 31) ∧ u.1.2.2.2.2.2.2.2.2.2.2.2.2.1 ≤ 12 ∧ u.1.2.2.2.2.2.2.2.2.2.1 ≤ 150 ∧ u.1.2.2.2.2.2.2.2.1 ≤ 12 ∧ u.1.2.2.2.2.2.2.2.2.2.2.2.2.2.1 ≤ 150))) :
    ∃ F rr g2, rf_expand F gs k = some (rr, g2) ∧ g2.1 0 = r ∧ LR g2 sgn 0 0 rt n u.1.2.2.2.2.2.2.2.1 u.1.2.2.2.2.2.2.2.2.2.2.2.2.2.1 u.1.2.2.2.2.2.2.2.2.1 ∧ (r = 0 → u.2 0 = rr.toInt64) ∧ t_raw 780 u.1.1 ∧ t_sm (2 ^ 31) u.1.1 ∧ JI (u.1.2.2.2.2.2.2.2.2.2.2.2.2.2.2.1, u.1.2.2.2.2.2.2.2.2.2.2.2.2.1, u.1.2.2.2.2.2.2.2.2.2.2.2.2.2.2.2, u.1.2.2.2.2.2.2.2.2.2.2.1, u.1.2.2.2.2.2.2.2.2.2.2.2.1, u.1.2.1, u.1.2.2.1, u.1.2.2.2.1, u.1.2.2.2.2.1, u.1.2.2.2.2.2.2.2.2.2.1, u.1.2.2.2.2.2.2.1, u.1.2.2.2.2.2.1) := by
  obtain ⟨F, k1, k2⟩ := S_expand (cap := 780) (y := y) (k := k) hlr (Nat.le_refl _) hok hy hsm
  have ers : ∀ N, (((N = iaN ∧ (t_res 780 0 sgn dn 0 dn (t_clr y) = none ∨ k < 0 ∨ 12 < k) ∧ u.1.2.2.2.2.2.2.2.1 = md ∧ u.1.2.2.2.2.2.2.2.2.1 = mk ∧ u.1.2.2.2.2.2.2.2.2.2.2.2.2.2.1 = ln) ∨ (∃ y1, t_res 780 0 sgn dn 0 dn (t_clr y) = some y1 ∧ (¬ k < 0 ∧ ¬ 12 < k) ∧ e_ex 780 rt n k.toNatClampNeg 12 0 [] (y1, 0, mk, 0) = .error (N, u.1.2.2.2.2.2.2.2.1) ∧ u.1.2.2.2.2.2.2.2.2.2.2.2.2.2.1 = 0)) ∧ t_raw 780 u.1.1 ∧ t_sm (2 ^ 31) u.1.1 ∧ (∀ j, u.1.2.2.2.2.2.1 j ≤ 60) ∧ (∀ i, u.1.2.2.2.2.2.2.2.2.2.2.1 i < 65536) ∧ (∀ i, u.1.2.2.2.2.2.2.2.2.2.2.2.1 i < 2 ^ 31) ∧ u.1.2.2.2.2.2.2.2.2.2.2.2.2.1 ≤ 12 ∧ u.1.2.2.2.2.2.2.2.2.2.1 ≤ 150 ∧ u.1.2.2.2.2.2.2.2.1 ≤ 12 ∧ u.1.2.2.2.2.2.2.2.2.2.2.2.2.2.1 ≤ 150) → (N = iaN ∧ ∃ g2, rf_expand F gs k = some (0, g2) ∧ g2.1 0 = nI 1 ∧ LR g2 sgn 0 0 rt n u.1.2.2.2.2.2.2.2.1 u.1.2.2.2.2.2.2.2.2.2.2.2.2.2.1 u.1.2.2.2.2.2.2.2.2.1) ∨ (∃ g2, rf_expand F gs k = some (0, g2) ∧ ((N = isN ∧ g2.1 0 = nI 2) ∨ (N = uoN ∧ g2.1 0 = nI 3)) ∧ LR g2 sgn 0 0 rt n u.1.2.2.2.2.2.2.2.1 u.1.2.2.2.2.2.2.2.2.2.2.2.2.2.1 u.1.2.2.2.2.2.2.2.2.1) := fun N hN => by
    obtain ⟨⟨h1, h2, h3, h4, h5⟩ | ⟨y1, h1, h2, h3, h4⟩, -⟩ := hN
    · left
      refine ⟨h1, ?_⟩
      rw [h3, h4, h5]
      exact k1 h2
    · right
      rw [h4]
      exact (k2 y1 h1 h2.1 h2.2).1 _ _ _ h3
  have jj : t_raw 780 u.1.1 ∧ t_sm (2 ^ 31) u.1.1 ∧ (∀ j, u.1.2.2.2.2.2.1 j ≤ 60) ∧ (∀ i, u.1.2.2.2.2.2.2.2.2.2.2.1 i < 65536) ∧ (∀ i, u.1.2.2.2.2.2.2.2.2.2.2.2.1 i < 2 ^ 31) ∧ u.1.2.2.2.2.2.2.2.2.2.2.2.2.1 ≤ 12 ∧ u.1.2.2.2.2.2.2.2.2.2.1 ≤ 150 ∧ u.1.2.2.2.2.2.2.2.1 ≤ 12 ∧ u.1.2.2.2.2.2.2.2.2.2.2.2.2.2.1 ≤ 150 → t_raw 780 u.1.1 ∧ t_sm (2 ^ 31) u.1.1 ∧ JI (u.1.2.2.2.2.2.2.2.2.2.2.2.2.2.2.1, u.1.2.2.2.2.2.2.2.2.2.2.2.2.1, u.1.2.2.2.2.2.2.2.2.2.2.2.2.2.2.2, u.1.2.2.2.2.2.2.2.2.2.2.1, u.1.2.2.2.2.2.2.2.2.2.2.2.1, u.1.2.1, u.1.2.2.1, u.1.2.2.2.1, u.1.2.2.2.2.1, u.1.2.2.2.2.2.2.2.2.2.1, u.1.2.2.2.2.2.2.1, u.1.2.2.2.2.2.1) := fun ⟨a1, a2, a3, a4, a5, a6, a7, _, _⟩ => ⟨a1, a2, a6, a4, a5, a7, a3⟩
  rcases hq with ⟨r0, v, ⟨v2, hv2, y1, e1, e2, e3, e4, e5, e6⟩, ho⟩ | ⟨r0, hp⟩ | ⟨r0, hp⟩ | ⟨r0, hp⟩
  · obtain ⟨g2, h1, h2, h3⟩ := (k2 y1 e1 e2.1 e2.2).2 _ _ _ _ e3
    have hvv : v = v2 := by cases hv2; rfl
    exact ⟨F, _, g2, h1, by rw [h2, r0]; rfl, by rw [e5]; exact h3, fun _ => by rw [ho, hvv, e4], jj e6⟩
  · rcases ers _ hp with ⟨_, g2, h1, h2, h3⟩ | ⟨g2, h1, h2, h3⟩
    · exact ⟨F, _, g2, h1, by rw [h2, r0]; rfl, h3, fun q => absurd (r0.symm.trans q) (by decide), jj hp.2⟩
    · rcases h2 with ⟨q, _⟩ | ⟨q, _⟩
      · exact absurd q ne_ii
      · exact absurd q ne_iu
  · rcases ers _ hp with ⟨q, _⟩ | ⟨g2, h1, h2, h3⟩
    · exact absurd q.symm ne_ii
    · rcases h2 with ⟨_, h2⟩ | ⟨q, _⟩
      · exact ⟨F, _, g2, h1, by rw [h2, r0]; rfl, h3, fun q => absurd (r0.symm.trans q) (by decide), jj hp.2⟩
      · exact absurd q ne_su
  · rcases ers _ hp with ⟨q, _⟩ | ⟨g2, h1, h2, h3⟩
    · exact absurd q.symm ne_iu
    · rcases h2 with ⟨q, _⟩ | ⟨_, h2⟩
      · exact absurd q.symm ne_su
      · exact ⟨F, _, g2, h1, by rw [h2, r0]; rfl, h3, fun q => absurd (r0.symm.trans q) (by decide), jj hp.2⟩
section LAW5
variable {p : Program} {l : Launch} {e : Env} {s : State} {m : MethodId} {below : List Frame} {meth : Method} {c : Code} {b L i : Nat} {xs : Nat → Int32} {A : Nat → Prop} {D : va_G} {P : Nat → Nat} {C : Nat → ClassId} {fr : Nat → Nat} {g oo : Nat} {ad : Nat → Nat} {ca : Nat → ClassId}
  {sgn : Nat → Nat} {dn dt : Nat} {rt : Nat → RSt} {n : Nat} {bf : Nat → Option Nat} {md ln : Nat} {mk : Nat → Int32} {y : TSt} {J : JS} {gs : OS} {fo : Nat → Int64} {H : Heap} {locs : List Loc} {ls : Array Slot} {cells slots : Nat}
set_option maxHeartbeats 4000000 in
set_option maxRecDepth 100000 in
theorem law_expand (K : LC p l s m meth c b L xs A) (hd : HD p l e s m below meth c b A D P C fr g oo ad ca (i + 2)) (hs : SD D A s (LW P C fr g oo ad ca sgn dn dt rt n bf md ln mk y J gs fo) (LT C ca) H locs) (hl : SL sgn dn dt rt n bf md ln mk y J gs)
    (hv : lv_has ls 7 [(4, .int (nI i)), (3, .ref oo), (2, .ref g), (1, .ref (P 0)), (0, .ref b)]) (hi : i + 1 < L) : W p l e room_1 s m #[Value.ref b] below meth c H locs (200 + i) (20000 + 6 * i) (lw_Z below #[Value.ref b] s) (F0 m 195 ls []) := by
  obtain ⟨hx, hb, hr, hml, hown, hts, hX, hbl, hlocks, hA, hA2, hbA, hcx, hnc, htr, hL⟩ := id K
  obtain ⟨hP, hD, hK, hS⟩ := hs
  obtain ⟨hlr, hbf, hok, hy, hsm, hj⟩ := hl
  obtain ⟨le1, le2, le3, le4, le5, le6, le7⟩ := LR_le hlr
  refine lv_aload_n hx hb d_L_law_195 rfl (lv_at hv 3 rfl) ?_
  refine lv_aload_n hx hb d_L_law_196 rfl (lv_at hv 4 rfl) ?_
  refine lv_iload hx hb d_L_law_197 (lv_at hv 0 rfl) ?_
  refine lv_iconst (v := 1) hx hb d_L_law_199 (by decide) ?_
  refine lv_iadd hx hb d_L_law_200 ?_
  refine lv_topi (fun z ez => ?_)
  have ez : z = nI (i + 1) := ez.trans (nI_1 i)
  subst ez
  refine va_sld hx hb hX hbl hbA hS (vp_in_nI (n := i + 1) (N := L) hi (by omega)) d_L_law_201 ?_
  refine lv_aload_n hx hb d_L_law_202 rfl (lv_at hv 1 rfl) ?_
  generalize hkk : xs (nI (i + 1)).toNatClampNeg = k
  have hpm0 : (LW P C fr g oo ad ca sgn dn dt rt n bf md ln mk y J gs fo).Perm (((W3 P C sgn dn dt ++ W17 P C fr n bf md ln mk y J) ++ (WR C rt ++ WF C fr J)) ++ (MO g ad ca gs ++ WO C oo fo)) := List.Perm.refl _
  have hFx := va_freeG hD hS hA hpm0
  have hpm := hpm0.trans pmE
  refine cl_xG (wc := ((W3 P C sgn dn dt ++ W17 P C fr n bf md ln mk y J) ++ (WR C rt ++ WF C fr J)) ++ WO C oo fo) (wr := MO g ad ca gs) hP hD hK hS hA hpm (ex_runS (n := 3) (As := [.ref (P 0), .int k, .ref oo]) (rest := []) ⟨hx, hb, hml, hown, hts⟩ (x_L_expandG l D H.size (P 0) oo k ((W3 P C sgn dn dt ++ W17 P C fr n bf md ln mk y J) ++ (WR C rt ++ WF C fr J)) (FT C) [.ref (P 1), .ref (P 15), .ref (P 3)] (C 28) fo rfl (c_F_expand l htr D H.size (P 0) (P 1) (P 2) (C 2) sgn dn (nI dt) (P 3) (P 6) (P 17) (P 13) (P 4) (P 5) (j_bd J) md (j_bk J) (j_b7 J) (P 15) (C 4) (C 5) (j_bl J) (j_bs J) (fun k => P (7 + k)) (fun k => C (7 + k)) 780 y (j_w2 J) (j_w3 J) (j_w4 J) (j_w5 J) (P 14) (C 14) mk (j_fd J) ln (P 16) (C 16) bf (fun k => C (20 + k)) (C 26) rt n (P 18) (P 19) (C 18) (C 27) fr (j_ff J) (C 19) (j_ct J) k hbf hok (by omega) le7 hy hsm hj.2.2.2.2 hj.2.1 hj.2.2.1 hj.1 hj.2.2.2.1 le5 le4 (by omega) le6) (fun v u h => h.elim (fun r h => ⟨r, h.1⟩)) (fun xN u h => h.1.elim (fun h => Or.inl h.1) (fun h => h.elim (fun y1 h => Or.inr (xn_ex 12 0 [] _ _ h.2.2.1)))) (fun s U h hU hW => h.go va_S.rf hU hW) (fun U g mk a h => h.blind g mk a)) (wal_good k_462) rfl rfl rfl (hts _ k_0) (hts _ k_460) (hts _ k_461) (by decide +kernel) ⟨Nat.le_of_ble_eq_true rfl, Nat.le_of_ble_eq_true rfl⟩ (pr_SG hP hD hK hpm [0, 1, 2, 3, 4, 5, 6, 7, 8, 9, 10, 11, 12, 13, 14, 15, 16, 17, 18, 19, 20, 41] rfl (fun U hU hW => ⟨(hcx.go hS hU hW).narrow hFx, nc_warm hnc hW⟩) (fun U g mk a h => ⟨h.1.blind g mk a, h.2⟩)) rfl rfl hv.1 rfl (lv_room (Nat.le_of_ble_eq_true rfl)) d_L_law_203 ⟨by show 200 + i + 1 ≤ 601024; omega, by show 20000 + 6 * i + 6 ≤ 7293034; omega⟩) (fun r u H locs hq hP hD hK hS => ?_)
  obtain ⟨F, rr, g2, hrf, hz0, hlr2, hout, hy2, hsm2, hj2⟩ := le_pure hlr hok hy hsm hq
  obtain ⟨J2, hJ2⟩ : ∃ J2 : JS, J2 = (u.1.2.2.2.2.2.2.2.2.2.2.2.2.2.2.1, u.1.2.2.2.2.2.2.2.2.2.2.2.2.1, u.1.2.2.2.2.2.2.2.2.2.2.2.2.2.2.2, u.1.2.2.2.2.2.2.2.2.2.2.1, u.1.2.2.2.2.2.2.2.2.2.2.2.1, u.1.2.1, u.1.2.2.1, u.1.2.2.2.1, u.1.2.2.2.2.1, u.1.2.2.2.2.2.2.2.2.2.1, u.1.2.2.2.2.2.2.1, u.1.2.2.2.2.2.1) := ⟨_, rfl⟩
  have hpm2 : (LW P C fr g oo ad ca sgn 0 0 rt n bf u.1.2.2.2.2.2.2.2.1 u.1.2.2.2.2.2.2.2.2.2.2.2.2.2.1 u.1.2.2.2.2.2.2.2.2.1 u.1.1 J2 gs u.2).Perm ((((W3 P C sgn 0 0 ++ W17 P C fr n bf u.1.2.2.2.2.2.2.2.1 u.1.2.2.2.2.2.2.2.2.2.2.2.2.2.1 u.1.2.2.2.2.2.2.2.2.1 u.1.1 J2) ++ (WR C rt ++ WF C fr J2)) ++ WO C oo u.2) ++ MO g ad ca gs) := pmE
  obtain ⟨hP, hD, hK, hS⟩ : SD D A s (LW P C fr g oo ad ca sgn 0 0 rt n bf u.1.2.2.2.2.2.2.2.1 u.1.2.2.2.2.2.2.2.2.2.2.2.2.2.1 u.1.2.2.2.2.2.2.2.2.1 u.1.1 J2 gs u.2) (LT C ca) H locs := SD_to hP hD hK hS (by
    refine List.Perm.trans ?_ (List.perm_append_comm.trans hpm2.symm)
    rw [hJ2]
    exact List.Perm.refl _)
  have hj2 : JI J2 := by rw [hJ2]; exact hj2
  refine lv_istore hx hb d_L_law_206 hv (by decide) rfl (fun ls hv => ?_)
  have hv : lv_has ls 7 [(5, .int r), (4, .int (nI i)), (3, .ref oo), (2, .ref g), (1, .ref (P 0)), (0, .ref b)] := hv
  refine lv_aload_n hx hb d_L_law_208 rfl (lv_at hv 3 rfl) ?_
  refine lv_aload_n hx hb d_L_law_209 rfl (lv_at hv 5 rfl) ?_
  refine lv_iload hx hb d_L_law_210 (lv_at hv 1 rfl) ?_
  refine lv_iconst (v := 1) hx hb d_L_law_212 (by decide) ?_
  refine lv_iadd hx hb d_L_law_213 ?_
  refine lv_topi (fun z ez => ?_)
  have ez : z = nI (i + 1) := ez.trans (nI_1 i)
  subst ez
  refine va_sld hx hb hX hbl hbA hS (vp_in_nI (n := i + 1) (N := L) hi (by omega)) d_L_law_214 ?_
  rw [hkk]
  have hpm : (LW P C fr g oo ad ca sgn 0 0 rt n bf u.1.2.2.2.2.2.2.2.1 u.1.2.2.2.2.2.2.2.2.2.2.2.2.2.1 u.1.2.2.2.2.2.2.2.2.1 u.1.1 J2 gs u.2).Perm (MO g ad ca gs ++ (((W3 P C sgn 0 0 ++ W17 P C fr n bf u.1.2.2.2.2.2.2.2.1 u.1.2.2.2.2.2.2.2.2.2.2.2.2.2.1 u.1.2.2.2.2.2.2.2.2.1 u.1.1 J2) ++ (WR C rt ++ WF C fr J2)) ++ WO C oo u.2)) := pmO
  refine cl_iG (wc := MO g ad ca gs) (wr := ((W3 P C sgn 0 0 ++ W17 P C fr n bf u.1.2.2.2.2.2.2.2.1 u.1.2.2.2.2.2.2.2.2.2.2.2.2.2.1 u.1.2.2.2.2.2.2.2.2.1 u.1.1 J2) ++ (WR C rt ++ WF C fr J2)) ++ WO C oo u.2) hP hD hK hS hA hpm (va_runV (As := [.int k]) (rest := []) ⟨hx, hb, hml, hown, hts⟩ (a_expand l D H.size g ad ca F gs k rr g2 hrf) (cw_V hts 1 k_884 k_9 k_881 k_882 k_883 (by decide +kernel) ⟨Nat.le_of_ble_eq_true rfl, Nat.le_of_ble_eq_true rfl⟩) (pr_VG hP hD hK hpm [21, 22, 23, 24, 25, 26, 27, 28, 29, 30, 31, 32, 33, 34, 35, 36, 37, 38, 39, 40] rfl (fun U hU hW => trivial) (fun U g mk a h => h) (q0 := 0) (ci := 8) rfl rfl) rfl rfl hv.1 rfl (lv_room (Nat.le_of_ble_eq_true rfl)) d_L_law_215 ⟨by show 200 + i + 1 + _ ≤ 601024; omega, by show 20000 + 6 * i + 6 + _ ≤ 7293034; omega⟩) (fun r3 u2 H locs hq2 hP hD hK hS => ?_)
  obtain ⟨hP, hD, hK, hS⟩ : SD D A s (LW P C fr g oo ad ca sgn 0 0 rt n bf u.1.2.2.2.2.2.2.2.1 u.1.2.2.2.2.2.2.2.2.2.2.2.2.2.1 u.1.2.2.2.2.2.2.2.2.1 u.1.1 J2 g2 u.2) (LT C ca) H locs := SD_to hP hD hK hS (List.perm_append_comm.trans (List.Perm.symm pmO))
  refine lv_istore hx hb d_L_law_218 hv (by decide) rfl (fun ls hv => ?_)
  have hv : lv_has ls 7 [(6, .int r3), (5, .int r), (4, .int (nI i)), (3, .ref oo), (2, .ref g), (1, .ref (P 0)), (0, .ref b)] := hv
  refine lv_aload_n hx hb d_L_law_220 rfl (lv_at hv 4 rfl) ?_
  have hpm : (LW P C fr g oo ad ca sgn 0 0 rt n bf u.1.2.2.2.2.2.2.2.1 u.1.2.2.2.2.2.2.2.2.2.2.2.2.2.1 u.1.2.2.2.2.2.2.2.2.1 u.1.1 J2 g2 u.2).Perm (MO g ad ca g2 ++ (((W3 P C sgn 0 0 ++ W17 P C fr n bf u.1.2.2.2.2.2.2.2.1 u.1.2.2.2.2.2.2.2.2.2.2.2.2.2.1 u.1.2.2.2.2.2.2.2.2.1 u.1.1 J2) ++ (WR C rt ++ WF C fr J2)) ++ WO C oo u.2)) := pmO
  refine cl_iG (wc := MO g ad ca g2) (wr := ((W3 P C sgn 0 0 ++ W17 P C fr n bf u.1.2.2.2.2.2.2.2.1 u.1.2.2.2.2.2.2.2.2.2.2.2.2.2.1 u.1.2.2.2.2.2.2.2.2.1 u.1.1 J2) ++ (WR C rt ++ WF C fr J2)) ++ WO C oo u.2) hP hD hK hS hA hpm (va_runV (As := []) (rest := []) ⟨hx, hb, hml, hown, hts⟩ (a_thrown l D H.size g ad ca 5000 g2 (g2.1 0) g2 rfl) (cw_V hts 0 k_785 k_9 k_782 k_783 k_784 (by decide +kernel) ⟨Nat.le_of_ble_eq_true rfl, Nat.le_of_ble_eq_true rfl⟩) (pr_VG hP hD hK hpm [21, 22, 23, 24, 25, 26, 27, 28, 29, 30, 31, 32, 33, 34, 35, 36, 37, 38, 39, 40] rfl (fun U hU hW => trivial) (fun U g mk a h => h) (q0 := 0) (ci := 8) rfl rfl) rfl rfl hv.1 rfl (lv_room (Nat.le_of_ble_eq_true rfl)) d_L_law_221 ⟨by show 200 + i + 1 + _ ≤ 601024; omega, by show 20000 + 6 * i + 6 + _ ≤ 7293034; omega⟩) (fun r4 u3 H locs hq3 hP hD hK hS => ?_)
  obtain ⟨hP, hD, hK, hS⟩ : SD D A s (LW P C fr g oo ad ca sgn 0 0 rt n bf u.1.2.2.2.2.2.2.2.1 u.1.2.2.2.2.2.2.2.2.2.2.2.2.2.1 u.1.2.2.2.2.2.2.2.2.1 u.1.1 J2 g2 u.2) (LT C ca) H locs := SD_to hP hD hK hS (List.perm_append_comm.trans (List.Perm.symm pmO))
  have fin : W p l e room_1 s m #[Value.ref b] below meth c H locs (200 + i + 1 + 0 + 0) (20000 + 6 * i + 6 + 0 + 0) (lw_Z below #[Value.ref b] s) (F0 m 248 ls []) := by
    refine lv_goto (tgt := 302) hx hb d_L_law_248 (by decide) ?_
    exact law_tail K hd ⟨hP, hD, hK, hS⟩ ⟨hlr2, hbf, hok, hy2, hsm2, hj2⟩ (lv_sub9 hv (fun q hq => List.mem_cons_of_mem _ (List.mem_cons_of_mem _ hq))) (by omega) (by omega)
  refine lv_iload hx hb d_L_law_224 (lv_at hv 1 rfl) ?_
  refine lv_icmp_eq (tgt := 231) hx hb d_L_law_226 (by decide) (fun _ => ?_) (fun h9 => absurd (hq3.symm.trans hz0) h9)
  refine lv_iload hx hb d_L_law_231 (lv_at hv 1 rfl) ?_
  refine lv_if_ne (tgt := 248) hx hb d_L_law_233 (by decide) (fun _ => fin) (fun h9 => ?_)
  refine lv_aload_n hx hb d_L_law_236 rfl (lv_at hv 3 rfl) ?_
  refine lv_iconst (v := 0) hx hb d_L_law_237 (by decide) ?_
  refine va_lald hx hb hK (hP.pm pmQ) 0 41 (cA := C 28) (n := 1) (f := u.2) rfl rfl (vp_in_nI (n := 0) (N := 1) (by decide) (by decide)) d_L_law_238 ?_
  refine lv_iload hx hb d_L_law_239 (lv_at hv 0 rfl) ?_
  refine lv_i2l (v := r3.toInt64) hx hb d_L_law_241 rfl ?_
  refine W.lcmp hx hb d_L_law_242 ?_
  exact lv_if_eq (tgt := 248) hx hb d_L_law_243 (by decide) (fun _ => fin) (fun h8 => absurd (lg_same ((hout h9).trans (by rw [hq2]))) h8)
end LAW5
