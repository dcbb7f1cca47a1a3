/-! The law's loop. -/
theorem hd_gt {L i : Nat} (hL : L ≤ 1024) (hi : i ≤ 1026) : Int32.ofNat L - 2 < nI i ↔ L < i + 2 := by
  have h1 : (Int32.ofNat L - 2).toInt = (L : Int) - 2 := by
    have e1 : (Int32.ofNat L).toInt = (L : Int) := nI_toInt (n := L) (by omega)
    rw [Int32.toInt_sub, e1, show (2 : Int32).toInt = 2 from rfl, Int.bmod_eq_of_le (by omega) (by omega)]
  rw [Int32.lt_iff_toInt_lt, h1, nI_toInt (by omega)]
  omega
section LAW6
variable {p : Program} {l : Launch} {e : Env} {s : State} {m : MethodId} {below : List Frame} {meth : Method} {c : Code} {b L : Nat} {xs : Nat → Int32} {A : Nat → Prop} {D : va_G} {P : Nat → Nat} {C : Nat → ClassId} {fr : Nat → Nat} {g oo : Nat} {ad : Nat → Nat} {ca : Nat → ClassId}
set_option maxHeartbeats 4000000 in
set_option maxRecDepth 100000 in
theorem law_loop (K : LC p l s m meth c b L xs A) : ∀ (k i : Nat), L ≤ i + 2 * k + 1 → i ≤ L + 2 → HD p l e s m below meth c b A D P C fr g oo ad ca i := by
  intro k
  induction k with
  | zero =>
    intro i h0 h1 sgn dn dt rt n bf md ln mk y J gs fo H locs ls hs hl hv
    obtain ⟨hx, hb, hr, hml, hown, hts, hX, hbl, hlocks, hA, hA2, hbA, hcx, hnc, htr, hL⟩ := id K
    obtain ⟨hP, hD, hK, hS⟩ := hs
    refine lv_iload hx hb d_L_law_23 (lv_at hv 0 rfl) ?_
    refine lv_aload_n hx hb d_L_law_25 rfl (lv_at hv 4 rfl) ?_
    refine va_slen hx hb hX hbl hbA hS d_L_law_26 ?_
    refine lv_iconst (v := 2) hx hb d_L_law_27 (by decide) ?_
    refine lv_isub hx hb d_L_law_28 ?_
    refine lv_icmp_gt (tgt := 308) hx hb d_L_law_29 (by decide) (fun _ => ?_) (fun h9 => absurd ((hd_gt hL (by omega)).mpr (by omega)) h9)
    refine lv_iconst (v := 1) hx hb d_L_law_308 (by decide) ?_
    refine va_forget (fun q9 hq9 => hA2 _ (hS.2.2 q9 hq9)) ?_
    refine W.widen (k := 601024) (n := 7293034) (by omega) (by omega) ?_
    exact lw_ret hx hb hr hlocks d_L_law_309
  | succ k ih =>
    intro i h0 h1 sgn dn dt rt n bf md ln mk y J gs fo H locs ls hs hl hv
    obtain ⟨hx, hb, hr, hml, hown, hts, hX, hbl, hlocks, hA, hA2, hbA, hcx, hnc, htr, hL⟩ := id K
    obtain ⟨hP, hD, hK, hS⟩ := id hs
    refine lv_iload hx hb d_L_law_23 (lv_at hv 0 rfl) ?_
    refine lv_aload_n hx hb d_L_law_25 rfl (lv_at hv 4 rfl) ?_
    refine va_slen hx hb hX hbl hbA hS d_L_law_26 ?_
    refine lv_iconst (v := 2) hx hb d_L_law_27 (by decide) ?_
    refine lv_isub hx hb d_L_law_28 ?_
    refine lv_icmp_gt (tgt := 308) hx hb d_L_law_29 (by decide) (fun _ => ?_) (fun h9 => ?_)
    · refine lv_iconst (v := 1) hx hb d_L_law_308 (by decide) ?_
      refine va_forget (fun q9 hq9 => hA2 _ (hS.2.2 q9 hq9)) ?_
      refine W.widen (k := 601024) (n := 7293034) (by omega) (by omega) ?_
      exact lw_ret hx hb hr hlocks d_L_law_309
    have hi2 : ¬ L < i + 2 := fun q => h9 ((hd_gt hL (by omega)).mpr q)
    have hi : i + 1 < L := by omega
    have hd : HD p l e s m below meth c b A D P C fr g oo ad ca (i + 2) := ih (i + 2) (by omega) (by omega)
    refine lv_aload_n hx hb d_L_law_32 rfl (lv_at hv 4 rfl) ?_
    refine lv_iload hx hb d_L_law_33 (lv_at hv 0 rfl) ?_
    refine va_sld hx hb hX hbl hbA hS (vp_in_nI (n := i) (N := L) (by omega) (by omega)) d_L_law_35 ?_
    refine lv_bipush (v := 7) hx hb d_L_law_36 (by decide) ?_
    refine lv_iand hx hb d_L_law_38 ?_
    obtain ⟨j, hj, ej⟩ := pk_andE (xs (nI i).toNatClampNeg) (m := 7) 3 (by decide)
    rw [ej]
    have hj8 : j = 0 ∨ j = 1 ∨ j = 2 ∨ j = 3 ∨ j = 4 ∨ j = 5 ∨ j = 6 ∨ j = 7 := by omega
    rcases hj8 with rfl | rfl | rfl | rfl | rfl | rfl | rfl | rfl
    · exact lv_tableIn (off := 45) (tgt := 84) hx hb d_L_law_39 (by decide) (by decide) (by decide) (by decide) (law_type K hd hs hl hv hi)
    · exact lv_tableIn (off := 72) (tgt := 111) hx hb d_L_law_39 (by decide) (by decide) (by decide) (by decide) (law_rule K hd hs hl hv hi)
    · exact lv_tableIn (off := 116) (tgt := 155) hx hb d_L_law_39 (by decide) (by decide) (by decide) (by decide) (law_forget K hd hs hl hv hi)
    · exact lv_tableIn (off := 143) (tgt := 182) hx hb d_L_law_39 (by decide) (by decide) (by decide) (by decide) (law_rules K hd hs hl hv hi)
    · exact lv_tableIn (off := 156) (tgt := 195) hx hb d_L_law_39 (by decide) (by decide) (by decide) (by decide) (law_expand K hd hs hl hv hi)
    · exact lv_tableIn (off := 212) (tgt := 251) hx hb d_L_law_39 (by decide) (by decide) (by decide) (by decide) (law_replaced K hd hs hl hv hi)
    · exact lv_tableIn (off := 225) (tgt := 264) hx hb d_L_law_39 (by decide) (by decide) (by decide) (by decide) (law_mark K hd hs hl hv hi)
    · exact lv_tableIn (off := 250) (tgt := 289) hx hb d_L_law_39 (by decide) (by decide) (by decide) (by decide) (law_depth K hd hs hl hv hi)
end LAW6
