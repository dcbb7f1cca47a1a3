/-! The reference's methods as functions of its state. -/
/-- ints and rows by their fields' places -/
abbrev OS : Type := (Nat → Int32) × (Nat → Nat → Int32)
def sI (gs : OS) (k : Nat) (v : Int32) : OS := (va_up gs.1 k v, gs.2)
def sA (gs : OS) (k : Nat) (f : Nat → Int32) : OS := (gs.1, va_up gs.2 k f)
abbrev RO : Type := Option (Int32 × OS)
/-- a truth value -/
abbrev ib (v : Int32) : Prop := v = 0 ∨ v = 1
noncomputable def gd (p : Prop) (x : RO) : RO := @ite _ p (Classical.propDecidable p) x none
theorem gd_ok {p : Prop} {x : RO} {y : Int32 × OS} (h : gd p x = some y) : p ∧ x = some y := by
  unfold gd at h
  split at h
  · exact ⟨by assumption, h⟩
  · cases h
theorem gd_t {p : Prop} {x : RO} (h : p) : gd p x = x := if_pos h
noncomputable def ci (p : Prop) (a b : RO) : RO := @ite _ p (Classical.propDecidable p) a b
theorem ci_t {p : Prop} {a b c : RO} (hp : p) (h : ci p a b = c) : a = c := by
  rw [← h]
  exact (if_pos hp).symm
theorem ci_f {p : Prop} {a b c : RO} (hp : ¬ p) (h : ci p a b = c) : b = c := by
  rw [← h]
  exact (if_neg hp).symm
theorem ci_p {p : Prop} {a b : RO} (hp : p) : ci p a b = a := if_pos hp
theorem ci_n {p : Prop} {a b : RO} (hp : ¬ p) : ci p a b = b := if_neg hp
def bd (x : RO) (f : Int32 → OS → RO) : RO := match x with
  | none => none
  | some q => f q.1 q.2
theorem bd_ok {x : RO} {f : Int32 → OS → RO} {y : Int32 × OS} (h : bd x f = some y) : ∃ r1 g1, x = some (r1, g1) ∧ f r1 g1 = some y := by
  cases x with
  | none => cases h
  | some q => exact ⟨q.1, q.2, rfl, h⟩
theorem bd_k {x : RO} {f : Int32 → OS → RO} {r1 : Int32} {g1 : OS} (h : x = some (r1, g1)) : bd x f = f r1 g1 := by rw [h]; rfl
theorem rt_ok {a r : Int32} {s t : OS} (h : (some (a, s) : RO) = some (r, t)) : r = a ∧ s = t := by
  cases h
  exact ⟨rfl, rfl⟩
noncomputable def rf_beginLists (F : Nat) (gs : OS) : RO := (some (0, (sI (sI (sI gs 13 0) 16 (-1)) 17 0)))

noncomputable def rf_closeList_76 (F : Nat) (gs : OS)  : RO := (some (0, gs))
noncomputable def rf_closeList_75 (F : Nat) (gs : OS) (y0 : Int32) (y1 : Int32) : RO := (gd (vp_in y1 12) (rf_closeList_76 F (sA gs 15 (upd (gs.2 15) y1.toNatClampNeg (vp_nar .boolean y0)))))
noncomputable def rf_closeList_70 (F : Nat) (gs : OS) (y0 : Int32) : RO := rf_closeList_75 F gs 1 y0
noncomputable def rf_closeList (F : Nat) (gs : OS) : RO := (gd (vp_in (gs.1 13) 12) (gd (vp_in (gs.1 13) 12) (gd (ib ((gs.2 15) (gs.1 13).toNatClampNeg)) (ci ((((gs.1 13) - 1) : Int32) ≤ 0) (rf_closeList_76 F (sI (sI (sI gs 13 ((gs.1 13) - 1)) 16 ((gs.2 14) (gs.1 13).toNatClampNeg)) 17 ((gs.2 15) (gs.1 13).toNatClampNeg))) (gd (vp_in ((gs.1 13) - 1) 12) (ci ((((gs.2 15) ((gs.1 13) - 1).toNatClampNeg) : Int32) = 0) (ci ((((gs.2 15) (gs.1 13).toNatClampNeg) : Int32) = 0) (rf_closeList_75 F (sI (sI (sI gs 13 ((gs.1 13) - 1)) 16 ((gs.2 14) (gs.1 13).toNatClampNeg)) 17 ((gs.2 15) (gs.1 13).toNatClampNeg)) 0 ((gs.1 13) - 1)) (rf_closeList_70 F (sI (sI (sI gs 13 ((gs.1 13) - 1)) 16 ((gs.2 14) (gs.1 13).toNatClampNeg)) 17 ((gs.2 15) (gs.1 13).toNatClampNeg)) ((gs.1 13) - 1))) (rf_closeList_70 F (sI (sI (sI gs 13 ((gs.1 13) - 1)) 16 ((gs.2 14) (gs.1 13).toNatClampNeg)) 17 ((gs.2 15) (gs.1 13).toNatClampNeg)) ((gs.1 13) - 1))))))))

noncomputable def rf_countOf_25 (F : Nat) (K4 : OS → Int32 → Int32 → Int32 → RO) (gs : OS) (x1 : Int32) (x2 : Int32) (x3 : Int32) : RO := K4 gs x1 x2 (x3 + 1)
noncomputable def rf_countOf_4 (F : Nat) : Nat → OS → Int32 → Int32 → Int32 → RO
  | 0, _, _, _, _ => none
  | d + 1, gs, x1, x2, x3 => (ci (((gs.1 5) : Int32) ≤ x3) (some (x2, gs)) (gd (vp_in x3 12) (ci ((((gs.2 6) x3.toNatClampNeg) : Int32) = x1) (rf_countOf_25 F (rf_countOf_4 F d) gs x1 (x2 + 1) x3) (rf_countOf_25 F (rf_countOf_4 F d) gs x1 x2 x3))))
noncomputable def rf_countOf (F : Nat) (gs : OS) (a1 : Int32) : RO := rf_countOf_4 F F gs a1 0 0

noncomputable def rf_depth_63 (F : Nat) (K11 : OS → Int32 → Int32 → Int32 → RO) (gs : OS) (x1 : Int32) (x3 : Int32) (y0 : Int32) : RO := K11 gs x1 y0 (x3 + 1)
noncomputable def rf_depth_52 (F : Nat) (K11 : OS → Int32 → Int32 → Int32 → RO) (gs : OS) (x2 : Int32) (x3 : Int32) (y0 : Int32) : RO := (ci ((y0 : Int32) ≤ x2) (rf_depth_63 F (K11) gs y0 x3 x2) (rf_depth_63 F (K11) gs y0 x3 y0))
noncomputable def rf_depth_11 (F : Nat) : Nat → OS → Int32 → Int32 → Int32 → RO
  | 0, _, _, _, _ => none
  | d + 1, gs, x1, x2, x3 => (ci (((gs.1 38) : Int32) ≤ x3) (some (x2, gs)) (gd (vp_in x3 150) (ci ((((gs.2 39) x3.toNatClampNeg) : Int32) = 1) (rf_depth_52 F (rf_depth_11 F d) gs x2 x3 (x1 + 1)) (gd (vp_in x3 150) (ci ((((gs.2 39) x3.toNatClampNeg) : Int32) = 2) (rf_depth_52 F (rf_depth_11 F d) gs x2 x3 (x1 - 1)) (rf_depth_52 F (rf_depth_11 F d) gs x2 x3 x1))))))
noncomputable def rf_depth (F : Nat) (gs : OS) : RO := rf_depth_11 F F (sI gs 0 0) 0 0 0

noncomputable def rf_emit_92 (F : Nat) (gs : OS) (x1 : Int32) : RO := (ci (((gs.1 28) : Int32) = 0) (gd (vp_in (gs.1 23) 260) (some (0, (sA (sI gs 23 ((gs.1 23) + 1)) 24 (upd (gs.2 24) (gs.1 23).toNatClampNeg x1))))) (some (0, gs)))
noncomputable def rf_emit_87 (F : Nat) (gs : OS) (x1 : Int32) : RO := rf_emit_92 F (sI gs 28 1) x1
noncomputable def rf_emit_69 (F : Nat) (gs : OS) (x1 : Int32) : RO := (ci ((60 : Int32) < (gs.1 25)) (rf_emit_87 F gs x1) (ci (((gs.1 27) : Int32) ≤ 12) (rf_emit_92 F gs x1) (rf_emit_87 F gs x1)))
noncomputable def rf_emit_41 (F : Nat) (gs : OS) (x1 : Int32) : RO := (ci ((x1 : Int32) = 2) (rf_emit_69 F (sI gs 26 ((gs.1 26) - 1)) x1) (rf_emit_69 F (sI gs 25 ((gs.1 25) + 1)) x1))
noncomputable def rf_emit_38 (F : Nat) (gs : OS) (x1 : Int32) (y0 : Int32) : RO := rf_emit_41 F (sI gs 27 y0) x1
noncomputable def rf_emit (F : Nat) (gs : OS) (a1 : Int32) : RO := (ci ((a1 : Int32) = 1) (ci ((((gs.1 26) + 1) : Int32) ≤ (gs.1 27)) (rf_emit_38 F (sI gs 26 ((gs.1 26) + 1)) a1 (gs.1 27)) (rf_emit_38 F (sI gs 26 ((gs.1 26) + 1)) a1 ((gs.1 26) + 1))) (rf_emit_41 F gs a1))

noncomputable def rf_fail (F : Nat) (gs : OS) (a1 : Int32) : RO := (some (0, (sI gs 0 a1)))

noncomputable def rf_isKeyword_15 (F : Nat) (gs : OS) (y0 : Int32) : RO := (gd (ib y0) (some (y0, gs)))
noncomputable def rf_isKeyword_14 (F : Nat) (gs : OS)  : RO := rf_isKeyword_15 F gs 0
noncomputable def rf_isKeyword (F : Nat) (gs : OS) (a0 : Int32) : RO := (ci ((a0 : Int32) < 3) (rf_isKeyword_14 F gs) (ci ((5 : Int32) < a0) (rf_isKeyword_14 F gs) (rf_isKeyword_15 F gs 1)))

noncomputable def rf_isName_11 (F : Nat) (gs : OS) (y0 : Int32) : RO := (gd (ib y0) (some (y0, gs)))
noncomputable def rf_isName (F : Nat) (gs : OS) (a0 : Int32) : RO := (ci ((a0 : Int32) < 100) (rf_isName_11 F gs 0) (rf_isName_11 F gs 1))

noncomputable def rf_isNumeral_17 (F : Nat) (gs : OS) (y0 : Int32) : RO := (gd (ib y0) (some (y0, gs)))
noncomputable def rf_isNumeral_16 (F : Nat) (gs : OS)  : RO := rf_isNumeral_17 F gs 0
noncomputable def rf_isNumeral (F : Nat) (gs : OS) (a0 : Int32) : RO := (ci ((a0 : Int32) < 10) (rf_isNumeral_16 F gs) (ci ((100 : Int32) ≤ a0) (rf_isNumeral_16 F gs) (rf_isNumeral_17 F gs 1)))

noncomputable def rf_itemEnd_65 (F : Nat) (K8 : OS → Int32 → Int32 → Int32 → Int32 → RO) (gs : OS) (x1 : Int32) (x3 : Int32) (x4 : Int32) (y0 : Int32) : RO := K8 gs x1 x3 x4 y0
noncomputable def rf_itemEnd_52 (F : Nat) (K8 : OS → Int32 → Int32 → Int32 → Int32 → RO) (gs : OS) (x1 : Int32) (x3 : Int32) (x4 : Int32) : RO := (ci ((x4 : Int32) ≤ 0) (rf_itemEnd_65 F (K8) gs x1 (x3 + 1) x4 0) (rf_itemEnd_65 F (K8) gs x1 (x3 + 1) x4 1))
noncomputable def rf_itemEnd_43 (F : Nat) (K8 : OS → Int32 → Int32 → Int32 → Int32 → RO) (gs : OS) (x1 : Int32) (x3 : Int32) (x4 : Int32) (x6 : Int32) : RO := (ci ((x6 : Int32) = 2) (rf_itemEnd_52 F (K8) gs x1 x3 (x4 + (-1))) (rf_itemEnd_52 F (K8) gs x1 x3 x4))
noncomputable def rf_itemEnd_32 (F : Nat) (K8 : OS → Int32 → Int32 → Int32 → Int32 → RO) (gs : OS) (x1 : Int32) (x3 : Int32) (x4 : Int32) (y0 : Int32) : RO := (ci ((y0 : Int32) = 1) (rf_itemEnd_43 F (K8) gs x1 x3 (x4 + 1) y0) (rf_itemEnd_43 F (K8) gs x1 x3 x4 y0))
noncomputable def rf_itemEnd_8 (F : Nat) : Nat → OS → Int32 → Int32 → Int32 → Int32 → RO
  | 0, _, _, _, _, _ => none
  | d + 1, gs, x1, x3, x4, x5 => (ci ((x5 : Int32) = 0) (some (x3, gs)) (ci ((x1 : Int32) = 0) (gd (vp_in x3 768) (rf_itemEnd_32 F (rf_itemEnd_8 F d) gs x1 x3 x4 ((gs.2 8) x3.toNatClampNeg))) (gd (vp_in x3 768) (rf_itemEnd_32 F (rf_itemEnd_8 F d) gs x1 x3 x4 ((gs.2 10) x3.toNatClampNeg)))))
noncomputable def rf_itemEnd (F : Nat) (gs : OS) (a1 : Int32) (a2 : Int32) : RO := rf_itemEnd_8 F F gs a1 a2 0 1

noncomputable def rf_letterOf (F : Nat) (gs : OS) (a0 : Int32) : RO := (some (((a0 - 100) &&& 31), gs))

noncomputable def rf_levelOf_27 (F : Nat) (gs : OS) (x2 : Int32) : RO := (some (x2, gs))
noncomputable def rf_levelOf_7 (F : Nat) : Nat → OS → Int32 → Int32 → RO
  | 0, _, _, _ => none
  | d + 1, gs, x1, x2 => (ci ((x2 : Int32) < 0) (rf_levelOf_27 F gs x2) (gd (vp_in x2 16) (ci ((((gs.2 35) x2.toNatClampNeg) : Int32) = x1) (rf_levelOf_27 F gs x2) (rf_levelOf_7 F d gs x1 (x2 + (-1))))))
noncomputable def rf_levelOf (F : Nat) (gs : OS) (a1 : Int32) : RO := rf_levelOf_7 F F gs a1 ((gs.1 34) - 1)

noncomputable def rf_mark_28 (F : Nat) (gs : OS) (y0 : Int32) : RO := (some (y0, gs))
noncomputable def rf_mark_17 (F : Nat) (gs : OS)  : RO := rf_mark_28 F gs (-99)
noncomputable def rf_mark (F : Nat) (gs : OS) (a1 : Int32) : RO := (ci ((a1 : Int32) < 0) (rf_mark_17 F (sI gs 0 0)) (ci ((a1 : Int32) < (gs.1 38)) (gd (vp_in a1 150) (rf_mark_28 F (sI gs 0 0) ((gs.2 39) a1.toNatClampNeg))) (rf_mark_17 F (sI gs 0 0))))

noncomputable def rf_moveRule_62 (F : Nat) : Nat → OS → Int32 → Int32 → Int32 → RO
  | 0, _, _, _, _ => none
  | d + 1, gs, x1, x2, x3 => (ci ((64 : Int32) ≤ x3) (some (0, gs)) (gd (vp_in ((64 * x2) + x3) 768) (gd (vp_in ((64 * x1) + x3) 768) (gd (vp_in ((64 * x2) + x3) 768) (gd (vp_in ((64 * x1) + x3) 768) (rf_moveRule_62 F d (sA (sA gs 8 (upd (gs.2 8) ((64 * x1) + x3).toNatClampNeg ((gs.2 8) ((64 * x2) + x3).toNatClampNeg))) 10 (upd (gs.2 10) ((64 * x1) + x3).toNatClampNeg ((gs.2 10) ((64 * x2) + x3).toNatClampNeg))) x1 x2 (x3 + 1)))))))
noncomputable def rf_moveRule (F : Nat) (gs : OS) (a1 : Int32) (a2 : Int32) : RO := (gd (vp_in a2 12) (gd (vp_in a1 12) (gd (vp_in a2 12) (gd (vp_in a1 12) (gd (vp_in a2 12) (gd (vp_in a1 12) (gd (vp_in a2 12) (gd (vp_in a1 12) (gd (vp_in a2 12) (gd (vp_in a1 12) (rf_moveRule_62 F F (sA (sA (sA (sA (sA gs 6 (upd (gs.2 6) a1.toNatClampNeg ((gs.2 6) a2.toNatClampNeg))) 7 (upd (gs.2 7) a1.toNatClampNeg ((gs.2 7) a2.toNatClampNeg))) 9 (upd (gs.2 9) a1.toNatClampNeg ((gs.2 9) a2.toNatClampNeg))) 11 (upd (gs.2 11) a1.toNatClampNeg ((gs.2 11) a2.toNatClampNeg))) 12 (upd (gs.2 12) a1.toNatClampNeg ((gs.2 12) a2.toNatClampNeg))) a1 a2 0)))))))))))

noncomputable def rf_openList (F : Nat) (gs : OS) (a1 : Int32) : RO := (ci ((((gs.1 13) + 1) : Int32) ≤ 8) (gd (vp_in ((gs.1 13) + 1) 12) (gd (vp_in ((gs.1 13) + 1) 12) (some (1, (sA (sA (sI (sI gs 13 ((gs.1 13) + 1)) 16 (-1)) 14 (upd (gs.2 14) ((gs.1 13) + 1).toNatClampNeg a1)) 15 (upd (gs.2 15) ((gs.1 13) + 1).toNatClampNeg (vp_nar .boolean 0))))))) (some (0, (sI gs 13 ((gs.1 13) + 1)))))

noncomputable def rf_openRow (F : Nat) (gs : OS) (a1 : Int32) : RO := (gd (vp_in (gs.1 32) 16) (some (0, (sA (sI gs 32 ((gs.1 32) + 1)) 33 (upd (gs.2 33) (gs.1 32).toNatClampNeg (vp_nar .boolean a1))))))

noncomputable def rf_put_15 (F : Nat) (gs : OS) (x1 : Int32) : RO := (ci (((gs.1 40) : Int32) = 0) (gd (vp_in (gs.1 38) 150) (some (0, (sA (sI gs 38 ((gs.1 38) + 1)) 39 (upd (gs.2 39) (gs.1 38).toNatClampNeg x1))))) (some (0, gs)))
noncomputable def rf_put (F : Nat) (gs : OS) (a1 : Int32) : RO := (ci (((gs.1 38) : Int32) = 150) (rf_put_15 F (sI gs 40 3) a1) (rf_put_15 F gs a1))

noncomputable def rf_replaced (F : Nat) (gs : OS) : RO := (some ((gs.1 37), (sI gs 0 0)))

noncomputable def rf_rules (F : Nat) (gs : OS) : RO := (some ((gs.1 5), (sI gs 0 0)))

noncomputable def rf_setItem (F : Nat) (gs : OS) (a1 : Int32) : RO := (some (0, (sI (sI gs 16 a1) 17 0)))

noncomputable def rf_skip_50 (F : Nat) (K20 : OS → Int32 → Int32 → RO) (gs : OS) (x2 : Int32) (x3 : Int32) : RO := K20 gs (x2 + 1) x3
noncomputable def rf_skip_37 (F : Nat) (K20 : OS → Int32 → Int32 → RO) (gs : OS) (x2 : Int32) (x3 : Int32) : RO := (gd (vp_in x2 2400) (ci ((((gs.2 22) x2.toNatClampNeg) : Int32) = 2) (rf_skip_50 F (K20) gs x2 (x3 + (-1))) (rf_skip_50 F (K20) gs x2 x3)))
noncomputable def rf_skip_20 (F : Nat) : Nat → OS → Int32 → Int32 → RO
  | 0, _, _, _ => none
  | d + 1, gs, x2, x3 => (ci ((x3 : Int32) ≤ 0) (some (x2, gs)) (gd (vp_in x2 2400) (ci ((((gs.2 22) x2.toNatClampNeg) : Int32) = 1) (rf_skip_37 F (rf_skip_20 F d) gs x2 (x3 + 1)) (rf_skip_37 F (rf_skip_20 F d) gs x2 x3))))
noncomputable def rf_skip (F : Nat) (gs : OS) (a1 : Int32) : RO := (gd (vp_in a1 2400) (ci ((((gs.2 22) a1.toNatClampNeg) : Int32) = 1) (rf_skip_20 F F gs (a1 + 1) 1) (some ((a1 + 1), gs))))

noncomputable def rf_thrown (F : Nat) (gs : OS) : RO := (some ((gs.1 0), gs))

noncomputable def rf_tilde_14 (F : Nat) (gs : OS)  : RO := (some (0, gs))
noncomputable def rf_tilde (F : Nat) (gs : OS) : RO := (ci (((gs.1 16) : Int32) < 0) (rf_tilde_14 F gs) (ci (((gs.1 17) : Int32) = 0) (gd (vp_in (gs.1 13) 12) (some (1, (sA gs 15 (upd (gs.2 15) (gs.1 13).toNatClampNeg (vp_nar .boolean 1)))))) (rf_tilde_14 F gs)))

noncomputable def rf_tokenOf_40 (F : Nat) (gs : OS) (x0 : Int32) : RO := (ci ((x0 : Int32) = 40) (some (1, gs)) (ci ((x0 : Int32) = 41) (some (2, gs)) (ci ((x0 : Int32) = 61) (some (8, gs)) (ci ((x0 : Int32) = 73) (some (4, gs)) (ci ((x0 : Int32) = 76) (some (3, gs)) (ci ((x0 : Int32) = 81) (some (5, gs)) (ci ((x0 : Int32) = 95) (some (6, gs)) (ci ((x0 : Int32) = 126) (some (7, gs)) (some (0, gs))))))))))
noncomputable def rf_tokenOf_20 (F : Nat) (gs : OS) (x0 : Int32) : RO := (ci ((x0 : Int32) < 48) (rf_tokenOf_40 F gs x0) (ci ((57 : Int32) < x0) (rf_tokenOf_40 F gs x0) (some (((10 + x0) - 48), gs))))
noncomputable def rf_tokenOf (F : Nat) (gs : OS) (a0 : Int32) : RO := (ci ((a0 : Int32) < 97) (rf_tokenOf_20 F gs a0) (ci ((122 : Int32) < a0) (rf_tokenOf_20 F gs a0) (some (((100 + a0) - 97), gs))))

noncomputable def rf_type_26 (F : Nat) (gs : OS)  : RO := (some (0, gs))
noncomputable def rf_type (F : Nat) (gs : OS) (a1 : Int32) : RO := (ci ((a1 : Int32) < 32) (rf_type_26 F (sI gs 0 0)) (ci ((126 : Int32) < a1) (rf_type_26 F (sI gs 0 0)) (ci (((gs.1 1) : Int32) = 60) (rf_type_26 F (sI gs 0 0)) (gd (vp_in (gs.1 1) 60) (some (1, (sA (sI (sI gs 0 0) 1 ((gs.1 1) + 1)) 2 (upd (gs.2 2) (gs.1 1).toNatClampNeg (vp_nar .char a1)))))))))

noncomputable def rf_addVariable (F : Nat) (gs : OS) (a1 : Int32) : RO := (gd (vp_in a1 61) (bd (rf_letterOf F gs ((gs.2 4) a1.toNatClampNeg)) (fun r2 gs3 => (ci ((((gs3.1 18) &&& ((1 : Int32) <<< (r2 &&& 31))) : Int32) = 0) (bd (rf_setItem F (sI gs3 18 ((gs3.1 18) ||| ((1 : Int32) <<< (r2 &&& 31)))) a1) (fun r8 gs9 => (some (1, gs9)))) (some (0, gs3))))))

noncomputable def rf_closeRow_37 (F : Nat) (gs : OS)  : RO := (some (0, (sI gs 36 ((gs.1 36) + 1))))
noncomputable def rf_closeRow (F : Nat) (gs : OS) : RO := (bd (rf_put F gs 2) (fun r1 gs2 => (gd (vp_in ((gs2.1 32) - 1) 16) (ci ((((gs2.2 33) ((gs2.1 32) - 1).toNatClampNeg) : Int32) = 0) (rf_closeRow_37 F (sI gs2 32 ((gs2.1 32) - 1))) (rf_closeRow_37 F (sI (sI gs2 32 ((gs2.1 32) - 1)) 34 ((gs2.1 34) - 1)))))))

noncomputable def rf_copies_84 (F : Nat) (K7 : OS → Int32 → Int32 → Int32 → Int32 → RO) (gs : OS) (x1 : Int32) (x3 : Int32) (x4 : Int32) (x5 : Int32) : RO := K7 gs x1 x3 x4 (x5 + 1)
noncomputable def rf_copies_82 (F : Nat) (K7 : OS → Int32 → Int32 → Int32 → Int32 → RO) (gs : OS) (x1 : Int32) (x3 : Int32) (x5 : Int32) (y0 : Int32) : RO := rf_copies_84 F (K7) gs x1 x3 y0 x5
noncomputable def rf_copies_76 (F : Nat) (K7 : OS → Int32 → Int32 → Int32 → Int32 → RO) (gs : OS) (x1 : Int32) (x3 : Int32) (x5 : Int32) (x7 : Int32) : RO := rf_copies_82 F (K7) gs x1 x3 x5 x7
noncomputable def rf_copies_7 (F : Nat) : Nat → OS → Int32 → Int32 → Int32 → Int32 → RO
  | 0, _, _, _, _, _ => none
  | d + 1, gs, x1, x3, x4, x5 => (ci ((x3 : Int32) ≤ x5) (some (x4, gs)) (gd (vp_in x5 768) (bd (rf_isName F gs ((gs.2 10) x5.toNatClampNeg)) (fun r3 gs4 => (ci ((r3 : Int32) = 0) (rf_copies_84 F (rf_copies_7 F d) gs4 x1 x3 x4 x5) (gd (vp_in x1 12) (bd (rf_letterOf F gs4 ((gs.2 10) x5.toNatClampNeg)) (fun r10 gs11 => (ci ((((((gs4.2 12) x1.toNatClampNeg) >>> (r10 &&& 31)) &&& 1) : Int32) = 0) (rf_copies_84 F (rf_copies_7 F d) gs11 x1 x3 x4 x5) (bd (rf_letterOf F gs11 ((gs.2 10) x5.toNatClampNeg)) (fun r16 gs17 => (gd (vp_in r16 26) (ci ((x4 : Int32) = (-2)) (rf_copies_76 F (rf_copies_7 F d) gs17 x1 x3 x5 ((gs17.2 30) r16.toNatClampNeg)) (ci ((x4 : Int32) = ((gs17.2 30) r16.toNatClampNeg)) (rf_copies_76 F (rf_copies_7 F d) gs17 x1 x3 x5 ((gs17.2 30) r16.toNatClampNeg)) (rf_copies_82 F (rf_copies_7 F d) gs17 x1 x3 x5 (-1))))))))))))))))
noncomputable def rf_copies (F : Nat) (gs : OS) (a1 : Int32) (a2 : Int32) (a3 : Int32) : RO := rf_copies_7 F F gs a1 a3 (-2) a2

noncomputable def rf_emitTerm_36 (F : Nat) (gs : OS)  : RO := (some (0, gs))
noncomputable def rf_emitTerm_8 (F : Nat) : Nat → OS → Int32 → Int32 → RO
  | 0, _, _, _ => none
  | d + 1, gs, x2, x3 => (ci ((x2 : Int32) ≤ x3) (rf_emitTerm_36 F gs) (ci (((gs.1 28) : Int32) = 0) (gd (vp_in x3 2400) (bd (rf_emit F gs ((gs.2 22) x3.toNatClampNeg)) (fun r4 gs5 => rf_emitTerm_8 F d gs5 x2 (x3 + 1)))) (rf_emitTerm_36 F gs)))
noncomputable def rf_emitTerm (F : Nat) (gs : OS) (a1 : Int32) : RO := (bd (rf_skip F gs a1) (fun r9 gs10 => rf_emitTerm_8 F F gs10 r9 a1))

noncomputable def rf_expandForm_286 (F : Nat) (gs : OS) (y0 : Int32) : RO := (some (0, (sI gs 36 y0)))
noncomputable def rf_expandForm_265 (F : Nat) (gs : OS) (x1 : Int32) : RO := (ci ((x1 : Int32) = 3) (rf_expandForm_286 F gs ((gs.1 36) + 3)) (rf_expandForm_286 F gs ((gs.1 36) + 2)))
noncomputable def rf_expandForm_227 (F : Nat) (gs : OS) (x1 : Int32) (y0 : Int32) : RO := (bd (rf_openRow F gs y0) (fun r2 gs3 => (ci ((x1 : Int32) = 3) (gd (vp_in ((gs3.1 36) + 2) 2400) (gd (vp_in (gs3.1 34) 16) (rf_expandForm_265 F (sA (sI gs3 34 ((gs3.1 34) + 1)) 35 (upd (gs3.2 35) (gs3.1 34).toNatClampNeg ((gs3.2 22) ((gs3.1 36) + 2).toNatClampNeg))) x1))) (rf_expandForm_265 F gs3 x1))))
noncomputable def rf_expandForm_194 (F : Nat) (K142 : OS → Int32 → Int32 → RO) (gs : OS) (x3 : Int32) (x5 : Int32) (y0 : Int32) : RO := (bd (rf_put F gs y0) (fun r10 gs11 => K142 gs11 x3 (x5 + 1)))
noncomputable def rf_expandForm_142 (F : Nat) : Nat → OS → Int32 → Int32 → RO
  | 0, _, _, _ => none
  | d + 1, gs, x3, x5 => (ci ((x3 : Int32) ≤ x5) (bd (rf_put F gs 2) (fun r16 gs17 => (some (0, (sI gs17 36 (x3 + 1)))))) (gd (vp_in x5 2400) (bd (rf_isName F gs ((gs.2 22) x5.toNatClampNeg)) (fun r22 gs23 => (ci ((r22 : Int32) = 0) (bd (rf_isKeyword F gs23 ((gs.2 22) x5.toNatClampNeg)) (fun r28 gs29 => (ci ((r28 : Int32) = 0) (rf_expandForm_194 F (rf_expandForm_142 F d) gs29 x3 x5 ((gs.2 22) x5.toNatClampNeg)) (rf_expandForm_194 F (rf_expandForm_142 F d) gs29 x3 x5 (2 - ((gs.2 22) x5.toNatClampNeg)))))) (bd (rf_letterOf F gs23 ((gs.2 22) x5.toNatClampNeg)) (fun r34 gs35 => rf_expandForm_194 F (rf_expandForm_142 F d) gs35 x3 x5 (100 + r34))))))))
noncomputable def rf_expandForm_106 (F : Nat) (gs : OS) (x1 : Int32) (x3 : Int32) (y0 : Int32) : RO := (ci ((y0 : Int32) = 0) (some (0, (sI gs 40 2))) (bd (rf_put F gs 1) (fun r40 gs41 => (bd (rf_put F gs41 x1) (fun r45 gs46 => (ci ((x1 : Int32) = 5) (rf_expandForm_142 F F gs46 x3 ((gs46.1 36) + 2)) (ci ((x1 : Int32) = 3) (rf_expandForm_227 F gs46 x1 1) (rf_expandForm_227 F gs46 x1 0))))))))
noncomputable def rf_expandForm_74 (F : Nat) (gs : OS) (x1 : Int32) (x3 : Int32) : RO := rf_expandForm_106 F gs x1 x3 0
noncomputable def rf_expandForm_21 (F : Nat) : Nat → OS → Int32 → Int32 → Int32 → RO
  | 0, _, _, _, _ => none
  | d + 1, gs, x1, x2, x3 => (gd (vp_in x3 2400) (ci ((((gs.2 22) x3.toNatClampNeg) : Int32) = 2) (ci ((x1 : Int32) = 3) (ci ((x2 : Int32) = 2) (gd (vp_in ((gs.1 36) + 2) 2400) (bd (rf_isName F gs ((gs.2 22) ((gs.1 36) + 2).toNatClampNeg)) (fun r60 gs61 => (ci ((r60 : Int32) = 0) (rf_expandForm_74 F gs61 x1 x3) (rf_expandForm_106 F gs61 x1 x3 1))))) (rf_expandForm_74 F gs x1 x3)) (ci ((x1 : Int32) = 4) (ci ((x2 : Int32) = 3) (rf_expandForm_106 F gs x1 x3 1) (rf_expandForm_106 F gs x1 x3 0)) (ci ((x2 : Int32) = 1) (rf_expandForm_106 F gs x1 x3 1) (rf_expandForm_106 F gs x1 x3 0)))) (bd (rf_skip F gs x3) (fun r66 gs67 => rf_expandForm_21 F d gs67 x1 (x2 + 1) r66))))
noncomputable def rf_expandForm (F : Nat) (gs : OS) : RO := (gd (vp_in ((gs.1 36) + 1) 2400) (rf_expandForm_21 F F gs ((gs.2 22) ((gs.1 36) + 1).toNatClampNeg) 0 ((gs.1 36) + 2)))

noncomputable def rf_expandName_26 (F : Nat) (gs : OS) (y0 : Int32) : RO := (bd (rf_put F gs y0) (fun r1 gs2 => (some (0, (sI gs2 36 ((gs2.1 36) + 1))))))
noncomputable def rf_expandName (F : Nat) (gs : OS) (a1 : Int32) : RO := (bd (rf_levelOf F gs a1) (fun r6 gs7 => (ci ((r6 : Int32) < 0) (bd (rf_letterOf F gs7 a1) (fun r12 gs13 => rf_expandName_26 F gs13 (100 + r12))) (rf_expandName_26 F gs7 (200 + r6)))))

noncomputable def rf_forget_42 (F : Nat) (K9 : OS → Int32 → Int32 → Int32 → RO) (gs : OS) (x1 : Int32) (x2 : Int32) (x3 : Int32) : RO := K9 gs x1 x2 (x3 + 1)
noncomputable def rf_forget_9 (F : Nat) : Nat → OS → Int32 → Int32 → Int32 → RO
  | 0, _, _, _, _ => none
  | d + 1, gs, x1, x2, x3 => (ci (((gs.1 5) : Int32) ≤ x3) (some (((gs.1 5) - x2), (sI gs 5 x2))) (gd (vp_in x3 12) (ci ((((gs.2 6) x3.toNatClampNeg) : Int32) = (x1 - 97)) (rf_forget_42 F (rf_forget_9 F d) gs x1 x2 x3) (bd (rf_moveRule F gs x2 x3) (fun r4 gs5 => rf_forget_42 F (rf_forget_9 F d) gs5 x1 (x2 + 1) x3)))))
noncomputable def rf_forget (F : Nat) (gs : OS) (a1 : Int32) : RO := rf_forget_9 F F (sI gs 0 0) a1 0 0

noncomputable def rf_hasMany_54 (F : Nat) (K5 : OS → Int32 → Int32 → Int32 → RO) (gs : OS) (x2 : Int32) (x4 : Int32) (y0 : Int32) : RO := K5 gs x2 y0 (x4 + 1)
noncomputable def rf_hasMany_53 (F : Nat) (K5 : OS → Int32 → Int32 → Int32 → RO) (gs : OS) (x2 : Int32) (x4 : Int32) : RO := rf_hasMany_54 F (K5) gs x2 x4 0
noncomputable def rf_hasMany_49 (F : Nat) (K5 : OS → Int32 → Int32 → Int32 → RO) (gs : OS) (x2 : Int32) (x4 : Int32) : RO := rf_hasMany_54 F (K5) gs x2 x4 1
noncomputable def rf_hasMany_5 (F : Nat) : Nat → OS → Int32 → Int32 → Int32 → RO
  | 0, _, _, _, _ => none
  | d + 1, gs, x2, x3, x4 => (ci ((x2 : Int32) ≤ x4) (gd (ib x3) (some (x3, gs))) (ci ((x3 : Int32) = 0) (gd (vp_in x4 61) (bd (rf_isName F gs ((gs.2 4) x4.toNatClampNeg)) (fun r5 gs6 => (ci ((r5 : Int32) = 0) (rf_hasMany_53 F (rf_hasMany_5 F d) gs6 x2 x4) (gd (vp_in x4 61) (bd (rf_letterOf F gs6 ((gs6.2 4) x4.toNatClampNeg)) (fun r12 gs13 => (ci (((((gs6.1 19) >>> (r12 &&& 31)) &&& 1) : Int32) = 1) (rf_hasMany_49 F (rf_hasMany_5 F d) gs13 x2 x4) (rf_hasMany_53 F (rf_hasMany_5 F d) gs13 x2 x4))))))))) (rf_hasMany_49 F (rf_hasMany_5 F d) gs x2 x4)))
noncomputable def rf_hasMany (F : Nat) (gs : OS) (a1 : Int32) (a2 : Int32) : RO := rf_hasMany_5 F F gs a2 0 a1

noncomputable def rf_makeMany_39 (F : Nat) (K2 : OS → Int32 → Int32 → RO) (gs : OS) (x2 : Int32) (x3 : Int32) : RO := K2 gs x2 (x3 + 1)
noncomputable def rf_makeMany_2 (F : Nat) : Nat → OS → Int32 → Int32 → RO
  | 0, _, _, _ => none
  | d + 1, gs, x2, x3 => (ci ((x2 : Int32) ≤ x3) (some (0, gs)) (gd (vp_in x3 61) (bd (rf_isName F gs ((gs.2 4) x3.toNatClampNeg)) (fun r3 gs4 => (ci ((r3 : Int32) = 0) (rf_makeMany_39 F (rf_makeMany_2 F d) gs4 x2 x3) (gd (vp_in x3 61) (bd (rf_letterOf F gs4 ((gs4.2 4) x3.toNatClampNeg)) (fun r10 gs11 => rf_makeMany_39 F (rf_makeMany_2 F d) (sI gs11 19 ((gs4.1 19) ||| ((1 : Int32) <<< (r10 &&& 31)))) x2 x3))))))))
noncomputable def rf_makeMany (F : Nat) (gs : OS) (a1 : Int32) (a2 : Int32) : RO := rf_makeMany_2 F F gs a2 a1

noncomputable def rf_matchPlain_161 (F : Nat) (K6 : OS → Int32 → Int32 → Int32 → Int32 → RO) (gs : OS) (x2 : Int32) (x4 : Int32) (x6 : Int32) (y0 : Int32) : RO := K6 gs x2 x4 y0 (x6 + 1)
noncomputable def rf_matchPlain_143 (F : Nat) (K6 : OS → Int32 → Int32 → Int32 → Int32 → RO) (gs : OS) (x2 : Int32) (x4 : Int32) (x5 : Int32) (x6 : Int32) (x8 : Int32) : RO := (ci ((x8 : Int32) = 0) (rf_matchPlain_161 F (K6) gs x2 x4 x6 (x5 + 1)) (bd (rf_skip F gs x5) (fun r2 gs3 => rf_matchPlain_161 F (K6) gs3 x2 x4 x6 r2)))
noncomputable def rf_matchPlain_84 (F : Nat) (K6 : OS → Int32 → Int32 → Int32 → Int32 → RO) (gs : OS) (x2 : Int32) (x4 : Int32) (x5 : Int32) (x6 : Int32) (x7 : Int32) (x8 : Int32) (y0 : Int32) : RO := (ci ((y0 : Int32) = 0) (some (0, (sI gs 41 (-1)))) (bd (rf_isName F gs x7) (fun r8 gs9 => (ci ((r8 : Int32) = 0) (rf_matchPlain_143 F (K6) gs9 x2 x4 x5 x6 x8) (ci ((0 : Int32) ≤ x4) (bd (rf_letterOf F gs9 x7) (fun r15 gs16 => (gd (vp_in ((64 * r15) + x4) 1664) (rf_matchPlain_143 F (K6) (sA gs16 31 (upd (gs16.2 31) ((64 * r15) + x4).toNatClampNeg x5)) x2 x4 x5 x6 x8)))) (bd (rf_letterOf F gs9 x7) (fun r21 gs22 => (gd (vp_in r21 26) (rf_matchPlain_143 F (K6) (sA gs22 29 (upd (gs22.2 29) r21.toNatClampNeg x5)) x2 x4 x5 x6 x8)))))))))
noncomputable def rf_matchPlain_41 (F : Nat) (K6 : OS → Int32 → Int32 → Int32 → Int32 → RO) (gs : OS) (x2 : Int32) (x4 : Int32) (x5 : Int32) (x6 : Int32) (x7 : Int32) (y0 : Int32) : RO := (ci ((y0 : Int32) = 0) (gd (vp_in x5 2400) (ci ((((gs.2 22) x5.toNatClampNeg) : Int32) = x7) (rf_matchPlain_84 F (K6) gs x2 x4 x5 x6 x7 y0 1) (rf_matchPlain_84 F (K6) gs x2 x4 x5 x6 x7 y0 0))) (gd (vp_in x5 2400) (ci ((((gs.2 22) x5.toNatClampNeg) : Int32) = 2) (rf_matchPlain_84 F (K6) gs x2 x4 x5 x6 x7 y0 0) (rf_matchPlain_84 F (K6) gs x2 x4 x5 x6 x7 y0 1))))
noncomputable def rf_matchPlain_36 (F : Nat) (K6 : OS → Int32 → Int32 → Int32 → Int32 → RO) (gs : OS) (x2 : Int32) (x4 : Int32) (x5 : Int32) (x6 : Int32) (x7 : Int32) : RO := rf_matchPlain_41 F (K6) gs x2 x4 x5 x6 x7 1
noncomputable def rf_matchPlain_6 (F : Nat) : Nat → OS → Int32 → Int32 → Int32 → Int32 → RO
  | 0, _, _, _, _, _ => none
  | d + 1, gs, x2, x4, x5, x6 => (ci ((x2 : Int32) ≤ x6) (some (0, (sI gs 41 x5))) (gd (vp_in x6 768) (ci ((((gs.2 8) x6.toNatClampNeg) : Int32) = 6) (rf_matchPlain_36 F (rf_matchPlain_6 F d) gs x2 x4 x5 x6 ((gs.2 8) x6.toNatClampNeg)) (bd (rf_isName F gs ((gs.2 8) x6.toNatClampNeg)) (fun r35 gs36 => (ci ((r35 : Int32) = 0) (rf_matchPlain_41 F (rf_matchPlain_6 F d) gs36 x2 x4 x5 x6 ((gs.2 8) x6.toNatClampNeg) 0) (rf_matchPlain_36 F (rf_matchPlain_6 F d) gs36 x2 x4 x5 x6 ((gs.2 8) x6.toNatClampNeg))))))))
noncomputable def rf_matchPlain (F : Nat) (gs : OS) (a1 : Int32) (a2 : Int32) (a3 : Int32) (a4 : Int32) : RO := rf_matchPlain_6 F F gs a2 a4 a3 a1

noncomputable def rf_takeDraft_75 (F : Nat) (K9 : OS → Int32 → Int32 → RO) (gs : OS) (x1 : Int32) (x2 : Int32) : RO := K9 gs x1 (x2 + 1)
noncomputable def rf_takeDraft_54 (F : Nat) (K9 : OS → Int32 → Int32 → RO) (gs : OS) (x2 : Int32) (x3 : Int32) (y0 : Int32) : RO := (gd (vp_in (gs.1 3) 61) (rf_takeDraft_75 F (K9) (sA (sI gs 3 ((gs.1 3) + 1)) 4 (upd (gs.2 4) (gs.1 3).toNatClampNeg x3)) y0 x2))
noncomputable def rf_takeDraft_53 (F : Nat) (K9 : OS → Int32 → Int32 → RO) (gs : OS) (x2 : Int32) (x3 : Int32) : RO := rf_takeDraft_54 F (K9) gs x2 x3 0
noncomputable def rf_takeDraft_9 (F : Nat) : Nat → OS → Int32 → Int32 → RO
  | 0, _, _, _ => none
  | d + 1, gs, x1, x2 => (ci (((gs.1 1) : Int32) ≤ x2) (gd (vp_in (gs.1 3) 61) (gd (ib x1) (some (x1, (sA (sI gs 1 0) 4 (upd (gs.2 4) (gs.1 3).toNatClampNeg 0)))))) (gd (vp_in x2 60) (ci ((((gs.2 2) x2.toNatClampNeg) : Int32) = 32) (rf_takeDraft_75 F (rf_takeDraft_9 F d) gs x1 x2) (gd (vp_in x2 60) (bd (rf_tokenOf F gs ((gs.2 2) x2.toNatClampNeg)) (fun r8 gs9 => (ci ((x1 : Int32) = 0) (rf_takeDraft_53 F (rf_takeDraft_9 F d) gs9 x2 r8) (ci ((r8 : Int32) = 0) (rf_takeDraft_53 F (rf_takeDraft_9 F d) gs9 x2 r8) (rf_takeDraft_54 F (rf_takeDraft_9 F d) gs9 x2 r8 1)))))))))
noncomputable def rf_takeDraft (F : Nat) (gs : OS) : RO := rf_takeDraft_9 F F (sI gs 3 0) 1 0

noncomputable def rf_termEnd_92 (F : Nat) (gs : OS)  : RO := (some ((-1), gs))
noncomputable def rf_termEnd_106 (F : Nat) (K7 : OS → Int32 → Int32 → Int32 → RO) (gs : OS) (x2 : Int32) (x3 : Int32) (y0 : Int32) : RO := K7 gs x2 x3 y0
noncomputable def rf_termEnd_82 (F : Nat) (K7 : OS → Int32 → Int32 → Int32 → RO) (gs : OS) (x2 : Int32) (x3 : Int32) : RO := (ci ((x3 : Int32) < 0) (rf_termEnd_92 F gs) (ci ((x3 : Int32) ≤ 8) (ci ((x3 : Int32) ≤ 0) (rf_termEnd_106 F (K7) gs (x2 + 1) x3 0) (rf_termEnd_106 F (K7) gs (x2 + 1) x3 1)) (rf_termEnd_92 F gs)))
noncomputable def rf_termEnd_30 (F : Nat) (K7 : OS → Int32 → Int32 → Int32 → RO) (gs : OS) (x2 : Int32) (x3 : Int32) (y0 : Int32) : RO := (ci ((y0 : Int32) = 1) (rf_termEnd_82 F (K7) gs x2 (x3 + 1)) (ci ((y0 : Int32) = 2) (rf_termEnd_82 F (K7) gs x2 (x3 + (-1))) (bd (rf_isName F gs y0) (fun r6 gs7 => (ci ((r6 : Int32) = 0) (bd (rf_isKeyword F gs7 y0) (fun r12 gs13 => (ci ((r12 : Int32) = 0) (bd (rf_isNumeral F gs13 y0) (fun r18 gs19 => (ci ((r18 : Int32) = 0) (some ((-1), gs19)) (rf_termEnd_82 F (K7) gs19 x2 x3)))) (rf_termEnd_82 F (K7) gs13 x2 x3)))) (rf_termEnd_82 F (K7) gs7 x2 x3))))))
noncomputable def rf_termEnd_7 (F : Nat) : Nat → OS → Int32 → Int32 → Int32 → RO
  | 0, _, _, _, _ => none
  | d + 1, gs, x2, x3, x4 => (ci ((x4 : Int32) = 0) (some (x2, gs)) (ci (((gs.1 3) : Int32) ≤ x2) (rf_termEnd_30 F (rf_termEnd_7 F d) gs x2 x3 0) (gd (vp_in x2 61) (rf_termEnd_30 F (rf_termEnd_7 F d) gs x2 x3 ((gs.2 4) x2.toNatClampNeg)))))
noncomputable def rf_termEnd (F : Nat) (gs : OS) (a1 : Int32) : RO := rf_termEnd_7 F F gs a1 0 1

noncomputable def rf_emitPlain_135 (F : Nat) (gs : OS)  : RO := (some (0, gs))
noncomputable def rf_emitPlain_129 (F : Nat) (K3 : OS → Int32 → Int32 → Int32 → Int32 → RO) (gs : OS) (x1 : Int32) (x3 : Int32) (x4 : Int32) (x5 : Int32) : RO := K3 gs x1 x3 x4 (x5 + 1)
noncomputable def rf_emitPlain_3 (F : Nat) : Nat → OS → Int32 → Int32 → Int32 → Int32 → RO
  | 0, _, _, _, _, _ => none
  | d + 1, gs, x1, x3, x4, x5 => (ci ((x3 : Int32) ≤ x5) (rf_emitPlain_135 F gs) (ci (((gs.1 28) : Int32) = 0) (gd (vp_in x5 768) (bd (rf_letterOf F gs ((gs.2 10) x5.toNatClampNeg)) (fun r4 gs5 => (bd (rf_isName F gs5 ((gs.2 10) x5.toNatClampNeg)) (fun r9 gs10 => (ci ((r9 : Int32) = 0) (bd (rf_emit F gs10 ((gs.2 10) x5.toNatClampNeg)) (fun r36 gs37 => rf_emitPlain_129 F (rf_emitPlain_3 F d) gs37 x1 x3 x4 x5)) (gd (vp_in x1 12) (ci ((((((gs10.2 11) x1.toNatClampNeg) >>> (r4 &&& 31)) &&& 1) : Int32) = 1) (gd (vp_in r4 26) (bd (rf_emitTerm F gs10 ((gs10.2 29) r4.toNatClampNeg)) (fun r31 gs32 => rf_emitPlain_129 F (rf_emitPlain_3 F d) gs32 x1 x3 x4 x5))) (gd (vp_in x1 12) (ci ((((((gs10.2 12) x1.toNatClampNeg) >>> (r4 &&& 31)) &&& 1) : Int32) = 1) (gd (vp_in ((64 * r4) + x4) 1664) (bd (rf_emitTerm F gs10 ((gs10.2 31) ((64 * r4) + x4).toNatClampNeg)) (fun r25 gs26 => rf_emitPlain_129 F (rf_emitPlain_3 F d) gs26 x1 x3 x4 x5))) (bd (rf_emit F gs10 (((gs.2 10) x5.toNatClampNeg) + (32 * ((gs10.1 37) + 1)))) (fun r19 gs20 => rf_emitPlain_129 F (rf_emitPlain_3 F d) gs20 x1 x3 x4 x5)))))))))))) (rf_emitPlain_135 F gs)))
noncomputable def rf_emitPlain (F : Nat) (gs : OS) (a1 : Int32) (a2 : Int32) (a3 : Int32) (a4 : Int32) : RO := rf_emitPlain_3 F F gs a1 a3 a4 a2

noncomputable def rf_matchMany_87 (F : Nat) (K51 : OS → Int32 → Int32 → Int32 → Int32 → RO) (gs : OS) (x2 : Int32) (x4 : Int32) (x5 : Int32) (x6 : Int32) : RO := K51 gs x2 x4 x5 (x6 + 1)
noncomputable def rf_matchMany_51 (F : Nat) : Nat → OS → Int32 → Int32 → Int32 → Int32 → RO
  | 0, _, _, _, _, _ => none
  | d + 1, gs, x2, x4, x5, x6 => (ci ((x2 : Int32) ≤ x6) (some (x4, gs)) (gd (vp_in x6 768) (bd (rf_isName F gs ((gs.2 8) x6.toNatClampNeg)) (fun r3 gs4 => (ci ((r3 : Int32) = 0) (rf_matchMany_87 F (rf_matchMany_51 F d) gs4 x2 x4 x5 x6) (gd (vp_in x6 768) (bd (rf_letterOf F gs4 ((gs4.2 8) x6.toNatClampNeg)) (fun r10 gs11 => (gd (vp_in r10 26) (rf_matchMany_87 F (rf_matchMany_51 F d) (sA gs11 30 (upd (gs11.2 30) r10.toNatClampNeg x5)) x2 x4 x5 x6))))))))))
noncomputable def rf_matchMany_6 (F : Nat) : Nat → OS → Int32 → Int32 → Int32 → Int32 → RO
  | 0, _, _, _, _, _ => none
  | d + 1, gs, x1, x2, x4, x5 => (gd (vp_in x4 2400) (ci ((((gs.2 22) x4.toNatClampNeg) : Int32) = 2) (rf_matchMany_51 F F gs x2 x4 x5 x1) (bd (rf_matchPlain F gs x1 x2 x4 x5) (fun r18 gs19 => (ci ((0 : Int32) ≤ (gs19.1 41)) (rf_matchMany_6 F d gs19 x1 x2 (gs19.1 41) (x5 + 1)) (some ((-1), gs19)))))))
noncomputable def rf_matchMany (F : Nat) (gs : OS) (a1 : Int32) (a2 : Int32) (a3 : Int32) : RO := rf_matchMany_6 F F gs a1 a2 a3 0

noncomputable def rf_patternToken_107 (F : Nat) (gs : OS) (x1 : Int32) : RO := (bd (rf_setItem F gs x1) (fun r1 gs2 => (some (1, gs2))))
noncomputable def rf_patternToken_67 (F : Nat) (gs : OS)  : RO := (some (0, gs))
noncomputable def rf_patternToken (F : Nat) (gs : OS) (a1 : Int32) : RO := (gd (vp_in a1 61) (ci ((((gs.2 4) a1.toNatClampNeg) : Int32) = 1) (bd (rf_openList F gs a1) (fun r53 gs54 => (gd (ib r53) (some (r53, gs54))))) (ci ((((gs.2 4) a1.toNatClampNeg) : Int32) = 2) (bd (rf_closeList F gs) (fun r48 gs49 => (some (1, gs49)))) (bd (rf_isName F gs ((gs.2 4) a1.toNatClampNeg)) (fun r9 gs10 => (ci ((r9 : Int32) = 0) (ci ((((gs.2 4) a1.toNatClampNeg) : Int32) = 7) (bd (rf_tilde F gs10) (fun r29 gs30 => (ci ((r29 : Int32) = 0) (rf_patternToken_67 F gs30) (gd (vp_in (a1 + 1) 61) (ci ((((gs30.2 4) (a1 + 1).toNatClampNeg) : Int32) = 2) (bd (rf_makeMany F gs30 (gs30.1 16) a1) (fun r37 gs38 => (some (1, (sI gs38 16 (-1)))))) (rf_patternToken_67 F gs30)))))) (ci ((((gs.2 4) a1.toNatClampNeg) : Int32) = 6) (rf_patternToken_107 F gs10 a1) (bd (rf_isNumeral F gs10 ((gs.2 4) a1.toNatClampNeg)) (fun r17 gs18 => (ci ((r17 : Int32) = 0) (bd (rf_isKeyword F gs18 ((gs.2 4) a1.toNatClampNeg)) (fun r23 gs24 => (ci ((r23 : Int32) = 0) (some (0, gs24)) (rf_patternToken_107 F gs24 a1)))) (rf_patternToken_107 F gs18 a1)))))) (bd (rf_addVariable F gs10 a1) (fun r42 gs43 => (gd (ib r42) (some (r42, gs43)))))))))))

noncomputable def rf_templateToken_125 (F : Nat) (gs : OS) (x1 : Int32) : RO := (bd (rf_setItem F gs x1) (fun r1 gs2 => (some (1, gs2))))
noncomputable def rf_templateToken_77 (F : Nat) : Nat → OS → Int32 → Int32 → RO
  | 0, _, _, _ => none
  | d + 1, gs, x1, x3 => (ci ((x1 : Int32) ≤ x3) (some (1, (sI gs 16 (-1)))) (gd (vp_in x3 61) (rf_templateToken_77 F d (sA gs 20 (upd (gs.2 20) x3.toNatClampNeg (vp_nar .boolean 1))) x1 (x3 + 1))))
noncomputable def rf_templateToken_70 (F : Nat) (gs : OS)  : RO := (some (0, gs))
noncomputable def rf_templateToken (F : Nat) (gs : OS) (a1 : Int32) : RO := (gd (vp_in a1 61) (ci ((((gs.2 4) a1.toNatClampNeg) : Int32) = 1) (bd (rf_openList F gs a1) (fun r49 gs50 => (gd (ib r49) (some (r49, gs50))))) (ci ((((gs.2 4) a1.toNatClampNeg) : Int32) = 2) (ci (((gs.1 13) : Int32) = 0) (some (0, gs)) (bd (rf_closeList F gs) (fun r44 gs45 => (some (1, gs45))))) (ci ((((gs.2 4) a1.toNatClampNeg) : Int32) = 7) (ci (((gs.1 13) : Int32) = 0) (rf_templateToken_70 F gs) (bd (rf_tilde F gs) (fun r31 gs32 => (ci ((r31 : Int32) = 0) (rf_templateToken_70 F gs32) (bd (rf_hasMany F gs32 (gs32.1 16) a1) (fun r37 gs38 => (ci ((r37 : Int32) = 0) (rf_templateToken_70 F gs38) (rf_templateToken_77 F F gs38 a1 (gs38.1 16))))))))) (bd (rf_isName F gs ((gs.2 4) a1.toNatClampNeg)) (fun r12 gs13 => (ci ((r12 : Int32) = 0) (bd (rf_isNumeral F gs13 ((gs.2 4) a1.toNatClampNeg)) (fun r18 gs19 => (ci ((r18 : Int32) = 0) (bd (rf_isKeyword F gs19 ((gs.2 4) a1.toNatClampNeg)) (fun r24 gs25 => (ci ((r24 : Int32) = 0) (some (0, gs25)) (rf_templateToken_125 F gs25 a1)))) (rf_templateToken_125 F gs19 a1)))) (rf_templateToken_125 F gs13 a1))))))))

noncomputable def rf_goThrough_145 (F : Nat) (K18 : OS → Int32 → Int32 → Int32 → Int32 → Int32 → RO) (gs : OS) (x1 : Int32) (x2 : Int32) (x4 : Int32) (x5 : Int32) (x6 : Int32) : RO := K18 gs x1 x2 (x6 + 1) x4 x5
noncomputable def rf_goThrough_118 (F : Nat) (K18 : OS → Int32 → Int32 → Int32 → Int32 → Int32 → RO) : Nat → OS → Int32 → Int32 → Int32 → Int32 → Int32 → Int32 → Int32 → Int32 → RO
  | 0, _, _, _, _, _, _, _, _, _ => none
  | d + 1, gs, x1, x2, x3, x4, x5, x6, x7, x8 => (ci ((x7 : Int32) ≤ x8) (rf_goThrough_145 F (K18) gs x1 x2 x4 x5 x6) (ci ((x2 : Int32) = 0) (rf_goThrough_145 F (K18) gs x1 x2 x4 x5 x6) (bd (rf_emitPlain F gs x1 x3 x6 x8) (fun r3 gs4 => rf_goThrough_118 F K18 d gs4 x1 x2 x3 x4 x5 x6 x7 (x8 + 1)))))
noncomputable def rf_goThrough_113 (F : Nat) (K18 : OS → Int32 → Int32 → Int32 → Int32 → Int32 → RO) (gs : OS) (x1 : Int32) (x2 : Int32) (x3 : Int32) (x4 : Int32) (x6 : Int32) (x7 : Int32) (y0 : Int32) : RO := rf_goThrough_118 F (K18) F gs x1 x2 x3 x4 y0 x6 x7 0
noncomputable def rf_goThrough_112 (F : Nat) (K18 : OS → Int32 → Int32 → Int32 → Int32 → Int32 → RO) (gs : OS) (x1 : Int32) (x2 : Int32) (x3 : Int32) (x4 : Int32) (x6 : Int32) (x7 : Int32) : RO := rf_goThrough_113 F (K18) gs x1 x2 x3 x4 x6 x7 0
noncomputable def rf_goThrough_82 (F : Nat) (K18 : OS → Int32 → Int32 → Int32 → Int32 → Int32 → RO) (gs : OS) (x1 : Int32) (x2 : Int32) (x3 : Int32) (x4 : Int32) (x5 : Int32) : RO := K18 gs x1 x2 (x3 + 1) x4 x5
noncomputable def rf_goThrough_68 (F : Nat) (K18 : OS → Int32 → Int32 → Int32 → Int32 → Int32 → RO) (gs : OS) (x1 : Int32) (x2 : Int32) (x3 : Int32) (x4 : Int32) (x5 : Int32) : RO := (ci ((x2 : Int32) = 0) (rf_goThrough_82 F (K18) gs x1 x2 x3 x4 x5) (bd (rf_emitPlain F gs x1 x3 (x3 + 1) 0) (fun r9 gs10 => rf_goThrough_82 F (K18) gs10 x1 x2 x3 x4 x5)))
noncomputable def rf_goThrough_44 (F : Nat) (K18 : OS → Int32 → Int32 → Int32 → Int32 → Int32 → RO) (gs : OS) (x1 : Int32) (x2 : Int32) (x3 : Int32) (x4 : Int32) (x5 : Int32) (y0 : Int32) : RO := (gd (vp_in x3 768) (ci ((((gs.2 10) x3.toNatClampNeg) : Int32) = 2) (rf_goThrough_68 F (K18) gs x1 x2 x3 x4 x5) (gd (vp_in y0 768) (ci ((((gs.2 10) y0.toNatClampNeg) : Int32) = 7) (bd (rf_copies F gs x1 x3 y0) (fun r18 gs19 => (ci ((x5 : Int32) = 0) (rf_goThrough_112 F (K18) gs19 x1 x2 x3 x4 y0 r18) (ci ((r18 : Int32) < 0) (rf_goThrough_112 F (K18) gs19 x1 x2 x3 x4 y0 r18) (rf_goThrough_113 F (K18) gs19 x1 x2 x3 x4 y0 r18 1))))) (rf_goThrough_68 F (K18) gs x1 x2 x3 x4 x5)))))
noncomputable def rf_goThrough_18 (F : Nat) : Nat → OS → Int32 → Int32 → Int32 → Int32 → Int32 → RO
  | 0, _, _, _, _, _, _ => none
  | d + 1, gs, x1, x2, x3, x4, x5 => (ci ((x4 : Int32) ≤ x3) (gd (ib x5) (some (x5, gs))) (gd (vp_in x3 768) (ci ((((gs.2 10) x3.toNatClampNeg) : Int32) = 2) (rf_goThrough_44 F (rf_goThrough_18 F d) gs x1 x2 x3 x4 x5 x3) (bd (rf_itemEnd F gs 1 x3) (fun r29 gs30 => rf_goThrough_44 F (rf_goThrough_18 F d) gs30 x1 x2 x3 x4 x5 r29)))))
noncomputable def rf_goThrough (F : Nat) (gs : OS) (a1 : Int32) (a2 : Int32) : RO := (gd (vp_in a1 12) (rf_goThrough_18 F F gs a1 a2 (64 * a1) ((64 * a1) + ((gs.2 9) a1.toNatClampNeg)) 1))

noncomputable def rf_isTemplate_148 (F : Nat) (K86 : OS → Int32 → Int32 → RO) (gs : OS) (x5 : Int32) (y0 : Int32) : RO := K86 gs y0 (x5 + 1)
noncomputable def rf_isTemplate_147 (F : Nat) (K86 : OS → Int32 → Int32 → RO) (gs : OS) (x5 : Int32) : RO := rf_isTemplate_148 F (K86) gs x5 0
noncomputable def rf_isTemplate_143 (F : Nat) (K86 : OS → Int32 → Int32 → RO) (gs : OS) (x5 : Int32) : RO := rf_isTemplate_148 F (K86) gs x5 1
noncomputable def rf_isTemplate_86 (F : Nat) : Nat → OS → Int32 → Int32 → RO
  | 0, _, _, _ => none
  | d + 1, gs, x4, x5 => (ci (((gs.1 3) : Int32) ≤ x5) (gd (ib x4) (some (x4, gs))) (ci ((x4 : Int32) = 0) (rf_isTemplate_147 F (rf_isTemplate_86 F d) gs x5) (gd (vp_in x5 61) (ci ((((gs.2 20) x5.toNatClampNeg) : Int32) = 0) (gd (vp_in x5 61) (bd (rf_isName F gs ((gs.2 4) x5.toNatClampNeg)) (fun r7 gs8 => (ci ((r7 : Int32) = 0) (rf_isTemplate_143 F (rf_isTemplate_86 F d) gs8 x5) (gd (vp_in x5 61) (bd (rf_letterOf F gs8 ((gs8.2 4) x5.toNatClampNeg)) (fun r14 gs15 => (ci (((((gs8.1 19) >>> (r14 &&& 31)) &&& 1) : Int32) = 0) (rf_isTemplate_143 F (rf_isTemplate_86 F d) gs15 x5) (rf_isTemplate_147 F (rf_isTemplate_86 F d) gs15 x5))))))))) (rf_isTemplate_143 F (rf_isTemplate_86 F d) gs x5)))))
noncomputable def rf_isTemplate_49 (F : Nat) (gs : OS)  : RO := (some (0, gs))
noncomputable def rf_isTemplate_66 (F : Nat) (K29 : OS → Int32 → Int32 → Int32 → RO) (gs : OS) (x1 : Int32) (x2 : Int32) (y0 : Int32) : RO := K29 gs x1 x2 y0
noncomputable def rf_isTemplate_29 (F : Nat) : Nat → OS → Int32 → Int32 → Int32 → RO
  | 0, _, _, _, _ => none
  | d + 1, gs, x1, x2, x3 => (ci ((x3 : Int32) = 0) (ci ((x2 : Int32) = (gs.1 3)) (rf_isTemplate_86 F F gs 1 x1) (some (0, gs))) (ci (((gs.1 3) : Int32) ≤ x2) (rf_isTemplate_49 F gs) (bd (rf_templateToken F gs x2) (fun r23 gs24 => (ci ((r23 : Int32) = 0) (rf_isTemplate_49 F gs24) (ci (((gs24.1 13) : Int32) ≤ 0) (rf_isTemplate_66 F (rf_isTemplate_29 F d) gs24 x1 (x2 + 1) 0) (rf_isTemplate_66 F (rf_isTemplate_29 F d) gs24 x1 (x2 + 1) 1)))))))
noncomputable def rf_isTemplate_6 (F : Nat) : Nat → OS → Int32 → Int32 → RO
  | 0, _, _, _ => none
  | d + 1, gs, x1, x2 => (ci ((60 : Int32) < x2) (rf_isTemplate_29 F F gs x1 x1 1) (gd (vp_in x2 61) (rf_isTemplate_6 F d (sA gs 20 (upd (gs.2 20) x2.toNatClampNeg (vp_nar .boolean 0))) x1 (x2 + 1))))
noncomputable def rf_isTemplate (F : Nat) (gs : OS) (a1 : Int32) : RO := (bd (rf_beginLists F gs) (fun r32 gs33 => rf_isTemplate_6 F F gs33 a1 0))

noncomputable def rf_matches_149 (F : Nat) (K20 : OS → Int32 → Int32 → Int32 → RO) (gs : OS) (x3 : Int32) (x4 : Int32) (y0 : Int32) : RO := K20 gs (x3 + 1) x4 y0
noncomputable def rf_matches_95 (F : Nat) (K20 : OS → Int32 → Int32 → Int32 → RO) (gs : OS) (x3 : Int32) (x4 : Int32) (x5 : Int32) (x6 : Int32) : RO := (bd (rf_matchPlain F gs x3 (x3 + 1) x4 (-1)) (fun r1 gs2 => (ci ((0 : Int32) ≤ (gs2.1 41)) (ci ((x6 : Int32) = 1) (rf_matches_149 F (K20) gs2 x3 (gs2.1 41) (x5 + 1)) (ci ((x6 : Int32) = 2) (rf_matches_149 F (K20) gs2 x3 (gs2.1 41) (x5 - 1)) (rf_matches_149 F (K20) gs2 x3 (gs2.1 41) x5))) (some (0, gs2)))))
noncomputable def rf_matches_49 (F : Nat) (K20 : OS → Int32 → Int32 → Int32 → RO) (gs : OS) (x3 : Int32) (x4 : Int32) (x5 : Int32) (x6 : Int32) (y0 : Int32) : RO := (ci ((x6 : Int32) = 2) (rf_matches_95 F (K20) gs x3 x4 x5 x6) (gd (vp_in y0 768) (ci ((((gs.2 8) y0.toNatClampNeg) : Int32) = 7) (bd (rf_matchMany F gs x3 y0 x4) (fun r12 gs13 => (ci ((0 : Int32) ≤ r12) (K20 gs13 (y0 + 1) r12 x5) (some (0, gs13))))) (rf_matches_95 F (K20) gs x3 x4 x5 x6))))
noncomputable def rf_matches_20 (F : Nat) : Nat → OS → Int32 → Int32 → Int32 → RO
  | 0, _, _, _, _ => none
  | d + 1, gs, x3, x4, x5 => (ci ((x5 : Int32) ≤ 0) (some (1, gs)) (gd (vp_in x3 768) (ci ((((gs.2 8) x3.toNatClampNeg) : Int32) = 2) (rf_matches_49 F (rf_matches_20 F d) gs x3 x4 x5 ((gs.2 8) x3.toNatClampNeg) x3) (bd (rf_itemEnd F gs 0 x3) (fun r21 gs22 => rf_matches_49 F (rf_matches_20 F d) gs22 x3 x4 x5 ((gs.2 8) x3.toNatClampNeg) r21)))))
noncomputable def rf_matches (F : Nat) (gs : OS) (a1 : Int32) : RO := rf_matches_20 F F gs ((64 * a1) + 2) ((gs.1 36) + 2) 1

noncomputable def rf_patternEnd_77 (F : Nat) (gs : OS)  : RO := (some ((-1), gs))
noncomputable def rf_patternEnd_54 (F : Nat) : Nat → OS → Int32 → RO
  | 0, _, _ => none
  | d + 1, gs, x1 => (ci (((gs.1 13) : Int32) ≤ 0) (some (x1, (sI gs 18 ((gs.1 18) &&& ((gs.1 19) ^^^ (-1)))))) (ci (((gs.1 3) : Int32) ≤ x1) (rf_patternEnd_77 F gs) (bd (rf_patternToken F gs x1) (fun r3 gs4 => (ci ((r3 : Int32) = 0) (rf_patternEnd_77 F gs4) (rf_patternEnd_54 F d gs4 (x1 + 1)))))))
noncomputable def rf_patternEnd_44 (F : Nat) (gs : OS)  : RO := (some ((-1), gs))
noncomputable def rf_patternEnd (F : Nat) (gs : OS) : RO := (bd (rf_beginLists F (sI (sI gs 18 0) 19 0)) (fun r9 gs10 => (ci (((gs10.1 3) : Int32) < 2) (rf_patternEnd_44 F gs10) (gd (vp_in (0 : Int32) 61) (ci ((((gs10.2 4) (0 : Int32).toNatClampNeg) : Int32) = 1) (gd (vp_in (1 : Int32) 61) (bd (rf_isName F gs10 ((gs10.2 4) (1 : Int32).toNatClampNeg)) (fun r18 gs19 => (ci ((r18 : Int32) = 0) (rf_patternEnd_44 F gs19) (bd (rf_openList F gs19 0) (fun r24 gs25 => rf_patternEnd_54 F F gs25 2)))))) (rf_patternEnd_44 F gs10))))))

noncomputable def rf_replace_252 (F : Nat) : Nat → OS → Int32 → Int32 → RO
  | 0, _, _, _ => none
  | d + 1, gs, x5, x6 => (ci (((gs.1 23) : Int32) ≤ x6) (some (0, (sI (sI gs 21 ((gs.1 23) + x5)) 36 0))) (gd (vp_in x6 260) (gd (vp_in x6 2400) (rf_replace_252 F d (sA gs 22 (upd (gs.2 22) x6.toNatClampNeg ((gs.2 24) x6.toNatClampNeg))) x5 (x6 + 1)))))
noncomputable def rf_replace_249 (F : Nat) (gs : OS) (x5 : Int32) : RO := rf_replace_252 F F gs x5 0
noncomputable def rf_replace_216 (F : Nat) : Nat → OS → Int32 → Int32 → Int32 → RO
  | 0, _, _, _, _ => none
  | d + 1, gs, x4, x5, x6 => (ci ((x6 : Int32) < 0) (rf_replace_249 F gs x5) (gd (vp_in (x4 + x6) 2400) (gd (vp_in ((gs.1 23) + x6) 2400) (rf_replace_216 F d (sA gs 22 (upd (gs.2 22) ((gs.1 23) + x6).toNatClampNeg ((gs.2 22) (x4 + x6).toNatClampNeg))) x4 x5 (x6 + (-1))))))
noncomputable def rf_replace_172 (F : Nat) : Nat → OS → Int32 → Int32 → Int32 → RO
  | 0, _, _, _, _ => none
  | d + 1, gs, x4, x5, x6 => (ci ((x5 : Int32) ≤ x6) (rf_replace_249 F gs x5) (gd (vp_in (x4 + x6) 2400) (gd (vp_in ((gs.1 23) + x6) 2400) (rf_replace_172 F d (sA gs 22 (upd (gs.2 22) ((gs.1 23) + x6).toNatClampNeg ((gs.2 22) (x4 + x6).toNatClampNeg))) x4 x5 (x6 + 1)))))
noncomputable def rf_replace_80 (F : Nat) (gs : OS)  : RO := (some (0, (sI gs 40 2)))
noncomputable def rf_replace_63 (F : Nat) (gs : OS) (x3 : Int32) : RO := (ci ((x3 : Int32) = (gs.1 5)) (rf_replace_80 F gs) (bd (rf_goThrough F gs x3 0) (fun r11 gs12 => (ci ((r11 : Int32) = 0) (rf_replace_80 F gs12) (bd (rf_goThrough F (sI (sI (sI (sI (sI gs12 23 0) 25 0) 26 0) 27 0) 28 0) x3 1) (fun r17 gs18 => (ci (((gs18.1 28) : Int32) = 0) (bd (rf_skip F (sI gs18 37 ((gs18.1 37) + 1)) (gs18.1 36)) (fun r23 gs24 => (ci ((r23 : Int32) < (gs24.1 23)) (rf_replace_216 F F gs24 r23 ((gs24.1 21) - r23) (((gs24.1 21) - r23) - 1)) (rf_replace_172 F F gs24 r23 ((gs24.1 21) - r23) 0)))) (some (0, (sI gs18 40 3))))))))))
noncomputable def rf_replace_57 (F : Nat) (K31 : OS → Int32 → Int32 → RO) (gs : OS) (x2 : Int32) (x3 : Int32) : RO := K31 gs x2 (x3 + 1)
noncomputable def rf_replace_31 (F : Nat) : Nat → OS → Int32 → Int32 → RO
  | 0, _, _, _ => none
  | d + 1, gs, x2, x3 => (ci (((gs.1 5) : Int32) ≤ x3) (rf_replace_63 F gs x3) (gd (vp_in x3 12) (ci ((((gs.2 6) x3.toNatClampNeg) : Int32) = x2) (bd (rf_matches F gs x3) (fun r32 gs33 => (ci ((r32 : Int32) = 0) (rf_replace_57 F (rf_replace_31 F d) gs33 x2 x3) (rf_replace_63 F gs33 x3)))) (rf_replace_57 F (rf_replace_31 F d) gs x2 x3))))
noncomputable def rf_replace (F : Nat) (gs : OS) (a1 : Int32) : RO := (ci (((gs.1 37) : Int32) = a1) (some (0, (sI gs 40 3))) (gd (vp_in ((gs.1 36) + 1) 2400) (bd (rf_letterOf F gs ((gs.2 22) ((gs.1 36) + 1).toNatClampNeg)) (fun r40 gs41 => rf_replace_31 F F gs41 r40 0))))

noncomputable def rf_rule_243 (F : Nat) (gs : OS)  : RO := (gd (vp_in (((gs.1 5) + 1) - 1) 12) (bd (rf_countOf F (sI gs 5 ((gs.1 5) + 1)) ((gs.2 6) (((gs.1 5) + 1) - 1).toNatClampNeg)) (fun r2 gs3 => (some (r2, gs3)))))
noncomputable def rf_rule_217 (F : Nat) (gs : OS)  : RO := (gd (vp_in (gs.1 5) 12) (gd (vp_in (gs.1 5) 12) (rf_rule_243 F (sA (sA gs 11 (upd (gs.2 11) (gs.1 5).toNatClampNeg (gs.1 18))) 12 (upd (gs.2 12) (gs.1 5).toNatClampNeg (gs.1 19))))))
noncomputable def rf_rule_195 (F : Nat) (gs : OS) (x2 : Int32) : RO := (gd (vp_in ((((64 * (gs.1 5)) + (gs.1 3)) - x2) - 1) 768) (rf_rule_217 F (sA gs 10 (upd (gs.2 10) ((((64 * (gs.1 5)) + (gs.1 3)) - x2) - 1).toNatClampNeg 0))))
noncomputable def rf_rule_157 (F : Nat) : Nat → OS → Int32 → Int32 → RO
  | 0, _, _, _ => none
  | d + 1, gs, x2, x3 => (ci (((gs.1 3) : Int32) ≤ x3) (rf_rule_195 F gs x2) (gd (vp_in x3 61) (gd (vp_in ((((64 * (gs.1 5)) + x3) - x2) - 1) 768) (rf_rule_157 F d (sA gs 10 (upd (gs.2 10) ((((64 * (gs.1 5)) + x3) - x2) - 1).toNatClampNeg ((gs.2 4) x3.toNatClampNeg))) x2 (x3 + 1)))))
noncomputable def rf_rule_136 (F : Nat) (gs : OS) (x2 : Int32) : RO := (gd (vp_in (gs.1 5) 12) (rf_rule_157 F F (sA gs 9 (upd (gs.2 9) (gs.1 5).toNatClampNeg (((gs.1 3) - x2) - 1))) x2 (x2 + 1)))
noncomputable def rf_rule_105 (F : Nat) : Nat → OS → Int32 → Int32 → RO
  | 0, _, _, _ => none
  | d + 1, gs, x2, x3 => (ci ((x2 : Int32) ≤ x3) (rf_rule_136 F gs x2) (gd (vp_in x3 61) (gd (vp_in ((64 * (gs.1 5)) + x3) 768) (rf_rule_105 F d (sA gs 8 (upd (gs.2 8) ((64 * (gs.1 5)) + x3).toNatClampNeg ((gs.2 4) x3.toNatClampNeg))) x2 (x3 + 1)))))
noncomputable def rf_rule_93 (F : Nat) (gs : OS) (x2 : Int32) : RO := (gd (vp_in (gs.1 5) 12) (rf_rule_105 F F (sA gs 7 (upd (gs.2 7) (gs.1 5).toNatClampNeg x2)) x2 0))
noncomputable def rf_rule_92 (F : Nat) (gs : OS) (x2 : Int32) (y0 : Int32) (y1 : Int32) : RO := (gd (vp_in y1 12) (rf_rule_93 F (sA gs 6 (upd (gs.2 6) y1.toNatClampNeg y0)) x2))
noncomputable def rf_rule_75 (F : Nat) (gs : OS) (x2 : Int32) : RO := (gd (vp_in (1 : Int32) 61) (bd (rf_letterOf F gs ((gs.2 4) (1 : Int32).toNatClampNeg)) (fun r20 gs21 => rf_rule_92 F gs21 x2 r20 (gs.1 5))))
noncomputable def rf_rule_38 (F : Nat) (gs : OS)  : RO := (bd (rf_fail F gs 1) (fun r25 gs26 => (some (r25, gs26))))
noncomputable def rf_rule_22 (F : Nat) (gs : OS) (y0 : Int32) : RO := (ci ((y0 : Int32) < 0) (rf_rule_38 F gs) (gd (vp_in y0 61) (ci ((((gs.2 4) y0.toNatClampNeg) : Int32) = 8) (bd (rf_isTemplate F gs (y0 + 1)) (fun r33 gs34 => (ci ((r33 : Int32) = 0) (bd (rf_fail F gs34 1) (fun r45 gs46 => (some (r45, gs46)))) (ci (((gs34.1 5) : Int32) = 12) (bd (rf_fail F gs34 2) (fun r40 gs41 => (some (r40, gs41)))) (rf_rule_75 F gs34 y0))))) (rf_rule_38 F gs))))
noncomputable def rf_rule (F : Nat) (gs : OS) : RO := (bd (rf_takeDraft F (sI gs 0 0)) (fun r50 gs51 => (ci ((r50 : Int32) = 0) (rf_rule_22 F gs51 (-1)) (bd (rf_patternEnd F gs51) (fun r56 gs57 => rf_rule_22 F gs57 r56)))))

noncomputable def rf_expandList_93 (F : Nat) (gs : OS)  : RO := (some (0, gs))
noncomputable def rf_expandList_73 (F : Nat) (gs : OS)  : RO := (bd (rf_put F gs 1) (fun r1 gs2 => (bd (rf_openRow F gs2 0) (fun r6 gs7 => rf_expandList_93 F (sI gs7 36 ((gs7.1 36) + 1))))))
noncomputable def rf_expandList (F : Nat) (gs : OS) (a1 : Int32) : RO := (gd (vp_in ((gs.1 36) + 1) 2400) (ci ((((gs.2 22) ((gs.1 36) + 1).toNatClampNeg) : Int32) = 2) (rf_expandList_93 F (sI gs 40 2)) (bd (rf_isKeyword F gs ((gs.2 22) ((gs.1 36) + 1).toNatClampNeg)) (fun r13 gs14 => (ci ((r13 : Int32) = 0) (bd (rf_isName F gs14 ((gs.2 22) ((gs.1 36) + 1).toNatClampNeg)) (fun r19 gs20 => (ci ((r19 : Int32) = 0) (rf_expandList_73 F gs20) (bd (rf_levelOf F gs20 ((gs.2 22) ((gs.1 36) + 1).toNatClampNeg)) (fun r25 gs26 => (ci ((0 : Int32) ≤ r25) (rf_expandList_73 F gs26) (bd (rf_letterOf F gs26 ((gs.2 22) ((gs.1 36) + 1).toNatClampNeg)) (fun r31 gs32 => (bd (rf_countOf F gs32 r31) (fun r36 gs37 => (ci ((r36 : Int32) ≤ 0) (rf_expandList_73 F gs37) (bd (rf_replace F gs37 a1) (fun r42 gs43 => rf_expandList_93 F gs43))))))))))))) (bd (rf_expandForm F gs14) (fun r47 gs48 => rf_expandList_93 F gs48)))))))

noncomputable def rf_expandAll_118 (F : Nat) (gs : OS)  : RO := (some (0, gs))
noncomputable def rf_expandAll_115 (F : Nat) (K0 : OS → Int32 → RO) (gs : OS) (x1 : Int32) : RO := K0 gs x1
noncomputable def rf_expandAll_0 (F : Nat) : Nat → OS → Int32 → RO
  | 0, _, _ => none
  | d + 1, gs, x1 => (ci (((gs.1 21) : Int32) ≤ (gs.1 36)) (rf_expandAll_118 F gs) (ci (((gs.1 40) : Int32) = 0) (gd (vp_in (gs.1 36) 2400) (ci ((((gs.2 22) (gs.1 36).toNatClampNeg) : Int32) = 2) (bd (rf_closeRow F gs) (fun r34 gs35 => rf_expandAll_115 F (rf_expandAll_0 F d) gs35 x1)) (ci (((gs.1 32) : Int32) = 12) (rf_expandAll_115 F (rf_expandAll_0 F d) (sI gs 40 3) x1) (ci ((((gs.2 22) (gs.1 36).toNatClampNeg) : Int32) = 1) (bd (rf_expandList F gs x1) (fun r29 gs30 => rf_expandAll_115 F (rf_expandAll_0 F d) gs30 x1)) (bd (rf_isName F gs ((gs.2 22) (gs.1 36).toNatClampNeg)) (fun r7 gs8 => (ci ((r7 : Int32) = 0) (bd (rf_isKeyword F gs8 ((gs.2 22) (gs.1 36).toNatClampNeg)) (fun r13 gs14 => (ci ((r13 : Int32) = 0) (bd (rf_put F gs14 ((gs.2 22) (gs.1 36).toNatClampNeg)) (fun r19 gs20 => rf_expandAll_115 F (rf_expandAll_0 F d) (sI gs20 36 ((gs20.1 36) + 1)) x1)) (rf_expandAll_115 F (rf_expandAll_0 F d) (sI gs14 40 2) x1)))) (bd (rf_expandName F gs8 ((gs.2 22) (gs.1 36).toNatClampNeg)) (fun r24 gs25 => rf_expandAll_115 F (rf_expandAll_0 F d) gs25 x1))))))))) (rf_expandAll_118 F gs)))
noncomputable def rf_expandAll (F : Nat) (gs : OS) (a1 : Int32) : RO := rf_expandAll_0 F F gs a1

noncomputable def rf_expand_44 (F : Nat) : Nat → OS → Int32 → Int32 → RO
  | 0, _, _, _ => none
  | d + 1, gs, x1, x3 => (ci (((gs.1 3) : Int32) ≤ x3) (bd (rf_expandAll F (sI (sI (sI (sI (sI (sI (sI gs 21 (gs.1 3)) 32 0) 34 0) 36 0) 37 0) 38 0) 40 0) x1) (fun r2 gs3 => (ci (((gs3.1 40) : Int32) = 0) (some ((gs3.1 38), gs3)) (bd (rf_fail F (sI gs3 38 0) (gs3.1 40)) (fun r8 gs9 => (some (r8, gs9))))))) (gd (vp_in x3 61) (gd (vp_in x3 2400) (rf_expand_44 F d (sA gs 22 (upd (gs.2 22) x3.toNatClampNeg ((gs.2 4) x3.toNatClampNeg))) x1 (x3 + 1)))))
noncomputable def rf_expand_36 (F : Nat) (gs : OS)  : RO := (bd (rf_fail F gs 1) (fun r15 gs16 => (some (r15, gs16))))
noncomputable def rf_expand (F : Nat) (gs : OS) (a1 : Int32) : RO := (bd (rf_takeDraft F (sI gs 0 0)) (fun r20 gs21 => (ci ((r20 : Int32) = 0) (rf_expand_36 F gs21) (bd (rf_termEnd F gs21 0) (fun r26 gs27 => (ci ((r26 : Int32) = (gs27.1 3)) (ci ((a1 : Int32) < 0) (rf_expand_36 F gs27) (ci ((a1 : Int32) ≤ 12) (rf_expand_44 F F gs27 a1 0) (rf_expand_36 F gs27))) (rf_expand_36 F gs27)))))))
