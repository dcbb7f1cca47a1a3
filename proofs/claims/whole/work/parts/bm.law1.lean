/-! The law's loop: what stands at its head, and a round's end. -/
abbrev JS : Type := Value × Nat × Int32 × (Nat → Nat) × (Nat → Nat) × Int32 × Int32 × Int32 × Int32 × Nat × (Nat → Nat → Nat) × (Nat → Nat)
abbrev j_bk (J : JS) : Value := J.1
abbrev j_bd (J : JS) : Nat := J.2.1
abbrev j_b7 (J : JS) : Int32 := J.2.2.1
abbrev j_bl (J : JS) : Nat → Nat := J.2.2.2.1
abbrev j_bs (J : JS) : Nat → Nat := J.2.2.2.2.1
abbrev j_w2 (J : JS) : Int32 := J.2.2.2.2.2.1
abbrev j_w3 (J : JS) : Int32 := J.2.2.2.2.2.2.1
abbrev j_w4 (J : JS) : Int32 := J.2.2.2.2.2.2.2.1
abbrev j_w5 (J : JS) : Int32 := J.2.2.2.2.2.2.2.2.1
abbrev j_fd (J : JS) : Nat := J.2.2.2.2.2.2.2.2.2.1
abbrev j_ff (J : JS) : Nat → Nat → Nat := J.2.2.2.2.2.2.2.2.2.2.1
abbrev j_ct (J : JS) : Nat → Nat := J.2.2.2.2.2.2.2.2.2.2.2
/-- what its numbers keep to -/
def JI (J : JS) : Prop := j_bd J ≤ 12 ∧ (∀ i, j_bl J i < 65536) ∧ (∀ i, j_bs J i < 2 ^ 31) ∧ j_fd J ≤ 150 ∧ ∀ i, j_ct J i ≤ 60
/-- the draft's cells; the others of the twenty -/
def W3 (P : Nat → Nat) (C : Nat → ClassId) (sgn : Nat → Nat) (dn dt : Nat) : va_W := [(P 0, .inr (7, [.ref (P 1), .ref (P 15), .ref (P 3)])), (P 1, .inr (0, [.ref (P 2), .int (nI dn), .int (nI dt)])), (P 2, .inl (C 2, 60, .inl (nf sgn)))]
def W17 (P : Nat → Nat) (C : Nat → ClassId) (fr : Nat → Nat) (n : Nat) (bf : Nat → Option Nat) (md ln : Nat) (mk : Nat → Int32) (y : TSt) (J : JS) : va_W := [(P 3, .inr (1, [.ref (P 6), .ref (P 17), .ref (P 13), .ref (P 4), .ref (P 5), j_bk J, .int (nI (j_bd J)), .int (j_b7 J), .int (nI md)])), (P 4, .inl (C 4, 12, .inl (nf (j_bl J)))), (P 5, .inl (C 5, 12, .inl (nf (j_bs J)))), (P 6, .inr (6, [.ref (P 7), .ref (P 8), .ref (P 9), .ref (P 10), .ref (P 11), .ref (P 12), .int (nI (x_z y)), .int (j_w2 J), .int (j_w3 J), .int (j_w4 J), .int (j_w5 J)])), (P 7, .inl (C 7, 780, .inl (nf (x_sg y)))), (P 8, .inl (C 8, 780, .inl (nf (x_st y)))), (P 9, .inl (C 9, 780, .inl (nf (x_sp y)))), (P 10, .inl (C 10, 780, .inl (nf (x_it y)))), (P 11, .inl (C 11, 780, .inl (nf (x_rp y)))), (P 12, .inl (C 12, 12, .inl (nf (x_op y)))), (P 13, .inr (3, [.ref (P 14), .int (nI (j_fd J)), .int (nI ln)])), (P 14, .inl (C 14, 150, .inl mk)), (P 15, .inr (5, [.ref (P 16), .int (nI n)])), (P 16, .inl (C 16, 13, .inr (.inr (.inr (.inr bf))))), (P 17, .inr (2, [.ref (P 18), .ref (P 19)])), (P 18, .inl (C 18, 26, .inr (.inr (.inr (.inr (fun j => some (fr j))))))), (P 19, .inl (C 19, 26, .inl (nf (j_ct J))))]
def WR (C : Nat → ClassId) (rt : Nat → RSt) : va_W := w_al 13 (fun j => r_cl (fun k => C (20 + k)) (C 26) (rt j))
def WF (C : Nat → ClassId) (fr : Nat → Nat) (J : JS) : va_W := w_al 26 (f_cl (C 27) fr (j_ff J))
def WO (C : Nat → ClassId) (oo : Nat) (fo : Nat → Int64) : va_W := [(oo, .inl (C 28, 1, .inr (.inl fo)))]
/-- all of it -/
def LW (P : Nat → Nat) (C : Nat → ClassId) (fr : Nat → Nat) (g oo : Nat) (ad : Nat → Nat) (ca : Nat → ClassId) (sgn : Nat → Nat) (dn dt : Nat) (rt : Nat → RSt) (n : Nat) (bf : Nat → Option Nat) (md ln : Nat) (mk : Nat → Int32) (y : TSt) (J : JS) (gs : OS) (fo : Nat → Int64) : va_W :=
  ((W3 P C sgn dn dt ++ W17 P C fr n bf md ln mk y J) ++ (WR C rt ++ WF C fr J)) ++ (MO g ad ca gs ++ WO C oo fo)
def FT (C : Nat → ClassId) : List (ClassId × FieldType) := [(C 2, .char), (C 4, .char), (C 5, .int), (C 7, .char), (C 8, .int), (C 9, .int), (C 10, .int), (C 11, .boolean), (C 12, .int), (C 14, .int), (C 16, .object rc_R), (C 20, .char), (C 21, .int), (C 22, .int), (C 23, .int), (C 24, .boolean), (C 25, .int), (C 26, .int), (C 18, .array .int), (C 27, .int), (C 19, .int)]
def LT (C : Nat → ClassId) (ca : Nat → ClassId) : List (ClassId × FieldType) := FT C ++ (MT ca ++ [(C 28, .long)])
/-- the law's frame -/
def LC (p : Program) (l : Launch) (s : State) (m : MethodId) (meth : Method) (c : Code) (b L : Nat) (xs : Nat → Int32) (A : Nat → Prop) : Prop :=
  p.tables.exec = Jvm.exec ∧ c.code = b_L_law ∧ meth.sig.returnType = ret ∧ c.maxLocals = 7 ∧ s.vm.findClass rc_L = some m.cls ∧ (∀ w ∈ wal, w.before #[Value.ref b] s = true) ∧ va_X b L xs s s.heap ∧ b < s.heap.size ∧ meth.locks = false ∧ (∀ q, s.heap.size ≤ q → A q) ∧ (∀ q, A q → s.heap.size ≤ q) ∧ ¬ A b ∧ cx A s s.heap ∧ nc s ∧ l.stackTraces = false ∧ L ≤ 1024
/-- the heap's part -/
def SD (D : va_G) (A : Nat → Prop) (s : State) (X : va_W) (T : List (ClassId × FieldType)) (H : Heap) (locs : List Loc) : Prop := va_P D wcl X H ∧ va_D A X ∧ va_K D wcl T s ∧ va_S A s.heap H locs
/-- both states belong together, and the rules and rows are sound -/
def SL (sgn : Nat → Nat) (dn dt : Nat) (rt : Nat → RSt) (n : Nat) (bf : Nat → Option Nat) (md ln : Nat) (mk : Nat → Int32) (y : TSt) (J : JS) (gs : OS) : Prop :=
  LR gs sgn dn dt rt n md ln mk ∧ (∀ j, j < 13 → bf j = some (rt j).1) ∧ (∀ j, j < 13 → r_ok (rt j)) ∧ t_raw 780 y ∧ t_sm (2 ^ 31) y ∧ JI J
section LAW
variable {p : Program} {l : Launch} {e : Env} {s : State} {m : MethodId} {below : List Frame} {meth : Method} {c : Code} {b L i : Nat} {xs : Nat → Int32} {A : Nat → Prop} {D : va_G} {P : Nat → Nat} {C : Nat → ClassId} {fr : Nat → Nat} {g oo : Nat} {ad : Nat → Nat} {ca : Nat → ClassId}
  {sgn : Nat → Nat} {dn dt : Nat} {rt : Nat → RSt} {n : Nat} {bf : Nat → Option Nat} {md ln : Nat} {mk : Nat → Int32} {y : TSt} {J : JS} {gs : OS} {fo : Nat → Int64} {H : Heap} {locs : List Loc} {ls : Array Slot} {cells slots : Nat}
/-- from the loop's head with i on, the law comes to its end with true -/
def HD (p : Program) (l : Launch) (e : Env) (s : State) (m : MethodId) (below : List Frame) (meth : Method) (c : Code) (b : Nat) (A : Nat → Prop) (D : va_G) (P : Nat → Nat) (C : Nat → ClassId) (fr : Nat → Nat) (g oo : Nat) (ad : Nat → Nat) (ca : Nat → ClassId) (i : Nat) : Prop :=
  ∀ (sgn : Nat → Nat) (dn dt : Nat) (rt : Nat → RSt) (n : Nat) (bf : Nat → Option Nat) (md ln : Nat) (mk : Nat → Int32) (y : TSt) (J : JS) (gs : OS) (fo : Nat → Int64) (H : Heap) (locs : List Loc) (ls : Array Slot),
    SD D A s (LW P C fr g oo ad ca sgn dn dt rt n bf md ln mk y J gs fo) (LT C ca) H locs → SL sgn dn dt rt n bf md ln mk y J gs → lv_has ls 7 [(4, .int (nI i)), (3, .ref oo), (2, .ref g), (1, .ref (P 0)), (0, .ref b)] →
    W p l e room_1 s m #[Value.ref b] below meth c H locs (200 + i) (20000 + 6 * i) (lw_Z below #[Value.ref b] s) (F0 m 23 ls [])
theorem lv_sub9 {ls : Array Slot} {nL : Nat} {l1 l2 : List (Nat × Value)} (h : lv_has ls nL l1) (hs : ∀ q, q ∈ l2 → q ∈ l1) : lv_has ls nL l2 := ⟨h.1, h.2.1, fun q hq => h.2.2 q (hs q hq)⟩
theorem law_tail (K : LC p l s m meth c b L xs A) (hd : HD p l e s m below meth c b A D P C fr g oo ad ca (i + 2)) (hs : SD D A s (LW P C fr g oo ad ca sgn dn dt rt n bf md ln mk y J gs fo) (LT C ca) H locs) (hl : SL sgn dn dt rt n bf md ln mk y J gs)
    (hv : lv_has ls 7 [(4, .int (nI i)), (3, .ref oo), (2, .ref g), (1, .ref (P 0)), (0, .ref b)]) (h1 : cells ≤ 201 + i) (h2 : slots ≤ 20006 + 6 * i) : W p l e room_1 s m #[Value.ref b] below meth c H locs cells slots (lw_Z below #[Value.ref b] s) (F0 m 302 ls []) := by
  obtain ⟨hx, hb, _⟩ := K
  refine lv_iinc (k := 0) (v := nI (i + 2)) hx hb d_L_law_302 hv rfl (by rw [show Int32.ofInt 2 = nI 2 from rfl]; exact nI_add _ _) (by decide) rfl (fun ls hv => ?_)
  refine lv_goto (tgt := 23) hx hb d_L_law_305 (by decide) ?_
  refine W.widen (k := 200 + (i + 2)) (n := 20000 + 6 * (i + 2)) (by omega) (by omega) ?_
  exact hd sgn dn dt rt n bf md ln mk y J gs fo H locs ls hs hl hv
end LAW
