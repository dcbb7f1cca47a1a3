/-! What the start gives beside the lasting words, and how it is carried. -/
def cx_ok : Cond → Bool
  | .methodLinkNest .. => true
  | .castable .. => true
  | .declares .. => true
  | _ => false
theorem cx_warm {w : Cond} (hw : cx_ok w = true) {s U : State} (hW : s.WarmedH U.vm) (h : va_Nw w s) : va_Nw w U := by
  cases w <;> first | exact va_Nw.warmM hW h | exact va_Nw.warmC hW h | exact va_Nw.warmD hW h | cases hw
theorem cx_on {w : Cond} (hw : cx_ok w = true) : w.onTables = true := by
  cases w <;> first | rfl | cases hw
def cx_AI (U : State) : Prop := ∃ comp cA k, U.vm.findClass (FieldType.array .int).toString = some comp ∧ U.vm.classes[cA]? = some k ∧ k.kind = .array comp (.array .int) ∧ U.vm.findClass ("[" ++ (FieldType.array .int).toString) = some cA
theorem cx_AI.moved {u U : State} (hvm : u.vm.Alike U.vm) (h : cx_AI u) : cx_AI U := by
  obtain ⟨comp, cA, k, h1, h2, h3, h4⟩ := h
  obtain ⟨k', hk', he⟩ := hvm.2.2 _ _ h2
  exact ⟨comp, cA, k', by rw [hvm.findClass]; exact h1, hk', by rw [he]; exact h3, by rw [hvm.findClass]; exact h4⟩
def cx_W (U : State) : Prop := (∀ w ∈ lw_tbl, cx_ok w = true → va_Nw w U) ∧ (∀ (own : String) (k : Nat) (tx : String), Cond.stringRef own k tx ∈ lw_tbl → ∃ q, vk_R own k tx q U) ∧ va_AO rc_R U ∧ cx_AI U
theorem cx_W.warm {s U : State} (hW : s.WarmedH U.vm) (h : cx_W s) : cx_W U := by
  obtain ⟨h1, h2, h3, h4⟩ := h
  refine ⟨fun w hw ho => cx_warm ho hW (h1 w hw ho), fun own k tx hm => ?_, va_AO.moved hW.alike h3, h4.moved hW.alike⟩
  obtain ⟨q, hq⟩ := h2 own k tx hm
  exact ⟨q, hq.warm hW⟩
theorem cx_W.blind {U : State} (g : JFrame) (mk : MethodId) (a : Array Value) (h : cx_W U) : cx_W (U.calling g mk a) := h.warm (U := U.calling g mk a) (State.WarmedH.refl U)
def cx_Z (C n d : String) (A : Nat → Prop) (U : State) (H : Heap) : Prop := ∃ (c : ClassId) (k : Class) (i : Nat) (f : Field) (a : Nat) (cell : Cell) (v : Value), U.vm.findClass C = some c ∧ U.fieldFound? C n d = some (c, k, i, f) ∧ f.isStatic = true ∧ k.statics = some a ∧ H[a]? = some cell ∧ cell.vm.isStatics = true ∧ cell.cls = c ∧ f.slot < cell.slots.size ∧ k.staticTypes[f.slot]? = some f.type ∧ cell.slots[f.slot]? = some v ∧ v.isRef = true ∧ ¬ A a
theorem cx_Z.moved {C n d : String} {A : Nat → Prop} {u U : State} {H : Heap} (hvm : u.vm.Alike U.vm) (h : cx_Z C n d A u H) : cx_Z C n d A U H := by
  obtain ⟨c, k, i, f, a, cell, v, h1, h2, h3, h4, h5, h6, h7, h8, h9, h10⟩ := h
  obtain ⟨k', hi', he⟩ := State.fieldFound?_setVm hvm h2
  exact ⟨c, k', i, f, a, cell, v, by rw [hvm.findClass]; exact h1, hi', h3, by rw [he]; exact h4, h5, h6, h7, h8, by rw [he]; exact h9, h10⟩
theorem cx_Z.kept {C n d : String} {A : Nat → Prop} {U : State} {H H1 : Heap} (h : cx_Z C n d A U H) (hq : ∀ a : Nat, a < H.size → ¬ A a → H1[a]? = H[a]?) : cx_Z C n d A U H1 := by
  obtain ⟨c, k, i, f, a, cell, v, h1, h2, h3, h4, h5, h6⟩ := h
  exact ⟨c, k, i, f, a, cell, v, h1, h2, h3, h4, by rw [hq a (Array.getElem?_eq_some_iff.mp h5).1 h6.2.2.2.2.2.2]; exact h5, h6⟩
theorem cx_Z.narrow {C n d : String} {A B : Nat → Prop} {U : State} {H : Heap} (h : cx_Z C n d A U H) (hAB : ∀ q, B q → A q) : cx_Z C n d B U H := by
  obtain ⟨c, k, i, f, a, cell, v, h1, h2, h3, h4, h5, h6, h7, h8, h9, h10, h11, h12⟩ := h
  exact ⟨c, k, i, f, a, cell, v, h1, h2, h3, h4, h5, h6, h7, h8, h9, h10, h11, fun z => h12 (hAB a z)⟩
theorem cx_Z.lays {C n d : String} {A : Nat → Prop} {U : State} (h : cx_Z C n d A U U.heap) {args : Array Value} : (Cond.laysStatic C n d).before args U = true := by
  obtain ⟨c, k, i, f, a, cell, v, h1, h2, h3, h4, h5, h6, h7, h8, h9, h10, h11, h12⟩ := h
  simp [Cond.before, Cond.holds, Cond.value, h1, h2, h3, h4, h5, h6, h7, h8, h9]
theorem cx_Z.isref {C n d : String} {A : Nat → Prop} {U : State} (h : cx_Z C n d A U U.heap) {args : Array Value} : (Cond.isRef (.static C n d)).before args U = true := by
  obtain ⟨c, k, i, f, a, cell, v, h1, h2, h3, h4, h5, h6, h7, h8, h9, h10, h11, h12⟩ := h
  have he : (Term.static C n d).eval args U none [] U = some v := by
    simp [Term.eval, State.fieldNamed?, h2, h3, h4, h5, h6, h10]
  cases v <;> simp [Value.isRef] at h11 <;> simp [Cond.before, Cond.holds, Cond.value, he]
theorem cx_Z.of {C n d : String} {A : Nat → Prop} {s : State} {args : Array Value} (hl : (Cond.laysStatic C n d).before args s = true) (hr : (Cond.isRef (.static C n d)).before args s = true) (hA : ∀ a : Nat, a < s.heap.size → ¬ A a) : cx_Z C n d A s s.heap := by
  obtain ⟨c, k, i, f, a, cell, h1, h2, h3, h4, h5, h6, h7, h8, h9⟩ := Cond.laysStatic_spec hl
  have hv : cell.slots[f.slot]? = some (cell.slots[f.slot]'h8) := Array.getElem?_eq_getElem h8
  have he : (Term.static C n d).eval args s none [] s = some (cell.slots[f.slot]'h8) := by
    simp [Term.eval, State.fieldNamed?, h2, h3, h4, h5, h6, hv]
  refine ⟨c, k, i, f, a, cell, _, h1, h2, h3, h4, h5, h6, h7, h8, h9, hv, ?_, hA a (Array.getElem?_eq_some_iff.mp h5).1⟩
  generalize cell.slots[f.slot]'h8 = v at he
  cases v <;> simp [Cond.before, Cond.holds, Cond.value, he] at hr <;> rfl
abbrev tS : String := "[Ljava/lang/StackTraceElement;"
abbrev tL : String := "Ljava/util/List;"
abbrev tT : String := "java/lang/Throwable"
def cx (A : Nat → Prop) (U : State) (H : Heap) : Prop := cx_W U ∧ cx_Z tT "UNASSIGNED_STACK" tS A U H ∧ cx_Z tT "SUPPRESSED_SENTINEL" tL A U H
def cx_chk (w : Cond) : Bool := (decide (w ∈ lw_tbl) && (goodWord w || cx_ok w)) || decide (w = .laysStatic tT "UNASSIGNED_STACK" tS) || decide (w = .laysStatic tT "SUPPRESSED_SENTINEL" tL) || decide (w = .isRef (.static tT "UNASSIGNED_STACK" tS)) || decide (w = .isRef (.static tT "SUPPRESSED_SENTINEL" tL))
theorem cx_say {s U : State} {args : Array Value} {A : Nat → Prop} {H : Heap} {locs : List Loc} (hts : ∀ w ∈ wal, w.before args s = true) (hc : cx A s s.heap) (hS : va_S A s.heap H locs) (hU : U.heap = H) (hW : s.WarmedH U.vm) {w : Cond} (hw : cx_chk w = true) : w.before args U = true := by
  obtain ⟨hcw, hz1, hz2⟩ := hc
  have z1 : cx_Z tT "UNASSIGNED_STACK" tS A U U.heap := (hz1.moved hW.alike).kept (fun a h1 h2 => by rw [hU]; exact hS.2.1 a h1 h2)
  have z2 : cx_Z tT "SUPPRESSED_SENTINEL" tL A U U.heap := (hz2.moved hW.alike).kept (fun a h1 h2 => by rw [hU]; exact hS.2.1 a h1 h2)
  simp only [cx_chk, Bool.or_eq_true, Bool.and_eq_true, decide_eq_true_eq] at hw
  rcases hw with (((⟨hm, hg | hg⟩ | h) | h) | h) | h
  · exact word_at hW (good_of_word hg) (hts w (wal_in hm hg))
  · exact va_Nw.use (cx_on hg) (cx_warm hg hW (hcw.1 w hm hg))
  · rw [h]; exact z1.lays
  · rw [h]; exact z2.lays
  · rw [h]; exact z1.isref
  · rw [h]; exact z2.isref
abbrev upN : List String := ["java/lang/RuntimeException", "java/lang/Exception"]
abbrev iaN : String := "java/lang/IllegalArgumentException"
abbrev uoN : String := "java/lang/UnsupportedOperationException"
abbrev isN : String := "java/lang/IllegalStateException"
theorem ca_rule1 : (Cond.classLink rc_F 41 iaN :: Cond.initialized iaN :: Bundle.ownAtoms rc_F 45 iaN upN).all cx_chk = true := by decide +kernel
theorem ca_exp1 : (Cond.classLink rc_F 41 iaN :: Cond.initialized iaN :: Bundle.ownAtoms rc_F 45 iaN upN).all cx_chk = true := by decide +kernel
