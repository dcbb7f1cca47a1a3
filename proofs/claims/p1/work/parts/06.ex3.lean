/-! Calls of methods that may throw, and catching. -/
section EX3
variable {p : Program} {l : Launch} {e : Env} {R : Room} {s : State} {m : MethodId} {args : Array Value} {below : List Frame} {meth : Method} {c : Code} {H : Heap} {locs : List Loc} {cells slots : Nat} {Q : State → Prop}
  {Ts ws ws' : List Cond} {cc bytes : ByteArray} {nL maxL index n mc ms : Nat} {own C : String} {y : MethodName} {ret : Option FieldType} {rm : Room} {Pc : Array Value → State → Prop} {Qc : Array Value → State → Outcome → State → Prop} {free : Addr → Prop}
  {b : Addr} {As rest : List Value} {g : JFrame}
def ex_Run (p : Program) (l : Launch) (e : Env) (R : Room) (s : State) (m : MethodId) (args : Array Value) (below : List Frame) (meth : Method) (c : Code) (H : Heap) (locs : List Loc) (cells slots mc ms : Nat) (g : JFrame) (rest : List Value) (Qa : State → Outcome → State → Prop) (free : Addr → Prop) : Prop :=
  ∀ T : State, T.heap = H → Stand p l e R s m args below meth c T locs cells slots → ∃ (o : Outcome) (st₀ t T' : State) (L : List Loc), st₀.heap = H ∧ Stand p l e R s m args below meth c T' (locs ++ L) (cells + mc) (slots + ms) ∧ (∀ q ∈ L, free q.base) ∧ T'.heap = t.heap ∧ T'.vm = t.vm ∧ Qa st₀ o t ∧
    (∀ v, o = .returned v → ∀ tg, Steps p.tables e below (T'.setTop { g with pc := g.pc + 3, stack := v.toList ++ rest }) tg → Steps p.tables e below (T.setTop g) tg) ∧
    (∀ x, o = .threw x → ∀ tg, Steps p.tables e below ((T'.setTop { g with stack := rest }).pushFrame (.throwing x)) tg → Steps p.tables e below (T.setTop g) tg)
theorem ex_runV (S : CallFix p m c cc nL s args Ts own) (hM : ex_Met l y ws rm Pc Qc mc ms free) (cw : CallW R s args own C index y bytes maxL ret ws rm mc ms n) (hp : PreV s H C b Pc As)
    (hg : g.method = m) (hn : As.length = n) (hsize : g.locals.size = nL) (hstack : g.stack = As.reverse ++ .ref b :: rest) (hW : 2 * g.monitorRoom + (rest.map fun v => v.category).sum ≤ 8) (hdg : decode cc g.pc = .ok (.invokevirtual index, 3)) (hf : cells + mc ≤ R.cells ∧ slots + ms ≤ R.slots) :
    ex_Run p l e R s m args below meth c H locs cells slots mc ms g rest (Qc (Value.ref b :: As).toArray) free := by
  obtain ⟨⟨hrc, hrs, hfr, hlo, hws, hcw, hcode, hini, hy, hlen, hlink⟩, hinst, hsel⟩ := cw
  obtain ⟨hx, hb, hml, hown, -⟩ := S
  obtain ⟨hbl, ⟨cellB, hcB, hoB, hclB⟩, hPc⟩ := hp
  intro T hT X
  have hdg' : decode c.code g.pc = .ok (.invokevirtual index, 3) := by rw [hb]; exact hdg
  obtain ⟨mk, methM, hnamed, hmethM, hstM, habM⟩ := Cond.instanceMethod_spec hinst
  obtain ⟨methM', cM, hmethM', hcM, -, hlM, -, -, -, hsigM⟩ := Cond.code_spec hnamed hcode
  cases hmethM.symm.trans hmethM'
  obtain ⟨c2, r2, m2, q1, q2, q3, q4, kP, hkP, hkPi⟩ := Cond.selects_spec hsel
  cases hclB.symm.trans q1
  cases (State.methodFound?_of_named hnamed hy).symm.trans q2
  cases hnamed.symm.trans q3
  have hselP : selectMethod e.platform s.vm cellB.cls mk = .method mk := by rw [Launch.admits_selectMethod X.admits]; exact q4
  obtain ⟨vm₁, X₁, hstep₁⟩ := X.invokevirtual hx hown hlink hnamed hmethM hstM hkP hkPi hy (a := b) (cell := cellB) (by rw [hT]; exact hcB)
    (fun z h => by rw [h] at hoB; cases hoB) hselP hmethM habM hkP hkPi (g := g) hg (argsL := As) (rest := rest) (hn.trans (hlen _ hsigM)) hstack hdg'
  have hini' : (Cond.initialized y.cls).before (Value.ref b :: As).toArray (T.setVm vm₁) = true := word_at X₁.warmed (Or.inl (by first | rfl | simp [Cond.onTables, Cond.keeps, Cond.steady])) hini
  obtain ⟨o, t, T', L, X', hL, e1, e2, hq, hr, ht⟩ := ex_back (g := { g with stack := rest }) (ig := .invokevirtual index) (mk := mk) (a := (Value.ref b :: As).toArray) hM hrc hrs hfr hlo X₁ hg (hsize.trans hml.symm) hdg' hW (X₁.named hnamed) (fun w hw => hws w hw _ _ X₁.warmed)
    (by show (T.setVm vm₁).vm.method? mk = _; rw [X₁.warmed.alike.method?]; exact hmethM) hcM hlM hini' hf.1 hf.2 (hbl _ _ _ _ (hPc (T.setVm vm₁) hT X₁.warmed))
  refine ⟨o, (T.setVm vm₁).calling { g with stack := rest } mk (Value.ref b :: As).toArray, t, T', L, hT, X', hL, e1, e2, hq, ?_, ?_⟩
  · intro v hv tg h
    exact hstep₁ _ fun acts => by rw [doInvoke_state]; exact (hr v hv).trans h
  · intro x hx' tg h
    exact hstep₁ _ fun acts => by rw [doInvoke_state]; exact (ht x hx').trans h
/-- a call of a static method of the same class that has handlers -/
theorem ex_runS {hs : List (Nat × Nat × Nat × Nat)} (S : CallFix p m c cc nL s args Ts own) (hM : ex_Met l y ws rm Pc Qc mc ms free) (hG : GoodIn Ts ws) (hw : ws = Cond.codeWith y bytes maxL ret hs :: ws') (hrc : rm.cells = mc) (hrs : rm.slots = ms)
    (hini : (Cond.initialized y.cls).before args s = true) (hlink : (Cond.methodLink own index y).before args s = true) (hstat : (Cond.static y).before args s = true)
    (hd : y.cls ≠ "java/lang/invoke/MethodHandle" ∧ y.cls ≠ "java/lang/invoke/VarHandle" ∧ (parseMethodDescriptor y.desc).map (fun d => d.parameters.length) = some n) (hR : rm.frames + 1 ≤ R.frames ∧ 8 + (maxL + 11) + rm.locals ≤ R.locals) (hp : PreS s H Pc As)
    (hg : g.method = m) (hn : As.length = n) (hsize : g.locals.size = nL) (hstack : g.stack = As.reverse ++ rest) (hW : 2 * g.monitorRoom + (rest.map fun v => v.category).sum ≤ 8) (hdg : decode cc g.pc = .ok (.invokestatic index, 3)) (hf : cells + mc ≤ R.cells ∧ slots + ms ≤ R.slots) :
    ex_Run p l e R s m args below meth c H locs cells slots mc ms g rest (Qc As.toArray) free := by
  obtain ⟨hx, hb, hml, hown, hts⟩ := S
  have hws := pay_in hts hG
  have hcode : (Cond.codeWith y bytes maxL ret hs).before args s = true := hts _ (hG _ (by rw [hw]; exact List.mem_cons_self)).1
  intro T hT X
  have hdg' : decode c.code g.pc = .ok (.invokestatic index, 3) := by rw [hb]; exact hdg
  obtain ⟨mk, methM, cM, hnamed, hmethM, hcM, -, hlM, -, -, -, hsigM⟩ := Cond.codeWith_spec hcode
  have hlen : As.length = methM.sig.parameters.length := by
    have h2 := hd.2.2
    rw [hsigM] at h2
    exact hn.trans (Option.some.inj h2).symm
  have hstatic : methM.isStatic = true := Cond.static_spec hnamed hmethM hstat
  obtain ⟨kP, hkP, -⟩ := className_of_methodNamed hnamed
  have hinitP : kP.init = .initialized := Cond.initialized_spec (findClass_of_methodNamed hnamed) hkP hini
  obtain ⟨vm₁, X₁, hstep₁⟩ := X.invokestatic hx hown hlink hnamed hmethM hstatic hkP hinitP ⟨hd.1, hd.2.1⟩ (g := g) hg (argsL := As) (rest := rest) hlen hstack hdg'
  have hini' : (Cond.initialized y.cls).before As.toArray (T.setVm vm₁) = true := word_at X₁.warmed (Or.inl (by first | rfl | simp [Cond.onTables, Cond.keeps, Cond.steady])) hini
  obtain ⟨o, t, T', L, X', hL, e1, e2, hq, hr, ht⟩ := ex_back (g := { g with stack := rest }) (ig := .invokestatic index) (mk := mk) (a := As.toArray) hM hrc hrs hR.1 hR.2 X₁ hg (hsize.trans hml.symm) hdg' hW (X₁.named hnamed) (fun w hw => hws w hw _ _ X₁.warmed)
    (by show (T.setVm vm₁).vm.method? mk = _; rw [X₁.warmed.alike.method?]; exact hmethM) hcM hlM hini' hf.1 hf.2 (hp.1 _ _ _ _ (hp.2 (T.setVm vm₁) hT X₁.warmed))
  refine ⟨o, (T.setVm vm₁).calling { g with stack := rest } mk As.toArray, t, T', L, hT, X', hL, e1, e2, hq, ?_, ?_⟩
  · intro v hv tg h
    exact hstep₁ _ fun acts => by rw [doInvoke_state]; exact (hr v hv).trans h
  · intro x hx' tg h
    exact hstep₁ _ fun acts => by rw [doInvoke_state]; exact (ht x hx').trans h
/-- behind such a call: it returned, or it threw -/
theorem ex_call {Qa : State → Outcome → State → Prop} {A0 : Nat → Prop} {H0 : Heap} {pc : Nat} {ls : Array Slot} {st0 : List Value} (hr : ex_Run p l e R s m args below meth c H locs cells slots mc ms (F0 m pc ls st0) rest Qa free) (hS : va_S A0 H0 H locs) (hf : ∀ q, free q → A0 q)
    (hQ : ∀ st o t, Qa st o t → va_F A0 st t)
    (kr : ∀ (v : Option Value) (st t : State) (H1 : Heap) (locs1 : List Loc), st.heap = H → t.heap = H1 → s.vm.Alike t.vm → Qa st (.returned v) t → va_S A0 H0 H1 locs1 → W p l e R s m args below meth c H1 locs1 (cells + mc) (slots + ms) Q (F0 m (pc + 3) ls (v.toList ++ rest)))
    (kt : ∀ (x : Addr) (st t : State) (H1 : Heap) (locs1 : List Loc), st.heap = H → t.heap = H1 → s.vm.Alike t.vm → Qa st (.threw x) t → va_S A0 H0 H1 locs1 → ex_T p l e R s m args below meth c H1 locs1 (cells + mc) (slots + ms) Q (F0 m pc ls rest) x) :
    W p l e R s m args below meth c H locs cells slots Q (F0 m pc ls st0) := by
  intro T hT X
  obtain ⟨o, st₀, t, T', L, h0, X', hL, e1, e2, hq, h1, h2⟩ := hr T hT X
  have hF := hQ _ _ _ hq
  have hS1 : va_S A0 H0 T'.heap (locs ++ L) := by
    refine ⟨Nat.le_trans hS.1 (by rw [e1, ← h0]; exact hF.1), fun q a1 a2 => ?_, fun q hq => ?_⟩
    · rw [e1, hF.2 q (by rw [h0]; exact Nat.lt_of_lt_of_le a1 hS.1) a2, h0]
      exact hS.2.1 q a1 a2
    · rcases List.mem_append.mp hq with h | h
      · exact hS.2.2 q h
      · exact hf _ (hL q h)
  have hal : s.vm.Alike t.vm := by rw [← e2]; exact X'.warmed.alike
  cases o with
  | returned v =>
    obtain ⟨t2, a1, b1⟩ := kr v st₀ t T'.heap (locs ++ L) h0 e1.symm hal hq hS1 T' rfl X'
    exact ⟨t2, h1 v rfl t2 a1, b1⟩
  | threw x =>
    obtain ⟨t2, a1, b1⟩ := kt x st₀ t T'.heap (locs ++ L) h0 e1.symm hal hq hS1 T' rfl X'
    exact ⟨t2, h2 x rfl t2 a1, b1⟩
/-- the first handler of the table takes it: its class is linked, cold or warm -/
theorem ex_caught (hexec : p.tables.exec = Jvm.exec) {xN : String} {x : Addr} {hpc sp ep ct : Nat} {tl : List (Nat × Nat × Nat × Nat)} {cell : Cell} (hg : g.method = m)
    (htab : c.exceptionTable.toList.map (fun h => (h.startPc, h.endPc, h.handlerPc, h.catchType)) = (sp, ep, hpc, ct) :: tl) (hcov : sp ≤ g.pc ∧ g.pc < ep) (hct : ct ≠ 0)
    (hown : s.vm.findClass own = some m.cls) (hlink : (Cond.classLink own ct xN).before args s = true) (hcell : H[x]? = some cell) (hst : cell.vm.isStatics = false) (hcls : s.vm.findClass xN = some cell.cls) (hself : s.vm.assignable cell.cls cell.cls = true)
    (k : W p l e R s m args below meth c H locs cells slots Q { g with pc := hpc, stack := [.ref x] }) : ex_T p l e R s m args below meth c H locs cells slots Q g x := by
  intro T hT X
  have hpl : e.platform.magicAccessors = ({} : Platform).magicAccessors := by rw [X.admits.platform]
  obtain ⟨c0, hfc0, hcl⟩ := Cond.classLink_spec hown hlink e.platform hpl
  cases hcls.symm.trans hfc0
  obtain ⟨hg₁, hwarm₁, hready₁⟩ := State.classEntry (e := e) X.warmed hcl
  generalize hvm₁ : T.vm.noted m.cls ct (.cls cell.cls) = vm₁ at hg₁ hwarm₁ hready₁
  have hsz : vm₁.classes.size ≤ T.vm.classes.size := by rw [← hvm₁]; simp [Vm.noted]
  have X₁ := X.noted hwarm₁
  obtain ⟨t, a1, b1⟩ := k (T.setVm vm₁) hT X₁
  refine ⟨t, ?_, b1⟩
  subst hg
  have h : At T g.method c below := X.here
  obtain ⟨hgo, hw⟩ := h.throwing x
  refine Steps.head hgo hw ?_
  have hm : ((T.setTop g).pushFrame (.throwing x)).vm.method? g.method = some meth := by rw [Stand.throwing_vm]; exact X.method'
  have hvmS : ((T.setTop g).pushFrame (.throwing x)).vm = T.vm := Stand.throwing_vm T g x
  have hhpS : ((T.setTop g).pushFrame (.throwing x)).heap = T.heap := Stand.throwing_heap T g x
  have hasg : vm₁.assignable cell.cls cell.cls = true := by rw [hwarm₁.alike.assignable]; exact hself
  obtain ⟨kk0, hkk0⟩ : ∃ kk, vm₁.classes[cell.cls]? = some kk := by
    obtain ⟨kk, hkk⟩ := Vm.classAt_of_findClass hcls
    obtain ⟨k', hk', -⟩ := hwarm₁.alike.2.2 _ _ hkk
    exact ⟨k', hk'⟩
  obtain ⟨ee, etl, hee, heq, -⟩ := List.map_eq_cons_iff.mp htab
  obtain ⟨ha, ht⟩ := hg₁.op (op := VmOp.resolveClass g.method.cls ct) rfl
  have hfind : ∀ (Q : Handler → Pre) (E : CtlPost) (d : Bool) (acts : List Action), wp (findHandler g x) Q E e d acts ((T.setTop g).pushFrame (.throwing x)) ↔ Q (.found hpc) d acts (((T.setTop g).pushFrame (.throwing x)).setVm vm₁) := by
    intro Q E d acts
    rw [Jvm.W.findHandler_eq hm X.code, hee]
    have e1 : ee.startPc = sp := congrArg Prod.fst heq
    have e2 : ee.endPc = ep := congrArg (fun z => z.2.1) heq
    have e3 : ee.handlerPc = hpc := congrArg (fun z => z.2.2.1) heq
    have e4 : ee.catchType = ct := congrArg (fun z => z.2.2.2) heq
    simp [findHandler.go, e1, e2, e3, e4, hcov.1, hcov.2, hct, hvmS, hhpS, hT, hcell, ha, ht, hsz, hasg, hkk0, VmOp.dirties, VmOp.acts, VmData.ne_statics_of hst]
  rw [stepThread_throwing (frames_entered h.top _)]
  have hstep : (stepThrowing e ((T.setTop g).pushFrame (.throwing x)) x (.java g :: T.frames.tail)).1 = ((((T.setTop g).pushFrame (.throwing x)).setVm vm₁).setFrames (.java { g with pc := hpc, stack := [.ref x] } :: T.frames.tail)) := by
    simp only [stepThrowing, searchFrame, vmDo]
    generalize hr : Sem.go _ e false [] _ = res
    obtain ⟨as, rfl, hac⟩ := Sem.eq_ok_of hr (a := Handler.found hpc) (s' := ((T.setTop g).pushFrame (.throwing x)).setVm vm₁) (acts' := []) (by simp [hfind _ _ _ _])
    rfl
  rw [hstep]
  obtain ⟨g₀, hg0⟩ := Option.isSome_iff_exists.mp h.top
  obtain ⟨r, hr⟩ := State.topJava?_eq_some.mp hg0
  have hr1 : (T.setVm vm₁).frames = .java g₀ :: r := hr
  have hfin : ((((T.setTop g).pushFrame (.throwing x)).setVm vm₁).setFrames (.java { g with pc := hpc, stack := [.ref x] } :: T.frames.tail)) = (T.setVm vm₁).setTop { g with pc := hpc, stack := [.ref x] } := by
    have e9 : ∀ (S : State) (f : List Frame), (S.setVm vm₁).setFrames f = (S.setFrames f).setVm vm₁ := fun _ _ => rfl
    rw [State.setTop_of_frames _ hr1, State.pushFrame, State.setTop_of_frames _ hr, hr, e9, e9, State.setFrames_setFrames, State.setFrames_setFrames]
    rfl
  rw [hfin]
  exact a1
end EX3
