/-! Methods that return, or throw one new thing: what they use depends on how they end. -/
def ey_c : Outcome → Nat
  | .returned _ => 0
  | .threw _ => 1
def ey_s : Outcome → Nat
  | .returned _ => 0
  | .threw _ => 6
section EY
variable {p : Program} {l : Launch} {e : Env} {R : Room} {s : State} {m : MethodId} {args : Array Value} {below : List Frame} {meth : Method} {c : Code} {H : Heap} {locs : List Loc} {cells slots : Nat} {Q : State → Prop}
def ey_MQ (below : List Frame) (Qc : Array Value → State → Outcome → State → Prop) (a : Array Value) (s : State) (free : Addr → Prop) : State → Prop := fun t =>
  ∃ o, t.status = .running ∧ Ended t below o ∧ Qc a s o t ∧ ∃ L, ex_End s t L (ey_c o) (ey_s o) ∧ ∀ q ∈ L, free q.base
def ey_Met (l : Launch) (y : MethodName) (ws : List Cond) (rm : Room) (Pc : Array Value → State → Prop) (Qc : Array Value → State → Outcome → State → Prop) (free : Addr → Prop) : Prop :=
  MetFree l y (headSpec ws rm) Pc (fun _ _ _ _ _ => True) (fun a st o t => Qc a st o t ∧ ∃ L, ex_End st t L (ey_c o) (ey_s o) ∧ ∀ q ∈ L, free q.base)
theorem ey_of_MQ {Qc : Array Value → State → Outcome → State → Prop} {a : Array Value} {free : Addr → Prop} {t : State} (h : MQ below (fun a s o t => (∃ v, o = .returned v) ∧ Qc a s o t) a s 0 0 free t) : ey_MQ below Qc a s free t := by
  obtain ⟨o, h1, h2, ⟨⟨v, hv⟩, h3⟩, L, h4, h5⟩ := h
  subst hv
  exact ⟨.returned v, h1, h2, h3, L, ⟨h4.2.1, h4.2.2⟩, h5⟩
theorem ey_of_X {Qc : Array Value → State → Outcome → State → Prop} {a : Array Value} {free : Addr → Prop} {t : State} (h : ex_MQ below (fun a s o t => (∃ v, o = .threw v) ∧ Qc a s o t) a s (0 + 1) (0 + 6) free t) : ey_MQ below Qc a s free t := by
  obtain ⟨o, h1, h2, ⟨⟨v, hv⟩, h3⟩, L, h4, h5⟩ := h
  subst hv
  exact ⟨.threw v, h1, h2, h3, L, h4, h5⟩
theorem ey_ret {Qc : Array Value → State → Outcome → State → Prop} {a : Array Value} {free : Addr → Prop} {g : JFrame} (k : W p l e R s m args below meth c H locs cells slots (MQ below (fun a s o t => (∃ v, o = .returned v) ∧ Qc a s o t) a s 0 0 free) g) : W p l e R s m args below meth c H locs cells slots (ey_MQ below Qc a s free) g := ex_mono (fun _ h => ey_of_MQ h) k
theorem ey_thr {Qc : Array Value → State → Outcome → State → Prop} {a : Array Value} {free : Addr → Prop} {g : JFrame} (k : W p l e R s m args below meth c H locs cells slots (ex_MQ below (fun a s o t => (∃ v, o = .threw v) ∧ Qc a s o t) a s (0 + 1) (0 + 6) free) g) : W p l e R s m args below meth c H locs cells slots (ey_MQ below Qc a s free) g := ex_mono (fun _ h => ey_of_X h) k
theorem ey_ofW0 {y : MethodName} {ws ws' : List Cond} {rm : Room} {Pc : Array Value → State → Prop} {Qc : Array Value → State → Outcome → State → Prop} {free : Addr → Prop} {cc : ByteArray} {maxL : Nat} {ret : Option FieldType}
    (hy : plainName y.cls = true) (hw : ws = Cond.code y cc maxL ret :: ws')
    (body : ∀ p e s m args below meth c s₁, BodyLoose p l y (headSpec ws rm) cc maxL ret e s m args below meth c s₁ → c.maxLocals = maxL → (∀ x ∈ c.exceptionTable.toList, ∀ pc, covers x pc = false) → Pc args s →
      W p l e (headSpec ws rm).room s m args below meth c s.heap [] 0 0 (ey_MQ below Qc args s free) (entryFrame m args maxL)) : ey_Met l y ws rm Pc Qc free := by
  refine MetFree.of_bodyS (code := cc) (maxLocals := maxL) (ret := ret) hy ?_ ?_
  · intro args s m h hn
    obtain ⟨meth, c, h1, h2, h3, h4, h5, h6, -, -⟩ := Cond.code_spec hn (atoms_spec (ws := ws) h _ (by rw [hw]; exact List.mem_cons_self))
    exact ⟨meth, c, h1, h2, h3, h4, h5, h6⟩
  · intro p e s m args below meth c s₁ B hml hP _
    have hh0 : s₁.heap = s.heap := by rw [B.state]; rfl
    have hcw : (Cond.code y cc maxL ret).before args s = true := atoms_spec (ws := ws) B.pre _ (by rw [hw]; exact List.mem_cons_self)
    have hno : c.exceptionTable.isEmpty = true := B.noHandlers hcw
    have hem : c.exceptionTable.toList = [] := by
      have h0 : c.exceptionTable.size = 0 := by simpa [Array.isEmpty] using hno
      exact List.eq_nil_of_length_eq_zero (by simpa using h0)
    obtain ⟨t, a1, o, b1, b2, b3⟩ := body p e s m args below meth c s₁ B hml (by intro x hx; rw [hem] at hx; cases hx) hP s₁ hh0 (Stand.of_body B)
    exact ⟨t, o, a1, b1, b2, ⟨b3.1, b3.2⟩⟩
/-- the method is left by what its callee threw -/
theorem ey_leave {Qc : Array Value → State → Outcome → State → Prop} {free : Addr → Prop} {g : JFrame} {x : Addr} (hg : g.method = m) (hlk : g.locked = none) (hen : g.entered = []) (hout : ∀ y ∈ c.exceptionTable.toList, covers y g.pc = false) (hlocks : meth.locks = false)
    (hq : ∀ t : State, t.heap = H → s.WarmedH t.vm → Qc args s (.threw x) t) (hf : ∀ q ∈ locs, free q.base) : ex_T p l e R s m args below meth c H locs (0 + 1) (0 + 6) (ey_MQ below Qc args s free) g x := by
  intro T hT X
  obtain ⟨h1, h2, h3, h4, h5⟩ := X.leaveThrown x hg hlk hen hout hlocks
  exact ⟨_, h1, .threw x, h2, h3, hq _ hT h4, locs, ⟨h4, h5⟩, hf⟩
theorem ey_back {y : MethodName} {ws : List Cond} {rm : Room} {Pc : Array Value → State → Prop} {Qc : Array Value → State → Outcome → State → Prop} {free : Addr → Prop} {maxL : Nat}
    (hM : ey_Met l y ws rm Pc Qc free) (hframes : rm.frames + 1 ≤ R.frames) (hlocals : 8 + (maxL + 11) + rm.locals ≤ R.locals)
    {T : State} (X : Stand p l e R s m args below meth c T locs cells slots) {g : JFrame} {ig : Instr} {mk : MethodId} {a : Array Value}
    (hg : g.method = m) (hsize : g.locals.size = c.maxLocals) (hdg : decode c.code g.pc = .ok (ig, 3)) (hW : 2 * g.monitorRoom + (g.stack.map fun v => v.category).sum ≤ 8)
    (hn : T.methodNamed? y = some mk) (hws : ∀ w ∈ ws, w.before a T = true) {methY : Method} {cY : Code} (hmY : T.vm.method? mk = some methY) (hcY : methY.code = some cY) (hlY : cY.maxLocals = maxL)
    (hini : (Cond.initialized y.cls).before a T = true) (hcs : cells + rm.cells ≤ R.cells) (hss : slots + rm.slots ≤ R.slots) (hP : Pc a (T.calling g mk a)) :
    ∃ (o : Outcome) (t T' : State) (L : List Loc), Stand p l e R s m args below meth c T' (locs ++ L) (cells + ey_c o) (slots + ey_s o) ∧ (∀ q ∈ L, free q.base) ∧ T'.heap = t.heap ∧ T'.vm = t.vm ∧ Qc a (T.calling g mk a) o t ∧
      (∀ v, o = .returned v → Steps p.tables e below (doInvoke e (T.setTop g) [] mk a).1 (T'.setTop { g with pc := g.pc + 3, stack := v.toList ++ g.stack })) ∧
      (∀ x, o = .threw x → Steps p.tables e below (doInvoke e (T.setTop g) [] mk a).1 ((T'.setTop g).pushFrame (.throwing x))) := by
  obtain ⟨kY, hkY, -⟩ := className_of_methodNamed hn
  have hinitY : kY.init = .initialized := Cond.initialized_spec (findClass_of_methodNamed hn) hkY hini
  have h : At T g.method c below := by rw [hg]; exact X.here
  have happ : (headSpec ws rm).appliesLoose y e.platform (T.calling g mk a) = true :=
    Spec.appliesLoose_calling (g := g) h hdg hn hkY hinitY
      (X.room_calling (g := g) (R' := rm) hsize hmY hcY hframes (by rw [hlY]; omega) hcs hss) (atoms_intro hws)
  obtain ⟨mid, hmid⟩ := h.above
  have hfr : (T.setTop g).frames = (.java g :: mid) ++ below := by rw [State.frames_setTop' g h.top, hmid]; rfl
  obtain ⟨o, s₂, hsteps, -, hend, hq0, L, hE0, hL⟩ := Steps.callFree hM p X.admits X.cas X.clock (acts := []) hfr happ hP trivial
  have hq : Qc a (T.calling g mk a) o s₂ := hq0
  rw [State.frames_setTop' g h.top] at hend
  have hE : ex_End (T.calling g mk a) s₂ L (ey_c o) (ey_s o) := hE0
  obtain ⟨hW₂, e2, q2, q3, q4, q5, q6⟩ := hE
  have e3 : s₂ = ({ (T.calling g mk a).setFrames s₂.frames with heap := s₂.heap, slotsUsed := s₂.slotsUsed } : State).setVm s₂.vm := by
    have : s₂ = ({ s₂ with vm := (T.calling g mk a).vm } : State).setVm s₂.vm := rfl
    rw [e2] at this
    exact this
  have hW' : T.WarmedH s₂.vm := hW₂
  obtain ⟨g₀, hg0⟩ := Option.isSome_iff_exists.mp h.top
  obtain ⟨r, hr⟩ := State.topJava?_eq_some.mp hg0
  have hr' : (({ T with heap := s₂.heap, slotsUsed := s₂.slotsUsed } : State).setVm s₂.vm).frames = .java g₀ :: r := hr
  have hsame : T.sameButNew ({ T with heap := s₂.heap, slotsUsed := s₂.slotsUsed } : State) L (ey_c o) (ey_s o) := by
    refine ⟨?_, q2, q3, q4, q5, q6⟩
    obtain ⟨t, ht, -⟩ := State.frames_cons hr
    show ({ T with heap := s₂.heap, slotsUsed := s₂.slotsUsed } : State) = { T.setFrames T.frames with heap := s₂.heap, slotsUsed := s₂.slotsUsed }
    rw [State.setFrames_self ht]
  refine ⟨o, s₂, (({ T with heap := s₂.heap, slotsUsed := s₂.slotsUsed } : State).setVm s₂.vm), L,
    ⟨X.admits, X.cas, X.clock, X.frames, X.room, X.hears, X.method, X.code, (X.here.setHeapUsed s₂.heap s₂.slotsUsed).setVm hW'.alike, X.tail, State.WarmedH.trans X.warmed hW', X.limits, X.bytes, X.same.trans (hsame.setVm s.vm)⟩, hL, rfl, rfl, hq, ?_, ?_⟩
  · intro v hv
    subst hv
    obtain ⟨c₂, i₂, len₂, hc₂, hd₂, hf₂⟩ := hend
    have hcc : c₂ = c := by
      have h1 : s₂.code? g.method = T.code? g.method := by
        rw [State.code?_eq, State.code?_eq, hW'.alike.method?]
      exact Option.some.inj (hc₂.symm.trans (h1.trans h.code))
    subst hcc
    have hlen : len₂ = 3 := by rw [hdg] at hd₂; cases hd₂; rfl
    subst hlen
    have hs₂ : s₂ = (({ T with heap := s₂.heap, slotsUsed := s₂.slotsUsed } : State).setVm s₂.vm).setTop { g with pc := g.pc + 3, stack := v.toList ++ g.stack } := by
      refine e3.trans ?_
      rw [hf₂, State.calling_eq h.top, State.setFrames_setFrames, State.setTop_of_frames _ hr', hr]
      rfl
    rw [← hs₂]
    exact hsteps
  · intro x hx
    subst hx
    have hf₂ : s₂.frames = .throwing x :: .java g :: T.frames.tail := hend
    have hs₂ : s₂ = ((({ T with heap := s₂.heap, slotsUsed := s₂.slotsUsed } : State).setVm s₂.vm).setTop g).pushFrame (.throwing x) := by
      refine e3.trans ?_
      rw [hf₂, State.calling_eq h.top, State.setFrames_setFrames, State.pushFrame, State.frames_setTop _ hr', State.setTop_of_frames _ hr', State.setFrames_setFrames, hr]
      rfl
    rw [← hs₂]
    exact hsteps
end EY
section EY3
variable {p : Program} {l : Launch} {e : Env} {R : Room} {s : State} {m : MethodId} {args : Array Value} {below : List Frame} {meth : Method} {c : Code} {H : Heap} {locs : List Loc} {cells slots : Nat} {Q : State → Prop}
  {Ts ws ws' : List Cond} {cc bytes : ByteArray} {nL maxL index n : Nat} {own C : String} {y : MethodName} {ret : Option FieldType} {rm : Room} {Pc : Array Value → State → Prop} {Qc : Array Value → State → Outcome → State → Prop} {free : Addr → Prop}
  {b : Addr} {As rest : List Value} {g : JFrame}
def ey_Run (p : Program) (l : Launch) (e : Env) (R : Room) (s : State) (m : MethodId) (args : Array Value) (below : List Frame) (meth : Method) (c : Code) (H : Heap) (locs : List Loc) (cells slots : Nat) (g : JFrame) (rest : List Value) (Qa : State → Outcome → State → Prop) (free : Addr → Prop) : Prop :=
  ∀ T : State, T.heap = H → Stand p l e R s m args below meth c T locs cells slots → ∃ (o : Outcome) (st₀ t T' : State) (L : List Loc), st₀.heap = H ∧ Stand p l e R s m args below meth c T' (locs ++ L) (cells + ey_c o) (slots + ey_s o) ∧ (∀ q ∈ L, free q.base) ∧ T'.heap = t.heap ∧ T'.vm = t.vm ∧ Qa st₀ o t ∧
    (∀ v, o = .returned v → ∀ tg, Steps p.tables e below (T'.setTop { g with pc := g.pc + 3, stack := v.toList ++ rest }) tg → Steps p.tables e below (T.setTop g) tg) ∧
    (∀ x, o = .threw x → ∀ tg, Steps p.tables e below ((T'.setTop { g with stack := rest }).pushFrame (.throwing x)) tg → Steps p.tables e below (T.setTop g) tg)
theorem ey_runV (S : CallFix p m c cc nL s args Ts own) (hM : ey_Met l y ws rm Pc Qc free) (cw : CallW R s args own C index y bytes maxL ret ws rm rm.cells rm.slots n) (hp : PreV s H C b Pc As)
    (hg : g.method = m) (hn : As.length = n) (hsize : g.locals.size = nL) (hstack : g.stack = As.reverse ++ .ref b :: rest) (hW : 2 * g.monitorRoom + (rest.map fun v => v.category).sum ≤ 8) (hdg : decode cc g.pc = .ok (.invokevirtual index, 3)) (hf : cells + rm.cells ≤ R.cells ∧ slots + rm.slots ≤ R.slots) :
    ey_Run p l e R s m args below meth c H locs cells slots g rest (Qc (Value.ref b :: As).toArray) free := by
  obtain ⟨⟨hrc, hrs, hfr, hlo, hws, hcw, hcode, hini, hy, hlen, hlink⟩, hinst, hsel⟩ := cw
  obtain ⟨hx, hb, hml, hown, -⟩ := S
  obtain ⟨hbl, ⟨cellB, hcB, hoB, hclB⟩, hPc⟩ := hp
  intro T hT X
  have hdg' : decode c.code g.pc = .ok (.invokevirtual index, 3) := by rw [hb]; exact hdg
  obtain ⟨mk, methM, hnamed, hmethM, hstM, habM⟩ := Cond.instanceMethod_spec hinst
  obtain ⟨methM', cM, hmethM', hcM, -, hlM, -, -, -, hsigM⟩ := Cond.code_spec hnamed hcode
  cases hmethM.symm.trans hmethM'
  obtain ⟨c2, r2, m2, q1, q2, q3, q4, kP, hkP, hkPi⟩ := Cond.selects_spec hsel
  cases hclB.symm.trans q1
  cases (State.methodFound?_of_named hnamed hy).symm.trans q2
  cases hnamed.symm.trans q3
  have hselP : selectMethod e.platform s.vm cellB.cls mk = .method mk := by rw [Launch.admits_selectMethod X.admits]; exact q4
  obtain ⟨vm₁, X₁, hstep₁⟩ := X.invokevirtual hx hown hlink hnamed hmethM hstM hkP hkPi hy (a := b) (cell := cellB) (by rw [hT]; exact hcB)
    (fun z h => by rw [h] at hoB; cases hoB) hselP hmethM habM hkP hkPi (g := g) hg (argsL := As) (rest := rest) (hn.trans (hlen _ hsigM)) hstack hdg'
  have hini' : (Cond.initialized y.cls).before (Value.ref b :: As).toArray (T.setVm vm₁) = true := word_at X₁.warmed (Or.inl (by first | rfl | simp [Cond.onTables, Cond.keeps, Cond.steady])) hini
  obtain ⟨o, t, T', L, X', hL, e1, e2, hq, hr, ht⟩ := ey_back (g := { g with stack := rest }) (ig := .invokevirtual index) (mk := mk) (a := (Value.ref b :: As).toArray) hM hfr hlo X₁ hg (hsize.trans hml.symm) hdg' hW (X₁.named hnamed) (fun w hw => hws w hw _ _ X₁.warmed)
    (by show (T.setVm vm₁).vm.method? mk = _; rw [X₁.warmed.alike.method?]; exact hmethM) hcM hlM hini' hf.1 hf.2 (hbl _ _ _ _ (hPc (T.setVm vm₁) hT X₁.warmed))
  refine ⟨o, (T.setVm vm₁).calling { g with stack := rest } mk (Value.ref b :: As).toArray, t, T', L, hT, X', hL, e1, e2, hq, ?_, ?_⟩
  · intro v hv tg h
    exact hstep₁ _ fun acts => by rw [doInvoke_state]; exact (hr v hv).trans h
  · intro x hx' tg h
    exact hstep₁ _ fun acts => by rw [doInvoke_state]; exact (ht x hx').trans h
/-- behind such a call: it returned, or it threw -/
theorem ey_call {Qa : State → Outcome → State → Prop} {A0 : Nat → Prop} {H0 : Heap} {pc : Nat} {ls : Array Slot} {st0 : List Value} (hr : ey_Run p l e R s m args below meth c H locs cells slots (F0 m pc ls st0) rest Qa free) (hS : va_S A0 H0 H locs) (hf : ∀ q, free q → A0 q)
    (hQ : ∀ st o t, Qa st o t → va_F A0 st t)
    (kr : ∀ (v : Option Value) (st t : State) (H1 : Heap) (locs1 : List Loc), st.heap = H → t.heap = H1 → s.vm.Alike t.vm → Qa st (.returned v) t → va_S A0 H0 H1 locs1 → W p l e R s m args below meth c H1 locs1 cells slots Q (F0 m (pc + 3) ls (v.toList ++ rest)))
    (kt : ∀ (x : Addr) (st t : State) (H1 : Heap) (locs1 : List Loc), st.heap = H → t.heap = H1 → s.vm.Alike t.vm → Qa st (.threw x) t → va_S A0 H0 H1 locs1 → ex_T p l e R s m args below meth c H1 locs1 (cells + 1) (slots + 6) Q (F0 m pc ls rest) x) :
    W p l e R s m args below meth c H locs cells slots Q (F0 m pc ls st0) := by
  intro T hT X
  obtain ⟨o, st₀, t, T', L, h0, X', hL, e1, e2, hq, h1, h2⟩ := hr T hT X
  have hF := hQ _ _ _ hq
  have hS1 : va_S A0 H0 T'.heap (locs ++ L) := by
    refine ⟨Nat.le_trans hS.1 (by rw [e1, ← h0]; exact hF.1), fun q a1 a2 => ?_, fun q hq => ?_⟩
    · rw [e1, hF.2 q (by rw [h0]; exact Nat.lt_of_lt_of_le a1 hS.1) a2, h0]
      exact hS.2.1 q a1 a2
    · rcases List.mem_append.mp hq with h | h
      · exact hS.2.2 q h
      · exact hf _ (hL q h)
  have hal : s.vm.Alike t.vm := by rw [← e2]; exact X'.warmed.alike
  cases o with
  | returned v =>
    obtain ⟨t2, a1, b1⟩ := kr v st₀ t T'.heap (locs ++ L) h0 e1.symm hal hq hS1 T' rfl X'
    exact ⟨t2, h1 v rfl t2 a1, b1⟩
  | threw x =>
    obtain ⟨t2, a1, b1⟩ := kt x st₀ t T'.heap (locs ++ L) h0 e1.symm hal hq hS1 T' rfl X'
    exact ⟨t2, h2 x rfl t2 a1, b1⟩
end EY3
/-- an xN was thrown -/
def vx_t (xN : String) (o : Outcome) (t : State) : Prop := ∃ (x : Nat) (ce : Cell), o = .threw x ∧ t.heap[x]? = some ce ∧ t.vm.findClass xN = some ce.cls ∧ t.vm.assignable ce.cls ce.cls = true ∧ ce.vm = .none
/-- how a method ends: it returns v, as p1 says, or it throws an xN, as p2 says -/
def vx {S : Type} (p1 : Option Value → S → Prop) (p2 : String → S → Prop) (B : S → State → Prop) (A : Nat → Prop) : Array Value → State → Outcome → State → Prop := fun _ st o t => (∃ u : S, ((∃ v, o = .returned v ∧ p1 v u) ∨ ∃ xN, vx_t xN o t ∧ p2 xN u) ∧ B u t) ∧ va_F A st t
theorem vx_thr {S : Type} {p1 : Option Value → S → Prop} {p2 : String → S → Prop} {w1 : S → va_W} {t1 : S → List (ClassId × FieldType)} {xN : String} {D : va_G} {A : Nat → Prop} {s t : State} {H : Heap} {locs : List Loc} {a : Array Value} {ce : Cell} (u : S) (hp : p2 xN u) (hP : va_P D wcl (w1 u) H) (hK : va_K D wcl (t1 u) s) (hD : va_D A (w1 u)) (hS : va_S A s.heap H locs)
    (o1 : ∀ q : Nat, q < H.size → t.heap[q]? = H[q]?) (z1 : t.heap.size = H.size + 1) (e1 : t.heap[H.size]? = some ce) (n1 : t.vm.findClass xN = some ce.cls) (a1 : t.vm.assignable ce.cls ce.cls = true) (v1 : ce.vm = .none) (w9 : s.WarmedH t.vm) : vx p1 p2 (fun u t => po D A (w1 u) (t1 u) t) A a s (.threw H.size) t :=
  ⟨⟨u, Or.inr ⟨xN, ⟨H.size, ce, rfl, e1, n1, a1, v1⟩, hp⟩, hP.kept (fun k q hq => o1 q.1 ((hP k q hq).lt)), va_K.moved w9.alike hK, hD⟩, Nat.le_trans hS.1 (by omega), fun q h1 h2 => (o1 q (Nat.lt_of_lt_of_le h1 hS.1)).trans (hS.2.1 q h1 h2)⟩
