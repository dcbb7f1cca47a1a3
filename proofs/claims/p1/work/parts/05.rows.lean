/-! Words: every method's list is its own code and all the words that last; calls in that form. -/
theorem wal_good {a : Cond} (ha : a ∈ wal) : GoodIn wal (a :: wal) := fun w hw => by
  rcases List.mem_cons.mp hw with h | h
  · rw [h]
    exact ⟨ha, good_of_word (wal_g ha)⟩
  · exact ⟨h, good_of_word (wal_g h)⟩
section RW
variable {p : Program} {l : Launch} {e : Env} {R : Room} {s : State} {m : MethodId} {args : Array Value} {below : List Frame} {meth : Method} {c : Code} {H : Heap} {locs : List Loc} {cells slots : Nat} {Q : State → Prop}
  {bytes : ByteArray} {maxL index n mc ms : Nat} {own C host : String} {y : MethodName} {ret : Option FieldType} {rm : Room}
theorem cw_B (hts : ∀ w ∈ wal, w.before args s = true) (n : Nat) (hcode : Cond.code y bytes maxL ret ∈ wal) (hini : Cond.initialized y.cls ∈ wal) (hl : Cond.methodLink own index y ∈ wal)
    (hd : y.cls ≠ "java/lang/invoke/MethodHandle" ∧ y.cls ≠ "java/lang/invoke/VarHandle" ∧ (parseMethodDescriptor y.desc).map (fun d => d.parameters.length) = some n) (hR : rm.frames + 1 ≤ R.frames ∧ 8 + (maxL + 11) + rm.locals ≤ R.locals) :
    CallB R s args own index y bytes maxL ret (Cond.code y bytes maxL ret :: wal) rm rm.cells rm.slots n := callB_of n hts (wal_good hcode) rfl rfl rfl (hts _ hini) (hts _ hl) hd hR
theorem cw_V (hts : ∀ w ∈ wal, w.before args s = true) (n : Nat) (hcode : Cond.code y bytes maxL ret ∈ wal) (hini : Cond.initialized y.cls ∈ wal) (hl : Cond.methodLink own index y ∈ wal) (hin : Cond.instanceMethod y ∈ wal) (hsel : Cond.selects C y y ∈ wal)
    (hd : y.cls ≠ "java/lang/invoke/MethodHandle" ∧ y.cls ≠ "java/lang/invoke/VarHandle" ∧ (parseMethodDescriptor y.desc).map (fun d => d.parameters.length) = some n) (hR : rm.frames + 1 ≤ R.frames ∧ 8 + (maxL + 11) + rm.locals ≤ R.locals) :
    CallW R s args own C index y bytes maxL ret (Cond.code y bytes maxL ret :: wal) rm rm.cells rm.slots n := ⟨cw_B hts n hcode hini hl hd hR, hts _ hin, hts _ hsel⟩
theorem cw_S (hts : ∀ w ∈ wal, w.before args s = true) (n : Nat) (hcode : Cond.code y bytes maxL ret ∈ wal) (hini : Cond.initialized y.cls ∈ wal) (hl : Cond.methodLink own index y ∈ wal) (hst : Cond.static y ∈ wal)
    (hd : y.cls ≠ "java/lang/invoke/MethodHandle" ∧ y.cls ≠ "java/lang/invoke/VarHandle" ∧ (parseMethodDescriptor y.desc).map (fun d => d.parameters.length) = some n) (hR : rm.frames + 1 ≤ R.frames ∧ 8 + (maxL + 11) + rm.locals ≤ R.locals) :
    CallB R s args own index y bytes maxL ret (Cond.code y bytes maxL ret :: wal) rm rm.cells rm.slots n ∧ (Cond.static y).before args s = true := ⟨cw_B hts n hcode hini hl hd hR, hts _ hst⟩
theorem cw_I (hts : ∀ w ∈ wal, w.before args s = true) (n : Nat) (hcode : Cond.code y bytes maxL none ∈ wal) (hini : Cond.initialized y.cls ∈ wal) (hl : Cond.methodLink own index y ∈ wal) (hin : Cond.instanceMethod y ∈ wal) (hy1 : y.name = "<init>")
    (hd : y.cls ≠ "java/lang/invoke/MethodHandle" ∧ y.cls ≠ "java/lang/invoke/VarHandle" ∧ (parseMethodDescriptor y.desc).map (fun d => d.parameters.length) = some n) (hR : rm.frames + 1 ≤ R.frames ∧ 8 + (maxL + 11) + rm.locals ≤ R.locals) :
    CallB R s args own index y bytes maxL none (Cond.code y bytes maxL none :: wal) rm rm.cells rm.slots n ∧ y.name = "<init>" ∧ (Cond.instanceMethod y).before args s = true := ⟨cw_B hts n hcode hini hl hd hR, hy1, hts _ hin⟩
theorem cw_IN (hts : ∀ w ∈ wal, w.before args s = true) (n : Nat) (hcode : Cond.code y bytes maxL none ∈ wal) (hini : Cond.initialized y.cls ∈ wal) (hl : va_Nw (.methodLinkNest own index y host) s) (hin : Cond.instanceMethod y ∈ wal) (hy1 : y.name = "<init>")
    (hd : y.cls ≠ "java/lang/invoke/MethodHandle" ∧ y.cls ≠ "java/lang/invoke/VarHandle" ∧ (parseMethodDescriptor y.desc).map (fun d => d.parameters.length) = some n) (hR : rm.frames + 1 ≤ R.frames ∧ 8 + (maxL + 11) + rm.locals ≤ R.locals) :
    va_CN R s args own index y host bytes maxL none (Cond.code y bytes maxL none :: wal) rm rm.cells rm.slots n ∧ y.name = "<init>" ∧ (Cond.instanceMethod y).before args s = true := ⟨va_cnB n hts (wal_good hcode) rfl rfl rfl hl (hts _ hini) hd hR, hy1, hts _ hin⟩
theorem cw_SN (hts : ∀ w ∈ wal, w.before args s = true) (n : Nat) (hcode : Cond.code y bytes maxL ret ∈ wal) (hini : Cond.initialized y.cls ∈ wal) (hl : va_Nw (.methodLinkNest own index y host) s) (hst : Cond.static y ∈ wal)
    (hd : y.cls ≠ "java/lang/invoke/MethodHandle" ∧ y.cls ≠ "java/lang/invoke/VarHandle" ∧ (parseMethodDescriptor y.desc).map (fun d => d.parameters.length) = some n) (hR : rm.frames + 1 ≤ R.frames ∧ 8 + (maxL + 11) + rm.locals ≤ R.locals) :
    va_CN R s args own index y host bytes maxL ret (Cond.code y bytes maxL ret :: wal) rm rm.cells rm.slots n ∧ (Cond.static y).before args s = true ∧ True := ⟨va_cnB n hts (wal_good hcode) rfl rfl rfl hl (hts _ hini) hd hR, hts _ hst, trivial⟩
end RW
/-- a method's start: its cells, the classes, and what else it needs -/
def pr (D : va_G) (sz : Nat) (ws : va_W) (tys : List (ClassId × FieldType)) (E : State → Prop) : State → Prop := fun U => U.heap.size = sz ∧ va_P D wcl ws U.heap ∧ va_K D wcl tys U ∧ va_D (fun _ => True) ws ∧ E U
/-- a method's world behind it -/
def po (D : va_G) (A : Nat → Prop) (ws : va_W) (tys : List (ClassId × FieldType)) (t : State) : Prop := va_P D wcl ws t.heap ∧ va_K D wcl tys t ∧ va_D A ws
theorem pr_blind {D : va_G} {sz : Nat} {ws : va_W} {tys : List (ClassId × FieldType)} {E : State → Prop} {av : List Value} (hE : ∀ (U : State) (g : JFrame) (mk : MethodId) (a : Array Value), E U → E (U.calling g mk a)) : FrameBlind (va_Pc av (pr D sz ws tys E)) := by
  intro a U g mk q
  obtain ⟨q0, q1, qP, qK, qD, qE⟩ := q
  exact ⟨q0, q1, qP, va_K.moved (u := U) (U := U.calling g mk a) (Vm.Alike.refl U.vm) qK, qD, hE U g mk a qE⟩
section PRE
variable {s : State} {H : Heap} {D : va_G} {A0 : Nat → Prop} {ws wc : va_W} {tys tc : List (ClassId × FieldType)} {E : State → Prop} {As : List Value} {b : Nat}
theorem pr_at (hP : va_P D wcl ws H) (hD : va_D A0 ws) (hK : va_K D wcl tys s) (isC isT : List Nat) (hn : va_nd isC = true) (hC : isC.map (fun i => ws[i]?) = wc.map some) (hT : isT.filterMap (fun i => tys[i]?) = tc) {av : List Value} {U : State} (hU : U.heap = H) (hW : s.WarmedH U.vm) (hE : E U) : va_Pc av (pr D H.size wc tc E) av.toArray U := by
  have hC2 : isC.filterMap (fun i => ws[i]?) = wc := by
    have h1 : isC.filterMap (fun i => ws[i]?) = (isC.map (fun i => ws[i]?)).filterMap id := by simp [List.filterMap_map]
    rw [h1, hC]
    simp [List.filterMap_map]
  exact ⟨rfl, by rw [hU], by rw [hU]; exact hP.sub isC hC2, va_K.moved hW.alike (hK.sub isT hT), (hD.sub isC hn hC).weaken (fun _ _ _ _ => trivial), hE⟩
theorem pr_S (hP : va_P D wcl ws H) (hD : va_D A0 ws) (hK : va_K D wcl tys s) (isC isT : List Nat) (hn : va_nd isC = true) (hC : isC.map (fun i => ws[i]?) = wc.map some) (hT : isT.filterMap (fun i => tys[i]?) = tc) (hE : ∀ U : State, U.heap = H → s.WarmedH U.vm → E U) (hEb : ∀ (U : State) (g : JFrame) (mk : MethodId) (a : Array Value), E U → E (U.calling g mk a)) : PreS s H (va_Pc As (pr D H.size wc tc E)) As :=
  ⟨pr_blind hEb, fun U hU hW => pr_at hP hD hK isC isT hn hC hT hU hW (hE U hU hW)⟩
theorem pr_V (hP : va_P D wcl ws H) (hD : va_D A0 ws) (hK : va_K D wcl tys s) (isC isT : List Nat) (hn : va_nd isC = true) (hC : isC.map (fun i => ws[i]?) = wc.map some) (hT : isT.filterMap (fun i => tys[i]?) = tc) (hE : ∀ U : State, U.heap = H → s.WarmedH U.vm → E U) (hEb : ∀ (U : State) (g : JFrame) (mk : MethodId) (a : Array Value), E U → E (U.calling g mk a))
    {q0 ci : Nat} {q : vw_C} {fs : List Value} (hc : wcl[ci]? = some q) (he : ws[q0]? = some (b, .inr (ci, fs))) : PreV s H q.1 b (va_Pc (.ref b :: As) (pr D H.size wc tc E)) As :=
  ⟨pr_blind hEb, va_recv hK hP hc he, fun U hU hW => pr_at hP hD hK isC isT hn hC hT hU hW (hE U hU hW)⟩
end PRE
section BACK
variable {p : Program} {l : Launch} {e : Env} {R : Room} {s : State} {m : MethodId} {args : Array Value} {below : List Frame} {meth : Method} {c : Code} {H H0 : Heap} {locs : List Loc} {cells slots mc ms pc : Nat} {Q : State → Prop} {ls : Array Slot} {st0 rest : List Value} {a : Array Value}
  {D : va_G} {A0 : Nat → Prop} {ws wc wr : va_W} {tys : List (ClassId × FieldType)}
theorem cl_v {S : Type} {post : S → Prop} {w1 : S → va_W} {t1 : S → List (ClassId × FieldType)} (hP : va_P D wcl ws H) (hD : va_D A0 ws) (hK : va_K D wcl tys s) (hS : va_S A0 H0 H locs) (hA : ∀ q, H0.size ≤ q → A0 q) (isC isR : List Nat) (hC : isC.map (fun i => ws[i]?) = wc.map some) (hR : isR.map (fun i => ws[i]?) = wr.map some) (hn : va_nd isR = true) (hdis : ∀ i ∈ isR, i ∉ isC)
    (hr : va_Run p l e R s m args below meth c H locs cells slots mc ms (F0 m pc ls st0) rest (va_Qv post (fun u t => po D (va_A wc H.size) (w1 u) (t1 u) t) (va_A wc H.size) a) (va_A wc H.size))
    (kk : ∀ (u : S) (H1 : Heap) (locs1 : List Loc), post u → va_P D wcl (wr ++ w1 u) H1 → va_D A0 (wr ++ w1 u) → va_K D wcl (tys ++ t1 u) s → va_S A0 H0 H1 locs1 → W p l e R s m args below meth c H1 locs1 (cells + mc) (slots + ms) Q (F0 m (pc + 3) ls rest)) :
    W p l e R s m args below meth c H locs cells slots Q (F0 m pc ls st0) := by
  have hFc : ∀ q, va_A wc H.size q → A0 q := va_free hD hS hA isC hC
  refine va_callv hr hS (fun q _ h => hFc q h) hFc (fun u t H1 locs1 ht hvm hp hB hz1 hk1 hS1 => ?_)
  obtain ⟨hP1, hK1, hD1⟩ := hB
  rw [ht] at hP1
  obtain ⟨hP2, hD2⟩ := va_join (wr := wr) (w1 := w1 u) hP hD isC isR hC hR hn hdis hk1 hFc hP1 hD1
  exact kk u H1 locs1 hp hP2 hD2 (hK.app (va_K.moved hvm.symm hK1)) hS1
theorem cl_i {S : Type} {post : Int32 → S → Prop} {w1 : S → va_W} {t1 : S → List (ClassId × FieldType)} (hP : va_P D wcl ws H) (hD : va_D A0 ws) (hK : va_K D wcl tys s) (hS : va_S A0 H0 H locs) (hA : ∀ q, H0.size ≤ q → A0 q) (isC isR : List Nat) (hC : isC.map (fun i => ws[i]?) = wc.map some) (hR : isR.map (fun i => ws[i]?) = wr.map some) (hn : va_nd isR = true) (hdis : ∀ i ∈ isR, i ∉ isC)
    (hr : va_Run p l e R s m args below meth c H locs cells slots mc ms (F0 m pc ls st0) rest (va_Qi post (fun u t => po D (va_A wc H.size) (w1 u) (t1 u) t) (va_A wc H.size) a) (va_A wc H.size))
    (kk : ∀ (r : Int32) (u : S) (H1 : Heap) (locs1 : List Loc), post r u → va_P D wcl (wr ++ w1 u) H1 → va_D A0 (wr ++ w1 u) → va_K D wcl (tys ++ t1 u) s → va_S A0 H0 H1 locs1 → W p l e R s m args below meth c H1 locs1 (cells + mc) (slots + ms) Q (F0 m (pc + 3) ls (.int r :: rest))) :
    W p l e R s m args below meth c H locs cells slots Q (F0 m pc ls st0) := by
  have hFc : ∀ q, va_A wc H.size q → A0 q := va_free hD hS hA isC hC
  refine va_calli hr hS (fun q _ h => hFc q h) hFc (fun r u t H1 locs1 ht hvm hp hB hz1 hk1 hS1 => ?_)
  obtain ⟨hP1, hK1, hD1⟩ := hB
  rw [ht] at hP1
  obtain ⟨hP2, hD2⟩ := va_join (wr := wr) (w1 := w1 u) hP hD isC isR hC hR hn hdis hk1 hFc hP1 hD1
  exact kk r u H1 locs1 hp hP2 hD2 (hK.app (va_K.moved hvm.symm hK1)) hS1
end BACK
