section CATCH
variable {p : Program} {l : Launch} {e : Env} {R : Room} {s : State} {m : MethodId} {args : Array Value} {below : List Frame} {meth : Method} {c : Code} {H : Heap} {locs : List Loc} {cells slots : Nat} {Q : State → Prop} {g : JFrame} {own : String}
/-- the second handler of the table takes it -/
theorem ex_caught2 (hexec : p.tables.exec = Jvm.exec) {xN yN : String} {x : Addr} {hpc sp ep ct hpc0 sp0 ep0 ct0 : Nat} {tl : List (Nat × Nat × Nat × Nat)} {cell : Cell} (hg : g.method = m)
    (htab : c.exceptionTable.toList.map (fun h => (h.startPc, h.endPc, h.handlerPc, h.catchType)) = (sp0, ep0, hpc0, ct0) :: (sp, ep, hpc, ct) :: tl) (hcov0 : sp0 ≤ g.pc ∧ g.pc < ep0) (hct0 : ct0 ≠ 0) (hcov : sp ≤ g.pc ∧ g.pc < ep) (hct : ct ≠ 0)
    (hown : s.vm.findClass own = some m.cls) (hlink0 : (Cond.classLink own ct0 yN).before args s = true) (hlink : (Cond.classLink own ct xN).before args s = true) (hcell : H[x]? = some cell) (hst : cell.vm.isStatics = false) (hcls : s.vm.findClass xN = some cell.cls) (hself : s.vm.assignable cell.cls cell.cls = true)
    (hnot : ∀ c0, s.vm.findClass yN = some c0 → s.vm.assignable cell.cls c0 = false)
    (k : W p l e R s m args below meth c H locs cells slots Q { g with pc := hpc, stack := [.ref x] }) : ex_T p l e R s m args below meth c H locs cells slots Q g x := by
  intro T hT X
  have hpl : e.platform.magicAccessors = ({} : Platform).magicAccessors := by rw [X.admits.platform]
  obtain ⟨y0, hfy, hcy⟩ := Cond.classLink_spec hown hlink0 e.platform hpl
  obtain ⟨c0, hfc0, hcl⟩ := Cond.classLink_spec hown hlink e.platform hpl
  cases hcls.symm.trans hfc0
  have hn0 := hnot y0 hfy
  obtain ⟨hg0, hwarm0, hready0⟩ := State.classEntry (e := e) X.warmed hcy
  generalize hvm0 : T.vm.noted m.cls ct0 (.cls y0) = vm0 at hg0 hwarm0 hready0
  have hsz0 : vm0.classes.size ≤ T.vm.classes.size := by rw [← hvm0]; simp [Vm.noted]
  have X0 := X.noted hwarm0
  obtain ⟨hg₁, hwarm₁, hready₁⟩ := State.classEntry (e := e) X0.warmed hcl
  have hvv : (T.setVm vm0).vm = vm0 := rfl
  rw [hvv] at hg₁ hwarm₁ hready₁
  generalize hvm₁ : vm0.noted m.cls ct (.cls cell.cls) = vm₁ at hg₁ hwarm₁ hready₁
  have hsz : vm₁.classes.size ≤ vm0.classes.size := by rw [← hvm₁]; simp [Vm.noted]
  have X₁ := X0.noted hwarm₁
  obtain ⟨t, a1, b1⟩ := k ((T.setVm vm0).setVm vm₁) hT X₁
  refine ⟨t, ?_, b1⟩
  subst hg
  have h := X.here
  obtain ⟨hgo, hw⟩ := h.throwing x
  refine Steps.head hgo hw ?_
  have hm : ((T.setTop g).pushFrame (.throwing x)).vm.method? g.method = some meth := by rw [Stand.throwing_vm]; exact X.method'
  have hvmS : ((T.setTop g).pushFrame (.throwing x)).vm = T.vm := Stand.throwing_vm T g x
  have hhpS : ((T.setTop g).pushFrame (.throwing x)).heap = T.heap := Stand.throwing_heap T g x
  have hasg : vm₁.assignable cell.cls cell.cls = true := by rw [hwarm₁.alike.assignable]; exact hself
  have hasg0 : vm0.assignable cell.cls y0 = false := by rw [hwarm0.alike.assignable]; exact hn0
  obtain ⟨kk0, hkk0⟩ : ∃ kk, vm₁.classes[cell.cls]? = some kk := by
    obtain ⟨kk, hkk⟩ := Vm.classAt_of_findClass hcls
    obtain ⟨k', hk', -⟩ := hwarm₁.alike.2.2 _ _ hkk
    exact ⟨k', hk'⟩
  obtain ⟨kk1, hkk1⟩ : ∃ kk, vm0.classes[cell.cls]? = some kk := by
    obtain ⟨kk, hkk⟩ := Vm.classAt_of_findClass hcls
    obtain ⟨k', hk', -⟩ := hwarm0.alike.2.2 _ _ hkk
    exact ⟨k', hk'⟩
  obtain ⟨kk2, hkk2⟩ : ∃ kk, vm0.classes[y0]? = some kk := by
    obtain ⟨kk, hkk⟩ := Vm.classAt_of_findClass hfy
    obtain ⟨k', hk', -⟩ := hwarm0.alike.2.2 _ _ hkk
    exact ⟨k', hk'⟩
  obtain ⟨e0, etl0, hee0, heq0, htl0⟩ := List.map_eq_cons_iff.mp htab
  obtain ⟨ee, etl, hee, heq, -⟩ := List.map_eq_cons_iff.mp htl0
  obtain ⟨ha0, ht0⟩ := hg0.op (op := VmOp.resolveClass g.method.cls ct0) rfl
  obtain ⟨ha, ht⟩ := hg₁.op (op := VmOp.resolveClass g.method.cls ct) rfl
  have hfind : ∀ (Q : Handler → Pre) (E : CtlPost) (d : Bool) (acts : List Action), wp (findHandler g x) Q E e d acts ((T.setTop g).pushFrame (.throwing x)) ↔ Q (.found hpc) d acts ((((T.setTop g).pushFrame (.throwing x)).setVm vm0).setVm vm₁) := by
    intro Q E d acts
    rw [Jvm.W.findHandler_eq hm X.code, hee0, hee]
    have e1 : ee.startPc = sp := congrArg Prod.fst heq
    have e2 : ee.endPc = ep := congrArg (fun z => z.2.1) heq
    have e3 : ee.handlerPc = hpc := congrArg (fun z => z.2.2.1) heq
    have e4 : ee.catchType = ct := congrArg (fun z => z.2.2.2) heq
    have f1 : e0.startPc = sp0 := congrArg Prod.fst heq0
    have f2 : e0.endPc = ep0 := congrArg (fun z => z.2.1) heq0
    have f3 : e0.handlerPc = hpc0 := congrArg (fun z => z.2.2.1) heq0
    have f4 : e0.catchType = ct0 := congrArg (fun z => z.2.2.2) heq0
    simp [findHandler.go, e1, e2, e3, e4, f1, f2, f3, f4, hcov.1, hcov.2, hct, hcov0.1, hcov0.2, hct0, hvmS, hhpS, hT, hcell, ha, ht, ha0, ht0, hsz, hsz0, hasg, hasg0, hkk0, hkk1, hkk2, VmOp.dirties, VmOp.acts, VmData.ne_statics_of hst]
  rw [stepThread_throwing (frames_entered h.top _)]
  have hstep : (stepThrowing e ((T.setTop g).pushFrame (.throwing x)) x (.java g :: T.frames.tail)).1 = (((((T.setTop g).pushFrame (.throwing x)).setVm vm0).setVm vm₁).setFrames (.java { g with pc := hpc, stack := [.ref x] } :: T.frames.tail)) := by
    simp only [stepThrowing, searchFrame, vmDo]
    generalize hr : Sem.go _ e false [] _ = res
    obtain ⟨as, rfl, hac⟩ := Sem.eq_ok_of hr (a := Handler.found hpc) (s' := (((T.setTop g).pushFrame (.throwing x)).setVm vm0).setVm vm₁) (acts' := []) (by simp [hfind _ _ _ _])
    rfl
  rw [hstep]
  obtain ⟨g₀, hg0'⟩ := Option.isSome_iff_exists.mp h.top
  obtain ⟨r, hr⟩ := State.topJava?_eq_some.mp hg0'
  have hr1 : ((T.setVm vm0).setVm vm₁).frames = .java g₀ :: r := hr
  have hfin : (((((T.setTop g).pushFrame (.throwing x)).setVm vm0).setVm vm₁).setFrames (.java { g with pc := hpc, stack := [.ref x] } :: T.frames.tail)) = ((T.setVm vm0).setVm vm₁).setTop { g with pc := hpc, stack := [.ref x] } := by
    have e9 : ∀ (S : State) (v : Vm) (f : List Frame), (S.setVm v).setFrames f = (S.setFrames f).setVm v := fun _ _ _ => rfl
    rw [State.setTop_of_frames _ hr1, State.pushFrame, State.setTop_of_frames _ hr, hr, e9, e9, e9, e9, State.setFrames_setFrames, State.setFrames_setFrames]
    rfl
  rw [hfin]
  exact a1
/-- the third handler of the table takes it -/
theorem ex_caught3 (hexec : p.tables.exec = Jvm.exec) {xN yN zN : String} {x : Addr} {hpc sp ep ct hpc0 sp0 ep0 ct0 hpc1 sp1 ep1 ct1 : Nat} {tl : List (Nat × Nat × Nat × Nat)} {cell : Cell} (hg : g.method = m)
    (htab : c.exceptionTable.toList.map (fun h => (h.startPc, h.endPc, h.handlerPc, h.catchType)) = (sp0, ep0, hpc0, ct0) :: (sp1, ep1, hpc1, ct1) :: (sp, ep, hpc, ct) :: tl) (hcov0 : sp0 ≤ g.pc ∧ g.pc < ep0) (hct0 : ct0 ≠ 0) (hcov1 : sp1 ≤ g.pc ∧ g.pc < ep1) (hct1 : ct1 ≠ 0) (hcov : sp ≤ g.pc ∧ g.pc < ep) (hct : ct ≠ 0)
    (hown : s.vm.findClass own = some m.cls) (hlink0 : (Cond.classLink own ct0 yN).before args s = true) (hlink1 : (Cond.classLink own ct1 zN).before args s = true) (hlink : (Cond.classLink own ct xN).before args s = true) (hcell : H[x]? = some cell) (hst : cell.vm.isStatics = false) (hcls : s.vm.findClass xN = some cell.cls) (hself : s.vm.assignable cell.cls cell.cls = true)
    (hnot : ∀ c0, s.vm.findClass yN = some c0 → s.vm.assignable cell.cls c0 = false) (hnot1 : ∀ c0, s.vm.findClass zN = some c0 → s.vm.assignable cell.cls c0 = false)
    (k : W p l e R s m args below meth c H locs cells slots Q { g with pc := hpc, stack := [.ref x] }) : ex_T p l e R s m args below meth c H locs cells slots Q g x := by
  intro T hT X
  have hpl : e.platform.magicAccessors = ({} : Platform).magicAccessors := by rw [X.admits.platform]
  obtain ⟨y0, hfy, hcy⟩ := Cond.classLink_spec hown hlink0 e.platform hpl
  obtain ⟨z0, hfz, hcz⟩ := Cond.classLink_spec hown hlink1 e.platform hpl
  obtain ⟨c0, hfc0, hcl⟩ := Cond.classLink_spec hown hlink e.platform hpl
  cases hcls.symm.trans hfc0
  have hn0 := hnot y0 hfy
  have hn1 := hnot1 z0 hfz
  obtain ⟨hg0, hwarm0, hready0⟩ := State.classEntry (e := e) X.warmed hcy
  generalize hvm0 : T.vm.noted m.cls ct0 (.cls y0) = vm0 at hg0 hwarm0 hready0
  have hsz0 : vm0.classes.size ≤ T.vm.classes.size := by rw [← hvm0]; simp [Vm.noted]
  have X0 := X.noted hwarm0
  obtain ⟨hgz, hwarmz, hreadyz⟩ := State.classEntry (e := e) X0.warmed hcz
  have hvv : (T.setVm vm0).vm = vm0 := rfl
  rw [hvv] at hgz hwarmz hreadyz
  generalize hvmz : vm0.noted m.cls ct1 (.cls z0) = vmz at hgz hwarmz hreadyz
  have hszz : vmz.classes.size ≤ vm0.classes.size := by rw [← hvmz]; simp [Vm.noted]
  have Xz := X0.noted hwarmz
  obtain ⟨hg₁, hwarm₁, hready₁⟩ := State.classEntry (e := e) Xz.warmed hcl
  have hvv2 : ((T.setVm vm0).setVm vmz).vm = vmz := rfl
  rw [hvv2] at hg₁ hwarm₁ hready₁
  generalize hvm₁ : vmz.noted m.cls ct (.cls cell.cls) = vm₁ at hg₁ hwarm₁ hready₁
  have hsz : vm₁.classes.size ≤ vmz.classes.size := by rw [← hvm₁]; simp [Vm.noted]
  have X₁ := Xz.noted hwarm₁
  obtain ⟨t, a1, b1⟩ := k (((T.setVm vm0).setVm vmz).setVm vm₁) hT X₁
  refine ⟨t, ?_, b1⟩
  subst hg
  have h := X.here
  obtain ⟨hgo, hw⟩ := h.throwing x
  refine Steps.head hgo hw ?_
  have hm : ((T.setTop g).pushFrame (.throwing x)).vm.method? g.method = some meth := by rw [Stand.throwing_vm]; exact X.method'
  have hvmS : ((T.setTop g).pushFrame (.throwing x)).vm = T.vm := Stand.throwing_vm T g x
  have hhpS : ((T.setTop g).pushFrame (.throwing x)).heap = T.heap := Stand.throwing_heap T g x
  have hasg : vm₁.assignable cell.cls cell.cls = true := by rw [hwarm₁.alike.assignable]; exact hself
  have hasg0 : vm0.assignable cell.cls y0 = false := by rw [hwarm0.alike.assignable]; exact hn0
  have hasgz : vmz.assignable cell.cls z0 = false := by rw [hwarmz.alike.assignable]; exact hn1
  have at0 : ∀ {N : String} {cc : ClassId}, s.vm.findClass N = some cc → (∃ kk, vm0.classes[cc]? = some kk) ∧ (∃ kk, vmz.classes[cc]? = some kk) ∧ ∃ kk, vm₁.classes[cc]? = some kk := fun {N cc} hN => by
    obtain ⟨kk, hkk⟩ := Vm.classAt_of_findClass hN
    obtain ⟨k1, hk1, -⟩ := hwarm0.alike.2.2 _ _ hkk
    obtain ⟨k2, hk2, -⟩ := hwarmz.alike.2.2 _ _ hkk
    obtain ⟨k3, hk3, -⟩ := hwarm₁.alike.2.2 _ _ hkk
    exact ⟨⟨k1, hk1⟩, ⟨k2, hk2⟩, ⟨k3, hk3⟩⟩
  obtain ⟨⟨kk1, hkk1⟩, ⟨kk3, hkk3⟩, ⟨kk0, hkk0⟩⟩ := at0 hcls
  obtain ⟨⟨kk2, hkk2⟩, -, -⟩ := at0 hfy
  obtain ⟨-, ⟨kk4, hkk4⟩, -⟩ := at0 hfz
  obtain ⟨e0, etl0, hee0, heq0, htl0⟩ := List.map_eq_cons_iff.mp htab
  obtain ⟨e5, etl5, hee5, heq5, htl5⟩ := List.map_eq_cons_iff.mp htl0
  obtain ⟨ee, etl, hee, heq, -⟩ := List.map_eq_cons_iff.mp htl5
  obtain ⟨ha0, ht0⟩ := hg0.op (op := VmOp.resolveClass g.method.cls ct0) rfl
  obtain ⟨ha5, ht5⟩ := hgz.op (op := VmOp.resolveClass g.method.cls ct1) rfl
  obtain ⟨ha, ht⟩ := hg₁.op (op := VmOp.resolveClass g.method.cls ct) rfl
  have hfind : ∀ (Q : Handler → Pre) (E : CtlPost) (d : Bool) (acts : List Action), wp (findHandler g x) Q E e d acts ((T.setTop g).pushFrame (.throwing x)) ↔ Q (.found hpc) d acts (((((T.setTop g).pushFrame (.throwing x)).setVm vm0).setVm vmz).setVm vm₁) := by
    intro Q E d acts
    rw [Jvm.W.findHandler_eq hm X.code, hee0, hee5, hee]
    have e1 : ee.startPc = sp := congrArg Prod.fst heq
    have e2 : ee.endPc = ep := congrArg (fun z => z.2.1) heq
    have e3 : ee.handlerPc = hpc := congrArg (fun z => z.2.2.1) heq
    have e4 : ee.catchType = ct := congrArg (fun z => z.2.2.2) heq
    have f1 : e0.startPc = sp0 := congrArg Prod.fst heq0
    have f2 : e0.endPc = ep0 := congrArg (fun z => z.2.1) heq0
    have f3 : e0.handlerPc = hpc0 := congrArg (fun z => z.2.2.1) heq0
    have f4 : e0.catchType = ct0 := congrArg (fun z => z.2.2.2) heq0
    have i1 : e5.startPc = sp1 := congrArg Prod.fst heq5
    have i2 : e5.endPc = ep1 := congrArg (fun z => z.2.1) heq5
    have i3 : e5.handlerPc = hpc1 := congrArg (fun z => z.2.2.1) heq5
    have i4 : e5.catchType = ct1 := congrArg (fun z => z.2.2.2) heq5
    simp [findHandler.go, e1, e2, e3, e4, f1, f2, f3, f4, i1, i2, i3, i4, hcov.1, hcov.2, hct, hcov0.1, hcov0.2, hct0, hcov1.1, hcov1.2, hct1, hvmS, hhpS, hT, hcell, ha, ht, ha0, ht0, ha5, ht5, hsz, hsz0, hszz, hasg, hasg0, hasgz, hkk0, hkk1, hkk2, hkk3, hkk4, VmOp.dirties, VmOp.acts, VmData.ne_statics_of hst]
  rw [stepThread_throwing (frames_entered h.top _)]
  have hstep : (stepThrowing e ((T.setTop g).pushFrame (.throwing x)) x (.java g :: T.frames.tail)).1 = ((((((T.setTop g).pushFrame (.throwing x)).setVm vm0).setVm vmz).setVm vm₁).setFrames (.java { g with pc := hpc, stack := [.ref x] } :: T.frames.tail)) := by
    simp only [stepThrowing, searchFrame, vmDo]
    generalize hr : Sem.go _ e false [] _ = res
    obtain ⟨as, rfl, hac⟩ := Sem.eq_ok_of hr (a := Handler.found hpc) (s' := ((((T.setTop g).pushFrame (.throwing x)).setVm vm0).setVm vmz).setVm vm₁) (acts' := []) (by simp [hfind _ _ _ _])
    rfl
  rw [hstep]
  obtain ⟨g₀, hg0'⟩ := Option.isSome_iff_exists.mp h.top
  obtain ⟨r, hr⟩ := State.topJava?_eq_some.mp hg0'
  have hr1 : (((T.setVm vm0).setVm vmz).setVm vm₁).frames = .java g₀ :: r := hr
  have hfin : ((((((T.setTop g).pushFrame (.throwing x)).setVm vm0).setVm vmz).setVm vm₁).setFrames (.java { g with pc := hpc, stack := [.ref x] } :: T.frames.tail)) = (((T.setVm vm0).setVm vmz).setVm vm₁).setTop { g with pc := hpc, stack := [.ref x] } := by
    have e9 : ∀ (S : State) (v : Vm) (f : List Frame), (S.setVm v).setFrames f = (S.setFrames f).setVm v := fun _ _ _ => rfl
    rw [State.setTop_of_frames _ hr1, State.pushFrame, State.setTop_of_frames _ hr, hr, e9, e9, e9, e9, e9, e9, State.setFrames_setFrames, State.setFrames_setFrames]
    rfl
  rw [hfin]
  exact a1
/-- the three things that are thrown are no kinds of each other -/
def nc (U : State) : Prop := (∀ a b, U.vm.findClass uoN = some a → U.vm.findClass iaN = some b → U.vm.assignable a b = false) ∧ (∀ a b, U.vm.findClass isN = some a → U.vm.findClass iaN = some b → U.vm.assignable a b = false) ∧ ∀ a b, U.vm.findClass uoN = some a → U.vm.findClass isN = some b → U.vm.assignable a b = false
theorem nc_of {args : Array Value} {U : State} (h1 : (Cond.not (.castable uoN iaN)).before args U = true) (h2 : (Cond.not (.castable isN iaN)).before args U = true) (h3 : (Cond.not (.castable uoN isN)).before args U = true) : nc U := by
  have key : ∀ {a b : String}, (Cond.not (.castable a b)).before args U = true → ∀ c t, U.vm.findClass a = some c → U.vm.findClass b = some t → U.vm.assignable c t = false := fun {a b} h c t q1 q2 => by
    simp only [Cond.before, Cond.holds, Cond.value] at h
    simpa [q1, q2] using h
  exact ⟨key h1, key h2, key h3⟩
theorem nc_warm {U U2 : State} (h : nc U) (hW : U.WarmedH U2.vm) : nc U2 := by
  have e1 := hW.alike.findClass
  have e2 := hW.alike.assignable
  refine ⟨fun a b q1 q2 => ?_, fun a b q1 q2 => ?_, fun a b q1 q2 => ?_⟩
  · rw [e1] at q1 q2
    rw [e2]
    exact h.1 a b q1 q2
  · rw [e1] at q1 q2
    rw [e2]
    exact h.2.1 a b q1 q2
  · rw [e1] at q1 q2
    rw [e2]
    exact h.2.2 a b q1 q2
end CATCH
