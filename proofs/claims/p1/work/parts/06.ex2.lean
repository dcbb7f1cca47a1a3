/-! A new beginning in the middle of a method: all that is there now counts as old. Then: throw new X("..."). -/
section EX2
variable {p : Program} {l : Launch} {e : Env} {R : Room} {s : State} {m : MethodId} {args : Array Value} {below : List Frame} {meth : Method} {c : Code} {H : Heap} {locs : List Loc} {cells slots : Nat} {Q : State → Prop}
theorem ex_rebase {T : State} (X : Stand p l e R s m args below meth c T locs cells slots) {R2 : Room} (hf : R2.frames ≤ R.frames) (hl : R2.locals ≤ R.locals) (hc : cells + R2.cells ≤ R.cells) (hs : slots + R2.slots ≤ R.slots) :
    Stand p l e R2 (T.setFrames (.invoking m args :: below)) m args below meth c T [] 0 0 := by
  obtain ⟨g₀, hg0⟩ := Option.isSome_iff_exists.mp X.here.top
  obtain ⟨r, hr⟩ := State.topJava?_eq_some.mp hg0
  obtain ⟨t0, ht, -⟩ := State.frames_cons hr
  have hcur : T.cur < T.threads.size := State.cur_lt_of_frames hr
  have hfr : (T.setFrames (.invoking m args :: below)).frames = .invoking m args :: below := State.frames_setFrames _ hcur
  have hm : (T.setFrames (.invoking m args :: below)).vm.method? m = some meth := X.method'
  have hme : ∀ x : MethodId, (T.setFrames (.invoking m args :: below)).vm.method? x = s.vm.method? x := fun x => X.warmed.alike.method? ..
  have hco : ∀ x : MethodId, (T.setFrames (.invoking m args :: below)).code? x = s.code? x := fun x => by rw [State.code?_eq, State.code?_eq, hme]
  have hin1 : (T.setFrames (.invoking m args :: below)).localsInUse = s.localsInUse := by
    rw [State.localsInUse_invoking hfr hm X.code, State.localsInUse_invoking X.frames X.method X.code]
  have hroom : (T.setFrames (.invoking m args :: below)).hasRoom e.platform R2 = true := by
    have h0 := X.room
    have hz := X.heapSize
    have hu := X.used
    have hk := X.book
    simp only [State.hasRoom, Bool.and_eq_true, decide_eq_true_eq] at h0 ⊢
    rw [hin1, hfr, State.stackLimits_setFrames, State.stackBytes_setFrames, X.limits, X.bytes]
    rw [X.frames] at h0
    have e1 : (T.setFrames (.invoking m args :: below)).heap.size = T.heap.size := rfl
    have e2 : (T.setFrames (.invoking m args :: below)).slotsUsed = T.slotsUsed := rfl
    have e3 : (T.setFrames (.invoking m args :: below)).slotsTrue = true := hk
    rw [e1, e2]
    obtain ⟨⟨⟨⟨h1, h2, h3, h4, h5, h6⟩, h7⟩, h8⟩, h9⟩ := h0
    refine ⟨⟨⟨⟨by omega, by omega, by omega, by omega, by omega, h6⟩, by omega⟩, by omega⟩, e3⟩
  have hhears : (T.setFrames (.invoking m args :: below)).hears m below = true := by
    have hh := X.hears
    have hme2 : ∀ x : MethodId, T.vm.method? x = s.vm.method? x := hme
    have hco2 : ∀ x : MethodId, T.code? x = s.code? x := hco
    cases below with
    | nil => simpa [State.hears, hme2] using hh
    | cons f r => cases f <;> simpa [State.hears, hme2, hco2, hco] using hh
  refine ⟨X.admits, X.cas, X.clock, hfr, hroom, hhears, hm, X.code, X.here, X.tail, State.WarmedH.refl _, by rw [State.stackLimits_setFrames], by rw [State.stackBytes_setFrames], ?_⟩
  have hT : T = (T.setFrames (.invoking m args :: below)).setFrames T.frames := by rw [State.setFrames_setFrames, State.setFrames_self ht]
  obtain ⟨t1, ht1, -⟩ := State.frames_cons hfr
  have h := (State.sameButNew.refl (T.setFrames (.invoking m args :: below)) ht1).setFrames T.frames (by simpa [State.setFrames] using hcur)
  show (T.setFrames (.invoking m args :: below)).sameButNew T [] 0 0
  rw [← hT] at h
  exact h
set_option maxHeartbeats 4000000 in
/-- throw new X("..") out of the method: one cell of six slots comes, nothing else changes -/
theorem ex_throwNew {Qc : Array Value → State → Outcome → State → Prop} {free : Addr → Prop} {cc : ByteArray} (hx : p.tables.exec = Jvm.exec) (hb : c.code = cc) (htr : l.stackTraces = false) {own xN : String} {up : List String} {ic inew istr pc q : Nat} {tx : String} {ls : Array Slot}
    (hown : s.vm.findClass own = some m.cls) (hfit : Bundle.fit xN = true) (hups : ∀ n ∈ up, Bundle.fit n = true)
    (hat : ∀ U : State, U.heap = H → s.WarmedH U.vm → ∀ w ∈ Cond.classLink own inew xN :: Cond.initialized xN :: Bundle.ownAtoms own ic xN up, w.before args U = true)
    (hstr : vk_R own istr tx q s) (hls : ls.size = c.maxLocals)
    (d0 : decode cc pc = .ok (.new inew, 3)) (d3 : decode cc (pc + 3) = .ok (.dup, 1)) (d4 : decode cc (pc + 4) = .ok (.ldc istr, 2)) (d6 : decode cc (pc + 6) = .ok (.invokespecial ic, 3)) (d9 : decode cc (pc + 9) = .ok (.athrow, 1))
    (hout : ∀ x ∈ c.exceptionTable.toList, covers x (pc + 9) = false) (hlocks : meth.locks = false)
    (hcs : cells + 1 ≤ R.cells) (hss : slots + 6 ≤ R.slots) (hfr : up.length + 3 < R.frames) (hlo : 13 * (up.length + 1) + 43 ≤ R.locals) (hfree : ∀ q ∈ locs, free q.base)
    (hq : ∀ (t : State) (ce : Cell), (∀ a : Nat, a < H.size → t.heap[a]? = H[a]?) → t.heap.size = H.size + 1 → t.heap[H.size]? = some ce → t.vm.findClass xN = some ce.cls → t.vm.assignable ce.cls ce.cls = true → ce.vm = .none → s.WarmedH t.vm → Qc args s (.threw H.size) t) :
    W p l e R s m args below meth c H locs cells slots (ex_MQ below Qc args s (cells + 1) (slots + 6) free) (F0 m pc ls []) := by
  intro T hT X
  have htr' : e.platform.stackTraces = false := by rw [X.admits.platform]; exact htr
  have X0 := ex_rebase X (R2 := { frames := R.frames, cells := 1, slots := 6, locals := R.locals }) (Nat.le_refl _) (Nat.le_refl _) hcs hss
  have hvm0 : (T.setFrames (.invoking m args :: below)).vm = T.vm := rfl
  have hown0 : (T.setFrames (.invoking m args :: below)).vm.findClass own = some m.cls := by rw [hvm0, X.warmed.alike.findClass]; exact hown
  have hat0 := hat (T.setFrames (.invoking m args :: below)) hT X.warmed
  have hstr0 : vk_R own istr tx q (T.setFrames (.invoking m args :: below)) := hstr.warm (U := T.setFrames (.invoking m args :: below)) X.warmed
  have hmem : ∀ w ∈ Bundle.ownAtoms own ic xN up, w.before args (T.setFrames (.invoking m args :: below)) = true := fun w hw => hat0 w (List.mem_cons_of_mem _ (List.mem_cons_of_mem _ hw))
  obtain ⟨vm₁, cX, kX, hfX, hkX, -, -, X₁, st1⟩ := X0.newCold hx (own := own) (C := xN) (index := inew) (n := 6) hown0 (hat0 _ List.mem_cons_self) (hmem (.instantiable xN 6) (by simp [Bundle.ownAtoms])) (hat0 _ (List.mem_cons_of_mem _ List.mem_cons_self))
    (g := F0 m pc ls []) rfl (by rw [hb]; exact d0) (by simp) (by simp)
  generalize hT1 : (T.setVm vm₁).pushCell { cls := cX, slots := kX.instanceTypes.map defaultValue, vm := .none } = T1 at X₁ st1
  have hcellA : T1.heap[T.heap.size]? = some (freshCell cX kX) := by rw [← hT1]; exact State.heap_pushCell_size _ _
  obtain ⟨U, hsteps, hrun, hend, hW, hsame, ce, hce, K⟩ := X₁.ctorThrowS hx htr' (own := own) (cls := xN) (names := up) (ic := ic) hown0 hfit hups hmem (fun y hy => by cases hy) hfX hkX hcellA (Nat.le_refl _) (msg := .ref q) rfl
    (g := F0 m (pc + 6) ls [.ref q, .ref T.heap.size, .ref T.heap.size]) rfl hls rfl rfl (rest := []) rfl (by rw [hb]; exact d6) (by rw [hb]; exact d9) hout hfr (by show 2 * 0 + _ + _ ≤ _; simp [Value.category]; omega) hlocks
  have hsz1 : U.heap.size ≤ T.heap.size + 1 := hsame.2.2.1
  have hlt : T.heap.size < U.heap.size := (Array.getElem?_eq_some_iff.mp hce).1
  have hold : ∀ a : Nat, a < T.heap.size → U.heap[a]? = T.heap[a]? := by
    intro a ha
    have h1 : (T.setFrames (.invoking m args :: below)).heap[a]? = some (T.heap[a]'ha) := Array.getElem?_eq_getElem ha
    have h2 := hsame.old_cell h1
    rw [Array.getElem?_eq_getElem ha]
    exact h2
  have hWU : s.WarmedH U.vm := State.WarmedH.trans X.warmed hW
  refine ⟨U, st1 _ ?_, .threw H.size, hrun, by rw [← hT]; exact hend, hq U ce (fun a ha => by rw [← hT] at ha ⊢; exact hold a ha) (by rw [← hT]; omega) (by rw [← hT]; exact hce) ?_ ?_ K.vm hWU, locs, ⟨hWU, ?_⟩, hfree⟩
  · show Steps p.tables e below (T1.setTop (F0 m (pc + 3) ls [.ref T.heap.size])) U
    jvm_step X₁.here [X₁.here.top, hx, hb, d3, Value.category]
    refine X₁.ldcString hx hown0 (text := tx) (a := q) hstr0.1 hstr0.2 (g := F0 m (pc + 4) ls [.ref T.heap.size, .ref T.heap.size]) rfl (by rw [hb]; exact d4) U ?_
    exact hsteps
  · rw [hW.alike.findClass]; exact K.cls
  · rw [hW.alike.assignable]; exact K.self
  · have h1 := X.same.setFrames (.invoking m args :: below) X.cur
    have h2 := h1.trans (hsame.setVm s.vm)
    rw [List.append_nil] at h2
    exact h2
end EX2
