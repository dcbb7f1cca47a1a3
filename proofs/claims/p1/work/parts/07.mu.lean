/-! An array of arrays, made by one instruction. -/
section MU
def mu_o (cA : ClassId) (N h i : Nat) : Cell := arrV cA N (fun j => if j < i then .ref (h + 1 + j) else .null)
def mu_i (cI : ClassId) (M : Nat) (v : Value) : Cell := arrV cI M (fun _ => v)
/-- the outer array and i of its rows stand -/
def mu_s (T : State) (cA cI : ClassId) (N M : Nat) (v : Value) : Nat → State
  | 0 => T.pushCell (mu_o cA N T.heap.size 0)
  | i + 1 => ((mu_s T cA cI N M v i).pushCell (mu_i cI M v)).setCell T.heap.size (mu_o cA N T.heap.size (i + 1))
theorem mu_o_step (cA : ClassId) (N h i : Nat) : (mu_o cA N h i).setSlot i (.ref (h + 1 + i)) = mu_o cA N h (i + 1) := by
  unfold mu_o
  rw [arrV_store]
  congr 1
  funext j
  by_cases hj : j = i
  · subst hj
    simp [updV]
  · by_cases h2 : j < i
    · simp [updV, hj, h2, Nat.lt_succ_of_lt h2]
    · have h3 : ¬ j < i + 1 := by omega
      simp [updV, hj, h2, h3]
theorem mu_size (T : State) (cA cI : ClassId) (N M : Nat) (v : Value) : ∀ i, (mu_s T cA cI N M v i).heap.size = T.heap.size + 1 + i
  | 0 => by simp [mu_s]
  | i + 1 => by
    have h := mu_size T cA cI N M v i
    simp [mu_s, State.setCell, h]
    omega
theorem mu_vm (T : State) (cA cI : ClassId) (N M : Nat) (v : Value) : ∀ i, (mu_s T cA cI N M v i).vm = T.vm
  | 0 => rfl
  | i + 1 => by
    have h := mu_vm T cA cI N M v i
    simp [mu_s, h]
theorem mu_used (T : State) (cA cI : ClassId) (N M : Nat) (v : Value) : ∀ i, (mu_s T cA cI N M v i).slotsUsed = T.slotsUsed + N + i * M
  | 0 => by simp [mu_s, mu_o, arrV_size]
  | i + 1 => by
    have h := mu_used T cA cI N M v i
    simp [mu_s, h, mu_i, arrV_size, Nat.succ_mul]
    omega
theorem mu_at (T : State) (cA cI : ClassId) (N M : Nat) (v : Value) : ∀ i, (mu_s T cA cI N M v i).heap[T.heap.size]? = some (mu_o cA N T.heap.size i)
  | 0 => State.heap_pushCell_size _ _
  | i + 1 => by
    have h := mu_at T cA cI N M v i
    have hlt : T.heap.size < (mu_s T cA cI N M v i).heap.size := by rw [mu_size]; omega
    refine State.heap_setCell_self (c := mu_o cA N T.heap.size i) ?_
    rw [State.heap_pushCell_of_lt (h := hlt)]
    exact h
theorem mu_old (T : State) (cA cI : ClassId) (N M : Nat) (v : Value) {a : Addr} (ha : a < T.heap.size) : ∀ i, (mu_s T cA cI N M v i).heap[a]? = T.heap[a]?
  | 0 => State.heap_pushCell_of_lt _ _ ha
  | i + 1 => by
    have hlt : a < (mu_s T cA cI N M v i).heap.size := Nat.lt_of_lt_of_le ha (by rw [mu_size]; omega)
    show (((mu_s T cA cI N M v i).pushCell (mu_i cI M v)).setCell T.heap.size _).heap[a]? = _
    rw [State.heap_setCell_other (Nat.ne_of_gt ha), State.heap_pushCell_of_lt (h := hlt)]
    exact mu_old T cA cI N M v ha i
theorem mu_row (T : State) (cA cI : ClassId) (N M : Nat) (v : Value) : ∀ i j, j < i → (mu_s T cA cI N M v i).heap[T.heap.size + 1 + j]? = some (mu_i cI M v)
  | 0, _, h => absurd h (Nat.not_lt_zero _)
  | i + 1, j, h => by
    show (((mu_s T cA cI N M v i).pushCell (mu_i cI M v)).setCell T.heap.size _).heap[T.heap.size + 1 + j]? = _
    rw [State.heap_setCell_other (show T.heap.size ≠ T.heap.size + 1 + j by omega)]
    by_cases hj : j < i
    · have hlt : T.heap.size + 1 + j < (mu_s T cA cI N M v i).heap.size := by rw [mu_size]; omega
      rw [State.heap_pushCell_of_lt (h := hlt)]
      exact mu_row T cA cI N M v i j hj
    · have e : j = i := by omega
      subst e
      rw [← mu_size T cA cI N M v j]
      exact State.heap_pushCell_size _ _
theorem mu_top (T : State) (f : JFrame) (cA cI : ClassId) (N M : Nat) (v : Value) : ∀ i, mu_s (T.setTop f) cA cI N M v i = (mu_s T cA cI N M v i).setTop f
  | 0 => rfl
  | i + 1 => by simp only [mu_s, mu_top T f cA cI N M v i, State.heap_setTop, State.pushCell_setTop, State.setCell_setTop]
section
variable {E : CtlPost} {e : Env} {d : Bool} {acts : List Action} {s : State}
theorem mu_arr {c comp : ClassId} {k : Class} {type : FieldType} {len : Nat} {init : Value} (hk : s.vm.classes[c]? = some k) (hkind : k.kind = .array comp type)
    (hlimit : ¬ len > e.platform.arrayLengthLimit) (hheap : ¬ len * componentBytes type > e.platform.maxHeapBytes) (hfit : fits type init = true) (hdef : init.isDefault = true) {Q : Addr → Pre}
    (h1 : s.heap.size < e.platform.maxCells) (h2 : s.slotsUsed + len ≤ e.platform.maxSlots) (hq : Q s.heap.size d acts (s.pushCell (arrV c len (fun _ => init)))) : wp (Jvm.newArray c len init) Q E e d acts s := by
  have hf : ∀ i v, (Array.replicate len init)[i]? = some v → s.fitsSlot c .none i v = true := by
    intro i v hv
    simp only [Array.getElem?_replicate] at hv
    split at hv
    · cases hv
      simp [State.fitsSlot, State.slotType?, hk, hkind, hfit]
    · cases hv
  have hda : allocActs (Array.replicate len init) s.heap.size acts = acts := by
    have hall : ((Array.replicate len init).all (·.isDefault)) = true := by
      rw [Array.all_replicate]
      split <;> simp [hdef]
    unfold allocActs
    rw [if_pos hall]
  rw [← arrV_new] at hq
  simp only [Jvm.newArray, Jvm.arrayFits, wp_bind', Jvm.W.ask, Jvm.W.ite, hlimit, if_false, wp_pure', Jvm.W.theClass, hk, hkind, hheap, Jvm.W.alloc, Jvm.W.stop, Option.some.injEq, exists_eq_left', Array.size_replicate, hda]
  rw [if_neg (by omega)]
  exact ⟨h1, h2, hf, hq⟩
theorem mu_make {c comp cc : ClassId} {k kc : Class} {n m : Int32} (hk : s.vm.classes[c]? = some k) (hkind : k.kind = .array comp (.array .int)) (hkc : s.vm.classes[comp]? = some kc) (hkindc : kc.kind = .array cc .int) (hn : ¬ n < 0) (hm : ¬ m < 0)
    (hl1 : ¬ n.toNatClampNeg > e.platform.arrayLengthLimit) (hh1 : ¬ n.toNatClampNeg * 4 > e.platform.maxHeapBytes) (hl2 : ¬ m.toNatClampNeg > e.platform.arrayLengthLimit) (hh2 : ¬ m.toNatClampNeg * 4 > e.platform.maxHeapBytes)
    (hc : s.heap.size + (1 + n.toNatClampNeg) ≤ e.platform.maxCells) (hs : s.slotsUsed + (n.toNatClampNeg + n.toNatClampNeg * m.toNatClampNeg) ≤ e.platform.maxSlots)
    {Q : Addr → Pre} (hq : ∀ d' acts', Q s.heap.size d' acts' (mu_s s c comp n.toNatClampNeg m.toNatClampNeg (.int 0) n.toNatClampNeg)) : wp (Op.multianewarray.make c [n, m]) Q E e d acts s := by
  have hno : ([m].find? (· < 0)) = none := by simp [hm]
  generalize hN : n.toNatClampNeg = N at *
  generalize hM : m.toNatClampNeg = M at *
  rw [Op.multianewarray.make]
  simp only [wp_bind', Jvm.W.ite, hn, if_false, wp_pure', Jvm.W.theClass, hk, hkind, Option.some.injEq, exists_eq_left', hN]
  refine mu_arr hk hkind hl1 hh1 rfl rfl (by omega) (by omega) ?_
  simp only [hno]
  rw [ite_self, wp_bind', Std.Legacy.Range.forIn_eq_forIn_range']
  have hsz : ([:N] : Std.Legacy.Range).size = N := by simp [Std.Legacy.Range.size]
  rw [hsz]
  show wp (forIn (List.range' 0 N 1) PUnit.unit _) _ E e d acts _
  refine wp_forIn_inv (fun rest s' => ∃ i, i ≤ N ∧ rest = List.range' i (N - i) ∧ s' = mu_s s c comp N M (.int 0) i) _ _ ⟨0, Nat.zero_le _, rfl, ?_⟩ ?_ ?_
  · show s.pushCell (arrV c N (fun _ => .null)) = s.pushCell (mu_o c N s.heap.size 0)
    congr 1
  · rintro x rest s' d' acts' Q' ⟨i, hi, hl, rfl⟩ hnext
    have hlt : i < N := by
      rcases Nat.lt_or_ge i N with h | h
      · exact h
      · rw [show N - i = 0 by omega] at hl
        simp at hl
    rw [show N - i = (N - (i + 1)) + 1 by omega, List.range'_succ] at hl
    obtain ⟨rfl, hrest⟩ := List.cons.inj hl
    have hmul : x * M + M ≤ N * M := by
      have := Nat.mul_le_mul_right M (show x + 1 ≤ N from hlt)
      rw [Nat.succ_mul] at this
      exact this
    have z1 := mu_size s c comp N M (.int 0) x
    have z2 := mu_used s c comp N M (.int 0) x
    have z3 := mu_vm s c comp N M (.int 0) x
    simp only [wp_bind']
    rw [Op.multianewarray.make]
    simp only [wp_bind', Jvm.W.ite, hm, if_false, wp_pure', Jvm.W.theClass, z3, hkc, hkindc, Option.some.injEq, exists_eq_left', hM]
    refine mu_arr (by rw [z3]; exact hkc) hkindc hl2 hh2 rfl rfl (by omega) (by omega) ?_
    have hlt0 : s.heap.size < (mu_s s c comp N M (.int 0) x).heap.size := by rw [z1]; omega
    simp only [wp_bind', Jvm.W.writeLoc, wp_pure']
    refine ⟨mu_o c N s.heap.size x, by rw [State.heap_pushCell_of_lt (h := hlt0)]; exact mu_at .., (fun h => by cases h), (by rw [mu_o, arrV_size]; exact hlt), ?_, hnext _ _ _ ⟨x + 1, hlt, hrest, ?_⟩⟩
    · simp [State.fitsSlot, State.slotType?, mu_o, arrV, z3, hk, hkind, fits]
    · rw [z1, mu_o_step]
      rfl
  · rintro s' d' acts' ⟨i, hi, hl, rfl⟩
    have hiN : i = N := by
      rcases Nat.lt_or_ge i N with h | h
      · rw [show N - i = (N - (i + 1)) + 1 by omega, List.range'_succ] at hl
        cases hl
      · omega
    subst hiN
    simp only [wp_pure']
    exact hq _ _
end
section
variable {p : Program} {l : Launch} {e : Env} {R : Room} {s : State} {m : MethodId} {args : Array Value} {below : List Frame} {meth : Method} {c : Code} {T : State} {H : Heap} {locs : List Loc} {cells slots : Nat} {Q : State → Prop}
theorem mu_stand (X : Stand p l e R s m args below meth c T locs cells slots) (cA cI : ClassId) (N M : Nat) (v : Value) :
    ∀ i, Stand p l e R s m args below meth c (mu_s T cA cI N M v i) (locs ++ (List.range i).map fun j => ⟨T.heap.size, j⟩) (cells + 1 + i) (slots + N + i * M)
  | 0 => by
    have h := X.pushed (mu_o cA N T.heap.size 0)
    rw [mu_o, arrV_size, ← mu_o] at h
    simpa [mu_s] using h
  | i + 1 => by
    have Xi := mu_stand X cA cI N M v i
    have hlt0 : T.heap.size < (mu_s T cA cI N M v i).heap.size := by rw [mu_size]; omega
    have hcell : ((mu_s T cA cI N M v i).pushCell (mu_i cI M v)).heap[T.heap.size]? = some (mu_o cA N T.heap.size i) := by rw [State.heap_pushCell_of_lt (h := hlt0)]; exact mu_at ..
    have h := (Xi.pushed (mu_i cI M v)).stored hcell i (.ref (T.heap.size + 1 + i))
    rw [mu_o_step, mu_i, arrV_size, ← mu_i] at h
    have e2 : (locs ++ (List.range (i + 1)).map fun j => (⟨T.heap.size, j⟩ : Loc)) = (locs ++ (List.range i).map fun j => (⟨T.heap.size, j⟩ : Loc)) ++ [⟨T.heap.size, i⟩] := by simp [List.range_succ, List.append_assoc]
    have e3 : slots + N + (i + 1) * M = slots + N + i * M + M := by rw [Nat.succ_mul]; omega
    rw [e2, e3]
    exact h
set_option maxHeartbeats 2000000 in
/-- the instruction: an outer array of N rows, M ints each, all 0 -/
theorem mu_new {cc : ByteArray} (hexec : p.tables.exec = Jvm.exec) (hb : c.code = cc) {own : String} {index pc : Nat} {ls : Array Slot} {rest : List Value} (hown : s.vm.findClass own = some m.cls) (hclink : (Cond.classLink own index ("[" ++ (FieldType.array .int).toString)).before args s = true)
    (hover : ∃ comp cA k, s.vm.findClass (FieldType.array .int).toString = some comp ∧ s.vm.classes[cA]? = some k ∧ k.kind = .array comp (.array .int) ∧ s.vm.findClass ("[" ++ (FieldType.array .int).toString) = some cA) (harr : (Cond.arrayClass .int).before args s = true)
    {n k : Int32} {N M : Nat} (hn : ¬ n < 0) (hk : ¬ k < 0) (hN : n.toNatClampNeg = N) (hM : k.toNatClampNeg = M) (hb1 : N * 4 ≤ 536870912) (hb2 : M * 4 ≤ 536870912) (hcells : cells + (1 + N) ≤ R.cells) (hslots : slots + (N + N * M) ≤ R.slots) (hdg : decode cc pc = .ok (.multianewarray index 2, 4))
    (kk : ∀ (cA cI : ClassId) (H1 : Heap) (locs1 : List Loc), H1.size = H.size + 1 + N → (∀ a, a < H.size → H1[a]? = H[a]?) → H1[H.size]? = some (mu_o cA N H.size N) → (∀ j, j < N → H1[H.size + 1 + j]? = some (mu_i cI M (.int 0))) → (∀ q ∈ locs1, q ∈ locs ∨ H.size ≤ q.base) →
      s.vm.findClass ("[" ++ (FieldType.array .int).toString) = some cA → s.vm.findClass (FieldType.array .int).toString = some cI → W p l e R s m args below meth c H1 locs1 (cells + 1 + N) (slots + N + N * M) Q (F0 m (pc + 4) ls (.ref H.size :: rest))) :
    W p l e R s m args below meth c H locs cells slots Q (F0 m pc ls (.int k :: .int n :: rest)) := by
  intro T hT X
  subst hT
  have hpl : e.platform.magicAccessors = ({} : Platform).magicAccessors := by rw [X.admits.platform]
  obtain ⟨comp, cA, kA, hcomp, hkA, hkindA, hnameA⟩ := hover
  obtain ⟨comp', kC, cc', hcomp', hkC, hkindC⟩ := Cond.arrayClass_spec harr
  have ecomp : comp' = comp := Option.some.inj (hcomp'.symm.trans hcomp)
  subst ecomp
  obtain ⟨c0, hfc0, hcl⟩ := Cond.classLink_spec hown hclink e.platform hpl
  cases hnameA.symm.trans hfc0
  obtain ⟨hg₁, hwarm₁, hready₁⟩ := State.classEntry (e := e) X.warmed hcl
  generalize T.vm.noted m.cls index (.cls cA) = vm₁ at hg₁ hwarm₁ hready₁
  obtain ⟨kA₁, hkA₁, heA⟩ := hwarm₁.alike.2.2 _ _ hkA
  obtain ⟨kC₁, hkC₁, heC⟩ := hwarm₁.alike.2.2 _ _ hkC
  have hkindA₁ : kA₁.kind = .array comp' (.array .int) := by rw [heA]; exact hkindA
  have hkindC₁ : kC₁.kind = .array cc' .int := by rw [heC]; exact hkindC
  have X₁ := X.noted hwarm₁
  obtain ⟨hr1, hr2⟩ := X.roomAbove hcells hslots
  have XF := mu_stand X₁ cA comp' N M (.int 0) N
  have z1 := mu_size (T.setVm vm₁) cA comp' N M (.int 0) N
  obtain ⟨t, a1, b1⟩ := kk cA comp' (mu_s (T.setVm vm₁) cA comp' N M (.int 0) N).heap _ z1 (fun a ha => mu_old (T.setVm vm₁) cA comp' N M (.int 0) ha N) (mu_at (T.setVm vm₁) cA comp' N M (.int 0) N) (fun j hj => mu_row (T.setVm vm₁) cA comp' N M (.int 0) N j hj)
    (fun q hq => by
      rcases List.mem_append.mp hq with h | h
      · exact Or.inl h
      · obtain ⟨j, -, rfl⟩ := List.mem_map.mp h
        exact Or.inr (Nat.le_refl _)) hnameA hcomp _ rfl XF
  refine ⟨t, ?_, b1⟩
  have hl1 : ¬ N > e.platform.arrayLengthLimit := by rw [Launch.admits_arrayLengthLimit X.admits]; omega
  have hh1 : ¬ N * 4 > e.platform.maxHeapBytes := by rw [Launch.admits_maxHeapBytes X.admits]; omega
  have hl2 : ¬ M > e.platform.arrayLengthLimit := by rw [Launch.admits_arrayLengthLimit X.admits]; omega
  have hh2 : ¬ M * 4 > e.platform.maxHeapBytes := by rw [Launch.admits_maxHeapBytes X.admits]; omega
  have hdg' : decode c.code pc = .ok (.multianewarray index 2, 4) := by rw [hb]; exact hdg
  have hAt : At T (F0 m pc ls (.int k :: .int n :: rest)).method c below := X.here
  jvm_step hAt [hexec, hdg']
  have hm1 : (T.setTop (F0 m pc ls (.int k :: .int n :: rest))).method? = some m := State.method?_setTop _ X.here.top
  simp only [Op.multianewarray.sem, wp_bind', Jvm.W.resolveClassAt_links hm1 hg₁]
  rw [Jvm.W.popN, if_neg (by decide)]
  refine ⟨F0 m pc ls (.int k :: .int n :: rest), State.topJava?_setTop' (s := T.setVm vm₁) _ X.here.top, [.int n, .int k], rest, rfl, rfl, ?_⟩
  simp only [List.mapM_cons, List.mapM_nil, wp_bind', wp_pure']
  refine mu_make (k := kA₁) (kc := kC₁) (comp := comp') (cc := cc') hkA₁ hkindA₁ hkC₁ hkindC₁ hn hk (by rw [hN]; exact hl1) (by rw [hN]; exact hh1) (by rw [hM]; exact hl2) (by rw [hM]; exact hh2) (by rw [hN]; exact hr1) (by rw [hN, hM]; exact hr2) (fun d' acts' => ?_)
  rw [hN, hM]
  have eS : ((T.setTop (F0 m pc ls (.int k :: .int n :: rest))).setVm vm₁).setTop (F0 m pc ls rest) = (T.setVm vm₁).setTop (F0 m pc ls rest) := by
    show ((T.setVm vm₁).setTop _).setTop _ = _
    rw [State.setTop_setTop]
  rw [eS, mu_top]
  simp only [wp_bind', Jvm.W.mark, Jvm.W.pushRef, State.topJava?_setTop' _ XF.here.top, Option.some.injEq, exists_eq_left', State.setTop_setTop, State.heap_setTop]
  intro acts
  simp [jvm, XF.here.top]
  exact a1
end
end MU
