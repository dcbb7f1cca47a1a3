/-! Calls that answer a reference whose address is known. -/
section BACKR
variable {p : Program} {l : Launch} {e : Env} {R : Room} {s : State} {m : MethodId} {args : Array Value} {below : List Frame} {meth : Method} {c : Code} {H H0 : Heap} {locs : List Loc} {cells slots mc ms pc : Nat} {Q : State → Prop} {ls : Array Slot} {st0 rest : List Value} {a : Array Value}
  {D : va_G} {A0 : Nat → Prop} {ws wc wr : va_W} {tys : List (ClassId × FieldType)}
theorem cl_r {S : Type} {post : S → Prop} {w1 : S → va_W} {t1 : S → List (ClassId × FieldType)} {ra : Nat} (hP : va_P D wcl ws H) (hD : va_D A0 ws) (hK : va_K D wcl tys s) (hS : va_S A0 H0 H locs) (hA : ∀ q, H0.size ≤ q → A0 q) (isC isR : List Nat) (hC : isC.map (fun i => ws[i]?) = wc.map some) (hR : isR.map (fun i => ws[i]?) = wr.map some) (hn : va_nd isR = true) (hdis : ∀ i ∈ isR, i ∉ isC)
    (hr : va_Run p l e R s m args below meth c H locs cells slots mc ms (F0 m pc ls st0) rest (va_Qr post (fun u x t => x = ra ∧ po D (va_A wc H.size) (w1 u) (t1 u) t) (va_A wc H.size) a) (va_A wc H.size))
    (kk : ∀ (u : S) (H1 : Heap) (locs1 : List Loc), post u → va_P D wcl (wr ++ w1 u) H1 → va_D A0 (wr ++ w1 u) → va_K D wcl (tys ++ t1 u) s → va_S A0 H0 H1 locs1 → W p l e R s m args below meth c H1 locs1 (cells + mc) (slots + ms) Q (F0 m (pc + 3) ls (.ref ra :: rest))) :
    W p l e R s m args below meth c H locs cells slots Q (F0 m pc ls st0) := by
  have hFc : ∀ q, va_A wc H.size q → A0 q := va_free hD hS hA isC hC
  refine va_callr hr hS (fun q _ h => hFc q h) hFc (fun u x t H1 locs1 ht hvm hp hB hz1 hk1 hS1 => ?_)
  obtain ⟨rfl, hP1, hK1, hD1⟩ := hB
  rw [ht] at hP1
  obtain ⟨hP2, hD2⟩ := va_join (wr := wr) (w1 := w1 u) hP hD isC isR hC hR hn hdis hk1 hFc hP1 hD1
  exact kk u H1 locs1 hp hP2 hD2 (hK.app (va_K.moved hvm.symm hK1)) hS1
end BACKR
theorem cx.blind {A : Nat → Prop} {U : State} (g : JFrame) (mk : MethodId) (a : Array Value) (h : cx A U U.heap) : cx A (U.calling g mk a) (U.calling g mk a).heap :=
  ⟨h.1.blind g mk a, h.2.1.moved (U := U.calling g mk a) (Vm.Alike.refl U.vm), h.2.2.moved (U := U.calling g mk a) (Vm.Alike.refl U.vm)⟩
theorem cx.narrow {A B : Nat → Prop} {U : State} {H : Heap} (h : cx A U H) (hAB : ∀ q, B q → A q) : cx B U H := ⟨h.1, h.2.1.narrow hAB, h.2.2.narrow hAB⟩
theorem cx.go {A : Nat → Prop} {s U : State} {H : Heap} {locs : List Loc} (h : cx A s s.heap) (hS : va_S A s.heap H locs) (hU : U.heap = H) (hW : s.WarmedH U.vm) : cx A U U.heap :=
  ⟨h.1.warm hW, (h.2.1.moved hW.alike).kept (fun a h1 h2 => by rw [hU]; exact hS.2.1 a h1 h2), (h.2.2.moved hW.alike).kept (fun a h1 h2 => by rw [hU]; exact hS.2.1 a h1 h2)⟩
/-- how a method ends that throws an xN: its world as told -/
def px (xN : String) (D : va_G) (A : Nat → Prop) (ws : va_W) (tys : List (ClassId × FieldType)) : Array Value → State → Outcome → State → Prop := fun _ st o t =>
  (∃ (x : Nat) (ce : Cell), o = .threw x ∧ t.heap[x]? = some ce ∧ t.vm.findClass xN = some ce.cls ∧ t.vm.assignable ce.cls ce.cls = true ∧ ce.vm = .none ∧ po D A ws tys t) ∧ va_F A st t
theorem px_of {xN : String} {D : va_G} {A : Nat → Prop} {ws : va_W} {tys : List (ClassId × FieldType)} {s t : State} {H : Heap} {locs : List Loc} {a : Array Value} {ce : Cell} (hP : va_P D wcl ws H) (hK : va_K D wcl tys s) (hD : va_D A ws) (hS : va_S A s.heap H locs)
    (o1 : ∀ q : Nat, q < H.size → t.heap[q]? = H[q]?) (z1 : t.heap.size = H.size + 1) (e1 : t.heap[H.size]? = some ce) (n1 : t.vm.findClass xN = some ce.cls) (a1 : t.vm.assignable ce.cls ce.cls = true) (v1 : ce.vm = .none) (w1 : s.WarmedH t.vm) : px xN D A ws tys a s (.threw H.size) t :=
  ⟨⟨H.size, ce, rfl, e1, n1, a1, v1, hP.kept (fun k q hq => o1 q.1 ((hP k q hq).lt)), va_K.moved w1.alike hK, hD⟩, Nat.le_trans hS.1 (by omega), fun q h1 h2 => (o1 q (Nat.lt_of_lt_of_le h1 hS.1)).trans (hS.2.1 q h1 h2)⟩
theorem po_nil {D : va_G} {A : Nat → Prop} {tys : List (ClassId × FieldType)} {s t : State} (hK : va_K D wcl tys s) (hW : s.WarmedH t.vm) : po D A [] [] t :=
  ⟨fun k q h => (nomatch (by simpa using h : False)), va_K.moved hW.alike (hK.sub [] rfl), ⟨fun i j a b h => (nomatch (by simpa using h : False)), fun k q h => (nomatch (by simpa using h : False))⟩⟩
section BACKX
variable {p : Program} {l : Launch} {e : Env} {R : Room} {s : State} {m : MethodId} {args : Array Value} {below : List Frame} {meth : Method} {c : Code} {H H0 : Heap} {locs : List Loc} {cells slots mc ms pc : Nat} {Q : State → Prop} {ls : Array Slot} {st0 rest : List Value} {a : Array Value}
  {D : va_G} {A0 : Nat → Prop} {ws wc wr : va_W} {tys : List (ClassId × FieldType)}
theorem cl_x {S : Type} {post : Int32 → S → Prop} {w1 : S → va_W} {t1 : S → List (ClassId × FieldType)} (hP : va_P D wcl ws H) (hD : va_D A0 ws) (hK : va_K D wcl tys s) (hS : va_S A0 H0 H locs) (hA : ∀ q, H0.size ≤ q → A0 q) (isC isR : List Nat) (hC : isC.map (fun i => ws[i]?) = wc.map some) (hR : isR.map (fun i => ws[i]?) = wr.map some) (hn : va_nd isR = true) (hdis : ∀ i ∈ isR, i ∉ isC)
    (hr : ex_Run p l e R s m args below meth c H locs cells slots mc ms (F0 m pc ls st0) rest (va_Qi post (fun u t => po D (va_A wc H.size) (w1 u) (t1 u) t) (va_A wc H.size) a) (va_A wc H.size))
    (kk : ∀ (r : Int32) (u : S) (H1 : Heap) (locs1 : List Loc), post r u → va_P D wcl (wr ++ w1 u) H1 → va_D A0 (wr ++ w1 u) → va_K D wcl (tys ++ t1 u) s → va_S A0 H0 H1 locs1 → W p l e R s m args below meth c H1 locs1 (cells + mc) (slots + ms) Q (F0 m (pc + 3) ls (.int r :: rest))) :
    W p l e R s m args below meth c H locs cells slots Q (F0 m pc ls st0) := by
  have hFc : ∀ q, va_A wc H.size q → A0 q := va_free hD hS hA isC hC
  refine ex_call hr hS hFc (fun st o t h => ⟨h.2.1, fun q h1 h2 => h.2.2 q h1 (fun z => h2 (hFc q z))⟩) (fun v st t H1 locs1 h0 ht hal hq hS1 => ?_) (fun x st t H1 locs1 h0 ht hal hq hS1 => ?_)
  · obtain ⟨⟨r, u, hv, hp, hP1, hK1, hD1⟩, hz, hk⟩ := hq
    cases hv
    rw [ht] at hP1
    obtain ⟨hP2, hD2⟩ := va_join (wr := wr) (w1 := w1 u) hP hD isC isR hC hR hn hdis (fun q h1 h2 => by rw [← ht, hk q (by rw [h0]; exact h1) h2, h0]) hFc hP1 hD1
    exact kk r u H1 locs1 hp hP2 hD2 (hK.app (va_K.moved hal.symm hK1)) hS1
  · obtain ⟨⟨r, u, hv, -⟩, -⟩ := hq
    cases hv
end BACKX
