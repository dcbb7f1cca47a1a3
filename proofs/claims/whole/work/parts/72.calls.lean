/-! Calls in a world that is any arrangement of the callee's cells and the others. -/
theorem fm_range {α : Type} (X : List α) : (List.range X.length).filterMap (fun i => X[i]?) = X := by
  have h1 : (List.range X.length).map (fun i => X[i]?) = X.map some := by
    apply List.ext_getElem?
    intro i
    rw [List.getElem?_map, List.getElem?_map]
    rcases Nat.lt_or_ge i X.length with h | h
    · rw [List.getElem?_range h]
      simp [h]
    · rw [List.getElem?_eq_none (by simpa using h), List.getElem?_eq_none h]
      rfl
  have h2 : (List.range X.length).filterMap (fun i => X[i]?) = ((List.range X.length).map (fun i => X[i]?)).filterMap id := by simp [List.filterMap_map]
  rw [h2, h1]
  simp [List.filterMap_map]
theorem fm_of {α : Type} {X wc : List α} {is : List Nat} (h : is.map (fun i => X[i]?) = wc.map some) : is.filterMap (fun i => X[i]?) = wc := by
  have h1 : is.filterMap (fun i => X[i]?) = (is.map (fun i => X[i]?)).filterMap id := by simp [List.filterMap_map]
  rw [h1, h]
  simp [List.filterMap_map]
theorem pm_ix {X wc wr : va_W} (n : Nat) (isC isR : List Nat) (hn : X.length = n) (hC : isC.map (fun i => X[i]?) = wc.map some) (hR : isR.map (fun i => X[i]?) = wr.map some) (hp : (List.range n).Perm (isC ++ isR)) : X.Perm (wc ++ wr) := by
  have h := hp.filterMap (fun i => X[i]?)
  rw [← hn, fm_range, List.filterMap_append, fm_of hC, fm_of hR] at h
  exact h
theorem pm_i2 {X wc wr B : va_W} (h : X.Perm (wc ++ wr)) : (X ++ B).Perm (wc ++ (wr ++ B)) := by
  rw [← List.append_assoc]
  exact h.append_right B
theorem pm_i3 {X wc wr A : va_W} (h : X.Perm (wc ++ wr)) : (X ++ A).Perm ((wc ++ A) ++ wr) := by
  refine (h.append_right A).trans ?_
  rw [List.append_assoc, List.append_assoc]
  exact List.perm_append_comm.append_left wc
theorem pm_i4 {X wc wr A B : va_W} (h : X.Perm (wc ++ wr)) : (X ++ (A ++ B)).Perm ((wc ++ A) ++ (wr ++ B)) := by
  refine (h.append_right (A ++ B)).trans ?_
  rw [List.append_assoc, List.append_assoc, ← List.append_assoc wr A B, ← List.append_assoc A wr B]
  exact (List.perm_append_comm.append_right B).append_left wc
theorem pm_i5 {X wc wr A B : va_W} (h : X.Perm (wc ++ wr)) : (X ++ (A ++ B)).Perm ((wc ++ B) ++ (wr ++ A)) := (List.perm_append_comm.append_left X).trans (pm_i4 h)
theorem pm_o2 {rx n B : va_W} : ((rx ++ B) ++ n).Perm ((rx ++ n) ++ B) := by
  rw [List.append_assoc, List.append_assoc]
  exact List.perm_append_comm.append_left rx
theorem pm_o3 {rx n A : va_W} : (rx ++ (n ++ A)).Perm ((rx ++ n) ++ A) := by rw [List.append_assoc]
theorem pm_o4 {rx n A B : va_W} : ((rx ++ B) ++ (n ++ A)).Perm ((rx ++ n) ++ (A ++ B)) := by
  rw [List.append_assoc, List.append_assoc]
  refine List.Perm.append_left rx ?_
  rw [← List.append_assoc n A B]
  exact List.perm_append_comm
theorem pm_o5 {rx n A B : va_W} : ((rx ++ A) ++ (n ++ B)).Perm ((rx ++ n) ++ (A ++ B)) := pm_o4.trans (List.perm_append_comm.append_left _)
theorem va_joinG {A0 : Nat → Prop} {D : va_G} {cl : List vw_C} {ws wc wr w1 : va_W} {H H1 : Heap} (hP : va_P D cl ws H) (hD : va_D A0 ws) (hp : ws.Perm (wc ++ wr))
    (hk : ∀ q : Nat, q < H.size → ¬ va_A wc H.size q → H1[q]? = H[q]?) (hF : ∀ q, va_A wc H.size q → A0 q) (hP1 : va_P D cl w1 H1) (hD1 : va_D (va_A wc H.size) w1) : va_P D cl (wr ++ w1) H1 ∧ va_D A0 (wr ++ w1) := by
  have hP := hP.pm hp
  have hD := hD.pm hp
  have at' : ∀ (k : Nat) (q : Nat × va_E), wr[k]? = some q → (wc ++ wr)[wc.length + k]? = some q := fun k q hq => by
    rw [List.getElem?_append_right (Nat.le_add_right _ _), Nat.add_sub_cancel_left]
    exact hq
  have apart : ∀ (k : Nat) (q : Nat × va_E), wr[k]? = some q → q.1 < H.size ∧ ¬ va_A wc H.size q.1 := by
    intro k q hq
    have h2 := at' k q hq
    have hl := (hP _ q h2).lt
    refine ⟨hl, fun h => ?_⟩
    rcases h with ⟨k2, e, h⟩ | h
    · have h3 := (List.getElem?_eq_some_iff.mp h).1
      have h4 : (wc ++ wr)[k2]? = some (q.1, e) := by rw [List.getElem?_append_left h3]; exact h
      have := hD.1 _ _ q (q.1, e) h2 h4 rfl
      omega
    · omega
  refine ⟨va_P.app (fun k q hq => ?_) hP1, va_D.app ⟨fun i j x y hx hy hxy => ?_, fun k q hq => hD.2 _ q (at' k q hq)⟩ (hD1.weaken (fun k q _ h => hF q.1 h)) (fun i j x y hx hy hxy => ?_)⟩
  · obtain ⟨g1, g2⟩ := apart k q hq
    exact (hP _ q (at' k q hq)).kept (hk q.1 g1 g2)
  · have := hD.1 _ _ x y (at' i x hx) (at' j y hy) hxy
    omega
  · exact (apart i x hx).2 (by rw [hxy]; exact hD1.2 j y hy)
theorem va_freeG {A0 : Nat → Prop} {ws wc wr : va_W} {H0 H : Heap} {locs : List Loc} (hD : va_D A0 ws) (hS : va_S A0 H0 H locs) (hA : ∀ q, H0.size ≤ q → A0 q) (hp : ws.Perm (wc ++ wr)) : ∀ q, va_A wc H.size q → A0 q := fun q h => by
  rcases h with ⟨k, e, h⟩ | h
  · exact (hD.pm hp).lft.2 k (q, e) h
  · exact hA q (Nat.le_trans hS.1 h)
section PREG
variable {s : State} {H : Heap} {D : va_G} {A0 : Nat → Prop} {ws wc wr : va_W} {tys tc : List (ClassId × FieldType)} {E : State → Prop} {As : List Value} {b : Nat}
theorem pr_atG (hP : va_P D wcl ws H) (hD : va_D A0 ws) (hK : va_K D wcl tys s) (hp : ws.Perm (wc ++ wr)) (isT : List Nat) (hT : isT.filterMap (fun i => tys[i]?) = tc) {av : List Value} {U : State} (hU : U.heap = H) (hW : s.WarmedH U.vm) (hE : E U) : va_Pc av (pr D H.size wc tc E) av.toArray U :=
  ⟨rfl, by rw [hU], by rw [hU]; exact (hP.pm hp).lft, va_K.moved hW.alike (hK.sub isT hT), ((hD.pm hp).lft).weaken (fun _ _ _ _ => trivial), hE⟩
theorem pr_SG (hP : va_P D wcl ws H) (hD : va_D A0 ws) (hK : va_K D wcl tys s) (hp : ws.Perm (wc ++ wr)) (isT : List Nat) (hT : isT.filterMap (fun i => tys[i]?) = tc) (hE : ∀ U : State, U.heap = H → s.WarmedH U.vm → E U) (hEb : ∀ (U : State) (g : JFrame) (mk : MethodId) (a : Array Value), E U → E (U.calling g mk a)) : PreS s H (va_Pc As (pr D H.size wc tc E)) As :=
  ⟨pr_blind hEb, fun U hU hW => pr_atG hP hD hK hp isT hT hU hW (hE U hU hW)⟩
theorem pr_VG (hP : va_P D wcl ws H) (hD : va_D A0 ws) (hK : va_K D wcl tys s) (hp : ws.Perm (wc ++ wr)) (isT : List Nat) (hT : isT.filterMap (fun i => tys[i]?) = tc) (hE : ∀ U : State, U.heap = H → s.WarmedH U.vm → E U) (hEb : ∀ (U : State) (g : JFrame) (mk : MethodId) (a : Array Value), E U → E (U.calling g mk a))
    {q0 ci : Nat} {q : vw_C} {fs : List Value} (hc : wcl[ci]? = some q) (he : wc[q0]? = some (b, .inr (ci, fs))) : PreV s H q.1 b (va_Pc (.ref b :: As) (pr D H.size wc tc E)) As :=
  ⟨pr_blind hEb, va_recv hK (hP.pm hp).lft hc he, fun U hU hW => pr_atG hP hD hK hp isT hT hU hW (hE U hU hW)⟩
end PREG
section BACKG
variable {p : Program} {l : Launch} {e : Env} {R : Room} {s : State} {m : MethodId} {args : Array Value} {below : List Frame} {meth : Method} {c : Code} {H H0 : Heap} {locs : List Loc} {cells slots mc ms pc : Nat} {Q : State → Prop} {ls : Array Slot} {st0 rest : List Value} {a : Array Value}
  {D : va_G} {A0 : Nat → Prop} {ws wc wr : va_W} {tys : List (ClassId × FieldType)}
theorem cl_vG {S : Type} {post : S → Prop} {w1 : S → va_W} {t1 : S → List (ClassId × FieldType)} (hP : va_P D wcl ws H) (hD : va_D A0 ws) (hK : va_K D wcl tys s) (hS : va_S A0 H0 H locs) (hA : ∀ q, H0.size ≤ q → A0 q) (hp : ws.Perm (wc ++ wr))
    (hr : va_Run p l e R s m args below meth c H locs cells slots mc ms (F0 m pc ls st0) rest (va_Qv post (fun u t => po D (va_A wc H.size) (w1 u) (t1 u) t) (va_A wc H.size) a) (va_A wc H.size))
    (kk : ∀ (u : S) (H1 : Heap) (locs1 : List Loc), post u → va_P D wcl (wr ++ w1 u) H1 → va_D A0 (wr ++ w1 u) → va_K D wcl (tys ++ t1 u) s → va_S A0 H0 H1 locs1 → W p l e R s m args below meth c H1 locs1 (cells + mc) (slots + ms) Q (F0 m (pc + 3) ls rest)) :
    W p l e R s m args below meth c H locs cells slots Q (F0 m pc ls st0) := by
  have hFc := va_freeG hD hS hA hp
  refine va_callv hr hS (fun q _ h => hFc q h) hFc (fun u t H1 locs1 ht hvm hq hB hz1 hk1 hS1 => ?_)
  obtain ⟨hP1, hK1, hD1⟩ := hB
  rw [ht] at hP1
  obtain ⟨hP2, hD2⟩ := va_joinG hP hD hp hk1 hFc hP1 hD1
  exact kk u H1 locs1 hq hP2 hD2 (hK.app (va_K.moved hvm.symm hK1)) hS1
theorem cl_iG {S : Type} {post : Int32 → S → Prop} {w1 : S → va_W} {t1 : S → List (ClassId × FieldType)} (hP : va_P D wcl ws H) (hD : va_D A0 ws) (hK : va_K D wcl tys s) (hS : va_S A0 H0 H locs) (hA : ∀ q, H0.size ≤ q → A0 q) (hp : ws.Perm (wc ++ wr))
    (hr : va_Run p l e R s m args below meth c H locs cells slots mc ms (F0 m pc ls st0) rest (va_Qi post (fun u t => po D (va_A wc H.size) (w1 u) (t1 u) t) (va_A wc H.size) a) (va_A wc H.size))
    (kk : ∀ (r : Int32) (u : S) (H1 : Heap) (locs1 : List Loc), post r u → va_P D wcl (wr ++ w1 u) H1 → va_D A0 (wr ++ w1 u) → va_K D wcl (tys ++ t1 u) s → va_S A0 H0 H1 locs1 → W p l e R s m args below meth c H1 locs1 (cells + mc) (slots + ms) Q (F0 m (pc + 3) ls (.int r :: rest))) :
    W p l e R s m args below meth c H locs cells slots Q (F0 m pc ls st0) := by
  have hFc := va_freeG hD hS hA hp
  refine va_calli hr hS (fun q _ h => hFc q h) hFc (fun r u t H1 locs1 ht hvm hq hB hz1 hk1 hS1 => ?_)
  obtain ⟨hP1, hK1, hD1⟩ := hB
  rw [ht] at hP1
  obtain ⟨hP2, hD2⟩ := va_joinG hP hD hp hk1 hFc hP1 hD1
  exact kk r u H1 locs1 hq hP2 hD2 (hK.app (va_K.moved hvm.symm hK1)) hS1
/-- a call of a method that returns or throws -/
theorem cl_X {S : Type} {p1 : Option Value → S → Prop} {p2 : String → S → Prop} {w1 : S → va_W} {t1 : S → List (ClassId × FieldType)} (hP : va_P D wcl ws H) (hD : va_D A0 ws) (hK : va_K D wcl tys s) (hS : va_S A0 H0 H locs) (hA : ∀ q, H0.size ≤ q → A0 q) (hp : ws.Perm (wc ++ wr))
    (hr : ey_Run p l e R s m args below meth c H locs cells slots (F0 m pc ls st0) rest (vx p1 p2 (fun u t => po D (va_A wc H.size) (w1 u) (t1 u) t) (va_A wc H.size) a) (va_A wc H.size))
    (kr : ∀ (v : Option Value) (u : S) (H1 : Heap) (locs1 : List Loc), p1 v u → va_P D wcl (wr ++ w1 u) H1 → va_D A0 (wr ++ w1 u) → va_K D wcl (tys ++ t1 u) s → va_S A0 H0 H1 locs1 → W p l e R s m args below meth c H1 locs1 cells slots Q (F0 m (pc + 3) ls (v.toList ++ rest)))
    (kt : ∀ (xN : String) (x : Nat) (ce : Cell) (u : S) (H1 : Heap) (locs1 : List Loc), p2 xN u → va_P D wcl (wr ++ w1 u) H1 → va_D A0 (wr ++ w1 u) → va_K D wcl (tys ++ t1 u) s → va_S A0 H0 H1 locs1 → H1[x]? = some ce → s.vm.findClass xN = some ce.cls → s.vm.assignable ce.cls ce.cls = true → ce.vm = .none → ex_T p l e R s m args below meth c H1 locs1 (cells + 1) (slots + 6) Q (F0 m pc ls rest) x) :
    W p l e R s m args below meth c H locs cells slots Q (F0 m pc ls st0) := by
  have hFc := va_freeG hD hS hA hp
  refine ey_call hr hS hFc (fun st o t h => ⟨h.2.1, fun q h1 h2 => h.2.2 q h1 (fun z => h2 (hFc q z))⟩) (fun v st t H1 locs1 h0 ht hal hq hS1 => ?_) (fun x st t H1 locs1 h0 ht hal hq hS1 => ?_)
  · obtain ⟨⟨u, hk0, hP1, hK1, hD1⟩, hz, hk⟩ := hq
    rcases hk0 with ⟨v2, h9, hpo⟩ | ⟨xN, ⟨x, ce, h9, -⟩, -⟩
    · cases h9
      rw [ht] at hP1
      obtain ⟨hP2, hD2⟩ := va_joinG hP hD hp (fun q h1 h2 => by rw [← ht, hk q (by rw [h0]; exact h1) h2, h0]) hFc hP1 hD1
      exact kr v u H1 locs1 hpo hP2 hD2 (hK.app (va_K.moved hal.symm hK1)) hS1
    · cases h9
  · obtain ⟨⟨u, hk0, hP1, hK1, hD1⟩, hz, hk⟩ := hq
    rcases hk0 with ⟨v2, h9, -⟩ | ⟨xN, ⟨x2, ce, h9, e1, n1, a1, v1⟩, hpo⟩
    · cases h9
    · cases h9
      rw [ht] at hP1 e1
      rw [hal.findClass] at n1
      rw [hal.assignable] at a1
      obtain ⟨hP2, hD2⟩ := va_joinG hP hD hp (fun q h1 h2 => by rw [← ht, hk q (by rw [h0]; exact h1) h2, h0]) hFc hP1 hD1
      exact kt xN x ce u H1 locs1 hpo hP2 hD2 (hK.app (va_K.moved hal.symm hK1)) hS1 e1 n1 a1 v1
end BACKG
section BACKT
variable {p : Program} {l : Launch} {e : Env} {R : Room} {s : State} {m : MethodId} {args : Array Value} {below : List Frame} {meth : Method} {c : Code} {H : Heap} {locs : List Loc} {pc : Nat} {ls : Array Slot} {st0 rest : List Value} {a : Array Value}
  {D : va_G} {A0 : Nat → Prop} {ws wc wr : va_W} {tys : List (ClassId × FieldType)}
/-- the same, what it throws being thrown on -/
theorem cl_XT {S S2 : Type} {p1 : Option Value → S → Prop} {p2 : String → S → Prop} {w1 : S → va_W} {t1 : S → List (ClassId × FieldType)} {q1 : Option Value → S2 → Prop} {q2 : String → S2 → Prop} {w2 : S2 → va_W} {t2 : S2 → List (ClassId × FieldType)} (hP : va_P D wcl ws H) (hD : va_D A0 ws) (hK : va_K D wcl tys s) (hS : va_S A0 s.heap H locs) (hA : ∀ q, s.heap.size ≤ q → A0 q) (hno : ∀ x ∈ c.exceptionTable.toList, ∀ pc, covers x pc = false) (hlocks : meth.locks = false) (hp : ws.Perm (wc ++ wr))
    (hr : ey_Run p l e R s m args below meth c H locs 0 0 (F0 m pc ls st0) rest (vx p1 p2 (fun u t => po D (va_A wc H.size) (w1 u) (t1 u) t) (va_A wc H.size) a) (va_A wc H.size))
    (kr : ∀ (v : Option Value) (u : S) (H1 : Heap) (locs1 : List Loc), p1 v u → va_P D wcl (wr ++ w1 u) H1 → va_D A0 (wr ++ w1 u) → va_K D wcl (tys ++ t1 u) s → va_S A0 s.heap H1 locs1 → W p l e R s m args below meth c H1 locs1 0 0 (ey_MQ below (vx q1 q2 (fun u t => po D A0 (w2 u) (t2 u) t) A0) args s A0) (F0 m (pc + 3) ls (v.toList ++ rest)))
    (kt : ∀ (xN : String) (u : S) (H : Heap), p2 xN u → va_P D wcl (wr ++ w1 u) H → va_D A0 (wr ++ w1 u) → va_K D wcl (tys ++ t1 u) s → ∃ u2, q2 xN u2 ∧ va_P D wcl (w2 u2) H ∧ va_D A0 (w2 u2) ∧ va_K D wcl (t2 u2) s) :
    W p l e R s m args below meth c H locs 0 0 (ey_MQ below (vx q1 q2 (fun u t => po D A0 (w2 u) (t2 u) t) A0) args s A0) (F0 m pc ls st0) := by
  refine cl_X hP hD hK hS hA hp hr kr (fun xN x ce u H1 locs1 hpo hP1 hD1 hK1 hS1 e1 n1 a1 v1 => ?_)
  obtain ⟨u2, hp2, hP2, hD2, hK2⟩ := kt xN u H1 hpo hP1 hD1 hK1
  refine ey_leave rfl rfl rfl (fun y hy => hno y hy _) hlocks (fun t ht hW => ?_) hS1.2.2
  exact ⟨⟨u2, Or.inr ⟨xN, ⟨x, ce, rfl, by rw [ht]; exact e1, by rw [hW.alike.findClass]; exact n1, by rw [hW.alike.assignable]; exact a1, v1⟩, hp2⟩, by rw [ht]; exact hP2, va_K.moved hW.alike hK2, hD2⟩, hS1.F ht⟩
end BACKT
theorem met_mono {l : Launch} {y : MethodName} {ws : List Cond} {rm : Room} {Pc : Array Value → State → Prop} {Qc Qd : Array Value → State → Outcome → State → Prop} {mc ms : Nat} {free : Addr → Prop} (h : Met l y ws rm Pc Qc mc ms free) (hq : ∀ a st o t, Qc a st o t → Qd a st o t) : Met l y ws rm Pc Qd mc ms free := by
  intro p e ha hc hk s m args below hf happ hP hK
  obtain ⟨n, o, h1, h2, h3, h4, h5⟩ := h p e ha hc hk s m args below hf happ hP hK
  exact ⟨n, o, h1, h2, h3, hq _ _ _ _ h4, h5⟩
