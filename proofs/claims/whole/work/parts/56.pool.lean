/-! Calls of methods that have the things behind in their own world. -/
section PREP
variable {s : State} {H : Heap} {D : va_G} {A0 : Nat → Prop} {ws wc pl : va_W} {tys tc : List (ClassId × FieldType)} {E : State → Prop} {As : List Value} {b : Nat}
theorem pr_atP (hP : va_P D wcl (ws ++ pl) H) (hD : va_D A0 (ws ++ pl)) (hK : va_K D wcl tys s) (isC isT : List Nat) (hn : va_nd isC = true) (hC : isC.map (fun i => ws[i]?) = wc.map some) (hT : isT.filterMap (fun i => tys[i]?) = tc) {av : List Value} {U : State} (hU : U.heap = H) (hW : s.WarmedH U.vm) (hE : E U) : va_Pc av (pr D H.size (wc ++ pl) tc E) av.toArray U :=
  ⟨rfl, by rw [hU], by rw [hU]; exact hP.part isC hC, va_K.moved hW.alike (hK.sub isT hT), (hD.part isC hn hC).weaken (fun _ _ _ _ => trivial), hE⟩
theorem pr_SP (hP : va_P D wcl (ws ++ pl) H) (hD : va_D A0 (ws ++ pl)) (hK : va_K D wcl tys s) (isC isT : List Nat) (hn : va_nd isC = true) (hC : isC.map (fun i => ws[i]?) = wc.map some) (hT : isT.filterMap (fun i => tys[i]?) = tc) (hE : ∀ U : State, U.heap = H → s.WarmedH U.vm → E U) (hEb : ∀ (U : State) (g : JFrame) (mk : MethodId) (a : Array Value), E U → E (U.calling g mk a)) : PreS s H (va_Pc As (pr D H.size (wc ++ pl) tc E)) As :=
  ⟨pr_blind hEb, fun U hU hW => pr_atP hP hD hK isC isT hn hC hT hU hW (hE U hU hW)⟩
theorem pr_VP (hP : va_P D wcl (ws ++ pl) H) (hD : va_D A0 (ws ++ pl)) (hK : va_K D wcl tys s) (isC isT : List Nat) (hn : va_nd isC = true) (hC : isC.map (fun i => ws[i]?) = wc.map some) (hT : isT.filterMap (fun i => tys[i]?) = tc) (hE : ∀ U : State, U.heap = H → s.WarmedH U.vm → E U) (hEb : ∀ (U : State) (g : JFrame) (mk : MethodId) (a : Array Value), E U → E (U.calling g mk a))
    {q0 ci : Nat} {q : vw_C} {fs : List Value} (hc : wcl[ci]? = some q) (he : ws[q0]? = some (b, .inr (ci, fs))) : PreV s H q.1 b (va_Pc (.ref b :: As) (pr D H.size (wc ++ pl) tc E)) As :=
  ⟨pr_blind hEb, va_recv hK hP.lft hc he, fun U hU hW => pr_atP hP hD hK isC isT hn hC hT hU hW (hE U hU hW)⟩
end PREP
section BACKP
variable {p : Program} {l : Launch} {e : Env} {R : Room} {s : State} {m : MethodId} {args : Array Value} {below : List Frame} {meth : Method} {c : Code} {H H0 : Heap} {locs : List Loc} {cells slots mc ms pc : Nat} {Q : State → Prop} {ls : Array Slot} {st0 rest : List Value} {a : Array Value}
  {D : va_G} {A0 : Nat → Prop} {ws wc wr pl : va_W} {tys : List (ClassId × FieldType)}
theorem cl_vP {S : Type} {post : S → Prop} {w1 pl1 : S → va_W} {t1 : S → List (ClassId × FieldType)} (hP : va_P D wcl (ws ++ pl) H) (hD : va_D A0 (ws ++ pl)) (hK : va_K D wcl tys s) (hS : va_S A0 H0 H locs) (hA : ∀ q, H0.size ≤ q → A0 q) (isC isR : List Nat) (hC : isC.map (fun i => ws[i]?) = wc.map some) (hR : isR.map (fun i => ws[i]?) = wr.map some) (hn : va_nd isR = true) (hdis : ∀ i ∈ isR, i ∉ isC)
    (hr : va_Run p l e R s m args below meth c H locs cells slots mc ms (F0 m pc ls st0) rest (va_Qv post (fun u t => po D (va_A (wc ++ pl) H.size) (w1 u ++ pl1 u) (t1 u) t) (va_A (wc ++ pl) H.size) a) (va_A (wc ++ pl) H.size))
    (kk : ∀ (u : S) (H1 : Heap) (locs1 : List Loc), post u → va_P D wcl ((wr ++ w1 u) ++ pl1 u) H1 → va_D A0 ((wr ++ w1 u) ++ pl1 u) → va_K D wcl (tys ++ t1 u) s → va_S A0 H0 H1 locs1 → W p l e R s m args below meth c H1 locs1 (cells + mc) (slots + ms) Q (F0 m (pc + 3) ls rest)) :
    W p l e R s m args below meth c H locs cells slots Q (F0 m pc ls st0) := by
  have hFc : ∀ q, va_A (wc ++ pl) H.size q → A0 q := va_freeP hD hS hA isC hC
  refine va_callv hr hS (fun q _ h => hFc q h) hFc (fun u t H1 locs1 ht hvm hp hB hz1 hk1 hS1 => ?_)
  obtain ⟨hP1, hK1, hD1⟩ := hB
  rw [ht] at hP1
  obtain ⟨hP2, hD2⟩ := va_joinP (wr := wr) (rx := w1 u) (pl1 := pl1 u) hP hD isC isR hC hR hn hdis hk1 hFc hP1 hD1
  exact kk u H1 locs1 hp hP2 hD2 (hK.app (va_K.moved hvm.symm hK1)) hS1
theorem cl_iP {S : Type} {post : Int32 → S → Prop} {w1 pl1 : S → va_W} {t1 : S → List (ClassId × FieldType)} (hP : va_P D wcl (ws ++ pl) H) (hD : va_D A0 (ws ++ pl)) (hK : va_K D wcl tys s) (hS : va_S A0 H0 H locs) (hA : ∀ q, H0.size ≤ q → A0 q) (isC isR : List Nat) (hC : isC.map (fun i => ws[i]?) = wc.map some) (hR : isR.map (fun i => ws[i]?) = wr.map some) (hn : va_nd isR = true) (hdis : ∀ i ∈ isR, i ∉ isC)
    (hr : va_Run p l e R s m args below meth c H locs cells slots mc ms (F0 m pc ls st0) rest (va_Qi post (fun u t => po D (va_A (wc ++ pl) H.size) (w1 u ++ pl1 u) (t1 u) t) (va_A (wc ++ pl) H.size) a) (va_A (wc ++ pl) H.size))
    (kk : ∀ (r : Int32) (u : S) (H1 : Heap) (locs1 : List Loc), post r u → va_P D wcl ((wr ++ w1 u) ++ pl1 u) H1 → va_D A0 ((wr ++ w1 u) ++ pl1 u) → va_K D wcl (tys ++ t1 u) s → va_S A0 H0 H1 locs1 → W p l e R s m args below meth c H1 locs1 (cells + mc) (slots + ms) Q (F0 m (pc + 3) ls (.int r :: rest))) :
    W p l e R s m args below meth c H locs cells slots Q (F0 m pc ls st0) := by
  have hFc : ∀ q, va_A (wc ++ pl) H.size q → A0 q := va_freeP hD hS hA isC hC
  refine va_calli hr hS (fun q _ h => hFc q h) hFc (fun r u t H1 locs1 ht hvm hp hB hz1 hk1 hS1 => ?_)
  obtain ⟨hP1, hK1, hD1⟩ := hB
  rw [ht] at hP1
  obtain ⟨hP2, hD2⟩ := va_joinP (wr := wr) (rx := w1 u) (pl1 := pl1 u) hP hD isC isR hC hR hn hdis hk1 hFc hP1 hD1
  exact kk r u H1 locs1 hp hP2 hD2 (hK.app (va_K.moved hvm.symm hK1)) hS1
theorem cl_rP {S : Type} {post : S → Prop} {w1 pl1 : S → va_W} {t1 : S → List (ClassId × FieldType)} {ra : Nat} (hP : va_P D wcl (ws ++ pl) H) (hD : va_D A0 (ws ++ pl)) (hK : va_K D wcl tys s) (hS : va_S A0 H0 H locs) (hA : ∀ q, H0.size ≤ q → A0 q) (isC isR : List Nat) (hC : isC.map (fun i => ws[i]?) = wc.map some) (hR : isR.map (fun i => ws[i]?) = wr.map some) (hn : va_nd isR = true) (hdis : ∀ i ∈ isR, i ∉ isC)
    (hr : va_Run p l e R s m args below meth c H locs cells slots mc ms (F0 m pc ls st0) rest (va_Qr post (fun u x t => x = ra ∧ po D (va_A (wc ++ pl) H.size) (w1 u ++ pl1 u) (t1 u) t) (va_A (wc ++ pl) H.size) a) (va_A (wc ++ pl) H.size))
    (kk : ∀ (u : S) (H1 : Heap) (locs1 : List Loc), post u → va_P D wcl ((wr ++ w1 u) ++ pl1 u) H1 → va_D A0 ((wr ++ w1 u) ++ pl1 u) → va_K D wcl (tys ++ t1 u) s → va_S A0 H0 H1 locs1 → W p l e R s m args below meth c H1 locs1 (cells + mc) (slots + ms) Q (F0 m (pc + 3) ls (.ref ra :: rest))) :
    W p l e R s m args below meth c H locs cells slots Q (F0 m pc ls st0) := by
  have hFc : ∀ q, va_A (wc ++ pl) H.size q → A0 q := va_freeP hD hS hA isC hC
  refine va_callr hr hS (fun q _ h => hFc q h) hFc (fun u x t H1 locs1 ht hvm hp hB hz1 hk1 hS1 => ?_)
  obtain ⟨rfl, hP1, hK1, hD1⟩ := hB
  rw [ht] at hP1
  obtain ⟨hP2, hD2⟩ := va_joinP (wr := wr) (rx := w1 u) (pl1 := pl1 u) hP hD isC isR hC hR hn hdis hk1 hFc hP1 hD1
  exact kk u H1 locs1 hp hP2 hD2 (hK.app (va_K.moved hvm.symm hK1)) hS1
end BACKP
