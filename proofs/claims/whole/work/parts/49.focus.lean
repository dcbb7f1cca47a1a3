/-! Worlds with many alike things: all of them, one of them in sight and the others behind. -/
theorem va_P.lft {D : va_G} {cl : List vw_C} {X pl : va_W} {H : Heap} (h : va_P D cl (X ++ pl) H) : va_P D cl X H := fun k q hk => h k q (by rw [List.getElem?_append_left (List.getElem?_eq_some_iff.mp hk).1]; exact hk)
theorem va_D.lft {A : Nat → Prop} {X pl : va_W} (h : va_D A (X ++ pl)) : va_D A X :=
  ⟨fun i j p q hi hj e => h.1 i j p q (by rw [List.getElem?_append_left (List.getElem?_eq_some_iff.mp hi).1]; exact hi) (by rw [List.getElem?_append_left (List.getElem?_eq_some_iff.mp hj).1]; exact hj) e,
   fun k q hk => h.2 k q (by rw [List.getElem?_append_left (List.getElem?_eq_some_iff.mp hk).1]; exact hk)⟩
theorem va_P.pm {D : va_G} {cl : List vw_C} {ws ws' : va_W} {H : Heap} (h : va_P D cl ws H) (hp : ws.Perm ws') : va_P D cl ws' H := fun k q hk => by
  obtain ⟨i, hi⟩ := List.getElem?_of_mem (hp.mem_iff.mpr (List.mem_of_getElem? hk))
  exact h i q hi
theorem nd_of {A : Nat → Prop} {ws : va_W} (h : va_D A ws) : (ws.map (·.1)).Nodup := by
  unfold List.Nodup
  rw [List.pairwise_iff_getElem]
  intro i j hi hj hij e
  have hi' : i < ws.length := by simpa using hi
  have hj' : j < ws.length := by simpa using hj
  have := h.1 i j ws[i] ws[j] (List.getElem?_eq_getElem hi') (List.getElem?_eq_getElem hj') (by simpa using e)
  omega
theorem nd_to {ws : va_W} (h : (ws.map (·.1)).Nodup) (i j : Nat) (p q : Nat × va_E) (hi : ws[i]? = some p) (hj : ws[j]? = some q) (e : p.1 = q.1) : i = j := by
  unfold List.Nodup at h
  rw [List.pairwise_iff_getElem] at h
  obtain ⟨hi', hi2⟩ := List.getElem?_eq_some_iff.mp hi
  obtain ⟨hj', hj2⟩ := List.getElem?_eq_some_iff.mp hj
  rcases Nat.lt_trichotomy i j with h1 | h1 | h1
  · exact ((h i j (by simpa using hi') (by simpa using hj') h1) (by rw [List.getElem_map, List.getElem_map, hi2, hj2]; exact e)).elim
  · exact h1
  · exact ((h j i (by simpa using hj') (by simpa using hi') h1) (by rw [List.getElem_map, List.getElem_map, hi2, hj2]; exact e.symm)).elim
theorem va_D.pm {A : Nat → Prop} {ws ws' : va_W} (h : va_D A ws) (hp : ws.Perm ws') : va_D A ws' := by
  refine ⟨nd_to ((hp.map _).nodup_iff.mp (nd_of h)), fun k q hk => ?_⟩
  obtain ⟨i, hi⟩ := List.getElem?_of_mem (hp.mem_iff.mpr (List.mem_of_getElem? hk))
  exact h.2 i q hi
/-- n things alike -/
def w_al (n : Nat) (f : Nat → va_W) : va_W := (List.range n).flatMap f
/-- all of them but the i-th -/
def w_ot (n : Nat) (f : Nat → va_W) (i : Nat) : va_W := ((List.range n).erase i).flatMap f
theorem w_al_pm {n i : Nat} (f : Nat → va_W) (hi : i < n) : (w_al n f).Perm (f i ++ w_ot n f i) := by
  have h1 : (List.range n).Perm (i :: (List.range n).erase i) := List.perm_cons_erase (List.mem_range.mpr hi)
  have h2 := h1.flatMap_right f
  rw [List.flatMap_cons] at h2
  exact h2
theorem w_ot_cg {n i : Nat} {f g : Nat → va_W} (h : ∀ j, j ≠ i → f j = g j) : w_ot n f i = w_ot n g i := by
  unfold w_ot
  rw [List.flatMap_def, List.flatMap_def]
  congr 1
  refine List.map_congr_left fun j hj => h j fun e => ?_
  rw [e] at hj
  exact (List.nodup_range (n := n)).not_mem_erase hj
theorem va_P.foc {D : va_G} {cl : List vw_C} {X : va_W} {H : Heap} {n i : Nat} {f : Nat → va_W} (h : va_P D cl (X ++ w_al n f) H) (hi : i < n) : va_P D cl ((X ++ f i) ++ w_ot n f i) H := h.pm (by rw [List.append_assoc]; exact (w_al_pm f hi).append_left X)
theorem va_D.foc {A : Nat → Prop} {X : va_W} {n i : Nat} {f : Nat → va_W} (h : va_D A (X ++ w_al n f)) (hi : i < n) : va_D A ((X ++ f i) ++ w_ot n f i) := h.pm (by rw [List.append_assoc]; exact (w_al_pm f hi).append_left X)
theorem va_P.unf {D : va_G} {cl : List vw_C} {X g : va_W} {H : Heap} {n i : Nat} {f f' : Nat → va_W} (h : va_P D cl ((X ++ g) ++ w_ot n f i) H) (hi : i < n) (hg : f' i = g) (ho : ∀ j, j ≠ i → f j = f' j) : va_P D cl (X ++ w_al n f') H := by
  rw [w_ot_cg ho, ← hg] at h
  exact h.pm (by rw [List.append_assoc]; exact ((w_al_pm f' hi).append_left X).symm)
theorem va_D.unf {A : Nat → Prop} {X g : va_W} {n i : Nat} {f f' : Nat → va_W} (h : va_D A ((X ++ g) ++ w_ot n f i)) (hi : i < n) (hg : f' i = g) (ho : ∀ j, j ≠ i → f j = f' j) : va_D A (X ++ w_al n f') := by
  rw [w_ot_cg ho, ← hg] at h
  exact h.pm (by rw [List.append_assoc]; exact ((w_al_pm f' hi).append_left X).symm)
section BACKQ
variable {p : Program} {l : Launch} {e : Env} {R : Room} {s : State} {m : MethodId} {args : Array Value} {below : List Frame} {meth : Method} {c : Code} {H H0 : Heap} {locs : List Loc} {cells slots mc ms pc : Nat} {Q : State → Prop} {ls : Array Slot} {st0 rest : List Value} {a : Array Value}
  {D : va_G} {A0 : Nat → Prop} {ws wc wr pl : va_W} {tys : List (ClassId × FieldType)}
theorem cl_vQ {S : Type} {post : S → Prop} {w1 : S → va_W} {t1 : S → List (ClassId × FieldType)} (hP : va_P D wcl (ws ++ pl) H) (hD : va_D A0 (ws ++ pl)) (hK : va_K D wcl tys s) (hS : va_S A0 H0 H locs) (hA : ∀ q, H0.size ≤ q → A0 q) (isC isR : List Nat) (hC : isC.map (fun i => ws[i]?) = wc.map some) (hR : isR.map (fun i => ws[i]?) = wr.map some) (hn : va_nd isR = true) (hdis : ∀ i ∈ isR, i ∉ isC)
    (hr : va_Run p l e R s m args below meth c H locs cells slots mc ms (F0 m pc ls st0) rest (va_Qv post (fun u t => po D (va_A wc H.size) (w1 u) (t1 u) t) (va_A wc H.size) a) (va_A wc H.size))
    (kk : ∀ (u : S) (H1 : Heap) (locs1 : List Loc), post u → va_P D wcl ((wr ++ w1 u) ++ pl) H1 → va_D A0 ((wr ++ w1 u) ++ pl) → va_K D wcl (tys ++ t1 u) s → va_S A0 H0 H1 locs1 → W p l e R s m args below meth c H1 locs1 (cells + mc) (slots + ms) Q (F0 m (pc + 3) ls rest)) :
    W p l e R s m args below meth c H locs cells slots Q (F0 m pc ls st0) := by
  have hFc : ∀ q, va_A wc H.size q → A0 q := va_free hD.lft hS hA isC hC
  refine va_callv hr hS (fun q _ h => hFc q h) hFc (fun u t H1 locs1 ht hvm hp hB hz1 hk1 hS1 => ?_)
  obtain ⟨hP1, hK1, hD1⟩ := hB
  rw [ht] at hP1
  obtain ⟨hP2, hD2⟩ := va_joinQ (wr := wr) (w1 := w1 u) hP hD isC isR hC hR hn hdis hk1 hFc hP1 hD1
  exact kk u H1 locs1 hp hP2 hD2 (hK.app (va_K.moved hvm.symm hK1)) hS1
theorem cl_iQ {S : Type} {post : Int32 → S → Prop} {w1 : S → va_W} {t1 : S → List (ClassId × FieldType)} (hP : va_P D wcl (ws ++ pl) H) (hD : va_D A0 (ws ++ pl)) (hK : va_K D wcl tys s) (hS : va_S A0 H0 H locs) (hA : ∀ q, H0.size ≤ q → A0 q) (isC isR : List Nat) (hC : isC.map (fun i => ws[i]?) = wc.map some) (hR : isR.map (fun i => ws[i]?) = wr.map some) (hn : va_nd isR = true) (hdis : ∀ i ∈ isR, i ∉ isC)
    (hr : va_Run p l e R s m args below meth c H locs cells slots mc ms (F0 m pc ls st0) rest (va_Qi post (fun u t => po D (va_A wc H.size) (w1 u) (t1 u) t) (va_A wc H.size) a) (va_A wc H.size))
    (kk : ∀ (r : Int32) (u : S) (H1 : Heap) (locs1 : List Loc), post r u → va_P D wcl ((wr ++ w1 u) ++ pl) H1 → va_D A0 ((wr ++ w1 u) ++ pl) → va_K D wcl (tys ++ t1 u) s → va_S A0 H0 H1 locs1 → W p l e R s m args below meth c H1 locs1 (cells + mc) (slots + ms) Q (F0 m (pc + 3) ls (.int r :: rest))) :
    W p l e R s m args below meth c H locs cells slots Q (F0 m pc ls st0) := by
  have hFc : ∀ q, va_A wc H.size q → A0 q := va_free hD.lft hS hA isC hC
  refine va_calli hr hS (fun q _ h => hFc q h) hFc (fun r u t H1 locs1 ht hvm hp hB hz1 hk1 hS1 => ?_)
  obtain ⟨hP1, hK1, hD1⟩ := hB
  rw [ht] at hP1
  obtain ⟨hP2, hD2⟩ := va_joinQ (wr := wr) (w1 := w1 u) hP hD isC isR hC hR hn hdis hk1 hFc hP1 hD1
  exact kk r u H1 locs1 hp hP2 hD2 (hK.app (va_K.moved hvm.symm hK1)) hS1
theorem cl_rQ {S : Type} {post : S → Prop} {w1 : S → va_W} {t1 : S → List (ClassId × FieldType)} {ra : Nat} (hP : va_P D wcl (ws ++ pl) H) (hD : va_D A0 (ws ++ pl)) (hK : va_K D wcl tys s) (hS : va_S A0 H0 H locs) (hA : ∀ q, H0.size ≤ q → A0 q) (isC isR : List Nat) (hC : isC.map (fun i => ws[i]?) = wc.map some) (hR : isR.map (fun i => ws[i]?) = wr.map some) (hn : va_nd isR = true) (hdis : ∀ i ∈ isR, i ∉ isC)
    (hr : va_Run p l e R s m args below meth c H locs cells slots mc ms (F0 m pc ls st0) rest (va_Qr post (fun u x t => x = ra ∧ po D (va_A wc H.size) (w1 u) (t1 u) t) (va_A wc H.size) a) (va_A wc H.size))
    (kk : ∀ (u : S) (H1 : Heap) (locs1 : List Loc), post u → va_P D wcl ((wr ++ w1 u) ++ pl) H1 → va_D A0 ((wr ++ w1 u) ++ pl) → va_K D wcl (tys ++ t1 u) s → va_S A0 H0 H1 locs1 → W p l e R s m args below meth c H1 locs1 (cells + mc) (slots + ms) Q (F0 m (pc + 3) ls (.ref ra :: rest))) :
    W p l e R s m args below meth c H locs cells slots Q (F0 m pc ls st0) := by
  have hFc : ∀ q, va_A wc H.size q → A0 q := va_free hD.lft hS hA isC hC
  refine va_callr hr hS (fun q _ h => hFc q h) hFc (fun u x t H1 locs1 ht hvm hp hB hz1 hk1 hS1 => ?_)
  obtain ⟨rfl, hP1, hK1, hD1⟩ := hB
  rw [ht] at hP1
  obtain ⟨hP2, hD2⟩ := va_joinQ (wr := wr) (w1 := w1 u) hP hD isC isR hC hR hn hdis hk1 hFc hP1 hD1
  exact kk u H1 locs1 hp hP2 hD2 (hK.app (va_K.moved hvm.symm hK1)) hS1
end BACKQ
/-- a rule: its object, its terms' object, its kinds' row, the terms' rows; what they hold -/
abbrev RSt : Type := Nat × Nat × Nat × (Nat → Nat) × TSt × (Nat → Nat) × Int32 × Int32 × Int32 × Int32 × Int32
def r_cl (ca : Nat → ClassId) (ck : ClassId) (q : RSt) : va_W :=
  [(q.1, .inr (4, [.ref q.2.1, .ref q.2.2.1, .int q.2.2.2.2.2.2.1])), (q.2.1, .inr (6, [.ref (q.2.2.2.1 0), .ref (q.2.2.2.1 1), .ref (q.2.2.2.1 2), .ref (q.2.2.2.1 3), .ref (q.2.2.2.1 4), .ref (q.2.2.2.1 5), .int (nI (x_z q.2.2.2.2.1)), .int q.2.2.2.2.2.2.2.1, .int q.2.2.2.2.2.2.2.2.1, .int q.2.2.2.2.2.2.2.2.2.1, .int q.2.2.2.2.2.2.2.2.2.2])),
   (q.2.2.2.1 0, .inl (ca 0, 60, .inl (nf (x_sg q.2.2.2.2.1)))), (q.2.2.2.1 1, .inl (ca 1, 60, .inl (nf (x_st q.2.2.2.2.1)))), (q.2.2.2.1 2, .inl (ca 2, 60, .inl (nf (x_sp q.2.2.2.2.1)))), (q.2.2.2.1 3, .inl (ca 3, 60, .inl (nf (x_it q.2.2.2.2.1)))), (q.2.2.2.1 4, .inl (ca 4, 60, .inl (nf (x_rp q.2.2.2.2.1)))), (q.2.2.2.1 5, .inl (ca 5, 12, .inl (nf (x_op q.2.2.2.2.1)))), (q.2.2.1, .inl (ck, 26, .inl (nf q.2.2.2.2.2.1)))]
/-- what a rule's rows keep to -/
def r_ok (q : RSt) : Prop := t_raw 60 q.2.2.2.2.1 ∧ ∀ i, q.2.2.2.2.2.1 i < 3
/-- a rule's key -/
def r_mc (q : RSt) : Nat := x_sg q.2.2.2.2.1 1
/-- of the first k rules: how many have the key c -/
def r_ct (rt : Nat → RSt) (c : Nat) : Nat → Nat
  | 0 => 0
  | k + 1 => if r_mc (rt k) = c then r_ct rt c k + 1 else r_ct rt c k
/-- what reading the text sg of n signs makes of a rule; r: whether it is one -/
def r_rd (sg : Nat → Nat) (n : Nat) (q q2 : RSt) (r : Int32) : Prop := ∃ e0, d_eq sg n e0 ∧ ((r = 1 ∧ ∃ tm, q2.2.2.2.2.2.2.1 = nI tm ∧ t_spn q2.2.2.2.2.1 ∧ tm ≤ x_z q2.2.2.2.2.1 ∧ r_is 60 sg n e0 q.2.2.2.2.1 q.2.2.2.2.2.1 q2.2.2.2.2.1 q2.2.2.2.2.2.1 tm) ∨ (r = 0 ∧ ∀ a b c, ¬ r_is 60 sg n e0 q.2.2.2.2.1 q.2.2.2.2.2.1 a b c))
