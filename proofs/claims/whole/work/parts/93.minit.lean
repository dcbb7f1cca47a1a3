theorem va_P.mem {D : va_G} {cl : List vw_C} {ws : va_W} {H : Heap} (h : ∀ q, q ∈ ws → va_at D cl q H) : va_P D cl ws H := fun _ q hk => h q (List.mem_of_getElem? hk)
theorem mu_o_eq (cA : ClassId) (N h : Nat) : mu_o cA N h N = vp_cell cA (N, .inr (.inr (.inr (.inr (fun j => some (h + 1 + j)))))) := by
  show arrV cA N (fun j => if j < N then .ref (h + 1 + j) else .null) = arrV cA N (fun j => va_rf (some (h + 1 + j)))
  unfold arrV
  congr 1
  congr 1
  funext j
  show (if j.val < N then Value.ref (h + 1 + j.val) else .null) = va_rf (some (h + 1 + j.val))
  rw [if_pos j.isLt]
  rfl
/-- new int[N][60]: its rows are rows of things found -/
theorem mu_world {D : va_G} {cl : List vw_C} {A : Nat → Prop} {ws : va_W} {H0 H H9 : Heap} {locs locs9 : List Loc} {cA cI : ClassId} {N : Nat} (hP : va_P D cl ws H) (hD : va_D A ws) (hS : va_S A H0 H locs) (hA : ∀ q, H0.size ≤ q → A q)
    (z1 : H9.size = H.size + 1 + N) (o1 : ∀ a, a < H.size → H9[a]? = H[a]?) (f1 : H9[H.size]? = some (mu_o cA N H.size N)) (r1 : ∀ j, j < N → H9[H.size + 1 + j]? = some (mu_i cI 60 (.int 0))) (l1 : ∀ q ∈ locs9, q ∈ locs ∨ H.size ≤ q.base) :
    va_P D cl ((ws ++ [(H.size, .inl (cA, N, .inr (.inr (.inr (.inr (fun j => some (H.size + 1 + j)))))))]) ++ w_al N (f_cl cI (fun j => H.size + 1 + j) (fun _ _ => 0))) H9 ∧
    va_D A ((ws ++ [(H.size, .inl (cA, N, .inr (.inr (.inr (.inr (fun j => some (H.size + 1 + j)))))))]) ++ w_al N (f_cl cI (fun j => H.size + 1 + j) (fun _ _ => 0))) ∧ va_S A H0 H9 locs9 := by
  have hmem : ∀ q, q ∈ w_al N (f_cl cI (fun j => H.size + 1 + j) (fun _ _ => 0)) → ∃ j, j < N ∧ q = (H.size + 1 + j, .inl (cI, 60, .inl (nf (fun _ => 0)))) := fun q hq => by
    obtain ⟨j, hj, hq⟩ := List.mem_flatMap.mp hq
    refine ⟨j, List.mem_range.mp hj, ?_⟩
    exact List.mem_singleton.mp hq
  have hwl : ∀ q, q ∈ ws → q.1 < H.size ∧ A q.1 := fun q hq => by
    obtain ⟨i, hi⟩ := List.getElem?_of_mem hq
    exact ⟨(hP i q hi).lt, hD.2 i q hi⟩
  refine ⟨va_P.mem (fun q hq => ?_), ⟨nd_to ?_, fun k q hk => ?_⟩, ?_⟩
  · rcases List.mem_append.mp hq with hq | hq
    · rcases List.mem_append.mp hq with hq | hq
      · obtain ⟨i, hi⟩ := List.getElem?_of_mem hq
        exact (hP i q hi).kept (o1 q.1 (hwl q hq).1)
      · rw [List.mem_singleton.mp hq]
        show H9[H.size]? = some (vp_cell cA _)
        rw [← mu_o_eq]; exact f1
    · obtain ⟨j, hj, e⟩ := hmem q hq
      rw [e]
      exact r1 j hj
  · have e1 : (w_al N (f_cl cI (fun j => H.size + 1 + j) (fun _ _ => 0))).map (·.1) = (List.range N).map (fun j => H.size + 1 + j) := by
      unfold w_al f_cl
      rw [List.map_flatMap, List.map_eq_flatMap]
      rfl
    rw [List.map_append, List.map_append, e1]
    refine List.nodup_append.mpr ⟨List.nodup_append.mpr ⟨nd_of hD, by simp, fun a ha b hb => ?_⟩, ?_, fun a ha b hb => ?_⟩
    · obtain ⟨q, hq, rfl⟩ := List.mem_map.mp ha
      have h1 := (hwl q hq).1
      have h2 : b = H.size := by simpa using hb
      omega
    · unfold List.Nodup
      rw [List.pairwise_map]
      exact (List.nodup_range (n := N)).imp (fun h => by omega)
    · obtain ⟨j, -, rfl⟩ := List.mem_map.mp hb
      rcases List.mem_append.mp ha with ha | ha
      · obtain ⟨q, hq, rfl⟩ := List.mem_map.mp ha
        have h1 := (hwl q hq).1
        omega
      · have h2 : a = H.size := by simpa using ha
        omega
  · have hq := List.mem_of_getElem? hk
    rcases List.mem_append.mp hq with hq | hq
    · rcases List.mem_append.mp hq with hq | hq
      · exact (hwl q hq).2
      · rw [List.mem_singleton.mp hq]
        exact hA _ hS.1
    · obtain ⟨j, hj, e⟩ := hmem q hq
      rw [e]
      exact hA _ (Nat.le_trans hS.1 (by show H.size ≤ H.size + 1 + j; omega))
  · exact ⟨Nat.le_trans hS.1 (by omega), fun q h1 h2 => (o1 q (Nat.lt_of_lt_of_le h1 hS.1)).trans (hS.2.1 q h1 h2), fun q hq => (l1 q hq).elim (fun h => hS.2.2 q h) (fun h => hA _ (Nat.le_trans hS.1 h))⟩
theorem mu_K {D : va_G} {cl : List vw_C} {tys : List (ClassId × FieldType)} {s : State} {args : Array Value} {cA cI : ClassId} (hK : va_K D cl tys s) (hE : cx_AI s) (harr : (Cond.arrayClass .int).before args s = true) (n1 : s.vm.findClass ("[" ++ (FieldType.array .int).toString) = some cA) (n2 : s.vm.findClass (FieldType.array .int).toString = some cI) : va_K D cl (tys ++ [(cA, .array .int), (cI, .int)]) s := by
  obtain ⟨comp, cB, kB, h1, h2, h3, h4⟩ := hE
  obtain ⟨comp', kC, cc', g1, g2, g3⟩ := Cond.arrayClass_spec harr
  have e1 : cB = cA := Option.some.inj (h4.symm.trans n1)
  have e2 : comp' = cI := Option.some.inj (g1.symm.trans n2)
  subst e1 e2
  refine ⟨hK.1, fun k x hx => ?_⟩
  by_cases hl : k < tys.length
  · rw [List.getElem?_append_left hl] at hx
    exact hK.2 k x hx
  · rw [List.getElem?_append_right (by omega)] at hx
    have hz : k - tys.length < 2 := (List.getElem?_eq_some_iff.mp hx).1
    rcases (show k - tys.length = 0 ∨ k - tys.length = 1 by omega) with e | e
    · rw [e] at hx
      cases hx
      exact ⟨fun n z => ⟨fun k h => (by cases h), kB, h2, comp, h3⟩, n1⟩
    · rw [e] at hx
      cases hx
      exact ⟨fun n z => ⟨fun k h => (by cases h), kC, g2, cc', g3⟩, g1⟩
set_option maxHeartbeats 4000000 in
set_option maxRecDepth 100000 in
/-- Match(): its rows in sight -/
theorem c_M_init (l : Launch) (D : va_G) (sz : Nat) (h : Nat) : Met l y_M_init (Cond.code y_M_init b_M_init 1 none :: wal) ({ frames := 10, cells := 28, slots := 1612, locals := 120 }) (va_Pc [.ref h] (pr D sz [(h, .inr (2, [.null, .null]))] [] (cx_W))) (va_Qv (S := Nat × Nat × (Nat → Nat) × ClassId × ClassId × ClassId) (fun u => True) (fun u t9 => po D (va_A ([(h, .inr (2, [.null, .null]))]) sz) ((fun u => (([(h, .inr (2, [.ref u.1, .ref u.2.1])), (u.1, .inl (u.2.2.2.1, 26, .inr (.inr (.inr (.inr (fun j => some (u.2.2.1 j))))))), (u.2.1, .inl (u.2.2.2.2.2, 26, .inl (fun _ => 0)))] : va_W) ++ w_al 26 (f_cl u.2.2.2.2.1 u.2.2.1 (fun _ _ => 0)))) u) ((fun u => [(u.2.2.2.1, .array .int), (u.2.2.2.2.1, .int), (u.2.2.2.2.2, .int)]) u) t9) (va_A ([(h, .inr (2, [.null, .null]))]) sz)) 28 1612 (va_A ([(h, .inr (2, [.null, .null]))]) sz) := by
  refine Met.ofW (cc := b_M_init) (maxL := 1) (ret := none) (by decide) rfl ?_
  intro p e s m args below meth c s₁ B hml hv
  obtain ⟨rfl, hsz, hP, hK, hD0, hE⟩ := hv
  have hx := B.exec
  have hb := B.bytes
  have hr := B.returns
  have hts0 := atoms_spec (ws := Cond.code y_M_init b_M_init 1 none :: wal) B.pre
  have hts : ∀ w ∈ wal, w.before _ s = true := fun w h => hts0 w (List.mem_cons_of_mem _ h)
  have hown : s.vm.findClass rc_M = some m.cls := findClass_of_methodNamed B.named
  have hlocks := B.notSynchronized
  have hin : meth.name = "<init>" := (name_of_methodNamed B.named B.method).1
  subst hsz
  have hD := hD0.self (sz := s.heap.size)
  generalize hAe : va_A ([(h, .inr (2, [.null, .null]))]) s.heap.size = A at hD ⊢
  have hA : ∀ q : Nat, s.heap.size ≤ q → A q := fun q h => by rw [← hAe]; exact Or.inr h
  have hS : va_S A s.heap s.heap [] := va_S.rf
  have hl := lv_entry ([.ref h]) (n := 1) (Nat.le_of_ble_eq_true rfl)
  rw [lg_entry_eq]
  generalize (lg_sl ([.ref h]) ++ List.replicate (1 - (lg_sl ([.ref h])).length) Slot.unset).toArray = ls at hl ⊢
  have hl : lv_has ls 1 [(0, .ref h)] := hl
  refine lv_aload_n hx hb d_M_init_0 rfl (lv_at hl 0 rfl) ?_
  refine W.objInit hx hb hown (hts _ k_128) (hts _ k_24) (hts _ k_25) rfl (by rw [hml]; exact hl.1) rfl d_M_init_1 (Nat.le_of_ble_eq_true rfl) (Nat.le_of_ble_eq_true rfl) ?_
  refine W.eq (g2 := F0 m 4 ls []) rfl ?_
  refine lv_aload_n hx hb d_M_init_4 rfl (lv_at hl 0 rfl) ?_
  refine lv_bipush (v := 26) hx hb d_M_init_5 (by decide) ?_
  refine lv_bipush (v := 60) hx hb d_M_init_7 (by decide) ?_
  refine mu_new (N := 26) (M := 60) hx hb hown (hts _ k_129) hE.2.2.2 (hts _ k_96) (by decide) (by decide) (by decide) (by decide) (by decide) (by decide) (by decide) (by decide) d_M_init_9 (fun cF cI H locs z1 o1 f1 r1 l1 n1 n2 => ?_)
  obtain ⟨hP, hD, hS⟩ := mu_world hP hD hS hA z1 o1 f1 r1 l1
  have hK := mu_K hK hE.2.2.2 (hts _ k_96) n1 n2
  clear z1 o1 f1 r1 l1 n1 n2
  obtain ⟨fr, hfr⟩ : ∃ f : Nat → Nat, f = fun j => s.heap.size + 1 + j := ⟨_, rfl⟩
  rw [← hfr] at hP hD
  have e0 : (fun j => some (s.heap.size + 1 + j)) = (fun j => some (fr j)) := by rw [hfr]
  rw [e0] at hP hD
  have hP : va_P D wcl (([(h, .inr (2, [.null, .null])), (s.heap.size, .inl (cF, 26, .inr (.inr (.inr (.inr (fun j => some (fr j)))))))] : va_W) ++ w_al 26 (f_cl cI fr (fun _ _ => 0))) H := hP
  have hD : va_D A (([(h, .inr (2, [.null, .null])), (s.heap.size, .inl (cF, 26, .inr (.inr (.inr (.inr (fun j => some (fr j)))))))] : va_W) ++ w_al 26 (f_cl cI fr (fun _ _ => 0))) := hD
  have hK : va_K D wcl [(cF, .array .int), (cI, .int)] s := hK
  refine W.widen (k := 27) (n := 1586) (by decide) (by decide) ?_
  refine va_putF (D := D) (ci := 2) (v := .ref s.heap.size) (ty := .array (.array .int)) (C := rc_M) (T := ft_M) (N := 2) hx hb hts in_M ty_M tk_M nm_M hown hK hP hD hS 0 rfl rfl 0 (by decide) (hts _ k_131) (fun _ h9 => h9) rfl hin rfl (by decide +kernel) rfl rfl (Nat.le_of_ble_eq_true rfl) d_M_init_13 (fun H locs hP hD hS => ?_)
  have hP : va_P D wcl (([(h, .inr (2, [.ref s.heap.size, .null])), (s.heap.size, .inl (cF, 26, .inr (.inr (.inr (.inr (fun j => some (fr j)))))))] : va_W) ++ w_al 26 (f_cl cI fr (fun _ _ => 0))) H := hP
  have hD : va_D A (([(h, .inr (2, [.ref s.heap.size, .null])), (s.heap.size, .inl (cF, 26, .inr (.inr (.inr (.inr (fun j => some (fr j)))))))] : va_W) ++ w_al 26 (f_cl cI fr (fun _ _ => 0))) := hD
  refine lv_aload_n hx hb d_M_init_16 rfl (lv_at hl 0 rfl) ?_
  refine lv_bipush (v := 26) hx hb d_M_init_17 (by decide) ?_
  refine va_newa (atype := .int) (ty := .int) (N' := 26) (a0 := (26, .inl (fun _ => 0))) hx hb (hts _ k_96) rfl hK hP hD hS hA (fun cA => rfl) (by decide) (by decide) (by decide) (by decide) (by decide) d_M_init_19 (fun q1 cA2 H hK hP hD hS => ?_)
  have hP : va_P D wcl (([(h, .inr (2, [.ref s.heap.size, .null])), (s.heap.size, .inl (cF, 26, .inr (.inr (.inr (.inr (fun j => some (fr j))))))), (q1, .inl (cA2, 26, .inl (fun _ => 0)))] : va_W) ++ w_al 26 (f_cl cI fr (fun _ _ => 0))) H := hP.pm (pm_o2 (rx := [(h, .inr (2, [.ref s.heap.size, .null])), (s.heap.size, .inl (cF, 26, .inr (.inr (.inr (.inr (fun j => some (fr j)))))))]) (n := [(q1, .inl (cA2, 26, .inl (fun _ => 0)))]) (B := w_al 26 (f_cl cI fr (fun _ _ => 0))))
  have hD : va_D A (([(h, .inr (2, [.ref s.heap.size, .null])), (s.heap.size, .inl (cF, 26, .inr (.inr (.inr (.inr (fun j => some (fr j))))))), (q1, .inl (cA2, 26, .inl (fun _ => 0)))] : va_W) ++ w_al 26 (f_cl cI fr (fun _ _ => 0))) := hD.pm (pm_o2 (rx := [(h, .inr (2, [.ref s.heap.size, .null])), (s.heap.size, .inl (cF, 26, .inr (.inr (.inr (.inr (fun j => some (fr j)))))))]) (n := [(q1, .inl (cA2, 26, .inl (fun _ => 0)))]) (B := w_al 26 (f_cl cI fr (fun _ _ => 0))))
  have hK : va_K D wcl [(cF, .array .int), (cI, .int), (cA2, .int)] s := hK
  refine W.widen (k := 28) (n := 1612) (by decide) (by decide) ?_
  refine va_putF (D := D) (ci := 2) (v := .ref q1) (ty := .array .int) (C := rc_M) (T := ft_M) (N := 2) hx hb hts in_M ty_M tk_M nm_M hown hK hP hD hS 0 rfl rfl 1 (by decide) (hts _ k_132) (fun _ h9 => h9) rfl hin rfl (by decide +kernel) rfl rfl (Nat.le_of_ble_eq_true rfl) d_M_init_21 (fun H locs hP hD hS => ?_)
  have hP : va_P D wcl (([(h, .inr (2, [.ref s.heap.size, .ref q1])), (s.heap.size, .inl (cF, 26, .inr (.inr (.inr (.inr (fun j => some (fr j))))))), (q1, .inl (cA2, 26, .inl (fun _ => 0)))] : va_W) ++ w_al 26 (f_cl cI fr (fun _ _ => 0))) H := hP
  have hD : va_D A (([(h, .inr (2, [.ref s.heap.size, .ref q1])), (s.heap.size, .inl (cF, 26, .inr (.inr (.inr (.inr (fun j => some (fr j))))))), (q1, .inl (cA2, 26, .inl (fun _ => 0)))] : va_W) ++ w_al 26 (f_cl cI fr (fun _ _ => 0))) := hD
  have hP9 : va_P D wcl (([(h, .inr (2, [.ref s.heap.size, .ref q1])), (s.heap.size, .inl (cF, 26, .inr (.inr (.inr (.inr (fun j => some (fr j))))))), (q1, .inl (cA2, 26, .inl (fun _ => 0)))] : va_W) ++ w_al 26 (f_cl cI fr (fun _ _ => 0))) _ := hP.part [0, 1, 2] rfl
  have hD9 : va_D A (([(h, .inr (2, [.ref s.heap.size, .ref q1])), (s.heap.size, .inl (cF, 26, .inr (.inr (.inr (.inr (fun j => some (fr j))))))), (q1, .inl (cA2, 26, .inl (fun _ => 0)))] : va_W) ++ w_al 26 (f_cl cI fr (fun _ _ => 0))) := hD.part [0, 1, 2] (by decide) rfl
  have hK9 := hK.sub (tys' := [(cF, .array .int), (cI, .int), (cA2, .int)]) [0, 1, 2] rfl
  exact W.vret hx hb hr (fun t9 ht hW => ⟨⟨(s.heap.size, q1, fr, cF, cI, cA2), rfl, trivial, ⟨by rw [ht]; exact hP9, va_K.moved hW.alike hK9, hD9⟩⟩, hS.F ht⟩) hS.2.2 d_M_init_24
