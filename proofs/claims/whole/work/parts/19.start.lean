/-! The start: the classes are known, the words that last, what else is given. -/
theorem st_AI {args : Array Value} {s : State} (h : (Cond.arrayOver (.array .int)).before args s = true) : cx_AI s := by
  obtain ⟨comp, cA, kA, hcomp, -, hkA, hkindA, hnameA⟩ := arrayOverA_spec h
  exact ⟨comp, cA, kA, hcomp, hkA, hkindA, hnameA⟩
theorem st_W {args : Array Value} {s : State} (hts : ∀ w ∈ lw_tbl, w.before args s = true) : cx_W s := by
  refine ⟨fun w hw ho => va_Nw.of (cx_on ho) (hts w hw), fun own k tx hm => ?_, va_AO.of (hts _ k_50), st_AI (hts _ k_130)⟩
  have h := hts _ hm
  have hcur : ∃ cur, s.vm.findClass own = some cur := by
    have h1 := h
    simp only [Cond.before, Cond.holds, Cond.value] at h1
    cases hc : s.vm.findClass own with
    | none => simp [hc] at h1
    | some cur => exact ⟨cur, rfl⟩
  obtain ⟨cur, hcur⟩ := hcur
  obtain ⟨_, _, _, a, _, _, _, _, _, hev⟩ := Cond.stringRef_spec hcur h
  exact ⟨a, vk_R.of h hev⟩
theorem st_K {args : Array Value} {s : State} (hts : ∀ w ∈ wal, w.before args s = true) : ∃ D : va_G, va_K D wcl [] s := by
  obtain ⟨c0, i0, h0⟩ := u_known (C := rc_D) (T := ft_D) (N := 3) hts in_D (hts _ k_27)
  obtain ⟨c1, i1, h1⟩ := u_known (C := rc_E) (T := ft_E) (N := 9) hts in_E (hts _ k_116)
  obtain ⟨c2, i2, h2⟩ := u_known (C := rc_M) (T := ft_M) (N := 2) hts in_M (hts _ k_124)
  obtain ⟨c3, i3, h3⟩ := u_known (C := rc_S) (T := ft_S) (N := 3) hts in_S (hts _ k_139)
  obtain ⟨c4, i4, h4⟩ := u_known (C := rc_R) (T := ft_R) (N := 3) hts in_R (hts _ k_51)
  obtain ⟨c5, i5, h5⟩ := u_known (C := rc_B) (T := ft_B) (N := 2) hts in_B (hts _ k_44)
  obtain ⟨c6, i6, h6⟩ := u_known (C := rc_T) (T := ft_T) (N := 11) hts in_T (hts _ k_57)
  obtain ⟨c7, i7, h7⟩ := u_known (C := rc_F) (T := ft_F) (N := 3) hts in_F (hts _ k_19)
  obtain ⟨c8, i8, h8⟩ := u_known (C := rc_O) (T := ft_O) (N := 42) hts in_O (hts _ k_650)
  refine ⟨(fun c => match c with | 0 => c0 | 1 => c1 | 2 => c2 | 3 => c3 | 4 => c4 | 5 => c5 | 6 => c6 | 7 => c7 | _ => c8, fun c => match c with | 0 => i0 | 1 => i1 | 2 => i2 | 3 => i3 | 4 => i4 | 5 => i5 | 6 => i6 | 7 => i7 | _ => i8), fun c q hq => ?_, fun k q h => (nomatch (by simpa using h : False))⟩
  match c, hq with
  | 0, hq => cases hq; exact h0
  | 1, hq => cases hq; exact h1
  | 2, hq => cases hq; exact h2
  | 3, hq => cases hq; exact h3
  | 4, hq => cases hq; exact h4
  | 5, hq => cases hq; exact h5
  | 6, hq => cases hq; exact h6
  | 7, hq => cases hq; exact h7
  | 8, hq => cases hq; exact h8
  | n + 9, hq => cases hq
theorem st_cx {args : Array Value} {s : State} {A : Nat → Prop} (hts : ∀ w ∈ lw_tbl, w.before args s = true) (h : (Jvm.Cond.and given_1 narrow_1).before args s = true) (hA : ∀ a : Nat, a < s.heap.size → ¬ A a) : cx A s s.heap :=
  ⟨st_W hts, cx_Z.of (hts _ k_395) (flat_of_before _ h (.isRef (.static tT "UNASSIGNED_STACK" tS)) (by decide +kernel)) hA, cx_Z.of (hts _ k_397) (flat_of_before _ h (.isRef (.static tT "SUPPRESSED_SENTINEL" tL)) (by decide +kernel)) hA⟩
