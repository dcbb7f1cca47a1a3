section VRI
variable {p : Program} {l : Launch} {e : Env} {R : Room} {s : State} {m : MethodId} {args : Array Value} {below : List Frame} {meth : Method} {c : Code} {H : Heap} {locs : List Loc} {cells slots : Nat} {Q : State → Prop}
variable {pc : Nat} {ls : Array Slot} {rest : List Value} {D : va_G} {cl : List vw_C} {A : Nat → Prop} {a : Nat} {tys : List (ClassId × FieldType)} {ws : va_W} {H0 : Heap}
/-- a row of an int[][] -/
theorem mu_ald {cc : ByteArray} (hexec : p.tables.exec = Jvm.exec) (hb : c.code = cc) (hK : va_K D cl tys s) (hP : va_P D cl ws H) (q0 t0 : Nat) {cA : ClassId} {n : Nat} {f : Nat → Option Nat} (ha : ws[q0]? = some (a, .inl (cA, n, .inr (.inr (.inr (.inr f)))))) (ht : tys[t0]? = some (cA, .array .int)) {i : Int32} (hin : vp_in i n) (hdg : decode cc pc = .ok (.aaload, 1))
    (kk : W p l e R s m args below meth c H locs cells slots Q (F0 m (pc + 1) ls (va_rf (f i.toNatClampNeg) :: rest))) : W p l e R s m args below meth c H locs cells slots Q (F0 m pc ls (.int i :: .ref a :: rest)) := by
  have hlt : i.toNatClampNeg < n := Nat.not_le.mp fun q => hin (Or.inr q)
  exact W.aald (v := va_rf (f i.toNatClampNeg)) (ty := .array .int) hexec hb (hP q0 _ ha) ((hK.2 t0 _ ht).1 n (fun j => va_rf (f j))) rfl (fun q => by cases q) (by show ¬ (i < 0 ∨ (arrV _ _ _).slots.size ≤ _); rw [arrV_size]; exact hin) (by show (arrV _ _ _).slots[_]? = _; rw [arrV_read _ _ hlt]) rfl rfl hdg kk
end VRI
/-- a variable's row of terms found -/
def f_cl (cI : ClassId) (fr : Nat → Nat) (ff : Nat → Nat → Nat) (j : Nat) : va_W := [(fr j, .inl (cI, 60, .inl (nf (ff j))))]
/-- the k-th term of variable v -/
def m_put (ff : Nat → Nat → Nat) (v k t0 : Nat) : Nat → Nat → Nat := va_up ff v (va_up (ff v) k t0)
theorem m_put_self (ff : Nat → Nat → Nat) (v k t0 : Nat) : m_put ff v k t0 v = va_up (ff v) k t0 := va_up_self _ _ _
theorem m_put_ne (ff : Nat → Nat → Nat) {v k t0 j : Nat} (h : j ≠ v) : m_put ff v k t0 j = ff j := va_up_ne _ _ h
