/-! Two kinds of many alike things behind the cells in sight. -/
theorem w_foc_pm {X L : va_W} {n i : Nat} {f : Nat → va_W} (hi : i < n) : (X ++ (w_al n f ++ L)).Perm ((X ++ f i) ++ (w_ot n f i ++ L)) := by
  have h := ((w_al_pm f hi).append_right L).append_left X
  rw [List.append_assoc (f i) (w_ot n f i) L] at h
  rw [List.append_assoc X (f i)]
  exact h
theorem va_P.focL {D : va_G} {cl : List vw_C} {X L : va_W} {H : Heap} {n i : Nat} {f : Nat → va_W} (h : va_P D cl (X ++ (w_al n f ++ L)) H) (hi : i < n) : va_P D cl ((X ++ f i) ++ (w_ot n f i ++ L)) H := h.pm (w_foc_pm hi)
theorem va_D.focL {A : Nat → Prop} {X L : va_W} {n i : Nat} {f : Nat → va_W} (h : va_D A (X ++ (w_al n f ++ L))) (hi : i < n) : va_D A ((X ++ f i) ++ (w_ot n f i ++ L)) := h.pm (w_foc_pm hi)
theorem va_P.unfL {D : va_G} {cl : List vw_C} {X g L : va_W} {H : Heap} {n i : Nat} {f f' : Nat → va_W} (h : va_P D cl ((X ++ g) ++ (w_ot n f i ++ L)) H) (hi : i < n) (hg : f' i = g) (ho : ∀ j, j ≠ i → f j = f' j) : va_P D cl (X ++ (w_al n f' ++ L)) H := by
  rw [w_ot_cg ho, ← hg] at h
  exact h.pm (w_foc_pm hi).symm
theorem va_D.unfL {A : Nat → Prop} {X g L : va_W} {n i : Nat} {f f' : Nat → va_W} (h : va_D A ((X ++ g) ++ (w_ot n f i ++ L))) (hi : i < n) (hg : f' i = g) (ho : ∀ j, j ≠ i → f j = f' j) : va_D A (X ++ (w_al n f' ++ L)) := by
  rw [w_ot_cg ho, ← hg] at h
  exact h.pm (w_foc_pm hi).symm
/-- the two kinds change places; a kind comes to the cells in sight, and goes back -/
theorem w_two_pm {X L M : va_W} : (X ++ (L ++ M)).Perm (X ++ (M ++ L)) := List.perm_append_comm.append_left X
theorem w_in_pm {X L M : va_W} : (X ++ (L ++ M)).Perm ((X ++ L) ++ M) := by rw [List.append_assoc]
theorem va_P.two {D : va_G} {cl : List vw_C} {X L M : va_W} {H : Heap} (h : va_P D cl (X ++ (L ++ M)) H) : va_P D cl (X ++ (M ++ L)) H := h.pm w_two_pm
theorem va_D.two {A : Nat → Prop} {X L M : va_W} (h : va_D A (X ++ (L ++ M))) : va_D A (X ++ (M ++ L)) := h.pm w_two_pm
