theorem w_al_pm2 {n i k : Nat} (f : Nat → va_W) (hi : i < n) (hk : k < n) (hik : k ≠ i) : (w_al n f).Perm (f i ++ (f k ++ (((List.range n).erase i).erase k).flatMap f)) := by
  have h1 : (List.range n).Perm (i :: (List.range n).erase i) := List.perm_cons_erase (List.mem_range.mpr hi)
  have h2 : ((List.range n).erase i).Perm (k :: ((List.range n).erase i).erase k) := List.perm_cons_erase ((List.mem_erase_of_ne hik).mpr (List.mem_range.mpr hk))
  have h3 := (h1.trans (h2.cons i)).flatMap_right f
  rw [List.flatMap_cons, List.flatMap_cons] at h3
  exact h3
theorem w_al_sw {n i k : Nat} (f g : Nat → va_W) (hi : i < n) (hk : k < n) (h1 : g i = f k) (h2 : g k = f i) (h3 : ∀ j, j ≠ i → j ≠ k → f j = g j) : (w_al n f).Perm (w_al n g) := by
  by_cases hik : k = i
  · subst hik
    have e : f = g := funext fun j => by
      by_cases hj : j = k
      · rw [hj, h1]
      · exact h3 j hj hj
    rw [e]
  · refine (w_al_pm2 f hi hk hik).trans (List.Perm.trans ?_ (w_al_pm2 g hi hk hik).symm)
    have e : (((List.range n).erase i).erase k).flatMap f = (((List.range n).erase i).erase k).flatMap g := by
      rw [List.flatMap_def, List.flatMap_def]
      congr 1
      refine List.map_congr_left fun j hj => h3 j (fun e => ?_) (fun e => ?_)
      · rw [e] at hj
        exact (List.nodup_range (n := n)).not_mem_erase (List.mem_of_mem_erase hj)
      · rw [e] at hj
        exact ((List.nodup_range (n := n)).erase i).not_mem_erase hj
    rw [e, h1, h2, ← List.append_assoc, ← List.append_assoc]
    exact (List.perm_append_comm).append_right _
/-- two rules change places -/
def r_swp (rt : Nat → RSt) (i k : Nat) : Nat → RSt := va_up (va_up rt i (rt k)) k (rt i)
theorem r_swp_k (rt : Nat → RSt) (i k : Nat) : r_swp rt i k k = rt i := va_up_self _ _ _
theorem r_swp_i (rt : Nat → RSt) (i k : Nat) : r_swp rt i k i = rt k := by
  unfold r_swp
  by_cases h : i = k
  · rw [h, va_up_self]
  · rw [va_up_ne _ _ h, va_up_self]
theorem r_swp_o (rt : Nat → RSt) {i k j : Nat} (h1 : j ≠ i) (h2 : j ≠ k) : r_swp rt i k j = rt j := by
  unfold r_swp
  rw [va_up_ne _ _ h2, va_up_ne _ _ h1]
theorem r_swp_pm {i k : Nat} (ca : Nat → ClassId) (ck : ClassId) (rt : Nat → RSt) (hi : i < 13) (hk : k < 13) : (w_al 13 (fun j => r_cl ca ck (rt j))).Perm (w_al 13 (fun j => r_cl ca ck (r_swp rt i k j))) :=
  w_al_sw (fun j => r_cl ca ck (rt j)) (fun j => r_cl ca ck (r_swp rt i k j)) hi hk (by show r_cl ca ck (r_swp rt i k i) = r_cl ca ck (rt k); rw [r_swp_i]) (by show r_cl ca ck (r_swp rt i k k) = r_cl ca ck (rt i); rw [r_swp_k]) (fun j h1 h2 => by show r_cl ca ck (rt j) = r_cl ca ck (r_swp rt i k j); rw [r_swp_o rt h1 h2])
theorem r_swp_ok {rt : Nat → RSt} {i k : Nat} (hi : i < 13) (hk : k < 13) (h : ∀ j, j < 13 → r_ok (rt j)) : ∀ j, j < 13 → r_ok (r_swp rt i k j) := fun j hj => by
  by_cases h1 : j = k
  · rw [h1, r_swp_k]
    exact h i hi
  · by_cases h2 : j = i
    · rw [h2, r_swp_i]
      exact h k hk
    · rw [r_swp_o rt h2 h1]
      exact h j hj
theorem r_swp_bf {rt : Nat → RSt} {bf : Nat → Option Nat} {i k r0 : Nat} (hr : (rt i).1 = r0) (h : ∀ j, j < 13 → bf j = some (rt j).1) : ∀ j, j < 13 → va_up (va_up bf i (some (rt k).1)) k (some r0) j = some (r_swp rt i k j).1 := fun j hj => by
  by_cases h1 : j = k
  · rw [h1, r_swp_k, va_up_self, hr]
  · rw [va_up_ne _ _ h1]
    by_cases h2 : j = i
    · rw [h2, r_swp_i, va_up_self]
    · rw [r_swp_o rt h2 h1, va_up_ne _ _ h2]
      exact h j hj
theorem r_mem (X : va_W) (ca : Nat → ClassId) (ck : ClassId) (rt : Nat → RSt) {j : Nat} (hj : j < 13) : ∃ qk : Nat, (X ++ w_al 13 (fun j => r_cl ca ck (rt j)))[qk]? = some ((rt j).1, .inr (4, [.ref (rt j).2.1, .ref (rt j).2.2.1, .int (rt j).2.2.2.2.2.2.1])) :=
  List.getElem?_of_mem (List.mem_append.mpr (Or.inr (List.mem_flatMap.mpr ⟨j, List.mem_range.mpr hj, List.mem_cons_self⟩)))
/-- the rules of c go: those of the others come together in front -/
def r_dr (c : Nat) : Nat → Nat → Nat → (Nat → RSt) → (Nat → RSt) × Nat
  | 0, _, kp, rt => (rt, kp)
  | k + 1, i, kp, rt => if r_mc (rt i) = c then r_dr c k (i + 1) kp rt else r_dr c k (i + 1) (kp + 1) (r_swp rt i kp)
