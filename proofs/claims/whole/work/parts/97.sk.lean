/-! The reference's tokens. -/
/-- the reference's number of a token -/
def tkm : Tk → Nat
  | none => 2
  | some q => if q.1 = 40 then 1 else if q.1 = 76 then 3 else if q.1 = 73 then 4 else if q.1 = 81 then 5 else if c_nu q.1 then q.1 - 38 else if c_nm q.1 then q.1 + 3 + 32 * q.2 else 0
/-- what a term's signs are -/
def c_tm (c : Nat) : Prop := c = 40 ∨ c_nm c ∨ c_nu c ∨ c_kw c
theorem tkm_open {c k : Nat} (h : c = 40) : tkm (some (c, k)) = 1 := if_pos h
theorem tkm_leaf {c k : Nat} (h : ¬ c = 40) (hc : c_tm c) : ¬ tkm (some (c, k)) = 1 ∧ ¬ tkm (some (c, k)) = 2 := by
  unfold tkm
  simp only
  rw [if_neg h]
  rcases hc with hc | hc | hc | hc
  · exact absurd hc h
  · rw [if_neg (by omega), if_neg (by omega), if_neg (by omega), if_neg (by omega), if_pos hc]
    omega
  · rw [if_neg (by omega), if_neg (by omega), if_neg (by omega), if_pos hc]
    omega
  · rcases hc with hc | hc | hc
    · rw [if_pos hc]; decide
    · rw [if_neg (by omega), if_pos hc]; decide
    · rw [if_neg (by omega), if_neg (by omega), if_pos hc]; decide
/-- behind a term, l lists being begun -/
def sk : List Nat → Nat → List Nat
  | [], _ => []
  | t :: r, l => if t = 1 then sk r (l + 1) else if t = 2 then (if l ≤ 1 then r else sk r (l - 1)) else if l = 0 then r else sk r l
def tk_ok (ts : List Tk) : Prop := ∀ q, some q ∈ ts → c_tm q.1
theorem tk_ok_l {a b : List Tk} (h : tk_ok (a ++ b)) : tk_ok a := fun q hq => h q (List.mem_append_left _ hq)
theorem tk_ok_r {a b : List Tk} (h : tk_ok (a ++ b)) : tk_ok b := fun q hq => h q (List.mem_append_right _ hq)
theorem tk_ok_t {c : Tk} {b : List Tk} (h : tk_ok (c :: b)) : tk_ok b := fun q hq => h q (List.mem_cons_of_mem _ hq)
theorem sk_l {x : TSt} {g : Nat → List Tk} (hg : ∀ a r l, tk_ok (g a) → 0 < l → sk ((g a).map tkm ++ r) l = sk r l) : ∀ (n a : Nat) (r : List Nat) (l : Nat), tk_ok (tk_l x g n a) → 0 < l → sk ((tk_l x g n a).map tkm ++ r) l = sk r l
  | 0, _, _, _, _, _ => rfl
  | n + 1, a, r, l, ho, hl => by
    unfold tk_l at ho ⊢
    rw [List.map_append, List.append_assoc, hg a _ l (tk_ok_l ho) hl, sk_l hg n _ r l (tk_ok_r ho) hl]
theorem sk_n {x : TSt} : ∀ (d a : Nat) (r : List Nat) (l : Nat), tk_ok (tk_n x d a) → (0 < l → sk ((tk_n x d a).map tkm ++ r) l = sk r l) ∧ (0 < d → sk ((tk_n x d a).map tkm ++ r) 0 = r)
  | 0, a, r, l, _ => ⟨fun _ => rfl, fun h => absurd h (Nat.lt_irrefl _)⟩
  | d + 1, a, r, l, ho => by
    unfold tk_n at ho ⊢
    have hc := ho _ List.mem_cons_self
    by_cases h : x_sg x a = 40
    · rw [if_pos h] at ho ⊢
      have ho2 := tk_ok_l (tk_ok_t ho)
      have e : ∀ l, sk ((some (x_sg x a, x_st x a) :: (tk_l x (tk_n x d) (x_it x a) (a + 1) ++ [none])).map tkm ++ r) l = if l = 0 then r else sk r l := by
        intro l
        rw [List.map_cons, tkm_open h]
        show sk ((tk_l x (tk_n x d) (x_it x a) (a + 1) ++ [none]).map tkm ++ r) (l + 1) = _
        rw [List.map_append, List.append_assoc, sk_l (fun a r l ho hl => (sk_n d a r l ho).1 hl) _ _ _ _ ho2 (Nat.succ_pos _)]
        show (if l + 1 ≤ 1 then r else sk r (l + 1 - 1)) = _
        by_cases h0 : l = 0
        · rw [if_pos (by omega), if_pos h0]
        · rw [if_neg (by omega), if_neg h0, Nat.add_sub_cancel]
      refine ⟨fun hl => ?_, fun _ => ?_⟩
      · rw [e l, if_neg (by omega)]
      · rw [e 0, if_pos rfl]
    · rw [if_neg h]
      obtain ⟨n1, n2⟩ := tkm_leaf (k := x_st x a) h hc
      refine ⟨fun hl => ?_, fun _ => ?_⟩
      · show (if tkm (some (x_sg x a, x_st x a)) = 1 then sk ([] ++ r) (l + 1) else if tkm (some (x_sg x a, x_st x a)) = 2 then (if l ≤ 1 then [] ++ r else sk ([] ++ r) (l - 1)) else if l = 0 then [] ++ r else sk ([] ++ r) l) = _
        rw [if_neg n1, if_neg n2, if_neg (by omega)]
        rfl
      · show (if tkm (some (x_sg x a, x_st x a)) = 1 then sk ([] ++ r) (0 + 1) else if tkm (some (x_sg x a, x_st x a)) = 2 then (if 0 ≤ 1 then [] ++ r else sk ([] ++ r) (0 - 1)) else if 0 = 0 then [] ++ r else sk ([] ++ r) 0) = _
        rw [if_neg n1, if_neg n2, if_pos rfl]
        rfl
