/-- may a node with the sign c be added -/
abbrev t_can (cap c z s0 dp dm : Nat) : Prop := ¬ (dp = 0 ∧ s0 < z) ∧ ¬ (c = 40 ∧ dm ≤ dp) ∧ z - s0 < 60 ∧ z < cap
/-- the items' row behind an added node: the innermost begun list has one more -/
def t_its (it op : Nat → Nat) (z dp : Nat) : Nat → Nat := if 0 < dp then va_up (va_up it z 0) (op (dp - 1)) (va_up it z 0 (op (dp - 1)) + 1) else va_up it z 0
theorem c40 {c : Nat} (h : c < 65536) : nI c = 40 ↔ c = 40 := (show (nI c = nI 40 ↔ c = 40) from nI_eq (Nat.lt_trans h (by decide)) (by decide))
/-- the last item: none, or its node -/
def lI : Option Nat → Int32
  | none => -1
  | some l => nI l
theorem lI_neg (o : Option Nat) (h : ∀ l, o = some l → l < 2 ^ 31) : lI o < 0 ↔ o = none := by
  cases o with
  | none => exact ⟨fun _ => rfl, fun _ => by decide⟩
  | some l => exact ⟨fun h9 => absurd h9 (nI_pos (h l rfl)), fun h9 => by cases h9⟩
/-- a row of terms: signs, stamps, spans, items, repeated, begun lists; size, depth, last item -/
abbrev TSt : Type := (Nat → Nat) × (Nat → Nat) × (Nat → Nat) × (Nat → Nat) × (Nat → Nat) × (Nat → Nat) × Nat × Nat × Option Nat
abbrev x_sg (x : TSt) : Nat → Nat := x.1
abbrev x_st (x : TSt) : Nat → Nat := x.2.1
abbrev x_sp (x : TSt) : Nat → Nat := x.2.2.1
abbrev x_it (x : TSt) : Nat → Nat := x.2.2.2.1
abbrev x_rp (x : TSt) : Nat → Nat := x.2.2.2.2.1
abbrev x_op (x : TSt) : Nat → Nat := x.2.2.2.2.2.1
abbrev x_z (x : TSt) : Nat := x.2.2.2.2.2.2.1
abbrev x_dp (x : TSt) : Nat := x.2.2.2.2.2.2.2.1
abbrev x_la (x : TSt) : Option Nat := x.2.2.2.2.2.2.2.2
def t_inv (cap s0 dm : Nat) (x : TSt) : Prop := cap < 2 ^ 31 ∧ x_z x ≤ cap ∧ s0 ≤ x_z x ∧ x_dp x ≤ dm ∧ dm ≤ 12 ∧ (∀ j, j < x_dp x → x_op x j < x_z x) ∧ (∀ l, x_la x = some l → l < x_z x) ∧ (∀ i, x_sg x i < 65536) ∧ (∀ i, x_rp x i < 2)
def t_add (cap s0 dm c k : Nat) (x : TSt) : Option TSt :=
  if t_can cap c (x_z x) s0 (x_dp x) dm then some (va_up (x_sg x) (x_z x) c, va_up (x_st x) (x_z x) k, va_up (x_sp x) (x_z x) 1, t_its (x_it x) (x_op x) (x_z x) (x_dp x), va_up (x_rp x) (x_z x) 0, (if c = 40 then va_up (x_op x) (x_dp x) (x_z x) else x_op x), x_z x + 1, (if c = 40 then x_dp x + 1 else x_dp x), (if c = 40 then none else some (x_z x))) else none
def t_close (x : TSt) : Option TSt :=
  if x_dp x = 0 then none else some (x_sg x, x_st x, va_up (x_sp x) (x_op x (x_dp x - 1)) (x_z x - x_op x (x_dp x - 1)), x_it x, x_rp x, x_op x, x_z x, x_dp x - 1, some (x_op x (x_dp x - 1)))
def t_rep (x : TSt) : Option TSt :=
  match x_la x with
  | none => none
  | some l => if x_dp x = 0 then none else if (List.range (x_z x)).all (fun i => decide (i < l) || decide (x_rp x i = 0)) = true then some (x_sg x, x_st x, x_sp x, x_it x, va_up (x_rp x) l 1, x_op x, x_z x, x_dp x, some l) else none
/-- a name's letter, a numeral's, a keyword's -/
abbrev c_nm (c : Nat) : Prop := 97 ≤ c ∧ c ≤ 122
abbrev c_nu (c : Nat) : Prop := 48 ≤ c ∧ c ≤ 57
abbrev c_kw (c : Nat) : Prop := c = 76 ∨ c = 73 ∨ c = 81
abbrev c_ok (kd c : Nat) : Prop := c = 40 ∨ c_nm c ∨ c_nu c ∨ c_kw c ∨ (c = 95 ∧ kd = 1)
/-- one sign more: kd 0 a plain term, 1 a pattern, 2 a template -/
def t_take (cap s0 dm kd c : Nat) (x : TSt) : Option TSt :=
  if c = 41 then t_close x else if c = 126 then (if kd = 0 then none else t_rep x) else if c_ok kd c then t_add cap s0 dm c 0 x else none
theorem all_rp {z l : Nat} {rp : Nat → Nat} : (List.range z).all (fun i => decide (i < l) || decide (rp i = 0)) = true ↔ ∀ i, l ≤ i → i < z → rp i = 0 := by
  rw [List.all_eq_true]
  constructor
  · intro h i h1 h2
    have h3 := h i (List.mem_range.mpr h2)
    simp only [Bool.or_eq_true, decide_eq_true_eq] at h3
    rcases h3 with h3 | h3
    · omega
    · exact h3
  · intro h i hi
    have hi := List.mem_range.mp hi
    simp only [Bool.or_eq_true, decide_eq_true_eq]
    rcases Nat.lt_or_ge i l with h1 | h1
    · exact Or.inl h1
    · exact Or.inr (h i h1 hi)
theorem nI_iff {a b : Nat} (ha : a < 2 ^ 31) (hb : b < 2 ^ 31) : nI a = nI b ↔ a = b := nI_eq ha hb
