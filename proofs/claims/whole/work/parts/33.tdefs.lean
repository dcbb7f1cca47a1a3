/-- may a node with the sign c be added -/
def t_can (cap c z s0 dp dm : Nat) : Prop := ¬ (dp = 0 ∧ s0 < z) ∧ ¬ (c = 40 ∧ dm ≤ dp) ∧ z - s0 < 60 ∧ z < cap
/-- the items' row behind an added node: the innermost open list has one more -/
def t_its (it op : Nat → Nat) (z dp : Nat) : Nat → Nat := if 0 < dp then va_up (va_up it z 0) (op (dp - 1)) (va_up it z 0 (op (dp - 1)) + 1) else va_up it z 0
theorem c40 {c : Nat} (h : c < 65536) : nI c = 40 ↔ c = 40 := (show (nI c = nI 40 ↔ c = 40) from nI_eq (Nat.lt_trans h (by decide)) (by decide))
