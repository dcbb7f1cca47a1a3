/-! Rows of numbers: an array's contents by a function of Nats. -/
def nf (f : Nat → Nat) : Nat → Int32 := fun j => nI (f j)
theorem nf_up (f : Nat → Nat) (i v : Nat) : upd (nf f) i (nI v) = nf (va_up f i v) := by
  funext j
  by_cases h : j = i <;> simp [upd, nf, va_up, h]
theorem nf_at (f : Nat → Nat) {i : Nat} (h : i < 2 ^ 31) : nf f (nI i).toNatClampNeg = nI (f i) := by rw [nI_clamp h]; rfl
theorem nar_c {c : Nat} (h : c < 65536) : vp_nar .char (nI c) = nI c := by
  unfold vp_nar
  rw [(pk_charN h).1]
theorem nar_b {c : Nat} (h : c < 2) : vp_nar .boolean (nI c) = nI c := by
  rcases (show c = 0 ∨ c = 1 by omega) with rfl | rfl <;> rfl
theorem nar_bz {c : Nat} (h : c < 2) : narrow .boolean (.int (nI c)) = .int (nI c) := by
  rcases (show c = 0 ∨ c = 1 by omega) with rfl | rfl <;> rfl
theorem nf_upc (f : Nat → Nat) {i v : Nat} (hi : i < 2 ^ 31) (h : v < 65536) : upd (nf f) (nI i).toNatClampNeg (vp_nar .char (nI v)) = nf (va_up f i v) := by rw [nI_clamp hi, nar_c h, nf_up]
theorem nf_upi (f : Nat → Nat) {i v : Nat} (hi : i < 2 ^ 31) : upd (nf f) (nI i).toNatClampNeg (nI v) = nf (va_up f i v) := by rw [nI_clamp hi, nf_up]
theorem nf_upb (f : Nat → Nat) {i v : Nat} (hi : i < 2 ^ 31) (h : v < 2) : upd (nf f) (nI i).toNatClampNeg (vp_nar .boolean (nI v)) = nf (va_up f i v) := by rw [nI_clamp hi, nar_b h, nf_up]
theorem nsub {a b : Nat} (h : b ≤ a) : nI a - nI b = nI (a - b) := pk_sub h
theorem nI_inj {a b : Nat} (ha : a < 2 ^ 31) (hb : b < 2 ^ 31) (h : nI a = nI b) : a = b := (nI_eq ha hb).mp h
