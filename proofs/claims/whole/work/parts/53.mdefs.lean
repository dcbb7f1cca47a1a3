/-- how many each MANY of k nodes from i on matched: a before them; none where that is not one number -/
def m_cp (x : TSt) (kf ct : Nat → Nat) : Nat → Nat → Option Nat → Option Nat
  | 0, _, a => a
  | k + 1, i, a => if k_many kf (x_sg x i) then (if a = none ∨ a = some (ct (x_sg x i - 97)) then m_cp x kf ct k (i + 1) (some (ct (x_sg x i - 97))) else none) else m_cp x kf ct k (i + 1) a
theorem m_cp_le {x : TSt} {kf ct : Nat → Nat} (h : ∀ j, ct j ≤ 60) : ∀ (k i : Nat) (a : Option Nat), (∀ b, a = some b → b ≤ 60) → ∀ b, m_cp x kf ct k i a = some b → b ≤ 60
  | 0, _, a, ha, b, hb => ha b hb
  | k + 1, i, a, ha, b, hb => by
    unfold m_cp at hb
    split at hb
    · split at hb
      · exact m_cp_le h k (i + 1) _ (fun c hc => by cases hc; exact h _) b hb
      · cases hb
    · exact m_cp_le h k (i + 1) a ha b hb
theorem lI_eq {a : Option Nat} {c : Nat} (ha : ∀ b, a = some b → b ≤ 60) (hc : c ≤ 60) (h : ¬ a = none) : lI a = nI c ↔ a = some c := by
  cases a with
  | none => exact absurd rfl h
  | some b =>
    have := ha b rfl
    constructor
    · intro h1
      rw [nI_inj (a := b) (b := c) (by omega) (by omega) h1]
    · intro h1
      cases h1
      rfl
/-- the rows of a template that repeat are even -/
def m_ev (x : TSt) (kf ct : Nat → Nat) (tm : Nat) : Prop := ∀ i, tm ≤ i → i < x_z x → ¬ x_rp x i = 0 → ¬ m_cp x kf ct (x_sp x i) i none = none
