abbrev t_clr (x : TSt) : TSt := (x_sg x, x_st x, x_sp x, x_it x, x_rp x, x_op x, 0, x_dp x, x_la x)
/-- e is where the first = stands, n if there is none -/
def d_eq (sg : Nat → Nat) (n e : Nat) : Prop := e ≤ n ∧ (∀ i, i < e → ¬ sg i = 61) ∧ (e < n → sg e = 61)
/-- the draft is a rule: x2 its terms, kg its variables' kinds, tm where its template begins -/
def r_is (cap : Nat) (sg : Nat → Nat) (n e : Nat) (x : TSt) (kf : Nat → Nat) (x2 : TSt) (kg : Nat → Nat) (tm : Nat) : Prop :=
  d_mac sg n ∧ d_til sg n e ∧ ∃ x1, t_res cap 1 sg n 0 e (t_clr x) = some x1 ∧ fv_go x1 (x_z x1 - 2) 2 0 (fun j => if j < 26 then 0 else kf j) = some kg ∧ tm = x_z x1 ∧ t_res cap 2 sg n (e + 1) n x1 = some x2 ∧ rm_go x2 kg (x_z x2 - tm) tm 0
theorem clr_raw {cap : Nat} {x : TSt} (h : t_raw cap x) : t_raw cap (t_clr x) := ⟨h.1, Nat.zero_le _, h.2.2.1, h.2.2.2⟩
theorem clr_spn (x : TSt) : t_spn (t_clr x) := fun i hi => absurd hi (Nat.not_lt_zero _)
theorem no_mac {cap n e : Nat} {sg kf : Nat → Nat} {x : TSt} (h : ¬ d_mac sg n) : ∀ a b c, ¬ r_is cap sg n e x kf a b c := fun _ _ _ q => h q.1
theorem no_til {cap n e : Nat} {sg kf : Nat → Nat} {x : TSt} (h : ¬ d_til sg n e) : ∀ a b c, ¬ r_is cap sg n e x kf a b c := fun _ _ _ q => h q.2.1
theorem no_pat {cap n e : Nat} {sg kf : Nat → Nat} {x : TSt} (h : t_res cap 1 sg n 0 e (t_clr x) = none) : ∀ a b c, ¬ r_is cap sg n e x kf a b c := fun _ _ _ q => by
  obtain ⟨-, -, x1, q1, -⟩ := q
  rw [h] at q1
  cases q1
theorem no_var {cap n e : Nat} {sg kf : Nat → Nat} {x x1 : TSt} (h : t_res cap 1 sg n 0 e (t_clr x) = some x1) (h2 : fv_go x1 (x_z x1 - 2) 2 0 (fun j => if j < 26 then 0 else kf j) = none) : ∀ a b c, ¬ r_is cap sg n e x kf a b c := fun _ _ _ q => by
  obtain ⟨-, -, x1', q1, q2, -⟩ := q
  rw [h] at q1
  cases q1
  rw [h2] at q2
  cases q2
theorem no_tem {cap n e : Nat} {sg kf : Nat → Nat} {x x1 : TSt} (h : t_res cap 1 sg n 0 e (t_clr x) = some x1) (h2 : t_res cap 2 sg n (e + 1) n x1 = none) : ∀ a b c, ¬ r_is cap sg n e x kf a b c := fun _ _ _ q => by
  obtain ⟨-, -, x1', q1, -, -, q2, -⟩ := q
  rw [h] at q1
  cases q1
  rw [h2] at q2
  cases q2
theorem no_man {cap n e : Nat} {sg kf kg : Nat → Nat} {x x1 x2 : TSt} (h : t_res cap 1 sg n 0 e (t_clr x) = some x1) (h1 : fv_go x1 (x_z x1 - 2) 2 0 (fun j => if j < 26 then 0 else kf j) = some kg) (h2 : t_res cap 2 sg n (e + 1) n x1 = some x2) (h3 : ¬ rm_go x2 kg (x_z x2 - x_z x1) (x_z x1) 0) : ∀ a b c, ¬ r_is cap sg n e x kf a b c := fun _ _ _ q => by
  obtain ⟨-, -, x1', q1, q4, q5, q2, q3⟩ := q
  rw [h] at q1
  cases q1
  rw [h2] at q2
  cases q2
  rw [h1] at q4
  cases q4
  rw [q5] at q3
  exact h3 q3
