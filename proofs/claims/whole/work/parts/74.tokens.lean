/-- a token: a node to be added with its stamp, or a list's end -/
abbrev Tk : Type := Option (Nat × Nat)
/-- the tokens are added one after the other -/
def t_run (cap s0 dm : Nat) : List Tk → TSt → Option TSt
  | [], y => some y
  | some q :: r, y => (t_add cap s0 dm q.1 q.2 y).bind (fun y1 => t_run cap s0 dm r y1)
  | none :: r, y => (t_close y).bind (fun y1 => t_run cap s0 dm r y1)
theorem t_run_s {cap s0 dm : Nat} {q : Nat × Nat} {r : List Tk} {y : TSt} : t_run cap s0 dm (some q :: r) y = (t_add cap s0 dm q.1 q.2 y).bind (fun y1 => t_run cap s0 dm r y1) := by rw [t_run]
theorem t_run_e {cap s0 dm : Nat} {r : List Tk} {y : TSt} : t_run cap s0 dm (none :: r) y = (t_close y).bind (fun y1 => t_run cap s0 dm r y1) := by rw [t_run]
theorem t_run_app {cap s0 dm : Nat} : ∀ (a b : List Tk) (y : TSt), t_run cap s0 dm (a ++ b) y = (t_run cap s0 dm a y).bind (fun y1 => t_run cap s0 dm b y1)
  | [], b, y => by rw [List.nil_append, t_run]; rfl
  | some q :: r, b, y => by
    rw [List.cons_append, t_run_s, t_run_s]
    cases t_add cap s0 dm q.1 q.2 y with
    | none => rfl
    | some y1 => exact t_run_app r b y1
  | none :: r, b, y => by
    rw [List.cons_append, t_run_e, t_run_e]
    cases t_close y with
    | none => rfl
    | some y1 => exact t_run_app r b y1
theorem t_run_bd {cap s0 dm : Nat} : ∀ (ts : List Tk) (x y : TSt), t_bd s0 x → t_run cap s0 dm ts x = some y → t_bd s0 y ∧ t_ag s0 x y
  | [], x, y, hx, h => by cases h; exact ⟨hx, t_ag.rf⟩
  | some q :: r, x, y, hx, h => by
    rw [t_run_s] at h
    obtain ⟨w, hw, h⟩ := Option.bind_eq_some_iff.mp h
    have h1 := t_bd_add hx hw
    have h2 := t_run_bd r w y h1.1 h
    exact ⟨h2.1, h1.2.tr h2.2⟩
  | none :: r, x, y, hx, h => by
    rw [t_run_e] at h
    obtain ⟨w, hw, h⟩ := Option.bind_eq_some_iff.mp h
    have h1 := t_bd_close hx hw
    have h2 := t_run_bd r w y h1.1 h
    exact ⟨h2.1, h1.2.tr h2.2⟩
theorem t_run_inv {cap s0 dm : Nat} : ∀ (ts : List Tk) (x y : TSt), (∀ q, some q ∈ ts → q.1 < 65536) → t_inv cap s0 dm x → t_run cap s0 dm ts x = some y → t_inv cap s0 dm y ∧ x_z x ≤ x_z y
  | [], x, y, _, hx, h => by cases h; exact ⟨hx, Nat.le_refl _⟩
  | some q :: r, x, y, hs, hx, h => by
    rw [t_run_s] at h
    obtain ⟨w, hw, h⟩ := Option.bind_eq_some_iff.mp h
    have h1 := t_add_inv hx (hs q List.mem_cons_self) hw
    have h2 := t_run_inv r w y (fun q hq => hs q (List.mem_cons_of_mem _ hq)) h1.1 h
    exact ⟨h2.1, Nat.le_trans h1.2 h2.2⟩
  | none :: r, x, y, hs, hx, h => by
    rw [t_run_e] at h
    obtain ⟨w, hw, h⟩ := Option.bind_eq_some_iff.mp h
    have h1 := t_close_inv hx hw
    have h2 := t_run_inv r w y (fun q hq => hs q (List.mem_cons_of_mem _ hq)) h1.1 h
    exact ⟨h2.1, Nat.le_trans h1.2 h2.2⟩
/-- the stamps of a row stay small -/
def t_sm (K : Nat) (x : TSt) : Prop := ∀ i, x_st x i < K
theorem t_add_sm {cap s0 dm c k K : Nat} {x y : TSt} (hx : t_sm K x) (hk : k < K) (h : t_add cap s0 dm c k x = some y) : t_sm K y := by
  unfold t_add at h
  split at h
  · obtain rfl := Option.some.inj h
    intro i
    show va_up (x_st x) (x_z x) k i < K
    by_cases hq : i = x_z x
    · rw [hq, va_up_self]; exact hk
    · rw [va_up_ne _ _ hq]; exact hx i
  · cases h
theorem t_close_sm {K : Nat} {x y : TSt} (hx : t_sm K x) (h : t_close x = some y) : t_sm K y := by
  unfold t_close at h
  split at h
  · cases h
  · obtain rfl := Option.some.inj h
    exact hx
theorem t_rep_sm {K : Nat} {x y : TSt} (hx : t_sm K x) (h : t_rep x = some y) : t_sm K y := by
  unfold t_rep at h
  split at h
  · cases h
  · split at h
    · cases h
    · split at h
      · obtain rfl := Option.some.inj h
        exact hx
      · cases h
theorem t_run_sm {cap s0 dm K : Nat} : ∀ (ts : List Tk) (x y : TSt), (∀ q, some q ∈ ts → q.2 < K) → t_sm K x → t_run cap s0 dm ts x = some y → t_sm K y
  | [], x, y, _, hx, h => by cases h; exact hx
  | some q :: r, x, y, hs, hx, h => by
    rw [t_run_s] at h
    obtain ⟨w, hw, h⟩ := Option.bind_eq_some_iff.mp h
    exact t_run_sm r w y (fun q hq => hs q (List.mem_cons_of_mem _ hq)) (t_add_sm hx (hs q List.mem_cons_self) hw) h
  | none :: r, x, y, hs, hx, h => by
    rw [t_run_e] at h
    obtain ⟨w, hw, h⟩ := Option.bind_eq_some_iff.mp h
    exact t_run_sm r w y (fun q hq => hs q (List.mem_cons_of_mem _ hq)) (t_close_sm hx hw) h
theorem t_take_sm {cap s0 dm kd c K : Nat} {x y : TSt} (hK : 0 < K) (hx : t_sm K x) (h : t_take cap s0 dm kd c x = some y) : t_sm K y := by
  unfold t_take at h
  split at h
  · exact t_close_sm hx h
  · split at h
    · split at h
      · cases h
      · exact t_rep_sm hx h
    · split at h
      · exact t_add_sm hx hK h
      · cases h
theorem t_rds_sm {cap s0 dm kd n K : Nat} {sg : Nat → Nat} (hK : 0 < K) : ∀ (k i : Nat) (x y : TSt), t_sm K x → t_rds cap s0 dm kd sg n i k x = some y → t_sm K y
  | 0, _, x, y, hx, h => by cases h; exact hx
  | k + 1, i, x, y, hx, h => by
    unfold t_rds at h
    split at h
    · cases h
    · rename_i w hw
      exact t_rds_sm hK k (i + 1) w y (t_take_sm hK hx hw) h
theorem t_res_sm {cap kd n a b K : Nat} {sg : Nat → Nat} {x y : TSt} (hK : 0 < K) (hx : t_sm K x) (h : t_res cap kd sg n a b x = some y) : t_sm K y := by
  unfold t_res at h
  split at h
  · cases h
  · rename_i w hw
    split at h
    · cases h
      exact t_rds_sm hK _ _ _ _ (show t_sm K (t_beg x) from hx) hw
    · cases h
/-- the tokens of n terms side by side from a on -/
def tk_l (x : TSt) (g : Nat → List Tk) : Nat → Nat → List Tk
  | 0, _ => []
  | n + 1, a => g a ++ tk_l x g n (a + x_sp x a)
/-- the tokens of a term -/
def tk_n (x : TSt) : Nat → Nat → List Tk
  | 0, _ => []
  | d + 1, a => some (x_sg x a, x_st x a) :: (if x_sg x a = 40 then tk_l x (tk_n x d) (x_it x a) (a + 1) ++ [none] else [])
theorem tk_l_all {x : TSt} {g : Nat → List Tk} {p : Nat × Nat → Prop} (hg : ∀ a q, some q ∈ g a → p q) : ∀ (n a : Nat) (q : Nat × Nat), some q ∈ tk_l x g n a → p q
  | 0, _, q, h => by cases h
  | n + 1, a, q, h => by
    unfold tk_l at h
    rcases List.mem_append.mp h with h | h
    · exact hg a q h
    · exact tk_l_all hg n _ q h
theorem tk_n_all {x : TSt} {p : Nat × Nat → Prop} (hx : ∀ i, p (x_sg x i, x_st x i)) : ∀ (d a : Nat) (q : Nat × Nat), some q ∈ tk_n x d a → p q
  | 0, _, q, h => by cases h
  | d + 1, a, q, h => by
    unfold tk_n at h
    rcases List.mem_cons.mp h with h | h
    · cases h; exact hx a
    · split at h
      · rcases List.mem_append.mp h with h | h
        · exact tk_l_all (tk_n_all hx d) _ _ q h
        · simp at h
      · cases h
/-- a template's item put n times, from the j-th time on -/
def f_c (g : Nat → List Tk) : Nat → Nat → List Tk
  | 0, _ => []
  | n + 1, j => g j ++ f_c g n (j + 1)
/-- n items of a template from a on: cp a how often a repeated one is put, k0 the place of the others -/
def f_l (x : TSt) (cp : Nat → Nat) (g : Nat → Nat → List Tk) (k0 : Nat) : Nat → Nat → List Tk
  | 0, _ => []
  | n + 1, a => (if x_rp x a = 0 then g a k0 else f_c (g a) (cp a) 0) ++ f_l x cp g k0 n (a + x_sp x a)
/-- the tokens that a template's term is put as: vt v k those of the k-th term of variable v -/
def f_n (x : TSt) (kf cp : Nat → Nat) (vt : Nat → Nat → List Tk) (md : Nat) : Nat → Nat → Nat → List Tk
  | 0, _, _ => []
  | d + 1, a, k0 => if k_var kf (x_sg x a) then vt (x_sg x a - 97) (if k_many kf (x_sg x a) then k0 else 0) else
    some (x_sg x a, if c_nm (x_sg x a) then md + 1 else 0) :: (if x_sg x a = 40 then f_l x cp (f_n x kf cp vt md d) k0 (x_it x a) (a + 1) ++ [none] else [])
theorem f_c_all {g : Nat → List Tk} {p : Nat × Nat → Prop} (hg : ∀ j q, some q ∈ g j → p q) : ∀ (n j : Nat) (q : Nat × Nat), some q ∈ f_c g n j → p q
  | 0, _, q, h => by cases h
  | n + 1, j, q, h => by
    unfold f_c at h
    rcases List.mem_append.mp h with h | h
    · exact hg j q h
    · exact f_c_all hg n _ q h
theorem f_l_all {x : TSt} {cp : Nat → Nat} {g : Nat → Nat → List Tk} {k0 : Nat} {p : Nat × Nat → Prop} (hg : ∀ a j q, some q ∈ g a j → p q) : ∀ (n a : Nat) (q : Nat × Nat), some q ∈ f_l x cp g k0 n a → p q
  | 0, _, q, h => by cases h
  | n + 1, a, q, h => by
    unfold f_l at h
    rcases List.mem_append.mp h with h | h
    · split at h
      · exact hg a k0 q h
      · exact f_c_all (hg a) _ _ q h
    · exact f_l_all hg n _ q h
theorem f_n_all {x : TSt} {kf cp : Nat → Nat} {vt : Nat → Nat → List Tk} {md : Nat} {p : Nat × Nat → Prop} (hx : ∀ i, p (x_sg x i, if c_nm (x_sg x i) then md + 1 else 0)) (hv : ∀ v k q, some q ∈ vt v k → p q) : ∀ (d a k0 : Nat) (q : Nat × Nat), some q ∈ f_n x kf cp vt md d a k0 → p q
  | 0, _, _, q, h => by cases h
  | d + 1, a, k0, q, h => by
    unfold f_n at h
    split at h
    · exact hv _ _ q h
    · rcases List.mem_cons.mp h with h | h
      · cases h; exact hx a
      · split at h
        · rcases List.mem_append.mp h with h | h
          · exact f_l_all (f_n_all hx hv d) _ _ q h
          · simp at h
        · cases h
/-- an item's nodes lie inside it -/
theorem t_nest {x : TSt} (hw : t_wf x) : ∀ (m n a b i : Nat), b ≤ x_z x → b - a ≤ m → t_ch x n a b → a ≤ i → i < b → i + x_sp x i ≤ b
  | 0, n, a, b, i, hb, hm, h, h1, h2 => by omega
  | m + 1, 0, a, b, i, hb, hm, h, h1, h2 => by
    have h : a = b := h
    omega
  | m + 1, n + 1, a, b, i, hb, hm, h, h1, h2 => by
    have h3 : a < b := h.1
    have h4 := hw a (by omega)
    have h5 := t_ch_le hw n (a + x_sp x a) b hb h.2
    rcases Nat.lt_or_ge i (a + x_sp x a) with h6 | h6
    · rcases Nat.eq_or_lt_of_le h1 with h7 | h7
      · subst h7; omega
      · have := t_nest hw m _ (a + 1) (a + x_sp x a) i h4.2.1 (by omega) h4.2.2 (by omega) h6
        omega
    · exact t_nest hw m n (a + x_sp x a) b i hb (by omega) h.2 h6 h2
theorem t_run_nil {cap s0 dm : Nat} {y : TSt} : t_run cap s0 dm [] y = some y := by rw [t_run]
theorem m_cp_ct {x : TSt} {kf ct : Nat → Nat} : ∀ (k i n : Nat) (a : Option Nat), m_cp x kf ct k i a = some n → (∀ b, a = some b → b = n) ∧ ∀ j, i ≤ j → j < i + k → k_many kf (x_sg x j) → ct (x_sg x j - 97) = n
  | 0, i, n, a, h => ⟨fun b hb => by
      have h : a = some n := h
      rw [hb] at h
      exact Option.some.inj h, fun j h1 h2 => by omega⟩
  | k + 1, i, n, a, h => by
    unfold m_cp at h
    split at h
    · rename_i hm
      split at h
      · rename_i ho
        obtain ⟨h1, h2⟩ := m_cp_ct k (i + 1) n _ h
        have h3 := h1 _ rfl
        refine ⟨fun b hb => ?_, fun j a1 a2 a3 => ?_⟩
        · rcases ho with ho | ho
          · rw [ho] at hb; cases hb
          · rw [ho] at hb; cases hb; exact h3
        · rcases Nat.eq_or_lt_of_le a1 with h9 | h9
          · rw [← h9]; exact h3
          · exact h2 j h9 (by omega) a3
      · cases h
    · rename_i hm
      obtain ⟨h1, h2⟩ := m_cp_ct k (i + 1) n _ h
      refine ⟨h1, fun j a1 a2 a3 => ?_⟩
      rcases Nat.eq_or_lt_of_le a1 with h9 | h9
      · rw [← h9] at a3; exact absurd a3 hm
      · exact h2 j h9 (by omega) a3
