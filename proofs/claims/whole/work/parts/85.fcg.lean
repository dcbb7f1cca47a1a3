/-! What is put depends only on what was found. -/
theorem m_cp_cg {x : TSt} {kf ct cu : Nat → Nat} (h : ∀ v, v < 26 → ct v = cu v) : ∀ (k i : Nat) (a : Option Nat), m_cp x kf ct k i a = m_cp x kf cu k i a
  | 0, _, _ => rfl
  | k + 1, i, a => by
    unfold m_cp
    by_cases hm : k_many kf (x_sg x i)
    · rw [if_pos hm, if_pos hm, h (x_sg x i - 97) (by have := hm.1; omega), m_cp_cg h k (i + 1)]
    · rw [if_neg hm, if_neg hm, m_cp_cg h k (i + 1)]
theorem m_ev_cg {x : TSt} {kf ct cu : Nat → Nat} {tm : Nat} (h : ∀ v, v < 26 → ct v = cu v) : m_ev x kf ct tm ↔ m_ev x kf cu tm := by
  unfold m_ev
  constructor
  · intro q i a b c
    rw [← m_cp_cg h]; exact q i a b c
  · intro q i a b c
    rw [m_cp_cg h]; exact q i a b c
theorem f_cp_cg {x : TSt} {kf ct cu : Nat → Nat} (h : ∀ v, v < 26 → ct v = cu v) : f_cp x kf ct = f_cp x kf cu := funext fun i => by
  unfold f_cp
  rw [m_cp_cg h]
theorem f_c_cg {g g' : Nat → List Tk} : ∀ (n j m : Nat), j + n ≤ m → (∀ i, i < m → g i = g' i) → f_c g n j = f_c g' n j
  | 0, _, _, _, _ => rfl
  | n + 1, j, m, hm, h => by
    unfold f_c
    rw [h j (by omega), f_c_cg n (j + 1) m (by omega) h]
def f_hm (x : TSt) (kf ct : Nat → Nat) (nd k0 : Nat) : Prop := ∀ j, nd ≤ j → j < nd + x_sp x nd → k_many kf (x_sg x j) → k0 < ct (x_sg x j - 97) ∨ ∃ i, nd < i ∧ i ≤ j ∧ j < i + x_sp x i ∧ ¬ x_rp x i = 0
def f_he (x : TSt) (kf ct : Nat → Nat) (nd : Nat) : Prop := ∀ i, nd ≤ i → i < nd + x_sp x nd → ¬ x_rp x i = 0 → ¬ m_cp x kf ct (x_sp x i) i none = none
theorem f_l_cg {x : TSt} {kf ct : Nat → Nat} {g g' : Nat → Nat → List Tk} {k0 nd : Nat} (hwx : t_wf x) (hnd : nd < x_z x) (hm : f_hm x kf ct nd k0) (he : f_he x kf ct nd) (hg : ∀ a j, nd < a → a < x_z x → f_hm x kf ct a j → f_he x kf ct a → g a j = g' a j) : ∀ (n a : Nat), nd < a → (∀ i, nd < i → i < a → i + x_sp x i ≤ a) → t_ch x n a (nd + x_sp x nd) → f_l x (f_cp x kf ct) g k0 n a = f_l x (f_cp x kf ct) g' k0 n a
  | 0, _, _, _, _ => rfl
  | n + 1, a, h1, hp, hc => by
    have hwn := hwx nd hnd
    have hab : a < nd + x_sp x nd := hc.1
    have hle := t_ch_le hwx _ _ _ hwn.2.1 hc.2
    have hwa := hwx a (by omega)
    have he2 : f_he x kf ct a := fun i q1 q2 => he i (by omega) (by omega)
    have hp2 : ∀ i, nd < i → i < a + x_sp x a → i + x_sp x i ≤ a + x_sp x a := fun i a7 b7 => by
      rcases Nat.lt_or_ge i a with c7 | c7
      · exact Nat.le_trans (hp i a7 c7) (Nat.le_add_right _ _)
      · rcases Nat.eq_or_lt_of_le c7 with c8 | c8
        · rw [← c8]; exact Nat.le_refl _
        · exact t_nest hwx _ _ (a + 1) (a + x_sp x a) i hwa.2.1 (Nat.le_refl _) hwa.2.2 c8 b7
    have hrest := f_l_cg hwx hnd hm he hg n (a + x_sp x a) (by omega) hp2 hc.2
    unfold f_l
    rw [hrest]
    by_cases hr : x_rp x a = 0
    · rw [if_pos hr, if_pos hr]
      rw [hg a k0 h1 (by omega) (fun j a7 b7 c7 => (hm j (by omega) (by omega) c7).elim Or.inl (fun q => by
        obtain ⟨i, q3, q4, q5, q6⟩ := q
        rcases Nat.lt_or_ge i a with c8 | c8
        · exact absurd (hp i q3 c8) (by omega)
        · rcases Nat.eq_or_lt_of_le c8 with c9 | c9
          · rw [← c9] at q6; exact absurd hr q6
          · exact Or.inr ⟨i, c9, q4, q5, q6⟩)) he2]
    · rw [if_neg hr, if_neg hr]
      obtain ⟨cc, hcc⟩ : ∃ cc, m_cp x kf ct (x_sp x a) a none = some cc := by
        cases hq : m_cp x kf ct (x_sp x a) a none with
        | none => exact absurd hq (he a (by omega) (by omega) hr)
        | some c9 => exact ⟨c9, rfl⟩
      have e1 : f_cp x kf ct a = cc := by
        unfold f_cp
        rw [hcc]; rfl
      rw [e1, f_c_cg (g' := g' a) cc 0 cc (by omega) (fun i hi => hg a i h1 (by omega) (fun j a7 b7 c7 => Or.inl (by rw [(m_cp_ct _ _ _ _ hcc).2 j a7 b7 c7]; exact hi)) he2)]
theorem f_n_cg {x : TSt} {kf ct : Nat → Nat} {vt vu : Nat → Nat → List Tk} {md : Nat} (hwx : t_wf x) (hkf : ∀ i, kf i < 3) (hv : ∀ v k, v < 26 → k < ct v → vt v k = vu v k) (hsn : ∀ v, v < 26 → kf v = 1 → 0 < ct v) : ∀ (d nd k0 : Nat), nd < x_z x → f_hm x kf ct nd k0 → f_he x kf ct nd → f_n x kf (f_cp x kf ct) vt md d nd k0 = f_n x kf (f_cp x kf ct) vu md d nd k0
  | 0, _, _, _, _, _ => rfl
  | d + 1, nd, k0, hnd, hm, he => by
    have hwn := hwx nd hnd
    unfold f_n
    by_cases g1 : k_var kf (x_sg x nd)
    · rw [if_pos g1, if_pos g1]
      have hlt : x_sg x nd - 97 < 26 := by have := g1.1; omega
      by_cases g2 : k_many kf (x_sg x nd)
      · rw [if_pos g2]
        exact hv _ _ hlt ((hm nd (Nat.le_refl _) (by omega) g2).elim id (fun q => by obtain ⟨i, q1, q2, _⟩ := q; omega))
      · rw [if_neg g2]
        exact hv _ _ hlt (hsn _ hlt (by
          have q1 := hkf (x_sg x nd - 97)
          have q2 := g1.2
          have q3 : ¬ kf (x_sg x nd - 97) = 2 := fun q => g2 ⟨g1.1, q⟩
          omega))
    · rw [if_neg g1, if_neg g1]
      by_cases g3 : x_sg x nd = 40
      · rw [if_pos g3, if_pos g3]
        rw [f_l_cg hwx hnd hm he (fun a j q1 q2 q3 q4 => f_n_cg hwx hkf hv hsn d a j q2 q3 q4) (x_it x nd) (nd + 1) (Nat.lt_succ_self _) (fun i q1 q2 => by omega) hwn.2.2]
      · rw [if_neg g3, if_neg g3]
