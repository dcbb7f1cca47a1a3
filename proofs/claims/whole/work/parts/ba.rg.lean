/-! A rule that is read is one that the reference can keep: what holds of its row. -/
theorem rl_all {cap s0 dm kd : Nat} {P : Nat → Prop} (hP : ∀ c, c_ok kd c → P c) : ∀ (C : List Nat) (x y : TSt), t_rl cap s0 dm kd C x = some y → ∀ i, x_z x ≤ i → i < x_z y → P (x_sg y i)
  | [], x, y, h, i, h1, h2 => by cases h; omega
  | c :: C, x, y, h, i, h1, h2 => by
    obtain ⟨w, hw, h⟩ := Option.bind_eq_some_iff.mp h
    rcases take_cases hw with ⟨_, q⟩ | ⟨_, q⟩ | ⟨_, _, hc, q⟩
    · exact rl_all hP C w y h i (by have := (close_z q).1; omega) h2
    · obtain ⟨l, _, q2, _⟩ := rep_z q
      exact rl_all hP C w y h i (by omega) h2
    · obtain ⟨a1, a2, _⟩ := add_f q
      by_cases hi : i = x_z x
      · have := (rl_sg C w y i (by omega) h).1
        rw [this, a2, hi, va_up_self]
        exact hP c hc
      · exact rl_all hP C w y h i (by omega) h2
/-- a repeated node ends a list, or will -/
def LI (R : List Nat) (x : TSt) : Prop := ∀ i, i < x_z x → ¬ x_rp x i = 0 → (∃ a, a < i ∧ t_cd x a ∧ a + x_sp x a = i + x_sp x i) ∨ (x_la x = some i ∧ R.head? = some 41)
theorem pg_li {rest : List Nat} {x1 : TSt} : ∀ (R : List Nat) (x : TSt), pg R x = some (rest, x1) → t_bd 0 x → t_b2 0 x → t_li x → 2 ≤ x_z x → c_nm (x_sg x 1) → x_rp x 1 = 0 → LI R x → LI rest x1 ∧ x_rp x1 1 = 0
  | [], x, h, _, _, _, _, _, h1, hL => by
    unfold pg at h
    split at h
    · cases h
      exact ⟨hL, h1⟩
    · cases h
  | c :: R, x, h, hb, hb2, hl, h2, hn, h1, hL => by
    unfold pg at h
    by_cases h0 : x_dp x = 0
    · rw [if_pos h0] at h
      cases h
      exact ⟨hL, h1⟩
    · rw [if_neg h0] at h
      by_cases hp : pcond c R x
      · rw [if_pos hp] at h
        cases hy : t_take 60 0 8 1 c x with
        | none => rw [hy] at h; cases h
        | some y =>
          rw [hy] at h
          have hs1 := t_take_sg (i := 1) (by omega) hy
          have old : ∀ i, i < x_z x → ¬ x_rp x i = 0 → (∃ a, a < i ∧ t_cd x a ∧ a + x_sp x a = i + x_sp x i) → ∃ a, a < i ∧ t_cd y a ∧ a + x_sp y a = i + x_sp y i := by
            rintro i q1 q2 ⟨a, q3, q4, q5⟩
            obtain ⟨k1, k2, _⟩ := cl_keep (by omega) q4 hy
            obtain ⟨k3, _⟩ := cl_keep q1 (hb2.1 i (Nat.zero_le _) q1 q2).1 hy
            exact ⟨a, q3, k2, by rw [k1, k3]; exact q5⟩
          refine pg_li R y h (t_bd_take hb hy) (t_b2_take hb hb2 hy) (t_li_take hb hl hy) (by omega) (by rw [hs1.1]; exact hn) ?_ ?_
          · rcases take_cases hy with ⟨_, q⟩ | ⟨hc, q⟩ | ⟨_, _, _, q⟩
            · obtain ⟨_, _, _, b4, _⟩ := close_z q
              rw [b4]; exact h1
            · obtain ⟨l, b1, b2, b3, b4, b5, b6, _⟩ := rep_z q
              rw [b6]
              by_cases hq : l = 1
              · exfalso
                obtain ⟨m, _, _, m1, m2, m3⟩ := hb2.2.2 (by omega) l b1
                have := (hl.1 1 (by omega) (by omega)).1
                rw [hq] at m2
                exact (hp.1 hc).2 (by omega)
              · rw [va_up_ne _ _ (fun q => hq q.symm)]; exact h1
            · obtain ⟨_, _, b3, _⟩ := add_f q
              rw [b3, va_up_ne _ _ (by omega)]; exact h1
          · intro i q1 q2
            rcases take_cases hy with ⟨hc, q⟩ | ⟨hc, q⟩ | ⟨hc, _, _, q⟩
            · obtain ⟨b1, b2, b3, b4, b5, b6, b7⟩ := close_z q
              rw [b4] at q2
              rw [b1] at q1
              rcases hL i q1 q2 with z | ⟨z, _⟩
              · exact Or.inl (old i q1 q2 z)
              · obtain ⟨m, _, mm, m1, m2, m3⟩ := hb2.2.2 (by omega) i z
                have hge := t_ch_ge _ _ _ mm
                left
                refine ⟨x_op x (x_dp x - 1), by omega, fun j hj => ?_, ?_⟩
                · rw [b5]
                  have := hb.2.2.1 j (x_dp x - 1) (by omega) (by omega)
                  omega
                · have es : x_sp y (x_op x (x_dp x - 1)) = x_z x - x_op x (x_dp x - 1) := by
                    unfold t_close at q
                    rw [if_neg h0] at q
                    cases q
                    exact va_up_self _ _ _
                  rw [es, (cl_keep q1 m3 hy).1]
                  omega
            · obtain ⟨l, b1, b2, b3, b4, b5, b6, b7, b8, _⟩ := rep_z q
              rw [b2] at q1
              by_cases hq : i = l
              · exact Or.inr ⟨by rw [hq]; exact b8, (hp.1 hc).1⟩
              · rw [b6, va_up_ne _ _ hq] at q2
                rcases hL i q1 q2 with z | ⟨z, _⟩
                · exact Or.inl (old i q1 q2 z)
                · rw [b1] at z
                  exact absurd (Option.some.inj z).symm hq
            · obtain ⟨b1, b2, b3, _⟩ := add_f q
              rw [b3] at q2
              by_cases hq : i = x_z x
              · rw [hq, va_up_self] at q2
                exact absurd rfl q2
              · rw [va_up_ne _ _ hq] at q2
                rcases hL i (by omega) q2 with z | ⟨_, z⟩
                · exact Or.inl (old i (by omega) q2 z)
                · exact absurd (Option.some.inj z) hc
      · rw [if_neg hp] at h
        cases h
/-- a repeated item is a list's last -/
theorem lst_go {x : TSt} (hw : t_wf6 x) {b : Nat} (hb : b < x_z x) (hE : ∀ i, i < x_z x → ¬ x_rp x i = 0 → ∃ a, a < i ∧ a + x_sp x a = i + x_sp x i) : ∀ (n c k : Nat), t_ch x k (b + 1) c → t_ch x n c (b + x_sp x b) → b < c → lst x n c
  | 0, c, k, _, _, _ => trivial
  | n + 1, c, k, hk, hc, hbc => by
    have hbe := (hw.1 b hb).2.1
    have hcE : c < b + x_sp x b := hc.1
    have hcz : c < x_z x := by omega
    have hcs := hw.1 c hcz
    have hc2 : t_ch x n (c + x_sp x c) (b + x_sp x b) := hc.2
    refine ⟨fun hr => ?_, lst_go hw hb hE n (c + x_sp x c) (k + 1) (t_ch_sn k (b + 1) c _ hk (by omega) rfl) hc2 (by omega)⟩
    obtain ⟨a, ha, he⟩ := hE c hcz hr
    have haw := hw.1 a (by omega)
    cases n with
    | zero => rfl
    | succ m =>
      exfalso
      have hlt : c + x_sp x c < b + x_sp x b := hc2.1
      have all : ∀ i, 0 < i → i < x_z x → 1 ≤ x_sp x i ∧ i + x_sp x i ≤ x_z x ∧ t_ch x (x_it x i) (i + 1) (i + x_sp x i) := fun i _ hi => hw.1 i hi
      rcases Nat.lt_trichotomy a b with q | q | q
      · have := ch_end 0 all (x_z x) (x_it x a) (a + 1) (a + x_sp x a) b (by omega) (by omega) (by omega) haw.2.2 (by omega) (by omega)
        omega
      · rw [q] at he
        omega
      · have := ch_end 0 all (x_z x) k (b + 1) c a (by omega) (by omega) (by omega) hk (by omega) ha
        omega
theorem PT_of {cs : List Nat} {x : TSt} {kf : Nat → Nat} {x2 : TSt} {kg : Nat → Nat} {tm b : Nat} {R : List Nat} {xx : TSt} {C2 : List Nat} {x1 : TSt} {C : List Nat} (hc : ctx cs x x2 tm b C C2 xx x1) (hr : rtx cs x kf x2 kg tm b R xx C2 x1) : PT x2 kg tm ∧ x_rp x2 1 = 0 ∧ x_tms x2 tm ∧ ∀ c, c < 26 → (¬ kg c = 0 → ∃ i, 2 ≤ i ∧ i < tm ∧ c_nm (x_sg x2 i) ∧ x_sg x2 i - 97 = c) := by
  obtain ⟨w1, b1, b2, b3, z1, s0, s1, w2, d1, d2, d3, ag⟩ := ctx_wf hc
  obtain ⟨h1, h2, h3, h4, h5, h6, h7, h8, h9, h10, h11, h12, h13⟩ := hc
  obtain ⟨g1, g2, g3, g4, g5, g6, g7, g8⟩ := hr
  obtain ⟨a1, a2, a3, a4, a5, a6, a7, a8, a9, a10⟩ := pat2_ad h2 h3
  have hLI0 : LI R xx := fun i q1 q2 => by
    rcases (show i = 0 ∨ i = 1 by omega) with rfl | rfl
    · exact absurd a5 q2
    · exact absurd a6 q2
  obtain ⟨hLI, hr1⟩ := pg_li R xx g4 a7 a8 a9 (by omega) (by rw [a4]; exact h2) a6 hLI0
  have hE1 : ∀ i, i < x_z x1 → ¬ x_rp x1 i = 0 → ∃ a, a < i ∧ a + x_sp x1 a = i + x_sp x1 i := by
    intro i q1 q2
    rcases hLI i q1 q2 with ⟨a, z1, _, z2⟩ | ⟨_, z⟩
    · exact ⟨a, z1, z2⟩
    · exact absurd (Option.some.inj z) (by decide)
  subst h10
  have hks := fv_spec (fun i hi => (w1.1 i hi).1) (fun a b q1 q2 q3 q4 => b2.2.1 a b (Nat.zero_le _) q1 q2 q3 q4) (x_z x1 - 2) 2 0 (fun j => if j < 26 then 0 else kf j) (by omega) (by omega) (fun j hj => ⟨fun q => by omega, fun ⟨a, q1, q2, _⟩ => by omega⟩)
  have hks2 := hks.2 kg g5
  have hoks : ∀ i, x_z (t_beg x1) ≤ i → i < x_z x2 → c_tm (x_sg x2 i) := rl_all (P := c_tm) (fun c q => by
    rcases q with q | q | q | q | ⟨_, q⟩
    · exact Or.inl q
    · exact Or.inr (Or.inl q)
    · exact Or.inr (Or.inr (Or.inl q))
    · exact Or.inr (Or.inr (Or.inr q))
    · exact absurd q (by decide)) C2 (t_beg x1) x2 h11
  have hoks1 : ∀ i, x_z xx ≤ i → i < x_z x1 → c_ok 1 (x_sg x1 i) := rl_all (P := c_ok 1) (fun c q => q) C xx x1 h4
  refine ⟨⟨w2, d3.1, fun a ha => ?_, by omega, fun a ha h40 => ?_, fun i j q1 q2 q3 q4 q5 q6 => ?_, fun i q1 q2 q3 q4 => ?_, fun i a q1 q2 q3 q4 q5 q6 => ?_, fun a b' q1 q2 q3 q4 => ?_⟩, ?_, fun a q1 q2 => hoks a q1 q2, fun c hc q => ?_⟩
  · by_cases hlt : a < x_z x1
    · rw [← (ag a hlt).1]
      by_cases ha2 : 2 ≤ a
      · exact hoks1 a (by omega) hlt
      · rcases (show a = 0 ∨ a = 1 by omega) with rfl | rfl
        · exact Or.inl s0
        · exact Or.inr (Or.inl (by rw [s1]; exact h2))
    · rcases hoks a (by show x_z x1 ≤ a; omega) ha with q | q | q | q
      · exact Or.inl q
      · exact Or.inr (Or.inl q)
      · exact Or.inr (Or.inr (Or.inl q))
      · exact Or.inr (Or.inr (Or.inr (Or.inl q)))
  · have e := ag a ha
    have hw1 := w1.1 a ha
    have hl1 : lst x1 (x_it x1 a) (a + 1) := lst_go w1 ha hE1 (x_it x1 a) (a + 1) 0 rfl hw1.2.2 (by omega)
    have tr : ∀ (n c : Nat), t_ch x1 n c (a + x_sp x1 a) → lst x1 n c → lst x2 n c := by
      intro n
      induction n with
      | zero => intro c _ _; trivial
      | succ n ih =>
        intro c q1 q2
        have hcl : c < a + x_sp x1 a := q1.1
        have ec := ag c (by omega)
        refine ⟨fun z => q2.1 (by rw [ec.2.2.2.2]; exact z), ?_⟩
        rw [← ec.2.2.1]
        exact ih _ q1.2 q2.2
    rw [← e.2.2.2.1]
    exact tr _ _ hw1.2.2 hl1
  · have ei := ag i q2
    have ej := ag j q4
    rw [← ei.1] at q5 q6
    rw [← ej.1] at q6
    rcases Nat.lt_trichotomy i j with z | z | z
    · exact absurd q6 (h7 i j q1 z q4 q5)
    · exact z
    · exact absurd q6.symm (h7 j i q3 z q2 (by rw [← q6]; exact q5))
  · have ei := ag i q2
    rw [← ei.1] at q3 ⊢
    refine ((hks2 (x_sg x1 i - 97)).1 i q1 q2 q3 rfl).2 ?_
    rintro ⟨a, z1, z2, z3, z4⟩
    have ea := ag a (by omega)
    rw [ea.2.2.2.2] at z4
    rw [ea.2.2.1] at z3
    exact z4 (q4 a z1 z2 z3)
  · have ei := ag i q4
    have ea := ag a (by omega)
    rw [← ei.1] at q6 ⊢
    rw [← ea.2.2.2.2] at q5
    rw [← ea.2.2.1] at q3
    exact ((hks2 (x_sg x1 i - 97)).1 i (by omega) q4 q6 rfl).1 ⟨a, q1, q2, q3, q5⟩
  · have ea := ag a (by omega)
    have eb := ag b' q2
    rw [← ea.2.2.2.2] at q3
    rw [← eb.2.2.2.2] at q4
    rw [← ea.2.2.1]
    exact b2.2.1 a b' (Nat.zero_le _) q1 q2 q3 q4
  · rw [← (ag 1 (by omega)).2.2.2.2]
    exact hr1
  · apply Classical.byContradiction
    intro hno
    apply q
    rw [(hks2 c).2 (fun j z1 z2 z3 z4 => hno ⟨j, z1, z2, by rw [← (ag j z2).1]; exact z3, by rw [← (ag j z2).1]; exact z4⟩)]
    exact if_pos hc
theorem RG_of {sg : Nat → Nat} {n e : Nat} {cs : List Nat} {x : TSt} {kf : Nat → Nat} {Q : RSt} {tm b : Nat} {R : List Nat} {xx : TSt} {C2 : List Nat} {x1 : TSt} {C : List Nat} (hi : r_is 60 sg n e x kf (r_x Q) (r_kf Q) tm) (ht : r_tm Q = tm) (hk : ∀ c, kf c < 3) (hc : ctx cs x (r_x Q) tm b C C2 xx x1) (hr : rtx cs x kf (r_x Q) (r_kf Q) tm b R xx C2 x1) : RG Q := by
  obtain ⟨f1, f2, f3, f4, f5, f6, f7, f8, f9, f10⟩ := r_is_fit hi
  obtain ⟨p1, p2, p3, p4⟩ := PT_of hc hr
  obtain ⟨w1, b1, b2, b3, z1, s0, s1, w2, d1, d2, d3, ag⟩ := ctx_wf hc
  subst ht
  refine ⟨p1, f3, f5, f8, f7, p2, f4, f6, p3, ?_, fun a b q1 q2 q3 q4 q5 => d2.2.1 a b q1 q2 q3 q4 q5, fun j q1 q2 q3 => ?_, ?_, fun c hc q => p4 c hc q, f9⟩
  · exact fv_go_lt x1 _ _ _ _ _ (fun j => by
      show (if j < 26 then 0 else kf j) < 3
      split
      · decide
      · exact hk j) hr.2.2.2.2.1
  · obtain ⟨a, y1, y2, y3, y4⟩ := hr.2.2.2.2.2.2.2 j q1 q2 q3
    exact ⟨a, y1, y2, y3, y4⟩
  · apply Classical.byContradiction
    intro q
    have := (d2.1 (r_tm Q) (Nat.le_refl _) f4 q).2
    omega
