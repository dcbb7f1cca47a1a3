/-! A rule by the class's reading is a rule by the reference's. -/
theorem dch_get {sg : Nat → Nat} {n : Nat} {cs : List Nat} (h : Ds sg n cs) (i : Nat) : dch sg n i = cs[i]?.getD 32 := by
  unfold dch
  by_cases hi : i < n
  · rw [if_pos hi, h.2 i hi, List.getD_eq_getElem?_getD]
    have hl : i < cs.length := by rw [← h.1]; exact hi
    rw [List.getElem?_eq_getElem hl]
    rfl
  · rw [if_neg hi]
    have hl : cs.length ≤ i := by rw [← h.1]; omega
    rw [List.getElem?_eq_none hl]
    rfl
theorem til2_iff {rest : List Nat} : ∀ (C : List Nat), til2 rest C ↔ ∀ i, i < C.length → (C ++ rest)[i]? = some 126 → (C ++ rest)[i + 1]? = some 41
  | [] => ⟨fun _ i hi => absurd hi (Nat.not_lt_zero _), fun _ => trivial⟩
  | c :: C => by
    have hh : ∀ (l : List Nat), l.head? = l[0]? := fun l => by cases l <;> rfl
    constructor
    · rintro ⟨h1, h2⟩ i hi h
      cases i with
      | zero =>
        have h : some c = some 126 := h
        have := h1 (Option.some.inj h)
        rw [hh] at this
        exact this
      | succ i => exact (til2_iff C).mp h2 i (Nat.lt_of_succ_lt_succ hi) h
    · intro h
      refine ⟨fun hc => ?_, (til2_iff C).mpr (fun i hi q => h (i + 1) (Nat.succ_lt_succ hi) q)⟩
      rw [hh]
      exact h 0 (Nat.succ_pos _) (by show some c = some 126; rw [hc])
theorem fv_dsn {x : TSt} {kf : Nat → Nat} (hw : t_wf6 x) (hb2 : t_b2 0 x) (h2 : 2 ≤ x_z x) : (∃ kg, fv_go x (x_z x - 2) 2 0 (fun j => if j < 26 then 0 else kf j) = some kg) ↔ dsn x := by
  rw [(fv_spec (fun i hi => (hw.1 i hi).1) (fun a b q1 q2 q3 q4 => hb2.2.1 a b (Nat.zero_le _) q1 q2 q3 q4) (x_z x - 2) 2 0 (fun j => if j < 26 then 0 else kf j) (by omega) (by omega) (fun j hj => ⟨fun q => by omega, fun ⟨a, q1, q2, _⟩ => by omega⟩)).1]
  constructor
  · intro h i j q1 q2 q3 q4 q5
    exact (h j (by omega) q3 (by rw [← q5]; exact q4)).2 i q1 q2 q5
  · intro h j q1 q2 q3
    refine ⟨?_, fun j' z1 z2 z3 => h j' j z1 z2 q2 (by rw [z3]; exact q3) z3⟩
    show (if x_sg x j - 97 < 26 then 0 else kf (x_sg x j - 97)) = 0
    exact if_pos (by omega)
/-- a rule's text as the reference reads it -/
def rtx (cs : List Nat) (x : TSt) (kf : Nat → Nat) (x2 : TSt) (kg : Nat → Nat) (tm : Nat) (b : Nat) (R : List Nat) (xx : TSt) (C2 : List Nat) (x1 : TSt) : Prop :=
  cs = 40 :: b :: R ∧ c_nm b ∧ pat2 b x = some xx ∧ pg R xx = some (61 :: C2, x1) ∧ fv_go x1 (x_z x1 - 2) 2 0 (fun j => if j < 26 then 0 else kf j) = some kg ∧ tm = x_z x1 ∧ tg kg tm C2 (t_beg x1) = some x2 ∧ ∀ i, tm ≤ i → i < x_z x2 → k_many kg (x_sg x2 i) → inT x2 tm i
/-- and as the class does -/
def ctx (cs : List Nat) (x : TSt) (x2 : TSt) (tm : Nat) (b : Nat) (C C2 : List Nat) (xx x1 : TSt) : Prop :=
  cs = 40 :: b :: (C ++ 61 :: C2) ∧ c_nm b ∧ pat2 b x = some xx ∧ t_rl 60 0 8 1 C xx = some x1 ∧ x_dp x1 = 0 ∧ til2 (61 :: C2) C ∧ dsn x1 ∧ (∀ c, c ∈ C → ¬ c = 61) ∧ ¬ C.head? = some 126 ∧ tm = x_z x1 ∧ t_rl 60 tm 8 2 C2 (t_beg x1) = some x2 ∧ x_dp x2 = 0 ∧ tm < x_z x2
theorem pat2_ad {b : Nat} {x xx : TSt} (hb : c_nm b) (h : pat2 b x = some xx) : x_z xx = 2 ∧ x_dp xx = 1 ∧ x_sg xx 0 = 40 ∧ x_sg xx 1 = b ∧ x_rp xx 0 = 0 ∧ x_rp xx 1 = 0 ∧ t_bd 0 xx ∧ t_b2 0 xx ∧ t_li xx ∧ ∀ C, t_rl 60 0 8 1 (40 :: b :: C) (t_beg (t_clr x)) = t_rl 60 0 8 1 C xx := by
  obtain ⟨w, x2, hw, hx2, wz, wd, z2, d2, s0, s1, r0, r1, o0⟩ := pat2_some (x := x) hb
  have e : xx = x2 := by
    unfold pat2 at h
    rw [hw] at h
    have h : t_add 60 0 8 b 0 w = some xx := h
    rw [hx2] at h
    exact (Option.some.inj h).symm
  rw [e]
  have hB0 : t_bd 0 (t_beg (t_clr x)) := t_bd_beg (x := t_beg (t_clr x)) (t_wf6_beg (t_wf6_clr x)) rfl
  have hB20 : t_b2 0 (t_beg (t_clr x)) := t_b2_beg (x := t_clr x)
  have hli0 : t_li (t_beg (t_clr x)) := ⟨fun i hi => absurd hi (Nat.not_lt_zero _), fun j hj => absurd hj (Nat.not_lt_zero _)⟩
  have hty1 : t_take 60 0 8 1 40 (t_beg (t_clr x)) = some w := by rw [t_take_ad (by decide) (by decide) (Or.inl rfl)]; exact hw
  have hty2 : t_take 60 0 8 1 b w = some x2 := by rw [t_take_ad (by omega) (by omega) (Or.inr (Or.inl hb))]; exact hx2
  have hB1 := t_bd_take hB0 hty1
  have hB21 := t_b2_take hB0 hB20 hty1
  have hli1 := t_li_take hB0 hli0 hty1
  refine ⟨z2, d2, s0, s1, r0, r1, t_bd_take hB1 hty2, t_b2_take hB1 hB21 hty2, t_li_take hB1 hli1 hty2, fun C => ?_⟩
  show (t_take 60 0 8 1 40 (t_beg (t_clr x))).bind (fun w => (t_take 60 0 8 1 b w).bind (t_rl 60 0 8 1 C)) = _
  rw [hty1]
  show (t_take 60 0 8 1 b w).bind _ = _
  rw [hty2]
  rfl
/-- what both know of the rows -/
theorem ctx_wf {cs : List Nat} {x x2 : TSt} {tm b : Nat} {C C2 : List Nat} {xx x1 : TSt} (h : ctx cs x x2 tm b C C2 xx x1) : t_wf6 x1 ∧ t_bd 0 x1 ∧ t_b2 0 x1 ∧ t_li x1 ∧ 2 ≤ x_z x1 ∧ x_sg x1 0 = 40 ∧ x_sg x1 1 = b ∧ t_wf6 x2 ∧ t_bd tm x2 ∧ t_b2 tm x2 ∧ t_li x2 ∧ t_ag tm x1 x2 := by
  obtain ⟨h1, h2, h3, h4, h5, h6, h7, h8, h9, h10, h11, h12, h13⟩ := h
  obtain ⟨a1, a2, a3, a4, a5, a6, a7, a8, a9, a10⟩ := pat2_ad h2 h3
  obtain ⟨b1, b2, b3, b4⟩ := rl_bd C xx x1 a7 a8 a9 h4
  have s0 := rl_sg C xx x1 0 (by omega) h4
  have s1 := rl_sg C xx x1 1 (by omega) h4
  have w1 := t_bd_wf b1 h5
  have c1 : t_bd tm (t_beg x1) := by
    rw [h10]
    exact t_bd_beg (x := t_beg x1) (t_wf6_beg w1) rfl
  have c2 : t_b2 tm (t_beg x1) := by
    rw [h10]
    exact t_b2_beg
  have c3 : t_li (t_beg x1) := ⟨b3.1, fun j hj => absurd hj (Nat.not_lt_zero _)⟩
  obtain ⟨d1, d2, d3, d4⟩ := rl_bd C2 (t_beg x1) x2 c1 c2 c3 h11
  exact ⟨w1, b1, b2, b3, by omega, s0.1.trans a3, s1.1.trans a4, t_bd_wf d1 h12, d1, d2, d3, fun i hi => d4 i hi⟩
theorem rtx_iff {cs : List Nat} {x : TSt} {kf : Nat → Nat} {x2 : TSt} {kg : Nat → Nat} {tm b : Nat} {xx : TSt} {C2 : List Nat} {x1 : TSt} : (∃ R, rtx cs x kf x2 kg tm b R xx C2 x1) ↔ ∃ C, ctx cs x x2 tm b C C2 xx x1 ∧ fv_go x1 (x_z x1 - 2) 2 0 (fun j => if j < 26 then 0 else kf j) = some kg ∧ rm_go x2 kg (x_z x2 - tm) tm 0 := by
  constructor
  · rintro ⟨R, h1, h2, h3, h4, h5, h6, h7, h8⟩
    obtain ⟨a1, a2, a3, a4, a5, a6, a7, a8, a9, a10⟩ := pat2_ad h2 h3
    obtain ⟨C, e1, e2, e3, e4, e5, e6, e7⟩ := pg_back R xx h4 (fun i j q1 q2 q3 => by omega) (by omega)
    obtain ⟨b1, b2, b3, b4⟩ := rl_bd C xx x1 a7 a8 a9 e2
    have w1 := t_bd_wf b1 e3
    have c1 : t_bd tm (t_beg x1) := by
      rw [h6]
      exact t_bd_beg (x := t_beg x1) (t_wf6_beg w1) rfl
    have c2 : t_b2 tm (t_beg x1) := by
      rw [h6]
      exact t_b2_beg
    have c3 : t_li (t_beg x1) := ⟨b3.1, fun j hj => absurd hj (Nat.not_lt_zero _)⟩
    obtain ⟨f1, f2, f3, f4⟩ := tg_back C2 (t_beg x1) h7 c1 c2 c3 (Or.inr ⟨rfl, h6.symm, rfl⟩) (fun i q1 q2 => by have q2 : i < x_z x1 := q2; omega)
    have hc : ctx cs x x2 tm b C C2 xx x1 := ⟨by rw [h1, e1], h2, h3, e2, e3, e4, e5, e6, e7 a1, h6, f1, f2, f3⟩
    obtain ⟨_, _, _, _, _, _, _, w2, d1, d2, _, _⟩ := ctx_wf hc
    refine ⟨C, hc, h5, ?_⟩
    rw [rm_spec (fun i hi => (w2.1 i hi).1) (fun a b q0 q1 q2 q3 q4 => d2.2.1 a b q0 q1 q2 q3 q4) _ _ _ (by omega) (Nat.le_refl _) (fun j hj => ⟨fun q => by omega, fun ⟨a, q1, q2, _⟩ => by omega⟩)]
    exact ⟨f4, h8⟩
  · rintro ⟨C, hc, h5, hrm⟩
    obtain ⟨w1, b1, b2, b3, z1, _, _, w2, d1, d2, _, _⟩ := ctx_wf hc
    obtain ⟨h1, h2, h3, h4, h0, h6, h7, h8, h9, h10, h11, h12, h13⟩ := hc
    obtain ⟨a1, a2, a3, a4, a5, a6, a7, a8, a9, a10⟩ := pat2_ad h2 h3
    rw [rm_spec (fun i hi => (w2.1 i hi).1) (fun a b q0 q1 q2 q3 q4 => d2.2.1 a b q0 q1 q2 q3 q4) _ _ _ (by omega) (Nat.le_refl _) (fun j hj => ⟨fun q => by omega, fun ⟨a, q1, q2, _⟩ => by omega⟩)] at hrm
    have c1 : t_bd tm (t_beg x1) := by
      rw [h10]
      exact t_bd_beg (x := t_beg x1) (t_wf6_beg w1) rfl
    have c2 : t_b2 tm (t_beg x1) := by
      rw [h10]
      exact t_b2_beg
    have c3 : t_li (t_beg x1) := ⟨b3.1, fun j hj => absurd hj (Nat.not_lt_zero _)⟩
    refine ⟨C ++ 61 :: C2, h1, h2, h3, ?_, h5, h10, ?_, hrm.2⟩
    · exact pg_of h0 h7 ⟨_, _, rfl⟩ C xx h4 (by omega) h6 (by omega) (fun _ => by omega) (fun _ => h9)
    · exact tg_of h12 h13 hrm.1 C2 (t_beg x1) h11 c1 c2 c3 (Or.inr ⟨rfl, h10.symm, rfl⟩)
theorem res_rl {kd n a b : Nat} {sg : Nat → Nat} {cs : List Nat} {x y : TSt} (hD : Ds sg n cs) (hab : a + (b - a) ≤ n) : t_res 60 kd sg n a b x = some y ↔ t_rl 60 (x_z x) 8 kd ((cs.drop a).take (b - a)) (t_beg x) = some y ∧ x_dp y = 0 ∧ x_z x < x_z y := by
  unfold t_res
  rw [t_rds_rl, dls_eq hD _ _ hab]
  cases t_rl 60 (x_z x) 8 kd ((cs.drop a).take (b - a)) (t_beg x) with
  | none => exact ⟨fun q => (by cases q), fun ⟨q, _⟩ => (by cases q)⟩
  | some w =>
    show (if x_dp w = 0 ∧ x_z x < x_z w then some w else none) = some y ↔ _
    constructor
    · intro q
      split at q
      · cases q
        exact ⟨rfl, by assumption⟩
      · cases q
    · rintro ⟨q1, q2⟩
      cases q1
      exact if_pos q2
theorem ris_iff {sg : Nat → Nat} {n e : Nat} {cs : List Nat} {x : TSt} {kf : Nat → Nat} {x2 : TSt} {kg : Nat → Nat} {tm : Nat} (hD : Ds sg n cs) (hE : d_eq sg n e) : r_is 60 sg n e x kf x2 kg tm ↔ ∃ b C xx C2 x1, ctx cs x x2 tm b C C2 xx x1 ∧ fv_go x1 (x_z x1 - 2) 2 0 (fun j => if j < 26 then 0 else kf j) = some kg ∧ rm_go x2 kg (x_z x2 - tm) tm 0 := by
  have hn := hD.1
  constructor
  · rintro ⟨⟨m0, m1, m2⟩, ht, x1, h1, h2, h3, h4, h5⟩
    have hcs : ∃ b R, cs = 40 :: b :: R := by
      rw [dch_get hD] at m0
      rw [dch_get hD] at m1
      cases cs with
      | nil => exact absurd m0 (by decide)
      | cons a cs =>
        cases cs with
        | nil => exact absurd (show c_nm 32 from m1) (by decide)
        | cons b R =>
          have m0 : a = 40 := m0
          exact ⟨b, R, by rw [m0]⟩
    obtain ⟨b, R, rfl⟩ := hcs
    rw [List.length_cons, List.length_cons] at hn
    have hb : c_nm b := by
      rw [dch_get hD] at m1
      exact m1
    obtain ⟨e1, e2, e3⟩ := hE
    have he2 : 2 ≤ e := by
      by_cases hen : e < n
      · have h61 := e3 hen
        rw [hD.2 e hen] at h61
        apply Classical.byContradiction
        intro q
        rcases (show e = 0 ∨ e = 1 by omega) with rfl | rfl
        · exact absurd (show (40 : Nat) = 61 from h61) (by decide)
        · have h61 : b = 61 := h61
          omega
      · omega
    have hen : e < n := by
      apply Classical.byContradiction
      intro q
      have : n - (e + 1) = 0 := by omega
      unfold t_res at h4
      rw [this] at h4
      have h4 : (if x_dp (t_beg x1) = 0 ∧ x_z x1 < x_z x1 then some (t_beg x1) else none) = some x2 := h4
      rw [if_neg (fun q => Nat.lt_irrefl _ q.2)] at h4
      cases h4
    have hsp : (40 :: b :: R) = (40 :: b :: (R.take (e - 2))) ++ 61 :: R.drop (e - 1) := by
      show _ = 40 :: b :: (R.take (e - 2) ++ 61 :: R.drop (e - 1))
      congr 2
      have hl : e - 2 < R.length := by omega
      have hg : R[e - 2] = 61 := by
        have h61 := e3 hen
        rw [hD.2 e hen, List.getD_eq_getElem?_getD] at h61
        rw [show e = (e - 2) + 1 + 1 by omega, List.getElem?_cons_succ, List.getElem?_cons_succ, List.getElem?_eq_getElem hl] at h61
        exact h61
      have hdr : R.drop (e - 2) = 61 :: R.drop (e - 1) := by
        rw [List.drop_eq_getElem_cons hl, hg, show e - 2 + 1 = e - 1 by omega]
      rw [← hdr, List.take_append_drop]
    have hlC : (R.take (e - 2)).length = e - 2 := by rw [List.length_take]; omega
    rw [res_rl hD (by omega)] at h1
    rw [res_rl hD (by omega)] at h4
    obtain ⟨h1, h1b, h1c⟩ := h1
    obtain ⟨h4, h4b, h4c⟩ := h4
    have et1 : ((40 :: b :: R).drop 0).take (e - 0) = 40 :: b :: R.take (e - 2) := by
      rw [List.drop_zero, show e - 0 = (e - 2) + 1 + 1 by omega]
      rfl
    have et2 : ((40 :: b :: R).drop (e + 1)).take (n - (e + 1)) = R.drop (e - 1) := by
      rw [show e + 1 = (e - 1) + 1 + 1 by omega, List.drop_succ_cons, List.drop_succ_cons, List.take_of_length_le]
      rw [List.length_drop]
      omega
    rw [et1] at h1
    rw [et2] at h4
    obtain ⟨w, xx, hw, hx2, _⟩ := pat2_some (x := x) hb
    have hp2 : pat2 b x = some xx := by
      unfold pat2
      rw [hw]
      exact hx2
    obtain ⟨a1, a2, a3, a4, a5, a6, a7, a8, a9, a10⟩ := pat2_ad hb hp2
    have h1 : t_rl 60 0 8 1 (R.take (e - 2)) xx = some x1 := (a10 _).symm.trans h1
    obtain ⟨b1, b2, b3, b4⟩ := rl_bd _ xx x1 a7 a8 a9 h1
    have z1 := (rl_sg _ xx x1 0 (by omega) h1).2
    refine ⟨b, R.take (e - 2), xx, R.drop (e - 1), x1, ⟨hsp, hb, hp2, h1, h1b, ?_, (fv_dsn (t_bd_wf b1 h1b) b2 (by omega)).mp ⟨kg, h2⟩, fun c hc q => ?_, fun q => ?_, h3, by rw [h3]; exact h4, h4b, by rw [h3]; exact h4c⟩, h2, h5⟩
    · rw [til2_iff]
      intro i hi hq
      have hti := ht (i + 2) (by omega)
      rw [dch_get hD, dch_get hD, hsp] at hti
      have hti : (R.take (e - 2) ++ 61 :: R.drop (e - 1))[i]?.getD 32 = 126 → (R.take (e - 2) ++ 61 :: R.drop (e - 1))[i + 1]?.getD 32 = 41 := hti
      have := hti (by rw [hq]; rfl)
      cases hg : (R.take (e - 2) ++ 61 :: R.drop (e - 1))[i + 1]? with
      | none => rw [hg] at this; exact absurd this (by decide)
      | some v => rw [hg] at this; have this : v = 41 := this; rw [this]
    · obtain ⟨i, hi, hq⟩ := List.getElem_of_mem hc
      have := e2 (i + 2) (by omega)
      rw [hD.2 _ (by omega), hsp, List.getD_eq_getElem?_getD] at this
      apply this
      show (R.take (e - 2) ++ 61 :: R.drop (e - 1))[i]?.getD 0 = 61
      rw [List.getElem?_append_left hi, List.getElem?_eq_getElem hi, hq]
      exact q
    · apply m2
      rw [dch_get hD, hsp]
      show (R.take (e - 2) ++ 61 :: R.drop (e - 1))[0]?.getD 32 = 126
      cases hC : R.take (e - 2) with
      | nil => rw [hC] at q; cases q
      | cons c C =>
        rw [hC] at q
        exact Option.some.inj q
  · rintro ⟨b, C, xx, C2, x1, ⟨h1, h2, h3, h4, h5, h6, h7, h8, h9, h10, h11, h12, h13⟩, hf, hr⟩
    obtain ⟨a1, a2, a3, a4, a5, a6, a7, a8, a9, a10⟩ := pat2_ad h2 h3
    have hn' : n = C.length + C2.length + 3 := by
      rw [hn, h1, List.length_cons, List.length_cons, List.length_append, List.length_cons]
      omega
    have he : e = C.length + 2 := by
      obtain ⟨e1, e2, e3⟩ := hE
      have g1 : ∀ i, i < C.length + 2 → ¬ cs.getD i 0 = 61 := by
        intro i hi
        rw [h1, List.getD_eq_getElem?_getD]
        rcases (show i = 0 ∨ i = 1 ∨ ∃ j, i = j + 1 + 1 ∧ j < C.length from by
          by_cases q : i < 2
          · omega
          · exact Or.inr (Or.inr ⟨i - 2, by omega, by omega⟩)) with rfl | rfl | ⟨j, rfl, hj⟩
        · exact (by decide : ¬ (40 : Nat) = 61)
        · show ¬ b = 61
          omega
        · rw [List.getElem?_cons_succ, List.getElem?_cons_succ, List.getElem?_append_left hj, List.getElem?_eq_getElem hj]
          exact h8 _ (List.getElem_mem hj)
      have g2 : cs.getD (C.length + 2) 0 = 61 := by
        rw [h1, List.getD_eq_getElem?_getD, show C.length + 2 = C.length + 1 + 1 from rfl, List.getElem?_cons_succ, List.getElem?_cons_succ, List.getElem?_append_right (Nat.le_refl _), Nat.sub_self]
        rfl
      apply Classical.byContradiction
      intro q
      rcases Nat.lt_or_ge e (C.length + 2) with q1 | q1
      · have := e3 (by omega)
        rw [hD.2 e (by omega)] at this
        exact g1 e q1 this
      · have := e2 (C.length + 2) (by omega)
        rw [hD.2 _ (by omega)] at this
        exact this g2
    have et1 : (cs.drop 0).take (e - 0) = 40 :: b :: C := by
      rw [List.drop_zero, he, h1]
      show 40 :: b :: (C ++ 61 :: C2).take C.length = _
      rw [List.take_left]
    have et2 : (cs.drop (e + 1)).take (n - (e + 1)) = C2 := by
      rw [he, h1]
      show ((C ++ 61 :: C2).drop (C.length + 1)).take _ = C2
      rw [← List.drop_drop, List.drop_left]
      show C2.take _ = C2
      exact List.take_of_length_le (by omega)
    have z1 := (rl_sg _ xx x1 0 (by omega) h4).2
    refine ⟨⟨?_, ?_, ?_⟩, ?_, x1, ?_, hf, h10, ?_, hr⟩
    · rw [dch_get hD, h1]; rfl
    · rw [dch_get hD, h1]; exact h2
    · rw [dch_get hD, h1]
      intro q
      cases C with
      | nil => exact absurd (show (61 : Nat) = 126 from q) (by decide)
      | cons c C =>
        have q : c = 126 := q
        exact h9 (by rw [q]; rfl)
    · intro i hi
      rw [dch_get hD, dch_get hD, h1]
      rcases (show i = 0 ∨ i = 1 ∨ ∃ j, i = j + 1 + 1 ∧ j < C.length from by
        by_cases q : i < 2
        · omega
        · exact Or.inr (Or.inr ⟨i - 2, by omega, by omega⟩)) with rfl | rfl | ⟨j, rfl, hj⟩
      · intro q
        exact absurd (show (40 : Nat) = 126 from q) (by decide)
      · intro q
        have q : b = 126 := q
        omega
      · intro q
        have q : (C ++ 61 :: C2)[j]?.getD 32 = 126 := q
        show (C ++ 61 :: C2)[j + 1]?.getD 32 = 41
        have := (til2_iff C).mp h6 j hj (by
          cases hg : (C ++ 61 :: C2)[j]? with
          | none => rw [hg] at q; exact absurd q (by decide)
          | some v => rw [hg] at q; have q : v = 126 := q; rw [q])
        rw [this]
        rfl
    · rw [res_rl hD (by omega), et1]
      exact ⟨(a10 C).trans h4, h5, by show 0 < _; omega⟩
    · rw [res_rl hD (by omega), et2, ← h10]
      exact ⟨h11, h12, h13⟩
