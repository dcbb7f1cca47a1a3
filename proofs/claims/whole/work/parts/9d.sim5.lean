section SIM4
variable {cap n fu : Nat} {rt : Nat → RSt} {cn : Nat → Bool} {rp : Nat → List Nat → Except Nat (List Nat)}
theorem e_nm_eq {c k : Nat} (hc : c_nm c) (en : Env0) (hen : ∀ q, q ∈ en → c_nm q.1) : o_nmk (c + 3 + 32 * k) (e_nms en) = e_nm c k en := by
  unfold o_nmk
  rw [o_lv_en hc en hen]
  unfold e_nm
  cases en_lv c k en with
  | none =>
    show nI (100 + (c + 3 + 32 * k - 100) % 32) = nI 100 + nI c - nI 97
    rw [nI_add, nsub (by omega)]
    congr 1
    omega
  | some i =>
    show nI (200 + i) = nI 200 + nI i
    rw [nI_add]
/-- an expression, by rows and by tokens -/
theorem sim_ex (hru : o_ru cap rt n fu cn rp) (hf : fu ≤ 12) (hrt : ∀ j, j < n → t_raw 60 (r_x (rt j))) : ∀ (d : Nat) (op : List Nat) (en : Env0), op.length + d = 12 → (∀ q, q ∈ en → c_nm q.1) → o_sim cap cn rp op en (fun a en q => e_ex cap rt n fu d a en q)
  | 0, op, en, hop, hen => by
    intro a q r ha hq ho
    have e1 : e_ex cap rt n fu 0 a en q = .error (uoN, q.2.1) := by rw [e_ex]
    refine ⟨fun e h => ?_, fun p h => by have h : e_ex cap rt n fu 0 a en q = .ok p := h; rw [e1] at h; cases h⟩
    have h : e_ex cap rt n fu 0 a en q = .error e := h
    rw [e1] at h
    cases h
    obtain ⟨s, hs⟩ := tkT_hd (y := q.1) (a := a)
    have c1 : ¬ tkm (some (x_sg q.1 a, x_st q.1 a)) = 2 := by
      by_cases h9 : x_sg q.1 a = 40
      · rw [tkm_open h9]; decide
      · exact (tkm_leaf h9 (ho.1 a ha)).2
    rw [hs]
    show o_to cn rp (oS (tkm (some (x_sg q.1 a, x_st q.1 a)) :: (s ++ r)) op en q) (.error (xc uoN, q.2.1))
    rw [xc_uo]
    exact o_to.one (o_st_dp (by omega) c1)
  | d + 1, op, en, hop, hen => by
    intro a q r ha hq ho
    have hop2 : ¬ op.length = 12 := by omega
    have e1 : e_ex cap rt n fu (d + 1) a en q = xb (e_rs cap rt n fu en 13 a q) (fun p =>
        if c_nm (x_sg p.2.1 p.1) then e_put (e_nm (x_sg p.2.1 p.1) (x_st p.2.1 p.1) en) p.2
        else if c_nu (x_sg p.2.1 p.1) then e_put (10 + nI (x_sg p.2.1 p.1) - 48) p.2
        else e_fm (fun a en q => e_ex cap rt n fu d a en q) en p.1 p.2) := by rw [e_ex]
    show (∀ e, e_ex cap rt n fu (d + 1) a en q = .error e → _) ∧ (∀ p, e_ex cap rt n fu (d + 1) a en q = .ok p → _)
    rw [e1]
    obtain ⟨a1, a2⟩ := sim_rs hru hf hrt hen hop2 13 a q r ha hq ho
    cases hrs : e_rs cap rt n fu en 13 a q with
    | error e =>
      refine ⟨fun e' h => ?_, fun p h => by cases h⟩
      cases h
      exact a1 e hrs
    | ok w =>
      obtain ⟨b1, b2, b3⟩ := a2 w.1 w.2 hrs
      obtain ⟨c1, c2, c3⟩ := e_rs_ok hf hrt 13 a q w.2 w.1 ha hq hrs
      have hnu : ¬ e_u w.2.1 en rt n w.1 := by
        rcases b3 with b3 | b3
        · exact b3
        · have := c1.2.2.2.2.1
          omega
      show (∀ e, (if c_nm (x_sg w.2.1 w.1) then e_put (e_nm (x_sg w.2.1 w.1) (x_st w.2.1 w.1) en) w.2 else if c_nu (x_sg w.2.1 w.1) then e_put (10 + nI (x_sg w.2.1 w.1) - 48) w.2 else e_fm (fun a en q => e_ex cap rt n fu d a en q) en w.1 w.2) = .error e → _) ∧ (∀ p, (if c_nm (x_sg w.2.1 w.1) then e_put (e_nm (x_sg w.2.1 w.1) (x_st w.2.1 w.1) en) w.2 else if c_nu (x_sg w.2.1 w.1) then e_put (10 + nI (x_sg w.2.1 w.1) - 48) w.2 else e_fm (fun a en q => e_ex cap rt n fu d a en q) en w.1 w.2) = .ok p → _)
      by_cases h1 : c_nm (x_sg w.2.1 w.1)
      · rw [if_pos h1]
        rw [tkT_leaf (y := w.2.1) (a := w.1) (by omega), tkm_nm h1] at b1
        have hst := o_st_nm (cn := cn) (rp := rp) (op := op) (en := en) (q := w.2) (r := r) hop2 (show 100 ≤ x_sg w.2.1 w.1 + 3 + 32 * x_st w.2.1 w.1 by omega)
        rw [e_nm_eq h1 en hen, o_put_S] at hst
        refine ⟨fun e h => b1.tr (o_to.one ?_), fun p h => ?_⟩
        · rw [h] at hst
          exact hst
        · rw [h] at hst
          obtain ⟨z1, z2, z3, z4⟩ := x_of_put c1 b2 h
          exact ⟨b1.tr (o_to.one hst), z2, z1, c2.tr z4⟩
      · rw [if_neg h1]
        by_cases h2 : c_nu (x_sg w.2.1 w.1)
        · rw [if_pos h2]
          rw [tkT_leaf (y := w.2.1) (a := w.1) (by omega), tkm_nu h2] at b1
          have hst := o_st_nu (cn := cn) (rp := rp) (op := op) (en := en) (q := w.2) (r := r) hop2 (show 6 ≤ x_sg w.2.1 w.1 - 38 ∧ x_sg w.2.1 w.1 - 38 < 100 by omega)
          have e2 : nI (x_sg w.2.1 w.1 - 38) = 10 + nI (x_sg w.2.1 w.1) - 48 := by
            show _ = nI 10 + nI (x_sg w.2.1 w.1) - nI 48
            rw [nI_add, nsub (by omega)]
            congr 1
            omega
          rw [e2, o_put_S] at hst
          refine ⟨fun e h => b1.tr (o_to.one ?_), fun p h => ?_⟩
          · rw [h] at hst
            exact hst
          · rw [h] at hst
            obtain ⟨z1, z2, z3, z4⟩ := x_of_put c1 b2 h
            exact ⟨b1.tr (o_to.one hst), z2, z1, c2.tr z4⟩
        · rw [if_neg h2]
          obtain ⟨f1, f2⟩ := sim_fm hru hop2 hen (fun b en2 h => sim_ex hru hf hrt d (b :: op) en2 (by show op.length + 1 + d = 12; omega) h) r c3 c1 b2 h1 h2 hnu
          refine ⟨fun e h => b1.tr (f1 e h), fun p h => ?_⟩
          obtain ⟨z1, z2, z3, z4⟩ := f2 p h
          exact ⟨b1.tr z1, z2, z3, c2.tr z4⟩
end SIM4
