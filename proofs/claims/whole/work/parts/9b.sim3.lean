section STEP
variable {cn : Nat → Bool} {rp : Nat → List Nat → Except Nat (List Nat)} {op : List Nat} {en : Env0} {q : XSt}
theorem o_st_cl {r : List Nat} : o_st cn rp (oS (2 :: r) op en q) = ob (o_put 2 (oS (2 :: r) op en q)) (fun q => .ok (r, q.2.1.tail, (if q.2.1.headD 0 = 1 then q.2.2.1.tail else q.2.2.1), q.2.2.2)) := by
  unfold o_st oS
  dsimp only
  rw [if_pos rfl]
theorem o_st_kw {t : Nat} {r : List Nat} (hop : ¬ op.length = 12) (h : 3 ≤ t ∧ t ≤ 5) : o_st cn rp (oS (t :: r) op en q) = .error (2, q.2.1) := by
  unfold o_st oS
  dsimp only
  rw [if_neg (by omega), if_neg hop, if_neg (by omega), if_neg (by omega), if_pos h]
theorem o_st_em {r : List Nat} (hop : ¬ op.length = 12) : o_st cn rp (oS (1 :: 2 :: r) op en q) = .error (2, q.2.1) := by
  unfold o_st oS
  dsimp only
  rw [if_neg (by decide), if_neg hop, if_pos rfl, if_pos rfl]
theorem o_st_fm {t1 : Nat} {r1 : List Nat} (hop : ¬ op.length = 12) (h : 3 ≤ t1 ∧ t1 ≤ 5) : o_st cn rp (oS (1 :: t1 :: r1) op en q) = o_fm t1 r1 (oS (1 :: t1 :: r1) op en q) := by
  unfold o_st oS
  dsimp only
  rw [if_neg (by decide), if_neg hop, if_pos rfl, if_neg (by omega), if_pos h]
theorem o_st_ap {t1 : Nat} {r1 : List Nat} (hop : ¬ op.length = 12) (h2 : ¬ t1 = 2) (h : ¬ (3 ≤ t1 ∧ t1 ≤ 5)) (hu : ¬ (100 ≤ t1 ∧ o_lv t1 (e_nms en) = none ∧ cn ((t1 - 100) % 32) = true)) : o_st cn rp (oS (1 :: t1 :: r1) op en q) = ob (o_put 1 (oS (1 :: t1 :: r1) op en q)) (fun q => .ok (t1 :: r1, 0 :: q.2.1, q.2.2)) := by
  unfold o_st oS
  dsimp only
  rw [if_neg (by decide), if_neg hop, if_pos rfl, if_neg h2, if_neg h, if_neg hu]
theorem o_st_nm {t : Nat} {r : List Nat} (hop : ¬ op.length = 12) (h : 100 ≤ t) : o_st cn rp (oS (t :: r) op en q) = ob (o_put (o_nmk t (e_nms en)) (oS (t :: r) op en q)) (fun q => .ok (r, q.2)) := by
  unfold o_st oS
  dsimp only
  rw [if_neg (by omega), if_neg hop, if_neg (by omega), if_pos h]
theorem o_st_nu {t : Nat} {r : List Nat} (hop : ¬ op.length = 12) (h : 6 ≤ t ∧ t < 100) : o_st cn rp (oS (t :: r) op en q) = ob (o_put (nI t) (oS (t :: r) op en q)) (fun q => .ok (r, q.2)) := by
  unfold o_st oS
  dsimp only
  rw [if_neg (by omega), if_neg hop, if_neg (by omega), if_neg (by omega), if_neg (by omega)]
theorem o_st_dp {t : Nat} {r : List Nat} (hop : op.length = 12) (h : ¬ t = 2) : o_st cn rp (oS (t :: r) op en q) = .error (3, q.2.1) := by
  unfold o_st oS
  dsimp only
  rw [if_neg h, if_pos hop]
/-- a list's end -/
theorem sim_cl {r : List Nat} {b : Nat} {en2 : Env0} (hb : (if b = 1 then (e_nms en).tail else e_nms en) = e_nms en2) : (∀ e, e_put 2 q = .error e → o_to cn rp (oS (2 :: r) (b :: op) en q) (.error (xc e.1, e.2))) ∧ (∀ p, e_put 2 q = .ok p → o_to cn rp (oS (2 :: r) (b :: op) en q) (.ok (oS r op en2 p))) := by
  refine ⟨fun e h => o_to.one ?_, fun p h => o_to.one ?_⟩
  · rw [o_st_cl, o_put_S, h]
    rfl
  · rw [o_st_cl, o_put_S, h]
    show Except.ok (r, op, (if b = 1 then (e_nms en).tail else e_nms en), p.2.2.1, p.2.2.2, p.2.1) = _
    rw [hb]
    rfl
end STEP
section SIM2
variable {cap n fu : Nat} {rt : Nat → RSt} {cn : Nat → Bool} {rp : Nat → List Nat → Except Nat (List Nat)}
theorem x_of_put {m : Int32} {q p : XSt} (hq : x_inv cap q) (ho : t_oq q) (h : e_put m q = .ok p) : x_inv cap p ∧ t_oq p ∧ p.1 = q.1 ∧ x_gr q p := by
  have h1 := e_put_ok hq h
  have h2 := (e_put_row h).1
  exact ⟨h1.1, by unfold t_oq; rw [h2, (e_put_row h).2]; exact ho, h2, h1.2⟩
/-- the items of a list, then its end -/
theorem sim_its {op : List Nat} {en en2 : Env0} {g : Nat → Env0 → XSt → XR XSt} {b : Nat} (hb : (if b = 1 then (e_nms en).tail else e_nms en) = e_nms en2) (hg : o_sim cap cn rp (b :: op) en g) {k a c : Nat} {q : XSt} {r : List Nat} (hc : t_ch q.1 k a c) (hcz : c ≤ x_z q.1) (hq : x_inv cap q) (ho : t_oq q) :
    (∀ e, xb (e_xs g en k a q) (e_put 2) = .error e → o_to cn rp (oS (tkS q.1 k a ++ 2 :: r) (b :: op) en q) (.error (xc e.1, e.2))) ∧ (∀ p, xb (e_xs g en k a q) (e_put 2) = .ok p → o_to cn rp (oS (tkS q.1 k a ++ 2 :: r) (b :: op) en q) (.ok (oS r op en2 p)) ∧ t_oq p ∧ x_inv cap p ∧ x_gr q p) := by
  obtain ⟨a1, a2⟩ := sim_xs hg k a c q (2 :: r) hc hcz hq ho
  cases hx : e_xs g en k a q with
  | error e =>
    refine ⟨fun e' h => ?_, fun p h => by cases h⟩
    cases h
    exact a1 e hx
  | ok w =>
    obtain ⟨b1, b2, b3, b4⟩ := a2 w hx
    obtain ⟨c1, c2⟩ := sim_cl (cn := cn) (rp := rp) (op := op) (q := w) (r := r) hb
    refine ⟨fun e h => b1.tr (c1 e h), fun p h => ?_⟩
    obtain ⟨d1, d2, d3, d4⟩ := x_of_put b3 b2 h
    exact ⟨b1.tr (c2 p h), d2, d1, b4.tr d4⟩
theorem not_wf_kw {y : TSt} (hl : t_lf y) {t : Nat} (ht : t < x_z y) (h : ¬ x_sg y t = 40) : ¬ e_wf y t := fun q => q.1 (hl t ht h).2
/-- the first token of a term -/
theorem tkT_hd {y : TSt} {a : Nat} : ∃ s, tkT y a = tkm (some (x_sg y a, x_st y a)) :: s := by
  have e : tk_n y 60 a = tk_n y (59 + 1) a := rfl
  unfold tkT
  rw [e, tk_n, List.map_cons]
  exact ⟨_, rfl⟩
theorem tkm_100 {c k : Nat} (hc : c_tm c) : 100 ≤ tkm (some (c, k)) ↔ c_nm c := by
  constructor
  · intro h
    rcases hc with hc | hc | hc | hc
    · rw [tkm_open hc] at h; omega
    · exact hc
    · rw [tkm_nu hc] at h; omega
    · have := tkm_kw (k := k) hc; omega
  · intro h
    rw [tkm_nm h]; omega
/-- a form's good shape, by rows and by tokens -/
theorem fm_good {y : TSt} (hw : t_wf6 y) (hl : t_lf y) (ho : t_ok y) {t m : Nat} (ht : t < x_z y) (hm : x_it y t = m + 1) (hk : c_kw (x_sg y (t + 1))) (r : List Nat) :
    ((if tkm (some (x_sg y (t + 1), x_st y (t + 1))) = 3 then o_ct (tkS y m (t + 2) ++ 2 :: r).length (tkS y m (t + 2) ++ 2 :: r) = 2 ∧ 100 ≤ (tkS y m (t + 2) ++ 2 :: r).headD 0 else if tkm (some (x_sg y (t + 1), x_st y (t + 1))) = 4 then o_ct (tkS y m (t + 2) ++ 2 :: r).length (tkS y m (t + 2) ++ 2 :: r) = 3 else o_ct (tkS y m (t + 2) ++ 2 :: r).length (tkS y m (t + 2) ++ 2 :: r) = 1) ↔ e_wf y t) := by
  have h1 := hw.1 t ht
  rw [hm] at h1
  have hc := ch_lf hl h1.2.1 (show ¬ x_sg y (t + 1) = 40 by rcases hk with h | h | h <;> omega) h1.2.2
  have hct : o_ct (tkS y m (t + 2) ++ 2 :: r).length (tkS y m (t + 2) ++ 2 :: r) = m := o_ct_T hw.1 ho m _ _ _ r hc h1.2.1 (by
    rw [List.length_append]
    have := tkS_len (y := y) m (t + 2)
    simp
    omega)
  rw [hct]
  unfold e_wf
  rw [hm]
  rcases hk with hk | hk | hk
  · rw [if_pos (tkm_L hk)]
    constructor
    · intro q
      refine ⟨by omega, fun _ => ⟨by omega, ?_⟩, fun q2 => by omega, fun q2 => by omega⟩
      obtain ⟨m', rfl⟩ : ∃ m', m = m' + 1 := ⟨m - 1, by omega⟩
      have h2 : t + 2 < t + x_sp y t := hc.1
      obtain ⟨s, hs⟩ := tkT_hd (y := y) (a := t + 2)
      have h3 := q.2
      rw [tkS_s, hs] at h3
      exact (tkm_100 (ho _ (by omega))).mp h3
    · intro q
      obtain ⟨q1, q2⟩ := q.2.1 hk
      obtain ⟨m', rfl⟩ : ∃ m', m = m' + 1 := ⟨m - 1, by omega⟩
      have h2 : t + 2 < t + x_sp y t := hc.1
      refine ⟨by omega, ?_⟩
      obtain ⟨s, hs⟩ := tkT_hd (y := y) (a := t + 2)
      rw [tkS_s, hs]
      exact (tkm_100 (ho _ (by omega))).mpr q2
  · rw [if_neg (by rw [tkm_I hk]; decide), if_pos (tkm_I hk)]
    constructor
    · intro q
      exact ⟨by omega, fun q2 => by omega, fun _ => by omega, fun q2 => by omega⟩
    · intro q
      have := q.2.2.1 hk
      omega
  · rw [if_neg (by rw [tkm_Q hk]; decide), if_neg (by rw [tkm_Q hk]; decide)]
    constructor
    · intro q
      exact ⟨by omega, fun q2 => by omega, fun q2 => by omega, fun _ => by omega⟩
    · intro q
      have := q.2.2.2 hk
      omega
end SIM2
