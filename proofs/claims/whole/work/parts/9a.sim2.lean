/-! The expansion by rows and that by tokens go alike: forms and expressions. -/
theorem o_puts_S {r op : List Nat} {en : Env0} : ∀ (ms : List Int32) (q : XSt), q.2.2.2 ≤ 150 → o_puts ms (oS r op en q) = oR r op en (e_puts ms q)
  | [], q, h => by
    have e : e_puts [] q = .ok q := if_pos h
    rw [e]
    rfl
  | m :: ms, q, h => by
    show ob (o_put m (oS r op en q)) (o_puts ms) = _
    rw [o_put_S]
    by_cases h1 : q.2.2.2 < 150
    · have e1 : e_put m q = .ok (q.1, q.2.1, upd q.2.2.1 q.2.2.2 m, q.2.2.2 + 1) := if_pos h1
      rw [e1]
      show o_puts ms (oS r op en (q.1, q.2.1, upd q.2.2.1 q.2.2.2 m, q.2.2.2 + 1)) = _
      rw [o_puts_S ms _ (show q.2.2.2 + 1 ≤ 150 by omega)]
      congr 1
      unfold e_puts
      by_cases h2 : q.2.2.2 + (m :: ms).length ≤ 150
      · rw [if_pos h2, if_pos (by show q.2.2.2 + 1 + ms.length ≤ 150; simp at h2; omega)]
        show Except.ok (q.1, q.2.1, p_ap (upd q.2.2.1 q.2.2.2 m) (q.2.2.2 + 1) ms, q.2.2.2 + 1 + ms.length) = Except.ok (q.1, q.2.1, p_ap (upd q.2.2.1 q.2.2.2 m) (q.2.2.2 + 1) ms, q.2.2.2 + (ms.length + 1))
        rw [show q.2.2.2 + 1 + ms.length = q.2.2.2 + (ms.length + 1) by omega]
      · rw [if_neg h2, if_neg (by show ¬ q.2.2.2 + 1 + ms.length ≤ 150; simp at h2; omega)]
    · have e1 : e_put m q = .error (uoN, q.2.1) := if_neg h1
      have e2 : e_puts (m :: ms) q = .error (uoN, q.2.1) := if_neg (by simp; omega)
      rw [e1, e2]
      rfl
theorem qm_leaf {c k : Nat} (h : ¬ c = 40) (hc : c_tm c) : o_qm (tkm (some (c, k))) = e_qm c := by
  unfold e_qm o_qm
  rcases hc with hc | hc | hc | hc
  · exact absurd hc h
  · rw [tkm_nm hc, if_pos (by omega), if_neg (by omega), if_neg (by omega), if_neg (by omega), if_pos hc]
    show _ = nI 100 + nI c - nI 97
    rw [nI_add, nsub (by omega)]
    congr 1
    omega
  · rw [tkm_nu hc, if_neg (by omega), if_neg (by omega), if_neg (by omega), if_neg (by omega), if_neg (by omega), if_neg (by omega)]
    show _ = nI 10 + nI c - nI 48
    rw [nI_add, nsub (by omega)]
    congr 1
    omega
  · rcases hc with hc | hc | hc
    · subst hc; rw [tkm_L rfl]; decide
    · subst hc; rw [tkm_I rfl]; decide
    · subst hc; rw [tkm_Q rfl]; decide
theorem qm_l {x : TSt} {g : Nat → List Tk} {g2 : Nat → List Int32} (hg : ∀ a, tk_ok (g a) → ((g a).map tkm).map o_qm = g2 a) : ∀ (n a : Nat), tk_ok (tk_l x g n a) → ((tk_l x g n a).map tkm).map o_qm = q_l x g2 n a
  | 0, _, _ => rfl
  | n + 1, a, ho => by
    unfold tk_l at ho ⊢
    unfold q_l
    rw [List.map_append, List.map_append, hg a (tk_ok_l ho), qm_l hg n _ (tk_ok_r ho)]
theorem qm_n {x : TSt} : ∀ (d a : Nat), tk_ok (tk_n x d a) → ((tk_n x d a).map tkm).map o_qm = q_n x d a
  | 0, _, _ => rfl
  | d + 1, a, ho => by
    unfold tk_n at ho ⊢
    unfold q_n
    have hc := ho _ List.mem_cons_self
    by_cases h : x_sg x a = 40
    · rw [if_pos h] at ho ⊢
      rw [if_pos h, List.map_cons, List.map_cons, tkm_open h, List.map_append, List.map_append, qm_l (qm_n d) _ _ (tk_ok_l (tk_ok_t ho))]
      rfl
    · rw [if_neg h, if_neg h]
      show [o_qm (tkm (some (x_sg x a, x_st x a)))] = _
      rw [qm_leaf h hc]
theorem o_1st_T {y : TSt} (hw : t_wf y) (ho : t_ok y) {a : Nat} (ha : a < x_z y) (r : List Nat) : o_1st (tkT y a ++ r) = tkT y a := by
  unfold o_1st
  rw [sk_T hw ho ha, List.length_append, Nat.add_sub_cancel, List.take_left]
theorem o_ct_T {y : TSt} (hw : t_wf y) (ho : t_ok y) : ∀ (m a b f : Nat) (r : List Nat), t_ch y m a b → b ≤ x_z y → m < f → o_ct f (tkS y m a ++ 2 :: r) = m
  | 0, a, b, f, r, hc, hb, hf => by
    obtain ⟨f, rfl⟩ : ∃ g, f = g + 1 := ⟨f - 1, by omega⟩
    rfl
  | m + 1, a, b, f, r, hc, hb, hf => by
    obtain ⟨f, rfl⟩ : ∃ g, f = g + 1 := ⟨f - 1, by omega⟩
    have hab : a < b := hc.1
    rw [tkS_s, List.append_assoc]
    have hh : ∃ t s, tkT y a = t :: s ∧ ¬ t = 2 := by
      by_cases h : x_sg y a = 40
      · have e : tk_n y 60 a = tk_n y (59 + 1) a := rfl
        have e9 : tkT y a = tkm (some (x_sg y a, x_st y a)) :: (if x_sg y a = 40 then tk_l y (tk_n y 59) (x_it y a) (a + 1) ++ [none] else []).map tkm := by
          unfold tkT
          rw [e, tk_n, List.map_cons]
        rw [tkm_open h] at e9
        exact ⟨1, _, e9, by decide⟩
      · exact ⟨_, [], tkT_leaf h, (tkm_leaf h (ho a (by omega))).2⟩
    obtain ⟨t, s, e1, e2⟩ := hh
    have e3 := sk_T hw ho (show a < x_z y by omega) (tkS y m (a + x_sp y a) ++ 2 :: r)
    rw [e1] at e3 ⊢
    show (if t = 2 then 0 else o_ct f (sk (t :: (s ++ _)) 0) + 1) = _
    rw [if_neg e2]
    have e4 : t :: (s ++ (tkS y m (a + x_sp y a) ++ 2 :: r)) = (t :: s) ++ (tkS y m (a + x_sp y a) ++ 2 :: r) := rfl
    rw [e4, e3, o_ct_T hw ho m _ b f r hc.2 hb (by omega)]
theorem tkT_pos {y : TSt} {a : Nat} : 1 ≤ (tkT y a).length := by
  have e : tk_n y 60 a = tk_n y (59 + 1) a := rfl
  unfold tkT
  rw [e, tk_n]
  simp
theorem tkS_len {y : TSt} : ∀ (m a : Nat), m ≤ (tkS y m a).length
  | 0, _ => Nat.zero_le _
  | m + 1, a => by
    rw [tkS_s, List.length_append]
    have := tkS_len m (a + x_sp y a) (y := y)
    have := tkT_pos (y := y) (a := a)
    omega
theorem tkT_ag {x y : TSt} (h : t_wf x) (hg : t_ag (x_z x) x y) {a : Nat} (ha : a < x_z x) : tkT x a = tkT y a := by
  unfold tkT
  rw [tk_ag h hg ha]
theorem tkS_ag {x y : TSt} (h : t_wf x) (hg : t_ag (x_z x) x y) : ∀ (m a b : Nat), t_ch x m a b → b ≤ x_z x → tkS x m a = tkS y m a
  | 0, _, _, _, _ => rfl
  | m + 1, a, b, hc, hb => by
    have hab : a < b := hc.1
    rw [tkS_s, tkS_s, tkT_ag h hg (by omega), ← (hg a (by omega)).2.2.1, tkS_ag h hg m _ b hc.2 hb]
section SIM
variable {cap n fu : Nat} {rt : Nat → RSt} {cn : Nat → Bool} {rp : Nat → List Nat → Except Nat (List Nat)}
/-- what an expression does, seen by tokens -/
def o_sim (cap : Nat) (cn : Nat → Bool) (rp : Nat → List Nat → Except Nat (List Nat)) (op : List Nat) (en : Env0) (g : Nat → Env0 → XSt → XR XSt) : Prop :=
  ∀ (a : Nat) (q : XSt) (r : List Nat), a < x_z q.1 → x_inv cap q → t_oq q → (∀ e, g a en q = .error e → o_to cn rp (oS (tkT q.1 a ++ r) op en q) (.error (xc e.1, e.2))) ∧ (∀ p, g a en q = .ok p → o_to cn rp (oS (tkT q.1 a ++ r) op en q) (.ok (oS r op en p)) ∧ t_oq p ∧ x_inv cap p ∧ x_gr q p)
theorem sim_xs {op : List Nat} {en : Env0} {g : Nat → Env0 → XSt → XR XSt} (hg : o_sim cap cn rp op en g) : ∀ (k a b : Nat) (q : XSt) (r : List Nat), t_ch q.1 k a b → b ≤ x_z q.1 → x_inv cap q → t_oq q → (∀ e, e_xs g en k a q = .error e → o_to cn rp (oS (tkS q.1 k a ++ r) op en q) (.error (xc e.1, e.2))) ∧ (∀ p, e_xs g en k a q = .ok p → o_to cn rp (oS (tkS q.1 k a ++ r) op en q) (.ok (oS r op en p)) ∧ t_oq p ∧ x_inv cap p ∧ x_gr q p)
  | 0, a, b, q, r, _, _, hq, ho => by
    refine ⟨fun e h => (by cases h), fun p h => ?_⟩
    cases h
    exact ⟨o_to.rf, ho, hq, x_gr.rf⟩
  | k + 1, a, b, q, r, hc, hb, hq, ho => by
    have hab : a < b := hc.1
    rw [tkS_s, List.append_assoc]
    obtain ⟨g1, g2⟩ := hg a q (tkS q.1 k (a + x_sp q.1 a) ++ r) (by omega) hq ho
    cases hga : g a en q with
    | error e =>
      have e1 : e_xs g en (k + 1) a q = .error e := by rw [e_xs, hga]
      rw [e1]
      refine ⟨fun e' h => ?_, fun p h => by cases h⟩
      cases h
      exact g1 e hga
    | ok w =>
      obtain ⟨a1, a2, a3, a4⟩ := g2 w hga
      have es := (a4.2 a (by omega)).2.2.1
      have e1 : e_xs g en (k + 1) a q = e_xs g en k (a + x_sp q.1 a) w := by rw [e_xs, hga, es]
      have hc2 : t_ch w.1 k (a + x_sp q.1 a) b := t_ch_cg (x := q.1) _ _ _ (fun i _ hi => (a4.2 i (by omega)).2.2.1) hc.2
      obtain ⟨b1, b2⟩ := sim_xs hg k (a + x_sp q.1 a) b w r hc2 (Nat.le_trans hb a4.1) a3 a2
      rw [tkS_ag hq.2.1.1 a4.2 k _ b hc.2 hb] at a1
      rw [tkS_ag hq.2.1.1 a4.2 k _ b hc.2 hb, e1]
      refine ⟨fun e h => a1.tr (b1 e h), fun p h => ?_⟩
      obtain ⟨c1, c2, c3, c4⟩ := b2 p h
      exact ⟨a1.tr c1, c2, c3, a4.tr c4⟩
end SIM
