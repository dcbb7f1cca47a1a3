/-! The expansion by rows and that by tokens go alike. -/
/-- the reference's tokens of a term, of terms side by side -/
def tkT (y : TSt) (a : Nat) : List Nat := (tk_n y 60 a).map tkm
def tkS (y : TSt) (n a : Nat) : List Nat := (tk_l y (tk_n y 60) n a).map tkm
theorem tkS_s {y : TSt} {n a : Nat} : tkS y (n + 1) a = tkT y a ++ tkS y n (a + x_sp y a) := by
  unfold tkS tkT
  rw [← List.map_append]
  rfl
theorem tkT_list {y : TSt} (hw : t_wf6 y) {a : Nat} (ha : a < x_z y) (h : x_sg y a = 40) : tkT y a = 1 :: (tkS y (x_it y a) (a + 1) ++ [2]) := by
  have h1 := hw.1 a ha
  have h2 := hw.2 a ha
  have hr := wf_reg hw.1 ha
  have e : tk_n y 60 a = tk_n y (59 + 1) a := rfl
  unfold tkT
  rw [e, tk_n, if_pos h, List.map_cons, tkm_open h, List.map_append]
  unfold tkS
  rw [tk_l_cg (x := y) (y := y) (g := tk_n y 59) (g' := tk_n y 60) _ _ _ h1.2.2 (fun _ _ _ => rfl) (fun i q1 q2 q3 => tk_fu 59 i (cl_sub hr (by omega) q3) (hr i (by omega) q2).1 (by omega))]
  rfl
theorem tkT_leaf {y : TSt} {a : Nat} (h : ¬ x_sg y a = 40) : tkT y a = [tkm (some (x_sg y a, x_st y a))] := by
  have e : tk_n y 60 a = tk_n y (59 + 1) a := rfl
  unfold tkT
  rw [e, tk_n, if_neg h]
  rfl
/-- the signs of a row's nodes -/
def t_ok (y : TSt) : Prop := ∀ i, i < x_z y → c_tm (x_sg y i)
theorem tk_ok_ln {x : TSt} {g : Nat → List Tk} : ∀ (n a b : Nat), t_ch x n a b → (∀ i, a ≤ i → i < b → i + x_sp x i ≤ b → tk_ok (g i)) → tk_ok (tk_l x g n a)
  | 0, _, _, _, _ => fun q hq => by cases hq
  | n + 1, a, b, h, hg => fun q hq => by
    have h1 : a < b := h.1
    have h2 := t_ch_ge n _ b h.2
    unfold tk_l at hq
    rcases List.mem_append.mp hq with hq | hq
    · exact hg a (Nat.le_refl _) h1 h2 q hq
    · exact tk_ok_ln n _ b h.2 (fun i q1 q2 q3 => hg i (by omega) q2 q3) q hq
theorem tk_ok_n {x : TSt} (hw : t_wf x) (ho : t_ok x) : ∀ (d a : Nat), a < x_z x → tk_ok (tk_n x d a)
  | 0, _, _ => fun q hq => by cases hq
  | d + 1, a, ha => fun q hq => by
    have h1 := hw a ha
    unfold tk_n at hq
    rcases List.mem_cons.mp hq with hq | hq
    · cases hq
      exact ho a ha
    · by_cases h : x_sg x a = 40
      · rw [if_pos h] at hq
        rcases List.mem_append.mp hq with hq | hq
        · exact tk_ok_ln _ _ _ h1.2.2 (fun i q1 q2 q3 => tk_ok_n hw ho d i (by omega)) q hq
        · simp at hq
      · rw [if_neg h] at hq
        cases hq
theorem sk_T {y : TSt} (hw : t_wf y) (ho : t_ok y) {a : Nat} (ha : a < x_z y) (r : List Nat) : sk (tkT y a ++ r) 0 = r := (sk_n 60 a r 0 (tk_ok_n hw ho 60 a ha)).2 (by decide)
theorem tkm_nm {c k : Nat} (h : c_nm c) : tkm (some (c, k)) = c + 3 + 32 * k := by
  unfold tkm
  simp only
  rw [if_neg (by omega), if_neg (by omega), if_neg (by omega), if_neg (by omega), if_neg (by omega), if_pos h]
theorem tkm_nu {c k : Nat} (h : c_nu c) : tkm (some (c, k)) = c - 38 := by
  unfold tkm
  simp only
  rw [if_neg (by omega), if_neg (by omega), if_neg (by omega), if_neg (by omega), if_pos h]
theorem tkm_L {k : Nat} {c : Nat} (h : c = 76) : tkm (some (c, k)) = 3 := by subst h; rfl
theorem tkm_I {k : Nat} {c : Nat} (h : c = 73) : tkm (some (c, k)) = 4 := by subst h; rfl
theorem tkm_Q {k : Nat} {c : Nat} (h : c = 81) : tkm (some (c, k)) = 5 := by subst h; rfl
theorem tkm_kw {c k : Nat} (h : c_kw c) : 3 ≤ tkm (some (c, k)) ∧ tkm (some (c, k)) ≤ 5 := by
  rcases h with h | h | h
  · rw [tkm_L h]; decide
  · rw [tkm_I h]; decide
  · rw [tkm_Q h]; decide
/-- the names bound, as the reference has them -/
def e_nms (en : Env0) : List Nat := en.map (fun q => q.1 + 3 + 32 * q.2)
theorem o_lv_en {c k : Nat} (hc : c_nm c) : ∀ (en : Env0), (∀ q, q ∈ en → c_nm q.1) → o_lv (c + 3 + 32 * k) (e_nms en) = en_lv c k en
  | [], _ => rfl
  | q :: r, h => by
    have h1 := h q List.mem_cons_self
    show (if q.1 + 3 + 32 * q.2 = c + 3 + 32 * k then some (e_nms r).length else o_lv (c + 3 + 32 * k) (e_nms r)) = (if q.1 = c ∧ q.2 = k then some r.length else en_lv c k r)
    have e : (e_nms r).length = r.length := by unfold e_nms; rw [List.length_map]
    by_cases h2 : q.1 = c ∧ q.2 = k
    · rw [if_pos (by rw [h2.1, h2.2]), if_pos h2, e]
    · rw [if_neg (fun q9 => h2 (by omega)), if_neg h2, o_lv_en hc r (fun q hq => h q (List.mem_cons_of_mem _ hq))]
/-- the reference's number of a fault -/
def xc (x : String) : Nat := if x = isN then 2 else 3
theorem xc_is : xc isN = 2 := rfl
theorem xc_uo : xc uoN = 3 := by decide
/-- a state of the expansion, r behind what it is at -/
def oS (r op : List Nat) (en : Env0) (q : XSt) : OQ := (r, op, e_nms en, q.2.2.1, q.2.2.2, q.2.1)
def oR (r op : List Nat) (en : Env0) (a : XR XSt) : OR OQ := match a with
  | .ok p => .ok (oS r op en p)
  | .error e => .error (xc e.1, e.2)
theorem o_put_S {m : Int32} {r op : List Nat} {en : Env0} {q : XSt} : o_put m (oS r op en q) = oR r op en (e_put m q) := by
  unfold o_put e_put oS oR
  by_cases h : q.2.2.2 < 150
  · rw [if_pos h, if_pos h]
    rfl
  · rw [if_neg h, if_neg h]
    show Except.error (3, q.2.1) = Except.error (xc uoN, q.2.1)
    rw [xc_uo]
/-- the signs and the size of an expansion's row -/
def t_oq (q : XSt) : Prop := t_ok q.1 ∧ x_z q.1 ≤ 60 * (q.2.1 + 1) ∧ ∀ i, i < x_z q.1 → x_st q.1 i ≤ q.2.1
/-- rules as the reference has them do what the rules do -/
def o_ru (cap : Nat) (rt : Nat → RSt) (n fu : Nat) (cn : Nat → Bool) (rp : Nat → List Nat → Except Nat (List Nat)) : Prop :=
  (∀ c, c_nm c → (cn (c - 97) = true ↔ ∃ j, j < n ∧ r_mc (rt j) = c)) ∧
  ∀ (q : XSt) (nd : Nat) (r : List Nat), x_inv cap q → t_oq q → nd < x_z q.1 → ¬ x_it q.1 nd = 0 → c_nm (x_sg q.1 (nd + 1)) →
    (∀ e, e_rp cap rt n fu nd q = .error e → rp q.2.1 (tkT q.1 nd ++ r) = .error (xc e.1) ∧ e.2 = q.2.1) ∧
    (∀ t p, e_rp cap rt n fu nd q = .ok (t, p) → rp q.2.1 (tkT q.1 nd ++ r) = .ok (tkT p.1 t ++ r) ∧ t_oq p ∧ p.2 = (q.2.1 + 1, q.2.2))
theorem lf_list {y : TSt} (hl : t_lf y) {a : Nat} (ha : a < x_z y) (h : ¬ x_it y a = 0) : x_sg y a = 40 := by
  by_cases h1 : x_sg y a = 40
  · exact h1
  · exact absurd (hl a ha h1).2 h
/-- a list that is not empty: its head -/
theorem tkT_head {y : TSt} (hw : t_wf6 y) {a m : Nat} (ha : a < x_z y) (h : x_sg y a = 40) (hm : x_it y a = m + 1) : tkT y a = 1 :: (tkT y (a + 1) ++ (tkS y m (a + 1 + x_sp y (a + 1)) ++ [2])) := by
  rw [tkT_list hw ha h, hm, tkS_s, List.append_assoc]
theorem o_st_use {cn : Nat → Bool} {rp : Nat → List Nat → Except Nat (List Nat)} {t1 fd md : Nat} {r1 op nm : List Nat} {mk : Nat → Int32} (hop : ¬ op.length = 12) (c1 : ¬ t1 = 2) (c2 : ¬ (3 ≤ t1 ∧ t1 ≤ 5)) (c4 : 100 ≤ t1 ∧ o_lv t1 nm = none ∧ cn ((t1 - 100) % 32) = true) : o_st cn rp (1 :: t1 :: r1, op, nm, mk, fd, md) = (match rp md (1 :: t1 :: r1) with
    | .error e => .error (e, md)
    | .ok r2 => .ok (r2, op, nm, mk, fd, md + 1)) := by
  unfold o_st
  dsimp only
  rw [if_neg (by decide), if_neg hop, if_pos rfl, if_neg c1, if_neg c2, if_pos c4]
  cases rp md (1 :: t1 :: r1) <;> rfl
section SIM
variable {cap n fu : Nat} {rt : Nat → RSt} {cn : Nat → Bool} {rp : Nat → List Nat → Except Nat (List Nat)}
/-- a use that is replaced, again and again -/
theorem sim_rs (hru : o_ru cap rt n fu cn rp) (hf : fu ≤ 12) (hrt : ∀ j, j < n → t_raw 60 (r_x (rt j))) {en : Env0} (hen : ∀ q, q ∈ en → c_nm q.1) {op : List Nat} (hop : ¬ op.length = 12) : ∀ (k nd : Nat) (q : XSt) (r : List Nat), nd < x_z q.1 → x_inv cap q → t_oq q →
    (∀ e, e_rs cap rt n fu en k nd q = .error e → o_to cn rp (oS (tkT q.1 nd ++ r) op en q) (.error (xc e.1, e.2))) ∧
    (∀ t p, e_rs cap rt n fu en k nd q = .ok (t, p) → o_to cn rp (oS (tkT q.1 nd ++ r) op en q) (.ok (oS (tkT p.1 t ++ r) op en p)) ∧ t_oq p ∧ (¬ e_u p.1 en rt n t ∨ p.2.1 = q.2.1 + k))
  | 0, nd, q, r, hn, hq, ho => by
    refine ⟨fun e h => (by cases h), fun t p h => ?_⟩
    cases h
    exact ⟨o_to.rf, ho, Or.inr rfl⟩
  | k + 1, nd, q, r, hn, hq, ho => by
    by_cases hu : e_u q.1 en rt n nd
    · have hr := hru.2 q nd r hq ho hn hu.1 hu.2.1
      have h40 := lf_list hq.2.2.1 hn hu.1
      obtain ⟨m, hm⟩ : ∃ m, x_it q.1 nd = m + 1 := ⟨x_it q.1 nd - 1, by have := hu.1; omega⟩
      have hit := t_it_le hq.2.1.1 hn
      have hhd := tkT_head hq.2.1 hn h40 hm
      have hlf : tkT q.1 (nd + 1) = [x_sg q.1 (nd + 1) + 3 + 32 * x_st q.1 (nd + 1)] := by
        rw [tkT_leaf (by have := hu.2.1; omega), tkm_nm hu.2.1]
      have hst : o_st cn rp (oS (tkT q.1 nd ++ r) op en q) = (match rp q.2.1 (tkT q.1 nd ++ r) with
          | .error e => .error (e, q.2.1)
          | .ok r2 => .ok (r2, op, e_nms en, q.2.2.1, q.2.2.2, q.2.1 + 1)) := by
        rw [hhd, hlf]
        have hnm := hu.2.1
        have c1 : ¬ x_sg q.1 (nd + 1) + 3 + 32 * x_st q.1 (nd + 1) = 2 := by omega
        have c2 : ¬ (3 ≤ x_sg q.1 (nd + 1) + 3 + 32 * x_st q.1 (nd + 1) ∧ x_sg q.1 (nd + 1) + 3 + 32 * x_st q.1 (nd + 1) ≤ 5) := by omega
        have c3 : (x_sg q.1 (nd + 1) + 3 + 32 * x_st q.1 (nd + 1) - 100) % 32 = x_sg q.1 (nd + 1) - 97 := by omega
        have c4 : 100 ≤ x_sg q.1 (nd + 1) + 3 + 32 * x_st q.1 (nd + 1) ∧ o_lv (x_sg q.1 (nd + 1) + 3 + 32 * x_st q.1 (nd + 1)) (e_nms en) = none ∧ cn ((x_sg q.1 (nd + 1) + 3 + 32 * x_st q.1 (nd + 1) - 100) % 32) = true := ⟨by omega, by rw [o_lv_en hnm en hen]; exact hu.2.2.2, by rw [c3]; exact (hru.1 _ hnm).mpr hu.2.2.1⟩
        exact o_st_use hop c1 c2 c4
      cases hrp : e_rp cap rt n fu nd q with
      | error e =>
        obtain ⟨a1, a2⟩ := hr.1 e hrp
        have e1 : e_rs cap rt n fu en (k + 1) nd q = .error e := by
          unfold e_rs
          rw [if_pos hu, hrp]
        refine ⟨fun e' h => ?_, fun t p h => by rw [e1] at h; cases h⟩
        rw [e1] at h
        cases h
        rw [a1] at hst
        rw [a2]
        exact o_to.one hst
      | ok w =>
        obtain ⟨a1, a2, a3⟩ := hr.2 w.1 w.2 hrp
        have e1 : e_rs cap rt n fu en (k + 1) nd q = e_rs cap rt n fu en k w.1 w.2 := by
          rw [e_rs, if_pos hu, hrp]
        have ok := e_rp_ok (t := w.1) (p := w.2) hf hrt hq hrp
        rw [a1] at hst
        have hs : o_to cn rp (oS (tkT q.1 nd ++ r) op en q) (.ok (oS (tkT w.2.1 w.1 ++ r) op en w.2)) := by
          have e2 : oS (tkT w.2.1 w.1 ++ r) op en w.2 = (tkT w.2.1 w.1 ++ r, op, e_nms en, q.2.2.1, q.2.2.2, q.2.1 + 1) := by
            unfold oS
            rw [a3]
          rw [e2]
          exact o_to.one hst
        obtain ⟨b1, b2⟩ := sim_rs hru hf hrt hen hop k w.1 w.2 r ok.2.2 ok.1 a2
        rw [e1]
        refine ⟨fun e h => hs.tr (b1 e h), fun t p h => ?_⟩
        obtain ⟨c1, c2, c3⟩ := b2 t p h
        refine ⟨hs.tr c1, c2, c3.imp id (fun q9 => ?_)⟩
        rw [q9, a3]
        show q.2.1 + 1 + k = _
        omega
    · have e1 : e_rs cap rt n fu en (k + 1) nd q = .ok (nd, q) := by
        unfold e_rs
        rw [if_neg hu]
      rw [e1]
      refine ⟨fun e h => (by cases h), fun t p h => ?_⟩
      cases h
      exact ⟨o_to.rf, ho, Or.inl hu⟩
end SIM
