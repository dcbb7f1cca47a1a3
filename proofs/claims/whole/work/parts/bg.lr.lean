/-! The class's state and the reference's, call by call. -/
def xn {α : Type} (a : XR α) : Prop := ∀ e, a = .error e → e.1 = isN ∨ e.1 = uoN
theorem xn_ok {α : Type} {p : α} : xn (.ok p : XR α) := fun e h => by cases h
theorem xn_is {α : Type} {k : Nat} : xn (.error (isN, k) : XR α) := fun e h => by cases h; exact Or.inl rfl
theorem xn_uo {α : Type} {k : Nat} : xn (.error (uoN, k) : XR α) := fun e h => by cases h; exact Or.inr rfl
theorem xn_b {α β : Type} {a : XR α} {f : α → XR β} (h : xn a) (hf : ∀ p, xn (f p)) : xn (xb a f) := by
  cases a with
  | error e =>
    intro e' q
    have q : (Except.error e : XR β) = .error e' := q
    cases q
    exact h _ rfl
  | ok p => exact hf p
theorem xn_put {m : Int32} {q : XSt} : xn (e_put m q) := by
  unfold e_put
  split
  · exact xn_ok
  · exact xn_uo
theorem xn_puts {m : List Int32} {q : XSt} : xn (e_puts m q) := by
  unfold e_puts
  split
  · exact xn_ok
  · exact xn_uo
theorem xn_rp {cap n fu nd : Nat} {rt : Nat → RSt} {q : XSt} : xn (e_rp cap rt n fu nd q) := by
  unfold e_rp
  split
  · exact xn_uo
  · split
    · exact xn_is
    · split
      · split
        · exact xn_uo
        · exact xn_ok
      · exact xn_is
theorem xn_rs {cap n fu : Nat} {rt : Nat → RSt} {en : Env0} : ∀ (k nd : Nat) (q : XSt), xn (e_rs cap rt n fu en k nd q)
  | 0, nd, q => xn_ok
  | k + 1, nd, q => by
    unfold e_rs
    split
    · cases h : e_rp cap rt n fu nd q with
      | error e =>
        intro e' q'
        have q' : (Except.error e : XR (Nat × XSt)) = .error e' := q'
        cases q'
        exact xn_rp _ h
      | ok p => exact xn_rs k p.1 p.2
    · exact xn_ok
theorem xn_xs {g : Nat → Env0 → XSt → XR XSt} {en : Env0} (hg : ∀ a en q, xn (g a en q)) : ∀ (k a : Nat) (q : XSt), xn (e_xs g en k a q)
  | 0, a, q => xn_ok
  | k + 1, a, q => by
    unfold e_xs
    cases h : g a en q with
    | error e =>
      intro e' q'
      have q' : (Except.error e : XR XSt) = .error e' := q'
      cases q'
      exact hg a en q _ h
    | ok p => exact xn_xs hg k _ p
theorem xn_fm {g : Nat → Env0 → XSt → XR XSt} {en : Env0} (hg : ∀ a en q, xn (g a en q)) (t : Nat) (q : XSt) : xn (e_fm g en t q) := by
  unfold e_fm
  split
  · refine xn_b (xn_b xn_put (fun p => ?_)) (fun p => xn_put)
    split
    · exact xn_b xn_put (fun p => xn_xs hg _ _ _)
    · split
      · exact xn_b xn_put (fun p => xn_xs hg _ _ _)
      · split
        · exact xn_b xn_put (fun p => xn_puts)
        · exact xn_xs hg _ _ _
  · exact xn_is
/-- what an expansion throws -/
theorem xn_ex {cap n fu : Nat} {rt : Nat → RSt} : ∀ (d nd : Nat) (en : Env0) (q : XSt), xn (e_ex cap rt n fu d nd en q)
  | 0, _, _, q => xn_uo
  | d + 1, nd, en, q => by
    unfold e_ex
    refine xn_b (xn_rs _ _ _) (fun p => ?_)
    split
    · exact xn_put
    · split
      · exact xn_put
      · exact xn_fm (fun a en q => xn_ex d a en q) _ _
/-- the class's state and the reference's belong together -/
def LR (gs : OS) (sgn : Nat → Nat) (dn dt : Nat) (rt : Nat → RSt) (n md ln : Nat) (mk : Nat → Int32) : Prop :=
  ∃ dl, DR gs dl ∧ Ds sgn dn (dcs dl) ∧ dt = dl.length ∧ (∀ i, sgn i < 65536) ∧ RS gs rt n ∧ (∀ j, j < n → r_gd (rt j)) ∧ gs.1 37 = nI md ∧ md ≤ 12 ∧ gs.1 38 = nI ln ∧ ln ≤ 150 ∧ ∀ i, i < ln → gs.2 39 i = mk i
section
variable {F : Nat} {gs : OS} {sgn : Nat → Nat} {dn dt : Nat} {rt : Nat → RSt} {n md ln : Nat} {mk : Nat → Int32}
theorem LR_le (h : LR gs sgn dn dt rt n md ln mk) : dn ≤ dt ∧ dt ≤ 60 ∧ n ≤ 12 ∧ md ≤ 12 ∧ ln ≤ 150 ∧ (∀ i, sgn i < 65536) ∧ ∀ j, j < n → r_gd (rt j) := by
  obtain ⟨dl, h1, h2, h3, h4, h5, h6, h7, h8, h9, h10, h11⟩ := h
  have := dcs_len dl
  have := h2.1
  have := h1.2.1
  exact ⟨by omega, by omega, h5.2.1, h8, h10, h4, h6⟩
theorem RS_cg {rt2 : Nat → RSt} (h : RS gs rt n) (he : ∀ j, j < n → rt2 j = rt j) : RS gs rt2 n := ⟨h.1, h.2.1, fun j hj => by rw [he j hj]; exact h.2.2 j hj⟩
theorem LR_0 (h : LR gs sgn dn dt rt n md ln mk) : LR (sI gs 0 0) sgn dn dt rt n md ln mk := by
  obtain ⟨dl, h1, h2, h3, h4, h5, h6, h7, h8, h9, h10, h11⟩ := h
  exact ⟨dl, ⟨(sI_n (by decide)).trans h1.1, h1.2.1, h1.2.2.1, h1.2.2.2⟩, h2, h3, h4, RS_uf h5 (uf.rf.i (by decide)), h6, (sI_n (by decide)).trans h7, h8, (sI_n (by decide)).trans h9, h10, h11⟩
theorem Ds_0 : Ds sgn 0 (dcs []) := ⟨rfl, fun i hi => absurd hi (Nat.not_lt_zero _)⟩
theorem S_type {k r : Int32} {u : Nat × Nat × (Nat → Int32)} (h : LR gs sgn dn dt rt n md ln mk) (hr : (r = 0 ∧ (k < 32 ∨ 126 < k ∨ dt = 60) ∧ u.1 = dn ∧ u.2.1 = dt ∧ u.2.2 = nf sgn) ∨ (r = 1 ∧ ¬ k < 32 ∧ ¬ 126 < k ∧ dt < 60 ∧ u.2.1 = dt + 1 ∧ ((k = 32 ∧ u.1 = dn ∧ u.2.2 = nf sgn) ∨ (¬ k = 32 ∧ u.1 = dn + 1 ∧ u.2.2 = upd (nf sgn) dn (vp_nar .char k))))) :
    ∃ g2 sgn2, rf_type F gs k = some (r, g2) ∧ u.2.2 = nf sgn2 ∧ LR g2 sgn2 u.1 u.2.1 rt n md ln mk := by
  obtain ⟨dl, h1, h2, h3, h4, h5, h6, h7, h8, h9, h10, h11⟩ := id h
  rcases hr with ⟨r0, r1, r2, r3, r4⟩ | ⟨r0, r1, r2, r3, r4, r5⟩
  · refine ⟨sI gs 0 0, sgn, ?_, r4, ?_⟩
    · rw [r0]
      exact (type_ok h1).1 (by rw [← h3]; exact r1)
    · rw [r2, r3]
      exact LR_0 h
  · obtain ⟨c, c1, c2, hk⟩ := k_sign r1 r2
    obtain ⟨g2, e, z0, hD, rc⟩ := (type_ok (F := F) (k := k) h1).2 c hk c1 c2 (by omega)
    rw [r0]
    have hlen : (dl ++ [c]).length = dt + 1 := by rw [List.length_append, h3]; rfl
    have rest : ∀ sgn2 dn2, Ds sgn2 dn2 (dcs (dl ++ [c])) → (∀ i, sgn2 i < 65536) → LR g2 sgn2 dn2 (dt + 1) rt n md ln mk := fun sgn2 dn2 q1 q2 =>
      ⟨dl ++ [c], hD, q1, hlen.symm, q2, RS_uf h5 rc.u, h6, (rc.1 37 (by decide)).trans h7, h8, (rc.1 38 (by decide)).trans h9, h10, fun i hi => by rw [rc.2 39 (by decide)]; exact h11 i hi⟩
    have hap : dcs (dl ++ [c]) = dcs dl ++ dcs [c] := List.filter_append _ _
    rcases r5 with ⟨a1, a2, a3⟩ | ⟨a1, a2, a3⟩
    · refine ⟨g2, sgn, e, a3, ?_⟩
      rw [a2, r4]
      refine rest sgn dn ?_ h4
      have hc : c = 32 := by
        rw [hk] at a1
        exact nI_inj (b := 32) (by omega) (by decide) a1
      rw [hap, dcs_b hc, show dcs [] = [] from rfl, List.append_nil]
      exact h2
    · have hc : ¬ c = 32 := fun q => a1 (by rw [hk, q]; rfl)
      have hdn : dn = (dcs dl).length := h2.1
      have hdl := dcs_len dl
      have h60 := h1.2.1
      refine ⟨g2, va_up sgn dn c, e, ?_, ?_⟩
      · have e9 := nf_upc sgn (i := dn) (v := c) (by omega) (by omega)
        rw [nI_clamp (by omega)] at e9
        rw [a3, hk]
        exact e9
      · rw [a2, r4]
        refine rest _ _ ⟨?_, fun i hi => ?_⟩ (fun i => ?_)
        · rw [hap, dcs_s hc, List.length_append, ← hdn]
          rfl
        · rw [hap, dcs_s hc, List.getD_eq_getElem?_getD]
          by_cases hi2 : i = dn
          · rw [hi2, va_up_self, List.getElem?_append_right (by omega), ← hdn, Nat.sub_self]
            rfl
          · rw [va_up_ne _ _ hi2, List.getElem?_append_left (by omega), h2.2 i (by omega), List.getD_eq_getElem?_getD]
        · by_cases hi2 : i = dn
          · rw [hi2, va_up_self]; omega
          · rw [va_up_ne _ _ hi2]; exact h4 i
theorem gd_rd {Q : RSt} (hr : r_rd sgn dn (rt n) Q 1) (ho : r_ok Q) : r_gd Q := by
  obtain ⟨e0, he, ⟨_, tm, htm, hspn, htz, hq⟩ | ⟨q, _⟩⟩ := hr
  · have hz : x_z (r_x Q) ≤ 60 := ho.1.2.1
    have ht : r_tm Q = tm := by
      unfold r_tm
      rw [htm]
      have htz : tm ≤ x_z (r_x Q) := htz
      exact nI_clamp (by omega)
    exact ⟨ho, by rw [ht]; exact htm, by rw [ht]; exact r_is_fit hq⟩
  · exact absurd q (by decide)
theorem S_rule {u1 : Nat → RSt} (hF : 5000 ≤ F) (h : LR gs sgn dn dt rt n md ln mk) (hok : r_ok (rt n)) :
    (n < 12 → r_rd sgn dn (rt n) (u1 n) 1 → (∀ j, j ≠ n → u1 j = rt j) → r_ok (u1 n) → ∃ g2, rf_rule F gs = some (nI (r_ct u1 (r_mc (u1 n)) (n + 1)), g2) ∧ g2.1 0 = nI 0 ∧ LR g2 sgn 0 0 u1 (n + 1) md ln mk) ∧
    (r_rd sgn dn (rt n) (u1 n) 0 → (∀ j, j ≠ n → u1 j = rt j) → ∃ g2, rf_rule F gs = some (0, g2) ∧ g2.1 0 = nI 1 ∧ LR g2 sgn 0 0 u1 n md ln mk) ∧
    (n = 12 → r_rd sgn dn (rt n) (u1 n) 1 → (∀ j, j ≠ n → u1 j = rt j) → ∃ g2, rf_rule F gs = some (0, g2) ∧ g2.1 0 = nI 2 ∧ LR g2 sgn 0 0 u1 n md ln mk) := by
  obtain ⟨dl, h1, h2, h3, h4, h5, h6, h7, h8, h9, h10, h11⟩ := h
  obtain ⟨k1, k2, k3⟩ := rule_ok hF h1 h2 h5 hok.2
  have same : ∀ g2, DR g2 [] → rcg gs g2 → (∀ j, j ≠ n → u1 j = rt j) → LR g2 sgn 0 0 u1 n md ln mk := fun g2 q1 q2 q3 =>
    ⟨[], q1, Ds_0, rfl, h4, RS_cg (RS_uf h5 q2.u) (fun j hj => q3 j (by omega)), fun j hj => by rw [q3 j (by omega)]; exact h6 j hj, (q2.1 37 (by decide)).trans h7, h8, (q2.1 38 (by decide)).trans h9, h10, fun i hi => by rw [q2.2 39 (by decide)]; exact h11 i hi⟩
  refine ⟨fun hn hr hj ho => ?_, fun hr hj => ?_, fun hn hr hj => ?_⟩
  · obtain ⟨g2, e, z0, hD, hR, z37, z38, z39⟩ := k3 (u1 n) u1 hr hn rfl hj
    refine ⟨g2, e, z0, [], hD, Ds_0, rfl, h4, hR, fun j q => ?_, z37.trans h7, h8, z38.trans h9, h10, fun i hi => by rw [z39]; exact h11 i hi⟩
    by_cases hjn : j = n
    · rw [hjn]
      exact gd_rd hr ho
    · rw [hj j hjn]
      exact h6 j (by omega)
  · obtain ⟨g2, e, z0, hD, rc⟩ := k1 (u1 n) hr
    exact ⟨g2, e, z0, same g2 hD rc hj⟩
  · obtain ⟨g2, e, z0, hD, rc⟩ := k2 (u1 n) hr hn
    exact ⟨g2, e, z0, same g2 hD rc hj⟩
theorem S_expand {cap : Nat} {y : TSt} {k : Int32} (h : LR gs sgn dn dt rt n md ln mk) (hcap : 780 ≤ cap) (hok : ∀ j, j < 13 → r_ok (rt j)) (hy : t_raw cap y) (hsm : t_sm (2 ^ 31) y) :
    ∃ F, ((t_res cap 0 sgn dn 0 dn (t_clr y) = none ∨ k < 0 ∨ 12 < k) → ∃ g2, rf_expand F gs k = some (0, g2) ∧ g2.1 0 = nI 1 ∧ LR g2 sgn 0 0 rt n md ln mk) ∧
      ∀ y1, t_res cap 0 sgn dn 0 dn (t_clr y) = some y1 → ¬ k < 0 → ¬ 12 < k →
        (∀ xN md2 mk2, e_ex cap rt n k.toNatClampNeg 12 0 [] (y1, 0, mk, 0) = .error (xN, md2) → ∃ g2, rf_expand F gs k = some (0, g2) ∧ ((xN = isN ∧ g2.1 0 = nI 2) ∨ (xN = uoN ∧ g2.1 0 = nI 3)) ∧ LR g2 sgn 0 0 rt n md2 0 mk2) ∧
        (∀ y2 md2 mk2 ln2, e_ex cap rt n k.toNatClampNeg 12 0 [] (y1, 0, mk, 0) = .ok (y2, md2, mk2, ln2) → ∃ g2, rf_expand F gs k = some (nI ln2, g2) ∧ g2.1 0 = nI 0 ∧ LR g2 sgn 0 0 rt n md2 ln2 mk2) := by
  obtain ⟨dl, h1, h2, h3, h4, h5, h6, h7, h8, h9, h10, h11⟩ := h
  obtain ⟨F, k1, k2⟩ := expand_ok (mk := mk) (k := k) h1 h2 h5 hcap (fun j hj => (h6 j hj).1.1) hy h4 hsm
  refine ⟨F, fun hb => ?_, fun y1 hy1 q1 q2 => ⟨fun xN md2 mk2 he => ?_, fun y2 md2 mk2 ln2 he => ?_⟩⟩
  · obtain ⟨g2, e, z0, hD, hu, z37, z38, z39⟩ := k1 hb
    exact ⟨g2, e, z0, [], hD, Ds_0, rfl, h4, RS_uf h5 hu, h6, z37.trans h7, h8, z38.trans h9, h10, fun i hi => by rw [z39]; exact h11 i hi⟩
  · obtain ⟨g2, e, z0, hD, hu, z37, z12, z38⟩ := (k2 y1 hy1 q1 q2).1 _ he
    refine ⟨g2, e, ?_, [], hD, Ds_0, rfl, h4, RS_uf h5 hu, h6, z37, z12, z38, Nat.zero_le _, fun i hi => absurd hi (Nat.not_lt_zero _)⟩
    rcases xn_ex 12 0 [] _ _ he with q | q
    · have q : xN = isN := q
      left
      refine ⟨q, ?_⟩
      rw [z0]
      show nI (xc xN) = nI 2
      rw [q, xc_is]
    · have q : xN = uoN := q
      right
      refine ⟨q, ?_⟩
      rw [z0]
      show nI (xc xN) = nI 3
      rw [q, xc_uo]
  · obtain ⟨g2, e, z0, hD, hu, z37, z12, z38, z150, z39⟩ := (k2 y1 hy1 q1 q2).2 _ he
    exact ⟨g2, e, z0, [], hD, Ds_0, rfl, h4, RS_uf h5 hu, h6, z37, z12, z38, z150, z39⟩
theorem r_dr_all {P : RSt → Prop} {c : Nat} : ∀ (k i kp : Nat) (rt : Nat → RSt), kp ≤ i → (∀ j, j < kp → P (rt j)) → (∀ j, i ≤ j → j < i + k → P (rt j)) → ∀ j, j < (r_dr c k i kp rt).2 → P ((r_dr c k i kp rt).1 j)
  | 0, i, kp, rt, _, ha, _, j, hj => ha j hj
  | k + 1, i, kp, rt, hk, ha, hb, j, hj => by
    by_cases hm : r_mc (rt i) = c
    · have er : r_dr c (k + 1) i kp rt = r_dr c k (i + 1) kp rt := by rw [r_dr, if_pos hm]
      rw [er] at hj ⊢
      exact r_dr_all k (i + 1) kp rt (by omega) ha (fun j q1 q2 => hb j (by omega) (by omega)) j hj
    · have er : r_dr c (k + 1) i kp rt = r_dr c k (i + 1) (kp + 1) (r_swp rt i kp) := by rw [r_dr, if_neg hm]
      rw [er] at hj ⊢
      refine r_dr_all k (i + 1) (kp + 1) (r_swp rt i kp) (by omega) (fun j q => ?_) (fun j q1 q2 => ?_) j hj
      · by_cases hj2 : j = kp
        · rw [hj2, r_swp_k]
          exact hb i (Nat.le_refl _) (by omega)
        · rw [r_swp_o _ (by omega) hj2]
          exact ha j (by omega)
      · rw [r_swp_o _ (by omega) (by omega)]
        exact hb j (by omega) (by omega)
theorem S_forget {c : Nat} {r : Int32} {u : (Nat → Option Nat) × (Nat → RSt) × Nat} (hF : 5000 ≤ F) (hc : c < 65536) (h : LR gs sgn dn dt rt n md ln mk) (hr : r = nI (n - u.2.2)) (hd : r_dr c n 0 0 rt = (u.2.1, u.2.2)) : ∃ g2, rf_forget F gs (nI c) = some (r, g2) ∧ LR g2 sgn dn dt u.2.1 u.2.2 md ln mk := by
  obtain ⟨dl, h1, h2, h3, h4, h5, h6, h7, h8, h9, h10, h11⟩ := h
  obtain ⟨g2, e, z0, hR, q1, q2⟩ := forget_ok (F := F) hF hc h5
  have hall := r_dr_all (P := r_gd) (c := c) n 0 0 rt (Nat.le_refl _) (fun j hj => absurd hj (Nat.not_lt_zero _)) (fun j _ hj => h6 j (by omega))
  rw [hd] at e hR hall
  refine ⟨g2, by rw [hr]; exact e, dl, ⟨(q1 1 (by decide) (by decide)).trans h1.1, h1.2.1, by rw [q2 2 (by decide)]; exact h1.2.2.1, h1.2.2.2⟩, h2, h3, h4, hR, hall, (q1 37 (by decide) (by decide)).trans h7, h8, (q1 38 (by decide) (by decide)).trans h9, h10, fun i hi => by rw [q2 39 (by decide)]; exact h11 i hi⟩
theorem S_rules (h : LR gs sgn dn dt rt n md ln mk) : rf_rules F gs = some (nI n, sI gs 0 0) := by
  obtain ⟨dl, h1, h2, h3, h4, h5, _⟩ := h
  rw [rf_rules, h5.1]
theorem S_replaced (h : LR gs sgn dn dt rt n md ln mk) : rf_replaced F gs = some (nI md, sI gs 0 0) := by
  obtain ⟨dl, h1, h2, h3, h4, h5, h6, h7, _⟩ := h
  rw [rf_replaced, h7]
theorem S_mark {k : Int32} (h : LR gs sgn dn dt rt n md ln mk) : rf_mark F gs k = some (s_at mk ln k, sI gs 0 0) := by
  obtain ⟨dl, h1, h2, h3, h4, h5, h6, h7, h8, h9, h10, h11⟩ := h
  exact mark_ok h9 h10 h11
theorem S_depth (hF : 5000 ≤ F) (h : LR gs sgn dn dt rt n md ln mk) : rf_depth F gs = some (s_dp mk ln 0 0 0, sI gs 0 0) := by
  obtain ⟨dl, h1, h2, h3, h4, h5, h6, h7, h8, h9, h10, h11⟩ := h
  exact depth_ok hF h9 h10 h11
/-- at the start -/
theorem LR_start (h1 : gs.1 1 = 0) (h5 : gs.1 5 = 0) (h37 : gs.1 37 = 0) (h38 : gs.1 38 = 0) (hs : ∀ i, sgn i < 65536) : LR gs sgn 0 0 rt 0 0 0 mk :=
  ⟨[], DR_0 h1, Ds_0, rfl, hs, ⟨h5, Nat.zero_le _, fun j hj => absurd hj (Nat.not_lt_zero _)⟩, fun j hj => absurd hj (Nat.not_lt_zero _), h37, Nat.zero_le _, h38, Nat.zero_le _, fun i hi => absurd hi (Nat.not_lt_zero _)⟩
end
