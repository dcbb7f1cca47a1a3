/-! The reference's goThrough. -/
/-- a stretch of its loop -/
def GTc (F d : Nat) (gs : OS) (r pb i to gd li : Nat) (s : ES) (E : List Nat) (p : Prop) : Prop :=
  ∃ g2 d2 gd2, d ≤ d2 ∧ rf_goThrough_18 F (d + li) gs (nI r) (nI pb) (nI i) (nI to) (nI gd) = rf_goThrough_18 F d2 g2 (nI r) (nI pb) (nI (i + li)) (nI to) (nI gd2) ∧ gd2 < 2 ∧ (gd2 = 1 ↔ gd = 1 ∧ p) ∧ (pb = 0 → g2 = gs) ∧ (pb = 1 → ec gs g2 ∧ EM g2 (em E s))
theorem GTc.seq {F d : Nat} {gs : OS} {r pb i to gd l1 l2 : Nat} {s : ES} {E1 E2 : List Nat} {p1 p2 : Prop} (h1 : GTc F (d + l2) gs r pb i to gd l1 s E1 p1) (h2 : ∀ g2 d2 gd2, d + l2 ≤ d2 + l2 → gd2 < 2 → (pb = 0 → g2 = gs) → (pb = 1 → ec gs g2 ∧ EM g2 (em E1 s)) → GTc F d2 g2 r pb (i + l1) to gd2 l2 (em E1 s) E2 p2) : GTc F d gs r pb i to gd (l1 + l2) s (E1 ++ E2) (p1 ∧ p2) := by
  obtain ⟨g2, d2, gd2, hd, e1, hg, hp, h0, h1'⟩ := h1
  obtain ⟨d3, hd3⟩ : ∃ d3, d2 = d3 + l2 := ⟨d2 - l2, by omega⟩
  obtain ⟨g4, d4, gd4, hd4, e4, hg4, hp4, h04, h14⟩ := h2 g2 d3 gd2 (by omega) hg h0 h1'
  refine ⟨g4, d4, gd4, by omega, ?_, hg4, ?_, fun q => (h04 q).trans (h0 q), fun q => ?_⟩
  · rw [show d + (l1 + l2) = d + l2 + l1 by omega, e1, hd3, e4]
    congr 2
    omega
  · rw [hp4, hp]
    exact ⟨fun ⟨⟨a, b⟩, c⟩ => ⟨a, b, c⟩, fun ⟨a, b, c⟩ => ⟨⟨a, b⟩, c⟩⟩
  · rw [em_app]
    exact ⟨(h1' q).1.tr (h14 q).1, (h14 q).2⟩
theorem GTc.cg {F d : Nat} {gs : OS} {r pb i to gd li : Nat} {s : ES} {E : List Nat} {p p' : Prop} (h : GTc F d gs r pb i to gd li s E p) (hp : p ↔ p') : GTc F d gs r pb i to gd li s E p' := by
  obtain ⟨g2, d2, gd2, hd, e1, hg, hq, h0, h1⟩ := h
  exact ⟨g2, d2, gd2, hd, e1, hg, by rw [hq, hp], h0, h1⟩
section GTT
variable {F d r pb to gd : Nat} {gs : OS} {i : Nat}
theorem gt_tok {w z : Nat} {T : List Nat} {C : RO} (hF : 5000 ≤ F) (hi : i < to) (hto : to ≤ 768) (hw : gs.2 10 i = nI w) (hw2 : ¬ w = 2) (hw3 : w < 126) (hT : tmm T) (ha : At (gs.2 10) i (T ++ [z])) (hs : sml T) (hz : ¬ z = 7) (hz2 : z < 2 ^ 30) (hil : i + T.length < 768) (k : rf_goThrough_68 F (rf_goThrough_18 F d) gs (nI r) (nI pb) (nI i) (nI to) (nI gd) = C) : rf_goThrough_18 F (d + 1) gs (nI r) (nI pb) (nI i) (nI to) (nI gd) = C := by
  have hat : gs.2 10 (nI i).toNatClampNeg = nI w := cl_at hw
  have hz3 : gs.2 10 (nI (i + T.length)).toNatClampNeg = nI z := cl_at (At_r ha).1
  rw [rf_goThrough_18]
  refine rc_leF rfl rfl hi ?_
  refine rc_in rfl (by omega) ?_
  refine rc_eqF (b := 2) hat rfl hw2 ?_
  refine rc_bd (item_ok (w := 1) (by decide) hF rfl rfl hT (At_l ha) hs (by omega)) ?_
  rw [rf_goThrough_44]
  refine rc_in rfl (by omega) ?_
  refine rc_eqF (b := 2) hat rfl hw2 ?_
  refine rc_in rfl (by omega) ?_
  exact rc_eqF (b := 7) hz3 rfl hz k
theorem gt_cls {C : RO} (hi : i < to) (hto : to ≤ 768) (hw : gs.2 10 i = nI 2) (k : rf_goThrough_68 F (rf_goThrough_18 F d) gs (nI r) (nI pb) (nI i) (nI to) (nI gd) = C) : rf_goThrough_18 F (d + 1) gs (nI r) (nI pb) (nI i) (nI to) (nI gd) = C := by
  have hat : gs.2 10 (nI i).toNatClampNeg = nI 2 := cl_at hw
  rw [rf_goThrough_18]
  refine rc_leF rfl rfl hi ?_
  refine rc_in rfl (by omega) ?_
  refine rc_eqE (b := 2) hat rfl rfl ?_
  rw [rf_goThrough_44]
  refine rc_in rfl (by omega) ?_
  exact rc_eqE (b := 2) hat rfl rfl k
end GTT
/-- balanced, and small -/
def lv0 (E : List Nat) : Prop := lvl E 0 = some 0 ∧ sml E
theorem lv0_app {A B : List Nat} (ha : lv0 A) (hb : lv0 B) : lv0 (A ++ B) := ⟨by rw [lvl_app, ha.1]; exact hb.1, sml_app ha.2 hb.2⟩
theorem lv0_nil : lv0 [] := ⟨rfl, fun t ht => by cases ht⟩
section GTL
variable {x y : TSt} {kf : Nat → Nat} {q : MSt} {F md r pb to tm : Nat}
/-- the repeated items among nodes are even -/
def pe (x : TSt) (kf ct : Nat → Nat) (a b : Nat) : Prop := ∀ j, a ≤ j → j < b → ¬ x_rp x j = 0 → ¬ m_cp x kf ct (x_sp x j) j none = none
theorem pe_split {ct : Nat → Nat} {a b c : Nat} (h1 : a ≤ b) (h2 : b ≤ c) : pe x kf ct a c ↔ pe x kf ct a b ∧ pe x kf ct b c := by
  constructor
  · intro h
    exact ⟨fun j p1 p2 => h j p1 (by omega), fun j p1 p2 => h j (by omega) p2⟩
  · rintro ⟨h, h'⟩ j p1 p2
    by_cases hj : j < b
    · exact h j p1 hj
    · exact h' j (by omega) p2
/-- one token that is put as it is in a template -/
theorem gt_one (hF : 5000 ≤ F) (hr : r < 12) (hmd : md ≤ 12) (hpb : pb < 2) (hwy : t_wf6 y) (hoy : t_ok y) {gs : OS} {i gd t d : Nat} {s : ES} (hG : GM gs y kf q md r) (hat : gs.2 10 i = nI t) (ht : t < 126) (hto : to ≤ 768) (hi : i < to) (hgd : gd < 2) (hc : 100 ≤ t → kf (t - 100) = 2 → 0 < q.1 (t - 100)) (hE : pb = 1 → EM gs s) (hl : pb = 1 → s.2.2.2.2 = 0 → ¬ lvl [t] s.2.2.1 = none) (hd : ∀ {C : RO} (d : Nat), rf_goThrough_68 F (rf_goThrough_18 F d) gs (nI r) (nI pb) (nI i) (nI to) (nI gd) = C → rf_goThrough_18 F (d + 1) gs (nI r) (nI pb) (nI i) (nI to) (nI gd) = C) : GTc F d gs r pb i to gd 1 s (etk y kf q md 0 t) True := by
  rcases (show pb = 0 ∨ pb = 1 by omega) with rfl | rfl
  · refine ⟨gs, d, gd, Nat.le_refl _, hd d ?_, hgd, by simp, fun _ => rfl, fun q9 => by cases q9⟩
    rw [rf_goThrough_68]
    refine rc_eqE (b := 0) rfl rfl rfl ?_
    rw [rf_goThrough_82, nI_1]
  · obtain ⟨g2, e2, hc2, hE2⟩ := emitP_lp (F := F) (n := 0) hF hr (by decide) hmd hwy hoy [t] i F gs s ⟨hat, trivial⟩ (fun t' h => by rcases List.mem_singleton.mp h with rfl; exact ht) (by show i + 1 ≤ 768; omega) hG (fun t' h p1 p2 => by rcases List.mem_singleton.mp h with rfl; exact hc p1 p2) (hE rfl) (hl rfl) (by show 1 < F; omega)
    refine ⟨g2, d, gd, Nat.le_refl _, hd d ?_, hgd, by simp, fun q9 => (by cases q9), fun _ => ⟨hc2, ?_⟩⟩
    · rw [rf_goThrough_68]
      refine rc_eqF (a := 1) (b := 0) rfl rfl (by decide) ?_
      refine rc_bd (by rw [rf_emitPlain, nI_1]; exact e2) ?_
      rw [rf_goThrough_82, nI_1]
    · rw [List.flatMap_cons, List.flatMap_nil, List.append_nil] at hE2
      exact hE2
/-- copies of an item -/
theorem rep_lp (hF : 5000 ≤ F) (hr : r < 12) (hmd : md ≤ 12) (hwy : t_wf6 y) (hoy : t_ok y) {K : OS → Int32 → Int32 → Int32 → Int32 → Int32 → RO} {T : List Nat} {i n x4 x5 : Nat} (hT : ∀ t, t ∈ T → t < 126) (hi : i + T.length ≤ 768) (hn : n ≤ 60) (hc : ∀ t, t ∈ T → 100 ≤ t → kf (t - 100) = 2 → q.1 (t - 100) = n) (hl : ∀ l, lvl T l = some l) : ∀ (m c d : Nat) (gs : OS) (s : ES), c + m = n → m < d → At (gs.2 10) i T → GM gs y kf q md r → EM gs s → ∃ g2, rf_goThrough_118 F K d gs (nI r) 1 (nI i) (nI x4) (nI x5) (nI (i + T.length)) (nI n) (nI c) = K g2 (nI r) 1 (nI (i + T.length + 1)) (nI x4) (nI x5) ∧ ec gs g2 ∧ EM g2 (em ((List.range' c m).flatMap (fun c => T.flatMap (etk y kf q md c))) s)
  | 0, c, d, gs, s, hcm, hd, ha, hG, hE => by
    obtain ⟨d, rfl⟩ : ∃ e, d = e + 1 := ⟨d - 1, by omega⟩
    refine ⟨gs, ?_, ec.rf, hE⟩
    rw [rf_goThrough_118]
    refine rc_leT rfl rfl (by omega) ?_
    rw [rf_goThrough_145, nI_1]
  | m + 1, c, d, gs, s, hcm, hd, ha, hG, hE => by
    obtain ⟨d, rfl⟩ : ∃ e, d = e + 1 := ⟨d - 1, by omega⟩
    obtain ⟨g1, e1, hc1, hE1⟩ := emitP_lp (F := F) (n := c) hF hr (by omega) hmd hwy hoy T i F gs s ha hT hi hG (fun t h p1 p2 => by rw [hc t h p1 p2]; omega) hE (fun _ => by rw [hl]; intro q; cases q) (by omega)
    obtain ⟨g2, e2, hc2, hE2⟩ := rep_lp hF hr hmd hwy hoy (K := K) (x4 := x4) (x5 := x5) hT hi hn hc hl m (c + 1) d g1 _ (by omega) (by omega) (by rw [hc1.2 10 (by decide)]; exact ha) (GM_ec hG hc1) hE1
    refine ⟨g2, ?_, hc1.tr hc2, ?_⟩
    · rw [rf_goThrough_118]
      refine rc_leF rfl rfl (by omega) ?_
      refine rc_eqF (a := 1) (b := 0) rfl rfl (by decide) ?_
      refine rc_bd (by rw [rf_emitPlain]; exact e1) ?_
      rw [nI_1]
      exact e2
    · rw [List.range'_succ, List.flatMap_cons, em_app]
      exact hE2
theorem f_c_range {g : Nat → List Tk} {h : Nat → List Nat} : ∀ (n j : Nat), (∀ c, j ≤ c → c < j + n → (g c).map tkm = h c) → (f_c g n j).map tkm = (List.range' j n).flatMap h
  | 0, _, _ => rfl
  | n + 1, j, hg => by
    show (g j ++ f_c g n (j + 1)).map tkm = _
    rw [List.map_append, hg j (Nat.le_refl _) (by omega), f_c_range n (j + 1) (fun c p1 p2 => hg c (by omega) (by omega)), List.range'_succ, List.flatMap_cons]
theorem range_lvl {h : Nat → List Nat} : ∀ (n j : Nat), (∀ c, j ≤ c → c < j + n → lv0 (h c)) → lv0 ((List.range' j n).flatMap h)
  | 0, _, _ => lv0_nil
  | n + 1, j, hg => by
    rw [List.range'_succ, List.flatMap_cons]
    exact lv0_app (hg j (Nat.le_refl _) (by omega)) (range_lvl n (j + 1) (fun c p1 p2 => hg c (by omega) (by omega)))
/-- what a token is put as is small -/
theorem etk_sml {gs : OS} (hmd : md ≤ 12) (hG : GM gs y kf q md r) {n t : Nat} (ht : t < 126) (hc : 100 ≤ t → kf (t - 100) = 2 → n < q.1 (t - 100)) : sml (etk y kf q md n t) := by
  obtain ⟨m1, m2, m3, m4, m5, m6⟩ := hG
  unfold etk
  by_cases h1 : t < 100
  · rw [if_pos h1]
    intro z hz
    rcases List.mem_singleton.mp hz with rfl
    omega
  · rw [if_neg h1]
    by_cases k1 : kf (t - 100) = 1
    · rw [if_pos k1]
      obtain ⟨p, ep, ta1, ta2, ta3, ta4⟩ := (m1 (t - 100) (by omega)).1 k1 (m6 _ (by omega) k1)
      exact ta4
    · rw [if_neg k1]
      by_cases k2 : kf (t - 100) = 2
      · rw [if_pos k2]
        obtain ⟨p, ep, ta1, ta2, ta3, ta4⟩ := (m1 (t - 100) (by omega)).2 k2 n (hc (by omega) k2)
        exact ta4
      · rw [if_neg k2]
        intro z hz
        rcases List.mem_singleton.mp hz with rfl
        omega
theorem flat_sml {gs : OS} (hmd : md ≤ 12) (hG : GM gs y kf q md r) {n : Nat} : ∀ (P : List Nat), (∀ t, t ∈ P → t < 126) → (∀ t, t ∈ P → 100 ≤ t → kf (t - 100) = 2 → n < q.1 (t - 100)) → sml (P.flatMap (etk y kf q md n))
  | [], _, _ => fun t ht => by cases ht
  | t :: P, ht, hc => by
    rw [List.flatMap_cons]
    exact sml_app (etk_sml hmd hG (ht t List.mem_cons_self) (hc t List.mem_cons_self)) (flat_sml hmd hG P (fun t h => ht t (List.mem_cons_of_mem _ h)) (fun t h => hc t (List.mem_cons_of_mem _ h)))
theorem gt_l (hF : 5000 ≤ F) (hr : r < 12) (hmd : md ≤ 12) (hpb : pb < 2) (hto : to ≤ 768) (hwx : t_wf6 x) (hlx : t_lf x) (hox : x_oks x) (hts : x_tms x tm) (hk3 : ∀ c, kf c < 3) (hwy : t_wf6 y) (hoy : t_ok y)
    (hnn : ∀ a b, tm ≤ a → a < b → b < x_z x → ¬ x_rp x a = 0 → ¬ x_rp x b = 0 → a + x_sp x a ≤ b) (hmo : ∀ j, tm ≤ j → j < x_z x → k_many kf (x_sg x j) → ∃ i, tm ≤ i ∧ i ≤ j ∧ j < i + x_sp x i ∧ ¬ x_rp x i = 0) :
    ∀ (K n a b i d z gd D : Nat) (gs : OS) (s : ES), x_z x - a ≤ K → t_ch x n a b → b ≤ x_z x → tm ≤ a → (∀ j, tm ≤ j → j < a → a < j + x_sp x j → x_rp x j = 0) → (∀ j, tm ≤ j → j < a → b ≤ j + x_sp x j ∨ j + x_sp x j ≤ a) → b ≤ a + D → At (gs.2 10) i (tpS x n a ++ [z]) → ¬ z = 7 → z < 126 → i + (tpS x n a).length < 768 → i + (tpS x n a).length ≤ to → gd < 2 → GM gs y kf q md r → (pb = 1 → EM gs s ∧ pe x kf q.1 a b) →
      GTc F d gs r pb i to gd (tpS x n a).length s ((f_l x (f_cp x kf q.1) (f_n x kf (f_cp x kf q.1) (f_vt y q.2) md D) 0 n a).map tkm) (pe x kf q.1 a b) ∧ (pe x kf q.1 a b → lv0 ((f_l x (f_cp x kf q.1) (f_n x kf (f_cp x kf q.1) (f_vt y q.2) md D) 0 n a).map tkm))
  | K, 0, a, b, i, d, z, gd, D, gs, s, hK, hc, hb, hta, hout, hnest, hD, hpt, hz, hz2, hil, hit, hgd, hG, h1 => by
    have hc : a = b := hc
    have hpe : pe x kf q.1 a b := fun j p1 p2 => by omega
    exact ⟨⟨gs, d, gd, Nat.le_refl _, rfl, hgd, ⟨fun h => ⟨h, hpe⟩, fun h => h.1⟩, fun _ => rfl, fun h => ⟨ec.rf, (h1 h).1⟩⟩, fun _ => lv0_nil⟩
  | 0, n + 1, a, b, i, d, z, gd, D, gs, s, hK, hc, hb, hta, hout, hnest, hD, hpt, hz, hz2, hil, hit, hgd, hG, h1 => by
    have : a < b := hc.1
    omega
  | K + 1, n + 1, a, b, i, d, z, gd, D, gs, s, hK, hc, hb, hta, hout, hnest, hD, hpt, hz, hz2, hil, hit, hgd, hG, h1 => by
    have hab : a < b := hc.1
    have hab2 := t_ch_ge n _ b hc.2
    have hwa := hwx.1 a (by omega)
    have hTp := tpT_tmm hwx hox (a := a) (by omega)
    obtain ⟨st, est⟩ := tpT_hd (x := x) (a := a)
    have hany := otk_any (hox a (by omega))
    have hlen : 1 ≤ (tpT x a).length := by rw [est, List.length_cons]; omega
    -- what stands behind the item
    obtain ⟨z', rest, ez, hz', hz2'⟩ : ∃ z' rest, tpS x n (a + x_sp x a) ++ [z] = z' :: rest ∧ ¬ z' = 7 ∧ z' < 126 := by
      cases n with
      | zero => exact ⟨z, [], rfl, hz, hz2⟩
      | succ n =>
        obtain ⟨s2, es2⟩ := tpT_hd (x := x) (a := a + x_sp x a)
        have h1 : a + x_sp x a < b := hc.2.1
        have := otk_any (hox (a + x_sp x a) (by omega))
        exact ⟨_, _, by rw [tpS_s, es2]; rfl, this.2.2.1, this.2.2.2⟩
    have hpe2 : pe x kf q.1 a b ↔ pe x kf q.1 a (a + x_sp x a) ∧ pe x kf q.1 (a + x_sp x a) b := pe_split (by omega) hab2
    -- the rest, from any state
    have hrest : ∀ (i2 d2 gd2 : Nat) (g2 : OS) (s2 : ES), At (g2.2 10) i2 (tpS x n (a + x_sp x a) ++ [z]) → i2 + (tpS x n (a + x_sp x a)).length < 768 → i2 + (tpS x n (a + x_sp x a)).length ≤ to → gd2 < 2 → GM g2 y kf q md r → (pb = 1 → EM g2 s2 ∧ pe x kf q.1 (a + x_sp x a) b) → _ := fun i2 d2 gd2 g2 s2 u1 u2 u3 u4 u5 u6 => gt_l hF hr hmd hpb hto hwx hlx hox hts hk3 hwy hoy hnn hmo K n (a + x_sp x a) b i2 d2 z gd2 D g2 s2 (by omega) hc.2 hb (by omega) (fun j p1 p2 p3 => by
      by_cases h : j < a
      · rcases hnest j p1 h with h5 | h5
        · exact hout j p1 h (by omega)
        · omega
      · by_cases h6 : j = a
        · rw [h6] at p3
          omega
        · have hch := ch_end (x := x) a (fun i r1 r2 => hwx.1 i r2) (x_sp x a) (x_it x a) (a + 1) (a + x_sp x a) j hwa.2.1 (by omega) (by omega) hwa.2.2 (by omega) p2
          omega) (fun j p1 p2 => by
      by_cases h : j < a
      · rcases hnest j p1 h with h5 | h5
        · exact Or.inl h5
        · exact Or.inr (by omega)
      · by_cases h6 : j = a
        · rw [h6]; exact Or.inr (Nat.le_refl _)
        · have hch := ch_end (x := x) a (fun i r1 r2 => hwx.1 i r2) (x_sp x a) (x_it x a) (a + 1) (a + x_sp x a) j hwa.2.1 (by omega) (by omega) hwa.2.2 (by omega) p2
          exact Or.inr hch) (by omega) u1 hz hz2 u2 u3 u4 u5 u6
    have h1' : pb = 1 → EM gs s ∧ pe x kf q.1 a (a + x_sp x a) ∧ pe x kf q.1 (a + x_sp x a) b := fun h => ⟨(h1 h).1, hpe2.mp (h1 h).2⟩
    by_cases hrp : x_rp x a = 0
    · -- an item that is there once
      have er : tp_r x a = [] := by unfold tp_r; rw [if_pos hrp]
      rw [tpS_s, er, List.nil_append] at hpt hil hit ⊢
      rw [List.append_assoc] at hpt
      rw [List.length_append] at hil hit ⊢
      have hpt2 : At (gs.2 10) i (tpT x a ++ [z']) := by
        rw [ez, show tpT x a ++ z' :: rest = (tpT x a ++ [z']) ++ rest by simp] at hpt
        exact At_l hpt
      have hpi : gs.2 10 i = nI (o_tk (x_sg x a)) := by rw [est] at hpt; exact hpt.1
      have tok : ∀ {C : RO} (d : Nat), rf_goThrough_68 F (rf_goThrough_18 F d) gs (nI r) (nI pb) (nI i) (nI to) (nI gd) = C → rf_goThrough_18 F (d + 1) gs (nI r) (nI pb) (nI i) (nI to) (nI gd) = C := fun {C} d k => gt_tok hF (by omega) hto hpi hany.2.1 hany.2.2.2 hTp.1 hpt2 (sml_of hTp.2 (by decide)) hz' (by omega) (by omega) k
      have hfl : (f_l x (f_cp x kf q.1) (f_n x kf (f_cp x kf q.1) (f_vt y q.2) md D) 0 (n + 1) a).map tkm = (f_n x kf (f_cp x kf q.1) (f_vt y q.2) md D a 0).map tkm ++ (f_l x (f_cp x kf q.1) (f_n x kf (f_cp x kf q.1) (f_vt y q.2) md D) 0 n (a + x_sp x a)).map tkm := by
        rw [f_l, if_pos hrp, List.map_append]
      rw [hfl]
      have hitem : ∀ d, GTc F d gs r pb i to gd (tpT x a).length s ((f_n x kf (f_cp x kf q.1) (f_vt y q.2) md D a 0).map tkm) (pe x kf q.1 a (a + x_sp x a)) ∧ (pe x kf q.1 a (a + x_sp x a) → lv0 ((f_n x kf (f_cp x kf q.1) (f_vt y q.2) md D a 0).map tkm)) := by
        intro d
        obtain ⟨D, rfl⟩ : ∃ D', D = D' + 1 := ⟨D - 1, by omega⟩
        by_cases h40 : x_sg x a = 40
        · have e : (f_n x kf (f_cp x kf q.1) (f_vt y q.2) md (D + 1) a 0).map tkm = etk y kf q md 0 1 ++ ((f_l x (f_cp x kf q.1) (f_n x kf (f_cp x kf q.1) (f_vt y q.2) md D) 0 (x_it x a) (a + 1)).map tkm ++ etk y kf q md 0 2) := by
            rw [f_n, if_neg (c := k_var kf (x_sg x a)) (fun q9 => by have := q9.1; omega), if_neg (c := c_nm (x_sg x a)) (by omega), if_pos h40, List.map_cons, List.map_append, tkm_open h40]
            rfl
          have eP : tpT x a = 1 :: (tpS x (x_it x a) (a + 1) ++ [2]) := tpT_list hwx (by omega) h40
          have l2 : (tpT x a).length = 1 + ((tpS x (x_it x a) (a + 1)).length + 1) := by rw [eP]; simp; omega
          have hpt3 := At_l hpt2
          rw [eP] at hpt3
          have hpeA : pe x kf q.1 a (a + x_sp x a) ↔ pe x kf q.1 (a + 1) (a + x_sp x a) := by
            rw [pe_split (b := a + 1) (by omega) (by omega)]
            exact ⟨fun h => h.2, fun h => ⟨fun j p1 p2 p3 => absurd hrp (by rw [show a = j by omega]; exact p3), h⟩⟩
          have hin : ∀ (d2 gd2 : Nat) (g2 : OS) (s2 : ES), At (g2.2 10) (i + 1) (tpS x (x_it x a) (a + 1) ++ [2]) → gd2 < 2 → GM g2 y kf q md r → (pb = 1 → EM g2 s2 ∧ pe x kf q.1 (a + 1) (a + x_sp x a)) → _ := fun d2 gd2 g2 s2 u1 u4 u5 u6 => gt_l hF hr hmd hpb hto hwx hlx hox hts hk3 hwy hoy hnn hmo K (x_it x a) (a + 1) (a + x_sp x a) (i + 1) d2 2 gd2 D g2 s2 (by omega) hwa.2.2 hwa.2.1 (by omega) (fun j p1 p2 p3 => by
            by_cases h6 : j = a
            · rw [h6]; exact hrp
            · exact hout j p1 (by omega) (by omega)) (fun j p1 p2 => by
            by_cases h6 : j = a
            · rw [h6]; exact Or.inl (Nat.le_refl _)
            · by_cases h7 : j + x_sp x j ≤ a
              · exact Or.inr (by omega)
              · have hch := ch_end (x := x) j (fun i r1 r2 => hwx.1 i r2) (x_sp x j) (x_it x j) (j + 1) (j + x_sp x j) a (hwx.1 j (by omega)).2.1 (by omega) (by omega) (hwx.1 j (by omega)).2.2 (by omega) (by omega)
                exact Or.inl hch) (by omega) u1 (by decide) (by decide) (by omega) (by omega) u4 u5 u6
          have hlv0 : pe x kf q.1 (a + 1) (a + x_sp x a) → lv0 ((f_l x (f_cp x kf q.1) (f_n x kf (f_cp x kf q.1) (f_vt y q.2) md D) 0 (x_it x a) (a + 1)).map tkm) := by
            intro hp
            -- in the state as it is, nothing being put
            have hn0 := gt_l hF hr hmd hpb hto hwx hlx hox hts hk3 hwy hoy hnn hmo K (x_it x a) (a + 1) (a + x_sp x a) (i + 1) 0 2 gd D gs s (by omega) hwa.2.2 hwa.2.1 (by omega) (fun j p1 p2 p3 => by
              by_cases h6 : j = a
              · rw [h6]; exact hrp
              · exact hout j p1 (by omega) (by omega)) (fun j p1 p2 => by
              by_cases h6 : j = a
              · rw [h6]; exact Or.inl (Nat.le_refl _)
              · by_cases h7 : j + x_sp x j ≤ a
                · exact Or.inr (by omega)
                · have hch := ch_end (x := x) j (fun i r1 r2 => hwx.1 i r2) (x_sp x j) (x_it x j) (j + 1) (j + x_sp x j) a (hwx.1 j (by omega)).2.1 (by omega) (by omega) (hwx.1 j (by omega)).2.2 (by omega) (by omega)
                  exact Or.inl hch) (by omega) hpt3.2 (by decide) (by decide) (by omega) (by omega) hgd hG (fun h => ⟨(h1 h).1, hp⟩)
            exact hn0.2 hp
          refine ⟨?_, fun hp => ?_⟩
          · rw [e, l2]
            refine GTc.cg (GTc.seq (p1 := True) (p2 := pe x kf q.1 (a + 1) (a + x_sp x a) ∧ True) (gt_one hF hr hmd hpb hwy hoy hG (by rw [hpi, h40]; decide) (by decide) hto (by omega) hgd (fun q9 => by omega) (fun h => (h1 h).1) (fun _ _ => by intro q9; cases q9) tok) (fun g2 d2 gd2 _ hg2 h0 h1b => ?_)) (by rw [hpeA]; simp)
            have hec : ec gs g2 := by
              rcases (show pb = 0 ∨ pb = 1 by omega) with h | h
              · rw [h0 h]; exact ec.rf
              · exact (h1b h).1
            have hG2 := GM_ec hG hec
            refine GTc.seq (hin (d2 + 1) gd2 g2 (em (etk y kf q md 0 1) s) (by rw [hec.2 10 (by decide)]; exact hpt3.2) hg2 hG2 (fun h => ⟨(h1b h).2, hpeA.mp (h1' h).2.1⟩)).1 (fun g3 d3 gd3 _ hg3 h03 h13 => ?_)
            have hec3 : ec gs g3 := by
              rcases (show pb = 0 ∨ pb = 1 by omega) with h | h
              · rw [h03 h]; exact hec
              · exact hec.tr (h13 h).1
            have hG3 := GM_ec hG hec3
            have hcl : g3.2 10 (i + 1 + (tpS x (x_it x a) (a + 1)).length) = nI 2 := by
              rw [hec3.2 10 (by decide)]
              exact (At_r hpt3.2).1
            refine gt_one hF hr hmd hpb hwy hoy hG3 hcl (by decide) hto (by omega) hg3 (fun q9 => by omega) (fun h => (h13 h).2) (fun h hz0 => ?_) (fun d k => gt_cls (by omega) hto hcl k)
            -- a list is begun
            have hlv := (hlv0 (hpeA.mp (h1' h).2.1)).1
            have hs1 : (em (etk y kf q md 0 1) s).2.2.2.2 = 0 := by
              by_cases hz1 : (em (etk y kf q md 0 1) s).2.2.2.2 = 0
              · exact hz1
              · rw [em_1 hz1] at hz0
                exact absurd hz0 hz1
            have hs0 : s.2.2.2.2 = 0 := by
              by_cases hz1 : s.2.2.2.2 = 0
              · exact hz1
              · rw [em_1 hz1] at hs1
                exact absurd hs1 hz1
            have hl1 : (em (etk y kf q md 0 1) s).2.2.1 = s.2.2.1 + 1 := em_lvl [1] s _ rfl hs1
            have hl2 := em_lvl _ (em (etk y kf q md 0 1) s) (0 + (em (etk y kf q md 0 1) s).2.2.1) (by
              have := lvl_sh _ 0 0 (em (etk y kf q md 0 1) s).2.2.1 hlv
              rw [Nat.zero_add] at this
              rw [this, Nat.zero_add]) hz0
            rw [hl2, hl1]
            show ¬ (if 0 + (s.2.2.1 + 1) = 0 then none else lvl [] (0 + (s.2.2.1 + 1) - 1)) = none
            rw [if_neg (by omega)]
            intro q9
            cases q9
          · rw [e]
            have hin0 := hlv0 (hpeA.mp hp)
            refine ⟨tmm_lvl (Or.inr ⟨_, rfl, hin0.1⟩) 0, sml_app (fun t ht => ?_) (sml_app hin0.2 (fun t ht => ?_))⟩
            · rcases List.mem_singleton.mp ht with rfl
              decide
            · rcases List.mem_singleton.mp ht with rfl
              decide
        · have hlf := hlx a (by omega) h40
          have hpeA : True ↔ pe x kf q.1 a (a + x_sp x a) := ⟨fun _ j p1 p2 p3 => absurd hrp (by rw [show a = j by omega]; exact p3), fun _ => trivial⟩
          have hnmany : 100 ≤ o_tk (x_sg x a) → ¬ kf (o_tk (x_sg x a) - 100) = 2 := by
            intro h100 hk2
            by_cases hn : c_nm (x_sg x a)
            · have e := otk_nm hn
              obtain ⟨i0, p1, p2, p3, p4⟩ := hmo a hta (by omega) ⟨hn, by rw [← hk2]; congr 1; omega⟩
              by_cases h6 : i0 = a
              · rw [h6] at p4
                exact p4 hrp
              · exact p4 (hout i0 p1 (by omega) p3)
            · have := otk_tm (hts a hta (by omega)) hn
              omega
          rw [leaf_etk hk3 (hts a hta (by omega)) h40, tpT_leaf h40]
          refine ⟨GTc.cg (gt_one hF hr hmd hpb hwy hoy hG hpi hany.2.2.2 hto (by omega) hgd (fun q9 k9 => absurd k9 (hnmany q9)) (fun h => (h1 h).1) (fun _ _ => ?_) tok) hpeA, fun _ => ?_⟩
          · have := otk_leaf (hox a (by omega)) h40
            show ¬ (if o_tk (x_sg x a) = 1 then _ else if o_tk (x_sg x a) = 2 then _ else _) = none
            rw [if_neg (by omega), if_neg (by omega)]
            intro q9
            cases q9
          · have := otk_leaf (hox a (by omega)) h40
            have e := etk_lvl (n := 0) (md := md) (kf := kf) (q := q) hwy hoy hany.2.2.2 (fun h => GM_1 hG hany.2.2.2 h) (fun h k => absurd k (hnmany h)) [] 0
            rw [List.append_nil] at e
            refine ⟨?_, etk_sml hmd hG hany.2.2.2 (fun h k => absurd k (hnmany h))⟩
            rw [e]
            show (if o_tk (x_sg x a) = 1 then _ else if o_tk (x_sg x a) = 2 then _ else _) = _
            rw [if_neg (by omega), if_neg (by omega)]
            rfl
      refine ⟨GTc.cg (GTc.seq (hitem _).1 (fun g2 d2 gd2 _ hg2 h0 h1b => ?_)) hpe2.symm, fun hp => ?_⟩
      · have hec : ec gs g2 := by
          rcases (show pb = 0 ∨ pb = 1 by omega) with h | h
          · rw [h0 h]; exact ec.rf
          · exact (h1b h).1
        exact (hrest (i + (tpT x a).length) d2 gd2 g2 _ (by rw [hec.2 10 (by decide)]; exact At_r hpt) (by omega) (by omega) hg2 (GM_ec hG hec) (fun h => ⟨(h1b h).2, (h1' h).2.2⟩)).1
      · obtain ⟨p1, p2⟩ := hpe2.mp hp
        refine lv0_app ((hitem 0).2 p1) ?_
        have hr0 := gt_l hF hr hmd hpb hto hwx hlx hox hts hk3 hwy hoy hnn hmo K n (a + x_sp x a) b (i + (tpT x a).length) 0 z gd D gs s (by omega) hc.2 hb (by omega) (fun j p1 p2 p3 => by
          by_cases h : j < a
          · rcases hnest j p1 h with h5 | h5
            · exact hout j p1 h (by omega)
            · omega
          · by_cases h6 : j = a
            · rw [h6] at p3
              omega
            · have hch := ch_end (x := x) a (fun i r1 r2 => hwx.1 i r2) (x_sp x a) (x_it x a) (a + 1) (a + x_sp x a) j hwa.2.1 (by omega) (by omega) hwa.2.2 (by omega) p2
              omega) (fun j p1 p2 => by
          by_cases h : j < a
          · rcases hnest j p1 h with h5 | h5
            · exact Or.inl h5
            · exact Or.inr (by omega)
          · by_cases h6 : j = a
            · rw [h6]; exact Or.inr (Nat.le_refl _)
            · have hch := ch_end (x := x) a (fun i r1 r2 => hwx.1 i r2) (x_sp x a) (x_it x a) (a + 1) (a + x_sp x a) j hwa.2.1 (by omega) (by omega) hwa.2.2 (by omega) p2
              exact Or.inr hch) (by omega) (At_r hpt) hz hz2 (by omega) (by omega) hgd hG (fun h => ⟨(h1 h).1, p2⟩)
        exact hr0.2 p2
    · -- an item that is repeated
      have er : tp_r x a = [7] := by unfold tp_r; rw [if_neg hrp]
      rw [tpS_s, er] at hpt hil hit ⊢
      have eL : (tpT x a ++ ([7] ++ tpS x n (a + x_sp x a))).length = ((tpT x a).length + 1) + (tpS x n (a + x_sp x a)).length := by
        rw [List.length_append, List.length_append, List.length_singleton]
        omega
      rw [eL] at hil hit ⊢
      rw [List.append_assoc, List.append_assoc] at hpt
      have hnr : ∀ j, a < j → j < a + x_sp x a → x_rp x j = 0 := fun j p1 p2 => by
        by_cases h : x_rp x j = 0
        · exact h
        · have := hnn a j hta p1 (by omega) hrp h
          omega
      have hpi : gs.2 10 i = nI (o_tk (x_sg x a)) := by rw [est] at hpt; exact hpt.1
      have hat : gs.2 10 (nI i).toNatClampNeg = nI (o_tk (x_sg x a)) := cl_at hpi
      have hpt7 := At_r hpt
      have h7 : gs.2 10 (nI (i + (tpT x a).length)).toNatClampNeg = nI 7 := cl_at hpt7.1
      have ecp : m_cp x kf q.1 (x_sp x a) a none = mcf q.1 (mly kf (tpT x a)) none := by rw [m_cp_mcf, tpT_mly hwx hlx hox (by omega)]
      obtain ⟨v, ev, hv1, hv2⟩ := cop_lp (F := F) (e := i + (tpT x a).length) hr (by omega) hG (tpT x a) i F none (fun k hk => by cases hk) (At_l hpt) hTp.2 rfl (by omega)
      have hpeA : ¬ m_cp x kf q.1 (x_sp x a) a none = none ↔ pe x kf q.1 a (a + x_sp x a) := by
        constructor
        · intro h j p1 p2 p3
          by_cases hj : j = a
          · rw [hj]; exact h
          · exact absurd (hnr j (by omega) p2) p3
        · intro h
          exact h a (Nat.le_refl _) (by omega) hrp
      have hfl : (f_l x (f_cp x kf q.1) (f_n x kf (f_cp x kf q.1) (f_vt y q.2) md D) 0 (n + 1) a).map tkm = (f_c (f_n x kf (f_cp x kf q.1) (f_vt y q.2) md D a) (f_cp x kf q.1 a) 0).map tkm ++ (f_l x (f_cp x kf q.1) (f_n x kf (f_cp x kf q.1) (f_vt y q.2) md D) 0 n (a + x_sp x a)).map tkm := by
        rw [f_l, if_neg hrp, List.map_append]
      rw [hfl]
      -- the copies as they are put
      have hcop : ∀ n0, m_cp x kf q.1 (x_sp x a) a none = some n0 → n0 ≤ 60 ∧ (∀ t, t ∈ tpT x a → 100 ≤ t → kf (t - 100) = 2 → q.1 (t - 100) = n0) ∧ (f_c (f_n x kf (f_cp x kf q.1) (f_vt y q.2) md D a) (f_cp x kf q.1 a) 0).map tkm = (List.range' 0 n0).flatMap (fun c => (tpT x a).flatMap (etk y kf q md c)) ∧ lv0 ((List.range' 0 n0).flatMap (fun c => (tpT x a).flatMap (etk y kf q md c))) := by
        intro n0 hn0
        have h60 := m_cp_le (x := x) (kf := kf) (ct := q.1) hG.2.2.1 (x_sp x a) a none (fun b h => by cases h) n0 hn0
        have hall := fun t (h : t ∈ tpT x a) (p1 : 100 ≤ t) (p2 : kf (t - 100) = 2) => mcf_all0 (by rw [← ecp]; exact hn0) (t - 100) (mly_mem p1 p2 _ h)
        have hcpa : f_cp x kf q.1 a = n0 := by
          unfold f_cp
          rw [hn0]
          rfl
        refine ⟨h60, hall, ?_, ?_⟩
        · rw [hcpa]
          exact f_c_range n0 0 (fun c _ _ => flat_n hk3 hwx hts D a c hta (by omega) (by omega) hnr)
        · refine range_lvl n0 0 (fun c p1 p2 => ?_)
          refine ⟨?_, flat_sml hmd hG (tpT x a) hTp.2 (fun t h q1 q2 => by rw [hall t h q1 q2]; omega)⟩
          rw [flat_lvl hwy hoy hG (tpT x a) 0 hTp.2 (fun t h q1 q2 => by rw [hall t h q1 q2]; omega)]
          exact tmm_lvl hTp.1 0
      have hd0 : ∀ {C : RO} (d : Nat), _ = C → rf_goThrough_18 F (d + 1) gs (nI r) (nI pb) (nI i) (nI to) (nI gd) = C := fun {C} d k => by
        rw [rf_goThrough_18]
        refine rc_leF rfl rfl (by omega) ?_
        refine rc_in rfl (by omega) ?_
        refine rc_eqF (b := 2) hat rfl hany.2.1 ?_
        refine rc_bd (item_ok (w := 1) (by decide) hF rfl rfl hTp.1 (At_l hpt) (sml_of hTp.2 (by decide)) (by omega)) ?_
        rw [rf_goThrough_44]
        refine rc_in rfl (by omega) ?_
        refine rc_eqF (b := 2) hat rfl hany.2.1 ?_
        refine rc_in rfl (by omega) ?_
        refine rc_eqE (b := 7) h7 rfl rfl ?_
        refine rc_bd (by rw [rf_copies]; exact ev) ?_
        exact k
      have hitem : ∀ d, GTc F d gs r pb i to gd ((tpT x a).length + 1) s ((f_c (f_n x kf (f_cp x kf q.1) (f_vt y q.2) md D a) (f_cp x kf q.1 a) 0).map tkm) (pe x kf q.1 a (a + x_sp x a)) := by
        intro d
        -- whether all is even so far
        obtain ⟨y0, hy0, hy1, hy2⟩ : ∃ y0, y0 < 2 ∧ (y0 = 1 ↔ gd = 1 ∧ pe x kf q.1 a (a + x_sp x a)) ∧ ∀ {C : RO} (d : Nat), rf_goThrough_118 F (rf_goThrough_18 F d) F gs (nI r) (nI pb) (nI i) (nI to) (nI y0) (nI (i + (tpT x a).length)) v 0 = C → rf_goThrough_18 F (d + 1) gs (nI r) (nI pb) (nI i) (nI to) (nI gd) = C := by
          by_cases hg0 : gd = 0
          · refine ⟨0, by decide, ⟨fun q9 => (by cases q9), fun q9 => by omega⟩, fun {C} d k => hd0 d ?_⟩
            refine rc_eqE (b := 0) rfl rfl hg0 ?_
            rw [rf_goThrough_112, rf_goThrough_113]
            exact k
          · cases hm : m_cp x kf q.1 (x_sp x a) a none with
            | none =>
              have hneg := hv2 (by rw [← ecp]; exact hm)
              refine ⟨0, by decide, ⟨fun q9 => (by cases q9), fun q9 => absurd hm (hpeA.mpr q9.2)⟩, fun {C} d k => hd0 d ?_⟩
              refine rc_eqF (b := 0) rfl rfl hg0 ?_
              refine rc_pT hneg ?_
              rw [rf_goThrough_112, rf_goThrough_113]
              exact k
            | some n0 =>
              have hpos := hv1 n0 (by rw [← ecp]; exact hm)
              have h60 := (hcop n0 hm).1
              refine ⟨1, by decide, ⟨fun _ => ⟨by omega, hpeA.mp (by rw [hm]; intro q9; cases q9)⟩, fun _ => rfl⟩, fun {C} d k => hd0 d ?_⟩
              refine rc_eqF (b := 0) rfl rfl hg0 ?_
              refine rc_ltF (a := n0) (b := 0) hpos rfl (Nat.zero_le _) ?_
              rw [rf_goThrough_113]
              exact k
        have eld : d + ((tpT x a).length + 1) = (d + (tpT x a).length) + 1 := by omega
        rcases (show pb = 0 ∨ pb = 1 by omega) with rfl | rfl
        · refine ⟨gs, d + (tpT x a).length, y0, by omega, ?_, hy0, hy1, fun _ => rfl, fun q9 => by cases q9⟩
          rw [eld]
          refine hy2 _ ?_
          obtain ⟨f, hf⟩ : ∃ f, F = f + 1 := ⟨F - 1, by omega⟩
          have key : rf_goThrough_145 F (rf_goThrough_18 F (d + (tpT x a).length)) gs (nI r) (nI 0) (nI to) (nI y0) (nI (i + (tpT x a).length)) = rf_goThrough_18 F (d + (tpT x a).length) gs (nI r) (nI 0) (nI (i + ((tpT x a).length + 1))) (nI to) (nI y0) := by
            rw [rf_goThrough_145, nI_1]
            congr 2
          have hg : ∀ f, rf_goThrough_118 F (rf_goThrough_18 F (d + (tpT x a).length)) (f + 1) gs (nI r) (nI 0) (nI i) (nI to) (nI y0) (nI (i + (tpT x a).length)) v 0 = rf_goThrough_18 F (d + (tpT x a).length) gs (nI r) (nI 0) (nI (i + ((tpT x a).length + 1))) (nI to) (nI y0) := by
            intro f
            rw [rf_goThrough_118]
            by_cases hv : v ≤ 0
            · exact rc_pT hv key
            · refine rc_pF hv ?_
              exact rc_eqE (b := 0) rfl rfl rfl key
          have := hg f
          rw [← hf] at this
          exact this
        · obtain ⟨hE, hp1, hp2⟩ := h1' rfl
          obtain ⟨n0, hn0⟩ : ∃ n0, m_cp x kf q.1 (x_sp x a) a none = some n0 := by
            cases hm : m_cp x kf q.1 (x_sp x a) a none with
            | none => exact absurd hm (hpeA.mpr hp1)
            | some n0 => exact ⟨n0, rfl⟩
          obtain ⟨h60, hall, hec, hlv⟩ := hcop n0 hn0
          have hpos := hv1 n0 (by rw [← ecp]; exact hn0)
          obtain ⟨g2, e2, hc2, hE2⟩ := rep_lp (F := F) hF hr hmd hwy hoy (K := rf_goThrough_18 F (d + (tpT x a).length)) (T := tpT x a) (i := i) (n := n0) (x4 := to) (x5 := y0) hTp.2 (by omega) h60 hall (fun l => tmm_lvl hTp.1 l) n0 0 F gs s (by omega) (by omega) (At_l hpt) hG hE
          refine ⟨g2, d + (tpT x a).length, y0, by omega, ?_, hy0, hy1, fun q9 => (by cases q9), fun _ => ⟨hc2, by rw [hec]; exact hE2⟩⟩
          rw [eld]
          refine hy2 _ ?_
          rw [hpos]
          exact e2
      refine ⟨GTc.cg (GTc.seq (hitem _) (fun g2 d2 gd2 _ hg2 h0 h1b => ?_)) hpe2.symm, fun hp => ?_⟩
      · have hec : ec gs g2 := by
          rcases (show pb = 0 ∨ pb = 1 by omega) with h | h
          · rw [h0 h]; exact ec.rf
          · exact (h1b h).1
        exact (hrest (i + ((tpT x a).length + 1)) d2 gd2 g2 _ (by rw [hec.2 10 (by decide)]; exact hpt7.2) (by omega) (by omega) hg2 (GM_ec hG hec) (fun h => ⟨(h1b h).2, (h1' h).2.2⟩)).1
      · obtain ⟨p1, p2⟩ := hpe2.mp hp
        obtain ⟨n0, hn0⟩ : ∃ n0, m_cp x kf q.1 (x_sp x a) a none = some n0 := by
          cases hm : m_cp x kf q.1 (x_sp x a) a none with
          | none => exact absurd hm (hpeA.mpr p1)
          | some n0 => exact ⟨n0, rfl⟩
        obtain ⟨h60, hall, hec, hlv⟩ := hcop n0 hn0
        rw [hec]
        refine lv0_app hlv ?_
        exact (hrest (i + ((tpT x a).length + 1)) 0 gd gs s hpt7.2 (by omega) (by omega) hgd hG (fun h => ⟨(h1 h).1, p2⟩)).2 p2
end GTL
