/-! Matching: the reference's matches. -/
/-- what matching changes: where, times, places, reached -/
def mc2 (gs g2 : OS) : Prop := (∀ k, k ≠ 41 → g2.1 k = gs.1 k) ∧ ∀ k, k ≠ 29 → k ≠ 30 → k ≠ 31 → g2.2 k = gs.2 k
theorem mc2.rf {gs : OS} : mc2 gs gs := ⟨fun _ _ => rfl, fun _ _ _ _ => rfl⟩
theorem mc2.tr {a b c : OS} (h : mc2 a b) (h2 : mc2 b c) : mc2 a c := ⟨fun k hk => (h2.1 k hk).trans (h.1 k hk), fun k hk hj hl => (h2.2 k hk hj hl).trans (h.2 k hk hj hl)⟩
theorem mch.m {a b : OS} (h : mch a b) : mc2 a b := ⟨h.1, fun k h1 _ h3 => h.2 k h1 h3⟩
theorem mc2.i {a b : OS} {v : Int32} (h : mc2 a b) : mc2 a (sI b 41 v) := h.tr ⟨fun k hk => sI_n hk, fun _ _ _ _ => rfl⟩
theorem mc2.fr {a b : OS} (h : mc2 a b) : fr a b := ⟨fun k hk => h.1 k (by omega), fun k hk => h.2 k (by omega) (by omega) (by omega)⟩
/-- items of a list: a repeated one is the last -/
def lst (x : TSt) : Nat → Nat → Prop
  | 0, _ => True
  | n + 1, a => (¬ x_rp x a = 0 → n = 0) ∧ lst x n (a + x_sp x a)
/-- what is known of a pattern -/
def PT (x : TSt) (kf : Nat → Nat) (tm : Nat) : Prop :=
  t_wf6 x ∧ t_lf x ∧ x_oks x ∧ tm ≤ x_z x ∧
  (∀ a, a < tm → x_sg x a = 40 → lst x (x_it x a) (a + 1)) ∧
  (∀ i j, 2 ≤ i → i < tm → 2 ≤ j → j < tm → c_nm (x_sg x i) → x_sg x i = x_sg x j → i = j) ∧
  (∀ i, 2 ≤ i → i < tm → c_nm (x_sg x i) → (∀ a, 2 ≤ a → a ≤ i → i < a + x_sp x a → x_rp x a = 0) → kf (x_sg x i - 97) = 1) ∧
  (∀ i a, 2 ≤ a → a ≤ i → i < a + x_sp x a → i < tm → ¬ x_rp x a = 0 → c_nm (x_sg x i) → kf (x_sg x i - 97) = 2) ∧
  (∀ a b, a < b → b < tm → ¬ x_rp x a = 0 → ¬ x_rp x b = 0 → a + x_sp x a ≤ b)
/-- while a pattern is matched, nodes ahead of w being through -/
def IV (x y : TSt) (kf : Nat → Nat) (tm : Nat) (gs : OS) (q : MSt) (w : Nat) : Prop :=
  MR gs y kf q ∧ (∀ j, w ≤ j → j < tm → c_nm (x_sg x j) → q.1 (x_sg x j - 97) = 0) ∧ (∀ j, 2 ≤ j → j < w → c_nm (x_sg x j) → kf (x_sg x j - 97) = 2 → gs.2 30 (x_sg x j - 97) = nI (q.1 (x_sg x j - 97))) ∧ ∀ c, q.1 c ≤ 60
theorem IV_cg {x y : TSt} {kf : Nat → Nat} {tm : Nat} {gs g2 : OS} {q : MSt} {w : Nat} (h : IV x y kf tm gs q w) (h1 : g2.2 = gs.2) : IV x y kf tm g2 q w := by
  obtain ⟨a, b, c, d⟩ := h
  exact ⟨MR_cg a (by rw [h1]) (by rw [h1]) (by rw [h1]), b, fun j p1 p2 p3 p4 => by rw [h1]; exact c j p1 p2 p3 p4, d⟩
theorem IV_ext {x y : TSt} {kf : Nat → Nat} {tm : Nat} {gs : OS} {q : MSt} {w : Nat} (h : IV x y kf tm gs q w) (hn : ¬ c_nm (x_sg x w)) : IV x y kf tm gs q (w + 1) := by
  obtain ⟨h1, h2, h3, h4⟩ := h
  refine ⟨h1, fun j a b c => h2 j (by omega) b c, fun j a b c e => ?_, h4⟩
  by_cases h : j = w
  · rw [h] at c
    exact absurd c hn
  · exact h3 j a (by omega) c e
section TOK
variable {F d : Nat} {gs : OS} {i t lv : Nat}
/-- one token of a pattern, none behind its item being a tilde -/
theorem ml_tok {w z : Nat} {T : List Nat} {C : RO} (hF : 5000 ≤ F) (hlv : 1 ≤ lv) (hlv2 : lv < 9999) (hw : gs.2 8 i = nI w) (hw2 : ¬ w = 2) (hw3 : w < 126) (hT : tmm T) (ha : At (gs.2 8) i (T ++ [z])) (hs : sml T) (hz : ¬ z = 7) (hz2 : z < 2 ^ 30) (hi : i + T.length < 768) (k : rf_matches_95 F (rf_matches_20 F d) gs (nI i) (nI t) (nI lv) (nI w) = C) : rf_matches_20 F (d + 1) gs (nI i) (nI t) (nI lv) = C := by
  have hat : gs.2 8 (nI i).toNatClampNeg = nI w := cl_at hw
  have hz3 : gs.2 8 (nI (i + T.length)).toNatClampNeg = nI z := cl_at (At_r ha).1
  rw [rf_matches_20]
  refine rc_leF (b := 0) rfl rfl (by omega) ?_
  refine rc_in rfl (by omega) ?_
  refine rc_eqF (b := 2) hat rfl hw2 ?_
  refine rc_bd (item_ok (w := 0) (by decide) hF rfl rfl hT (At_l ha) hs (by omega)) ?_
  rw [rf_matches_49]
  refine rc_eqF (b := 2) hat rfl hw2 ?_
  refine rc_in rfl (by omega) ?_
  refine rc_eqF (b := 7) hz3 rfl hz ?_
  rw [hat]
  exact k
theorem ml_cls {C : RO} (hlv : 1 ≤ lv) (hlv2 : lv < 9999) (hw : gs.2 8 i = nI 2) (hi : i < 768) (k : rf_matches_95 F (rf_matches_20 F d) gs (nI i) (nI t) (nI lv) (nI 2) = C) : rf_matches_20 F (d + 1) gs (nI i) (nI t) (nI lv) = C := by
  have hat : gs.2 8 (nI i).toNatClampNeg = nI 2 := cl_at hw
  rw [rf_matches_20]
  refine rc_leF (b := 0) rfl rfl (by omega) ?_
  refine rc_in rfl (by omega) ?_
  refine rc_eqE (b := 2) hat rfl rfl ?_
  rw [rf_matches_49]
  refine rc_eqE (b := 2) hat rfl rfl ?_
  rw [hat]
  exact k
theorem ml_bad {w : Nat} {K : OS → Int32 → Int32 → Int32 → RO} (h : rf_matchPlain_6 F F gs (nI (i + 1)) (lI none) (nI t) (nI i) = some (0, sI gs 41 (-1))) : rf_matches_95 F K gs (nI i) (nI t) (nI lv) (nI w) = some (0, sI gs 41 (-1)) := by
  rw [rf_matches_95, nI_1]
  refine rc_bd (g1 := sI gs 41 (-1)) (r1 := 0) (by rw [rf_matchPlain]; exact h) ?_
  exact rc_pF (by rw [sI_e]; decide) rfl
theorem ml_good {w t2 : Nat} {g2 : OS} {K : OS → Int32 → Int32 → Int32 → RO} (hw : w < 126) (h : rf_matchPlain_6 F F gs (nI (i + 1)) (lI none) (nI t) (nI i) = some (0, g2)) (h41 : g2.1 41 = nI t2) (ht2 : t2 < 9999) (hlv : 1 ≤ lv) : rf_matches_95 F K gs (nI i) (nI t) (nI lv) (nI w) = K g2 (nI (i + 1)) (nI t2) (nI (if w = 1 then lv + 1 else if w = 2 then lv - 1 else lv)) := by
  rw [rf_matches_95, nI_1]
  refine rc_bd (by rw [rf_matchPlain]; exact h) ?_
  refine rc_leT (a := 0) rfl h41 (Nat.zero_le _) ?_
  by_cases h1 : w = 1
  · rw [if_pos h1]
    refine rc_eqE (b := 1) rfl rfl h1 ?_
    rw [rf_matches_149, nI_1, nI_1, h41]
  · rw [if_neg h1]
    refine rc_eqF (b := 1) rfl rfl h1 ?_
    by_cases h2 : w = 2
    · rw [if_pos h2]
      refine rc_eqE (b := 2) rfl rfl h2 ?_
      rw [rf_matches_149, nI_1, h41, nI_s1 (a := lv - 1) (by congr 1; omega)]
    · rw [if_neg h2]
      refine rc_eqF (b := 2) rfl rfl h2 ?_
      rw [rf_matches_149, nI_1, h41]
end TOK
/-- a stretch of the loop: from i, t, lv over li and lt tokens to level lv2, or no match -/
def MLc (F d : Nat) (gs : OS) (t i lv lt li lv2 : Nat) (res : Option MSt) (post : OS → MSt → Prop) : Prop :=
  (∀ q', res = some q' → ∃ g2 d2, d ≤ d2 ∧ rf_matches_20 F (d + li) gs (nI i) (nI t) (nI lv) = rf_matches_20 F d2 g2 (nI (i + li)) (nI (t + lt)) (nI lv2) ∧ mc2 gs g2 ∧ post g2 q') ∧
  (res = none → ∃ g2, rf_matches_20 F (d + li) gs (nI i) (nI t) (nI lv) = some (0, g2) ∧ mc2 gs g2)
theorem MLc.bad {F d : Nat} {gs g2 : OS} {t i lv lt li lv2 : Nat} {post : OS → MSt → Prop} (h : ∀ d, rf_matches_20 F (d + 1) gs (nI i) (nI t) (nI lv) = some (0, g2)) (hm : mc2 gs g2) (hl : 1 ≤ li) : MLc F d gs t i lv lt li lv2 none post := by
  refine ⟨fun q' q9 => (by cases q9), fun _ => ⟨_, ?_, hm⟩⟩
  rw [show d + li = (d + (li - 1)) + 1 by omega]
  exact h _
section ML
variable {x y : TSt} {kf : Nat → Nat} {F tm : Nat}
/-- the list's end on both sides -/
theorem ml_end {gs : OS} {i t lv d : Nat} (hF : 5000 ≤ F) (h1 : gs.2 8 i = nI 2) (h2 : i < 768) (h3 : gs.2 22 t = nI 2) (h4 : t < 2400) (h5 : 1 ≤ lv) (h6 : lv < 9999) : rf_matches_20 F (d + 1) gs (nI i) (nI t) (nI lv) = rf_matches_20 F d (sI gs 41 (nI (t + 1))) (nI (i + 1)) (nI (t + 1)) (nI (lv - 1)) := by
  refine ml_cls h5 h6 h1 h2 ?_
  obtain ⟨f, hf⟩ : ∃ f, F = f + 1 + 1 := ⟨F - 2, by omega⟩
  refine Eq.trans (ml_good (w := 2) (t2 := t + 1) (g2 := sI gs 41 (nI (t + 1))) (by decide) ?_ (sI_e _ _ _) (by omega) h5) ?_
  · have e1 := mp_eq (F := F) (d := f + 1) (gs := gs) (to := i + 1) (i := i) (t := t) (x4 := lI none) (w := 2) (by omega) (by omega) h1 (by decide) (by decide) h3 (by omega)
    rw [← hf] at e1
    rw [e1, mp_end (Nat.le_refl _) (by omega)]
  · rw [if_neg (by decide), if_pos rfl]
/-- a repeated item, the last of its list -/
theorem ml_many {D n k wt it e : Nat} {q : MSt} {gs : OS} {i t lv d : Nat} (hF : 5000 ≤ F) (hx : PT x kf tm) (hwy : t_wf6 y) (hly : t_lf y) (hoy : t_ok y) (h2w : 2 ≤ wt) (hwt : wt < tm) (hb : wt + x_sp x wt ≤ tm) (hrp : ¬ x_rp x wt = 0) (hcy : t_ch y n it e) (he : e ≤ x_z y) (hn : n ≤ 59) (hD : x_sp x wt ≤ D) (hpt : At (gs.2 8) i (tpT x wt ++ [7, 2])) (hpl : i + (tpT x wt).length + 2 ≤ 768) (hrow : At (gs.2 22) t (tkS y n it ++ [2])) (hrl : t + (tkS y n it).length + 1 ≤ 2400) (hsm : sml (tkS y n it)) (hI : IV x y kf tm gs q wt) (hlv : 1 ≤ lv) (hlv2 : lv < 9999) :
    MLc F d gs t i lv ((tkS y n it).length + 1) ((tpT x wt).length + 2) (lv - 1) (m_lp x y (m_ft x y D) 0 n k wt 1 it q) (fun g2 q' => IV x y kf tm g2 q' (wt + x_sp x wt)) := by
  obtain ⟨hwx, hlx, hox, htm, hlst, hds, hk1, hk2, hnn⟩ := id hx
  have hTp := tpT_tmm hwx hox (a := wt) (by omega)
  obtain ⟨s, es⟩ := tpT_hd (x := x) (a := wt)
  have hany := otk_any (hox wt (by omega))
  have hpi : gs.2 8 i = nI (o_tk (x_sg x wt)) := by rw [es] at hpt; exact hpt.1
  have hat : gs.2 8 (nI i).toNatClampNeg = nI (o_tk (x_sg x wt)) := cl_at hpi
  have h7 : gs.2 8 (nI (i + (tpT x wt).length)).toNatClampNeg = nI 7 := cl_at (At_r hpt).1
  have hlen : 1 ≤ (tpT x wt).length := by rw [es, List.length_cons]; omega
  have hsp := hwx.2 wt (by omega)
  obtain ⟨i1, i2, i3, i4⟩ := id hI
  have hIM : IM x y kf wt (wt + x_sp x wt) 0 q gs q wt := ⟨i1, fun j p1 p2 p3 => ⟨hk2 j wt h2w p1 p2 (by omega) hrp p3, i2 j p1 (by omega) p3⟩, fun j p1 p2 _ => by omega, fun _ _ => rfl, i4⟩
  have hmm := mm_lp (F := F) (e := i + (tpT x wt).length) hF hwx hlx hox hwy hly hoy (a0 := wt) (by omega) (by omega) (fun a b p1 p2 p3 p4 p5 p6 => hds a b (by omega) (by omega) (by omega) (by omega) p5 p6) hrp (fun a p1 p2 => by
    by_cases h : x_rp x a = 0
    · exact h
    · have := hnn wt a p1 (by omega) hrp h
      omega) hD (i := i) rfl n k it e q gs t 0 F hcy he (by omega) (At_l hpt) hrow hrl hsm hIM (by omega)
  have step : ∀ {C : RO} {r1 : Int32} {g2 : OS} (d : Nat), rf_matchMany_6 F F gs (nI i) (nI (i + (tpT x wt).length)) (nI t) 0 = some (r1, g2) → (ci ((0 : Int32) ≤ r1) (rf_matches_20 F d g2 (nI (i + (tpT x wt).length) + 1) r1 (nI lv)) (some (0, g2))) = C → rf_matches_20 F (d + 1) gs (nI i) (nI t) (nI lv) = C := fun {C r1 g2} d h1 h2 => by
    rw [rf_matches_20]
    refine rc_leF (b := 0) rfl rfl (by omega) ?_
    refine rc_in rfl (by omega) ?_
    refine rc_eqF (b := 2) hat rfl hany.2.1 ?_
    refine rc_bd (item_ok (w := 0) (by decide) hF rfl rfl hTp.1 (At_l hpt) (sml_of hTp.2 (by decide)) (by omega)) ?_
    rw [rf_matches_49]
    refine rc_eqF (b := 2) hat rfl hany.2.1 ?_
    refine rc_in rfl (by omega) ?_
    refine rc_eqE (b := 7) h7 rfl rfl ?_
    refine rc_bd (by rw [rf_matchMany]; exact h1) h2
  refine ⟨fun q' q9 => ?_, fun q9 => ?_⟩
  · obtain ⟨g2, e2, hm2, hI2⟩ := hmm.1 q' q9
    obtain ⟨g3, e3, hi3, ha3, hin, hout⟩ := times_lp (F := F) (x4 := nI (t + (tkS y n it).length)) (n := 0 + n) (e := i + (tpT x wt).length) (by omega) (tpT x wt) i F g2 (by rw [hm2.2 8 (by decide) (by decide)]; exact At_l hpt) rfl hTp.2 (by omega)
    rw [e3] at e2
    have hm3 : mc2 gs g3 := hm2.m.tr ⟨fun k _ => by rw [hi3], fun k _ h30 _ => ha3 k h30⟩
    have hme := tpT_mem hwx hlx hox (a := wt) (by omega)
    obtain ⟨z1, z2, z3, z4, z5⟩ := hI2
    have hoth : ∀ j, 2 ≤ j → j < tm → c_nm (x_sg x j) → (j < wt ∨ wt + x_sp x wt ≤ j) → q'.1 (x_sg x j - 97) = q.1 (x_sg x j - 97) ∧ ¬ x_sg x j - 97 + 100 ∈ tpT x wt := by
      intro j p1 p2 p3 p4
      refine ⟨z4 _ (fun j' r1 r2 r3 r4 => ?_), fun q9 => ?_⟩
      · have := hds j' j (by omega) (by omega) p1 p2 r3 (by omega)
        omega
      · obtain ⟨j', r1, r2, r3, r4⟩ := (hme _).mp q9
        have := hds j' j (by omega) (by omega) p1 p2 r3 (by omega)
        omega
    have hI3 : IV x y kf tm (sI g3 41 (nI (t + (tkS y n it).length + 1))) q' (wt + x_sp x wt) := by
      refine IV_cg (gs := g3) ⟨MR_cg z1 (ha3 29 (by decide)) (ha3 31 (by decide)) (ha3 22 (by decide)), fun j p1 p2 p3 => ?_, fun j p1 p2 p3 p4 => ?_, z5⟩ rfl
      · rw [(hoth j (by omega) p2 p3 (Or.inr p1)).1]
        exact i2 j (by omega) p2 p3
      · by_cases hj : j < wt
        · obtain ⟨o1, o2⟩ := hoth j p1 (by omega) p3 (Or.inl hj)
          rw [hout _ o2, hm2.2 30 (by decide) (by decide), o1]
          exact i3 j p1 hj p3 p4
        · rw [hin _ ((hme _).mpr ⟨j, by omega, p2, p3, by omega⟩), (z2 j (by omega) p2 p3).2]
    refine ⟨_, d + (tpT x wt).length, by omega, ?_, hm3.i, hI3⟩
    rw [show d + ((tpT x wt).length + 2) = (d + (tpT x wt).length + 1) + 1 by omega]
    refine step _ e2 ?_
    refine rc_leT (a := 0) rfl rfl (Nat.zero_le _) ?_
    rw [nI_1]
    have h8 : (7 :: [2] : List Nat) = [7] ++ [2] := rfl
    refine Eq.trans (ml_end hF ?_ (by omega) ?_ (by omega) hlv hlv2) ?_
    · rw [hm3.2 8 (by decide) (by decide) (by decide)]
      have := At_r hpt
      exact this.2.1
    · rw [hm3.2 22 (by decide) (by decide) (by decide)]
      exact (At_r hrow).1
    · congr 2
  · obtain ⟨g2, e2, hm2⟩ := hmm.2 q9
    refine ⟨g2, ?_, hm2.m⟩
    rw [show d + ((tpT x wt).length + 2) = (d + (tpT x wt).length + 1) + 1 by omega]
    refine step _ e2 ?_
    exact rc_pF (by decide) rfl
theorem ml_lp {g : Nat → Nat → MSt → Option MSt} {D : Nat} (hF : 5000 ≤ F) (hx : PT x kf tm) (hwy : t_wf6 y) (hly : t_lf y) (hoy : t_ok y) (hge : g = m_ft x y D)
    (hg : ∀ wt it q gs i t lv z d, 2 ≤ wt → wt < tm → wt + x_sp x wt ≤ tm → (∀ a, 2 ≤ a → a ≤ wt → wt < a + x_sp x a → x_rp x a = 0) → it < x_z y → x_sp x wt ≤ D → At (gs.2 8) i (tpT x wt ++ [z]) → ¬ z = 7 → z < 126 → i + (tpT x wt).length < 768 → TA gs y t it → sml (tkT y it) → IV x y kf tm gs q wt → 1 ≤ lv → lv + (tpT x wt).length < 9999 → MLc F d gs t i lv (tkT y it).length (tpT x wt).length lv (g wt it q) (fun g2 q' => IV x y kf tm g2 q' (wt + x_sp x wt))) :
    ∀ (n k wt lf it b e : Nat) (q : MSt) (gs : OS) (i t lv d : Nat), t_ch x lf wt b → lst x lf wt → b ≤ tm → 2 ≤ wt → (∀ a, 2 ≤ a → a < wt → wt < a + x_sp x a → x_rp x a = 0) → (∀ a, 2 ≤ a → a < wt → b ≤ a + x_sp x a ∨ a + x_sp x a ≤ wt) → t_ch y n it e → e ≤ x_z y → n ≤ 59 → b ≤ wt + D → At (gs.2 8) i (tpS x lf wt ++ [2]) → i + (tpS x lf wt).length + 1 ≤ 768 → At (gs.2 22) t (tkS y n it ++ [2]) → t + (tkS y n it).length + 1 ≤ 2400 → sml (tkS y n it) → IV x y kf tm gs q wt → 1 ≤ lv → lv + (tpS x lf wt).length + 1 < 9999 →
      MLc F d gs t i lv ((tkS y n it).length + 1) ((tpS x lf wt).length + 1) (lv - 1) (m_lp x y g 0 n k wt lf it q) (fun g2 q' => IV x y kf tm g2 q' b) := by
  obtain ⟨hwx, hlx, hox, htm, hlst, hds, hk1, hk2, hnn⟩ := id hx
  intro n
  induction n with
  | zero =>
    intro k wt lf it b e q gs i t lv d hcx hls hb h2w hout hnest hcy he hn hD hpt hpl hrow hrl hsm hI hlv hlv2
    have hr2 : gs.2 22 t = nI 2 := hrow.1
    have hrl : t + 0 + 1 ≤ 2400 := hrl
    cases lf with
    | zero =>
      unfold m_lp
      rw [if_pos (Or.inl rfl)]
      refine ⟨fun q' q9 => ?_, fun q9 => (by cases q9)⟩
      cases q9
      have hcx : wt = b := hcx
      have hpl : i + 0 + 1 ≤ 768 := hpl
      refine ⟨_, d, Nat.le_refl _, ml_end hF hpt.1 (by omega) hr2 (by omega) hlv (by omega), mc2.rf.i, by rw [← hcx]; exact IV_cg hI rfl⟩
    | succ lf =>
      have hwb : wt < b := hcx.1
      have hwb2 := t_ch_ge lf _ b hcx.2
      by_cases hrp : x_rp x wt = 0
      · unfold m_lp
        rw [if_neg (by
          intro q9
          rcases q9 with q9 | q9
          · cases q9
          · exact q9.2 hrp)]
        -- an item, and nothing is left
        have er : tp_r x wt = [] := by unfold tp_r; rw [if_pos hrp]
        have hTp := tpT_tmm hwx hox (a := wt) (by omega)
        obtain ⟨s, es⟩ := tpT_hd (x := x) (a := wt)
        have hany := otk_any (hox wt (by omega))
        obtain ⟨z, rest, ez, hz, hz2⟩ : ∃ z rest, tpS x lf (wt + x_sp x wt) ++ [2] = z :: rest ∧ ¬ z = 7 ∧ z < 126 := by
          cases lf with
          | zero => exact ⟨2, [], rfl, by decide, by decide⟩
          | succ lf =>
            obtain ⟨s2, es2⟩ := tpT_hd (x := x) (a := wt + x_sp x wt)
            have h1 : wt + x_sp x wt < b := hcx.2.1
            have := otk_any (hox (wt + x_sp x wt) (by omega))
            exact ⟨_, _, by rw [tpS_s, es2]; rfl, this.2.2.1, this.2.2.2⟩
        rw [tpS_s, er, List.nil_append] at hpt hpl ⊢
        rw [List.append_assoc, ez] at hpt
        rw [List.length_append] at hpl ⊢
        have hlz : (tpS x lf (wt + x_sp x wt)).length + 1 = rest.length + 1 := by
          have := congrArg List.length ez
          rw [List.length_append] at this
          exact this
        have hpt2 : At (gs.2 8) i (tpT x wt ++ [z]) := by
          rw [show tpT x wt ++ z :: rest = (tpT x wt ++ [z]) ++ rest by simp] at hpt
          exact At_l hpt
        have hpi : gs.2 8 i = nI (o_tk (x_sg x wt)) := by rw [es] at hpt; exact hpt.1
        obtain ⟨f, hf⟩ : ∃ f, F = f + 1 := ⟨F - 1, by omega⟩
        refine MLc.bad (g2 := sI gs 41 (-1)) (fun d => ml_tok hF hlv (by omega) hpi hany.2.1 hany.2.2.2 hTp.1 hpt2 (sml_of hTp.2 (by decide)) hz (by omega) (by omega) (ml_bad ?_)) mc2.rf.i (by omega)
        by_cases h1 : c_nm (x_sg x wt) ∨ x_sg x wt = 95
        · have e1 := mp_close (F := F) (d := f) (gs := gs) (to := i + 1) (i := i) (t := t) (x4 := lI none) (w := o_tk (x_sg x wt)) (by omega) (by omega) hpi (by
            rcases h1 with h1 | h1
            · right; rw [otk_nm h1]; omega
            · left; exact otk_95 h1) (by omega) hr2 (by omega)
          rw [← hf] at e1
          exact e1
        · have hp := otk_pl (hox wt (by omega)) (fun q9 => h1 (Or.inl q9)) (fun q9 => h1 (Or.inr q9))
          have e1 := mp_ne (F := F) (d := f) (gs := gs) (to := i + 1) (i := i) (t := t) (x4 := lI none) (w := o_tk (x_sg x wt)) (by omega) (by omega) hpi hp.1 hp.2 hr2 (by decide) (by omega) (by omega)
          rw [← hf] at e1
          exact e1
      · have hl0 := hls.1 hrp
        subst hl0
        have er : tp_r x wt = [7] := by unfold tp_r; rw [if_neg hrp]
        have hb0 : wt + x_sp x wt = b := hcx.2
        have eS : tpS x 1 wt = tpT x wt ++ [7] := by rw [tpS_s, er]; rfl
        rw [eS] at hpt hpl hlv2 ⊢
        rw [List.length_append] at hpl hlv2 ⊢
        rw [List.append_assoc] at hpt
        have hpl : i + ((tpT x wt).length + 1) + 1 ≤ 768 := hpl
        have hlv2 : lv + ((tpT x wt).length + 1) + 1 < 9999 := hlv2
        subst hge
        rw [← hb0]
        exact ml_many hF hx hwy hly hoy h2w (by omega) (by omega) hrp hcy he hn (by omega) hpt (by omega) hrow hrl hsm hI hlv (by omega)
  | succ n ih =>
    intro k wt lf it b e q gs i t lv d hcx hls hb h2w hout hnest hcy he hn hD hpt hpl hrow hrl hsm hI hlv hlv2
    have hie : it < e := hcy.1
    have hie2 := t_ch_ge n _ e hcy.2
    cases lf with
    | zero =>
      rw [tkS_s] at hrow hrl hsm ⊢
      rw [List.length_append] at hrl ⊢
      rw [List.append_assoc] at hrow
      unfold m_lp
      rw [if_pos rfl]
      have hpl : i + 0 + 1 ≤ 768 := hpl
      obtain ⟨t0, r0, e0, h2⟩ := tmm_hd (tkT_tmm hwy hoy (a := it) (by omega))
      have hr0 : gs.2 22 t = nI t0 := by
        rw [e0] at hrow
        exact hrow.1
      have ht0 : t0 < 2 ^ 30 := hsm t0 (by rw [e0]; exact List.mem_cons_self)
      have hlen : 1 ≤ (tkT y it).length := by rw [e0, List.length_cons]; omega
      obtain ⟨f, hf⟩ : ∃ f, F = f + 1 := ⟨F - 1, by omega⟩
      refine MLc.bad (g2 := sI gs 41 (-1)) (fun d => ml_cls hlv (by omega) hpt.1 (by omega) (ml_bad ?_)) mc2.rf.i (by show 1 ≤ 0 + 1; omega)
      have e1 := mp_ne (F := F) (d := f) (gs := gs) (to := i + 1) (i := i) (t := t) (x4 := lI none) (w := 2) (by omega) (by omega) hpt.1 (by decide) (by decide) hr0 ht0 h2 (by omega)
      rw [← hf] at e1
      exact e1
    | succ lf =>
      have hwb : wt < b := hcx.1
      have hwb2 := t_ch_ge lf _ b hcx.2
      by_cases hrp : x_rp x wt = 0
      · rw [tkS_s] at hrow hrl hsm ⊢
        rw [List.length_append] at hrl ⊢
        rw [List.append_assoc] at hrow
        unfold m_lp
        rw [if_neg (by omega), if_pos (Nat.zero_le _)]
        have er : tp_r x wt = [] := by unfold tp_r; rw [if_pos hrp]
        obtain ⟨z, rest, ez, hz, hz2⟩ : ∃ z rest, tpS x lf (wt + x_sp x wt) ++ [2] = z :: rest ∧ ¬ z = 7 ∧ z < 126 := by
          cases lf with
          | zero => exact ⟨2, [], rfl, by decide, by decide⟩
          | succ lf =>
            obtain ⟨s2, es2⟩ := tpT_hd (x := x) (a := wt + x_sp x wt)
            have h1 : wt + x_sp x wt < b := hcx.2.1
            have := otk_any (hox (wt + x_sp x wt) (by omega))
            exact ⟨_, _, by rw [tpS_s, es2]; rfl, this.2.2.1, this.2.2.2⟩
        rw [tpS_s, er, List.nil_append] at hpt hpl hlv2 ⊢
        rw [List.length_append] at hpl hlv2 ⊢
        rw [List.append_assoc] at hpt
        have hpt2 : At (gs.2 8) i (tpT x wt ++ [z]) := by
          rw [ez, show tpT x wt ++ z :: rest = (tpT x wt ++ [z]) ++ rest by simp] at hpt
          exact At_l hpt
        have h1 := hg wt it q gs i t lv z (d + ((tpS x lf (wt + x_sp x wt)).length + 1)) h2w (by omega) (by omega) (fun a p1 p2 p3 => by
          by_cases h : a = wt
          · rw [h]; exact hrp
          · exact hout a p1 (by omega) p3) (by omega) (by omega) hpt2 hz hz2 (by omega) ⟨by omega, by omega, At_l hrow, sml_l hsm⟩ (sml_l hsm) hI hlv (by omega)
        cases hgq : g wt it q with
        | none =>
          obtain ⟨g2, e2, hm2⟩ := h1.2 hgq
          refine ⟨fun q' q9 => (by cases q9), fun _ => ⟨g2, ?_, hm2⟩⟩
          rw [show d + ((tpT x wt).length + (tpS x lf (wt + x_sp x wt)).length + 1) = d + ((tpS x lf (wt + x_sp x wt)).length + 1) + (tpT x wt).length by omega]
          exact e2
        | some q1 =>
          obtain ⟨g2, d2, hd2, e2, hm2, hI2⟩ := h1.1 q1 hgq
          show MLc F d gs t i lv _ _ _ (if x_rp x wt = 0 then m_lp x y g 0 n (k + 1) (wt + x_sp x wt) (lf + 1 - 1) (it + x_sp y it) q1 else m_lp x y g 0 n (k + 1) wt (lf + 1) (it + x_sp y it) q1) _
          rw [if_pos hrp]
          obtain ⟨d3, hd3⟩ : ∃ d3, d2 = d3 + ((tpS x lf (wt + x_sp x wt)).length + 1) := ⟨d2 - ((tpS x lf (wt + x_sp x wt)).length + 1), by omega⟩
          have hspw := (hwx.1 wt (by omega)).1
          have ih1 := ih (k + 1) (wt + x_sp x wt) lf (it + x_sp y it) b e q1 g2 (i + (tpT x wt).length) (t + (tkT y it).length) lv d3 hcx.2 hls.2 hb (by omega) (fun a p1 p2 p3 => by
            by_cases h : a < wt
            · rcases hnest a p1 h with h5 | h5
              · exact hout a p1 h (by omega)
              · omega
            · by_cases h6 : a = wt
              · rw [h6]; exact hrp
              · have hch := ch_end (x := x) wt (fun i r1 r2 => hwx.1 i r2) (x_sp x wt) (x_it x wt) (wt + 1) (wt + x_sp x wt) a (hwx.1 wt (by omega)).2.1 (by omega) (by omega) (hwx.1 wt (by omega)).2.2 (by omega) p2
                omega) (fun a p1 p2 => by
            by_cases h : a < wt
            · rcases hnest a p1 h with h5 | h5
              · exact Or.inl h5
              · exact Or.inr (by omega)
            · by_cases h6 : a = wt
              · rw [h6]; exact Or.inr (Nat.le_refl _)
              · have hch := ch_end (x := x) wt (fun i r1 r2 => hwx.1 i r2) (x_sp x wt) (x_it x wt) (wt + 1) (wt + x_sp x wt) a (hwx.1 wt (by omega)).2.1 (by omega) (by omega) (hwx.1 wt (by omega)).2.2 (by omega) p2
                exact Or.inr hch) hcy.2 he (by omega) (by omega) (by rw [hm2.2 8 (by decide) (by decide) (by decide)]; exact At_r hpt) (by omega) (by rw [hm2.2 22 (by decide) (by decide) (by decide)]; exact At_r hrow) (by omega) (sml_r hsm) hI2 hlv (by omega)
          have el : d + ((tpT x wt).length + (tpS x lf (wt + x_sp x wt)).length + 1) = d + ((tpS x lf (wt + x_sp x wt)).length + 1) + (tpT x wt).length := by omega
          refine ⟨fun q' q9 => ?_, fun q9 => ?_⟩
          · obtain ⟨g3, d4, hd4, e3, hm3, hI3⟩ := ih1.1 q' q9
            refine ⟨g3, d4, by omega, ?_, hm2.tr hm3, hI3⟩
            rw [el, e2, hd3, e3]
            congr 2 <;> omega
          · obtain ⟨g3, e3, hm3⟩ := ih1.2 q9
            refine ⟨g3, ?_, hm2.tr hm3⟩
            rw [el, e2, hd3, e3]
      · have hl0 := hls.1 hrp
        subst hl0
        have er : tp_r x wt = [7] := by unfold tp_r; rw [if_neg hrp]
        have hb0 : wt + x_sp x wt = b := hcx.2
        have eS : tpS x 1 wt = tpT x wt ++ [7] := by rw [tpS_s, er]; rfl
        rw [eS] at hpt hpl hlv2 ⊢
        rw [List.length_append] at hpl hlv2 ⊢
        rw [List.append_assoc] at hpt
        have hpl : i + ((tpT x wt).length + 1) + 1 ≤ 768 := hpl
        have hlv2 : lv + ((tpT x wt).length + 1) + 1 < 9999 := hlv2
        subst hge
        rw [← hb0]
        exact ml_many hF hx hwy hly hoy h2w (by omega) (by omega) hrp hcy he hn (by omega) hpt (by omega) hrow hrl hsm hI hlv (by omega)
end ML
