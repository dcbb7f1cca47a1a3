/-! The reference's type, forget, mark and depth. -/
theorem k_sign {k : Int32} (h1 : ¬ k < 32) (h2 : ¬ 126 < k) : ∃ c : Nat, 32 ≤ c ∧ c ≤ 126 ∧ k = nI c := by
  have a1 : ¬ k.toInt < (32 : Int32).toInt := fun h => h1 (Int32.lt_iff_toInt_lt.mpr h)
  have a2 : ¬ (126 : Int32).toInt < k.toInt := fun h => h2 (Int32.lt_iff_toInt_lt.mpr h)
  have e1 : (32 : Int32).toInt = 32 := by decide
  have e2 : (126 : Int32).toInt = 126 := by decide
  rw [e1] at a1
  rw [e2] at a2
  refine ⟨k.toInt.toNat, by omega, by omega, ?_⟩
  have e3 : ((k.toInt.toNat : Nat) : Int) = k.toInt := Int.toNat_of_nonneg (by omega)
  have e4 : nI k.toInt.toNat = Int32.ofInt ((k.toInt.toNat : Nat) : Int) := rfl
  rw [e4, e3, Int32.ofInt_toInt]
theorem type_ok {F : Nat} {gs : OS} {dl : List Nat} {k : Int32} (hD : DR gs dl) :
    ((k < 32 ∨ 126 < k ∨ dl.length = 60) → rf_type F gs k = some (0, sI gs 0 0)) ∧
    (∀ c : Nat, k = nI c → 32 ≤ c → c ≤ 126 → dl.length < 60 → ∃ g2, rf_type F gs k = some (1, g2) ∧ g2.1 0 = nI 0 ∧ DR g2 (dl ++ [c]) ∧ rcg gs g2) := by
  obtain ⟨h1, h2, h3, h4⟩ := hD
  refine ⟨fun h => ?_, fun c hk c1 c2 hl => ?_⟩
  · rw [rf_type]
    by_cases q1 : k < 32
    · exact rc_pT q1 rfl
    · refine rc_pF q1 ?_
      by_cases q2 : 126 < k
      · exact rc_pT q2 rfl
      · refine rc_pF q2 ?_
        have q3 : dl.length = 60 := by
          rcases h with h | h | h
          · exact absurd h q1
          · exact absurd h q2
          · exact h
        exact rc_eqE (b := 60) h1 rfl q3 rfl
  · have ek : rf_type F gs k = some (1, sA (sI (sI gs 0 0) 1 (nI (dl.length + 1))) 2 (upd (gs.2 2) dl.length (nI c))) := by
      rw [rf_type]
      refine rc_ltF (a := c) (b := 32) hk rfl c1 ?_
      refine rc_ltF (a := 126) rfl hk c2 ?_
      refine rc_eqF (b := 60) h1 rfl (by omega) ?_
      refine rc_in h1 (by omega) ?_
      rw [h1, nI_clamp (by omega), hk, nar_c (by omega), nI_1]
    refine ⟨_, ek, ?_, ⟨?_, ?_, ?_, ?_⟩, ?_⟩
    · show (sI (sI gs 0 0) 1 (nI (dl.length + 1))).1 0 = nI 0
      rw [sI_n (by decide), sI_e]
      rfl
    · show (sI (sI gs 0 0) 1 (nI (dl.length + 1))).1 1 = _
      rw [sI_e, List.length_append]
      rfl
    · rw [List.length_append]
      show dl.length + 1 ≤ 60
      omega
    · rw [sA_e]
      exact At_snoc h3 (by omega)
    · intro c' hc'
      rcases List.mem_append.mp hc' with q | q
      · exact h4 c' q
      · rw [List.mem_singleton.mp q]
        exact ⟨c1, c2⟩
    · exact ⟨fun j q => by
        show (sI (sI gs 0 0) 1 (nI (dl.length + 1))).1 j = gs.1 j
        rw [sI_n (by omega), sI_n (by omega)], fun j q => sA_n (by omega)⟩
/-- one rule's place takes another's rows -/
theorem mv_lp {F kp i : Nat} (hk : kp < 12) (hi : i < 12) : ∀ (m k d : Nat) (gs : OS), k + m = 64 → m < d → ∃ g2, rf_moveRule_62 F d gs (nI kp) (nI i) (nI k) = some (0, g2) ∧ g2.1 = gs.1 ∧ (∀ j, j ≠ 8 → j ≠ 10 → g2.2 j = gs.2 j) ∧ (∀ s, k ≤ s → s < 64 → g2.2 8 (64 * kp + s) = gs.2 8 (64 * i + s) ∧ g2.2 10 (64 * kp + s) = gs.2 10 (64 * i + s)) ∧ ∀ t, t < 64 * kp + k ∨ 64 * kp + 64 ≤ t → g2.2 8 t = gs.2 8 t ∧ g2.2 10 t = gs.2 10 t
  | 0, k, d, gs, hm, hd => by
    obtain ⟨d, rfl⟩ : ∃ e, d = e + 1 := ⟨d - 1, by omega⟩
    refine ⟨gs, ?_, rfl, fun _ _ _ => rfl, fun s q1 q2 => by omega, fun _ _ => ⟨rfl, rfl⟩⟩
    rw [rf_moveRule_62]
    exact rc_leT (a := 64) rfl rfl (by omega) rfl
  | m + 1, k, d, gs, hm, hd => by
    obtain ⟨d, rfl⟩ : ∃ e, d = e + 1 := ⟨d - 1, by omega⟩
    have e1 : (64 : Int32) * nI kp + nI k = nI (64 * kp + k) := by rw [mul64]; exact nI_add _ _
    have e2 : (64 : Int32) * nI i + nI k = nI (64 * i + k) := by rw [mul64]; exact nI_add _ _
    obtain ⟨g1, hg1⟩ : ∃ g, g = sA (sA gs 8 (upd (gs.2 8) (64 * kp + k) (gs.2 8 (64 * i + k)))) 10 (upd (gs.2 10) (64 * kp + k) (gs.2 10 (64 * i + k))) := ⟨_, rfl⟩
    have f8 : g1.2 8 = upd (gs.2 8) (64 * kp + k) (gs.2 8 (64 * i + k)) := by rw [hg1, sA_n (by decide), sA_e]
    have f10 : g1.2 10 = upd (gs.2 10) (64 * kp + k) (gs.2 10 (64 * i + k)) := by rw [hg1, sA_e]
    have fo : ∀ j, j ≠ 8 → j ≠ 10 → g1.2 j = gs.2 j := fun j q1 q2 => by rw [hg1, sA_n q2, sA_n q1]
    obtain ⟨g2, e, r1, r2, r3, r4⟩ := mv_lp (F := F) hk hi m (k + 1) d g1 (by omega) (by omega)
    refine ⟨g2, ?_, r1.trans (by rw [hg1]; rfl), fun j q1 q2 => (r2 j q1 q2).trans (fo j q1 q2), fun s q1 q2 => ?_, fun t ht => ?_⟩
    · rw [rf_moveRule_62]
      refine rc_leF (a := 64) rfl rfl (by omega) ?_
      refine rc_in e2 (by omega) ?_
      refine rc_in e1 (by omega) ?_
      refine rc_in e2 (by omega) ?_
      refine rc_in e1 (by omega) ?_
      rw [e1, e2, nI_clamp (by omega), nI_clamp (by omega), nI_1, ← hg1]
      exact e
    · by_cases hs : s = k
      · rw [hs, (r4 _ (by omega)).1, (r4 _ (by omega)).2, f8, f10, upd_e, upd_e]
        exact ⟨rfl, rfl⟩
      · rw [(r3 s (by omega) q2).1, (r3 s (by omega) q2).2, f8, f10, upd_n (by omega), upd_n (by omega)]
        exact ⟨rfl, rfl⟩
    · rw [(r4 t (by omega)).1, (r4 t (by omega)).2, f8, f10, upd_n (by omega), upd_n (by omega)]
      exact ⟨rfl, rfl⟩
theorem move_ok {F kp i : Nat} {gs : OS} (hF : 5000 ≤ F) (hk : kp < 12) (hi : i < 12) : ∃ g2, rf_moveRule F gs (nI kp) (nI i) = some (0, g2) ∧ g2.1 = gs.1 ∧ (∀ j, j < 6 ∨ 12 < j → g2.2 j = gs.2 j) ∧ (∀ R, RH gs i R → RH g2 kp R) ∧ ∀ j R, j ≠ kp → RH gs j R → RH g2 j R := by
  obtain ⟨g1, hg1⟩ : ∃ g, g = sA (sA (sA (sA (sA gs 6 (upd (gs.2 6) kp (gs.2 6 i))) 7 (upd (gs.2 7) kp (gs.2 7 i))) 9 (upd (gs.2 9) kp (gs.2 9 i))) 11 (upd (gs.2 11) kp (gs.2 11 i))) 12 (upd (gs.2 12) kp (gs.2 12 i)) := ⟨_, rfl⟩
  have f6 : g1.2 6 = upd (gs.2 6) kp (gs.2 6 i) := by rw [hg1, sA_n (by decide), sA_n (by decide), sA_n (by decide), sA_n (by decide), sA_e]
  have f9 : g1.2 9 = upd (gs.2 9) kp (gs.2 9 i) := by rw [hg1, sA_n (by decide), sA_n (by decide), sA_e]
  have f11 : g1.2 11 = upd (gs.2 11) kp (gs.2 11 i) := by rw [hg1, sA_n (by decide), sA_e]
  have f12 : g1.2 12 = upd (gs.2 12) kp (gs.2 12 i) := by rw [hg1, sA_e]
  have fo : ∀ j, j ≠ 6 → j ≠ 7 → j ≠ 9 → j ≠ 11 → j ≠ 12 → g1.2 j = gs.2 j := fun j q1 q2 q3 q4 q5 => by rw [hg1, sA_n q5, sA_n q4, sA_n q3, sA_n q2, sA_n q1]
  obtain ⟨g2, e, r1, r2, r3, r4⟩ := mv_lp (F := F) hk hi 64 0 F g1 (by omega) (by omega)
  have k6 : g2.2 6 = upd (gs.2 6) kp (gs.2 6 i) := (r2 6 (by decide) (by decide)).trans f6
  have k9 : g2.2 9 = upd (gs.2 9) kp (gs.2 9 i) := (r2 9 (by decide) (by decide)).trans f9
  have k11 : g2.2 11 = upd (gs.2 11) kp (gs.2 11 i) := (r2 11 (by decide) (by decide)).trans f11
  have k12 : g2.2 12 = upd (gs.2 12) kp (gs.2 12 i) := (r2 12 (by decide) (by decide)).trans f12
  have f8 : g1.2 8 = gs.2 8 := fo 8 (by decide) (by decide) (by decide) (by decide) (by decide)
  have f10 : g1.2 10 = gs.2 10 := fo 10 (by decide) (by decide) (by decide) (by decide) (by decide)
  refine ⟨g2, ?_, r1.trans (by rw [hg1]; rfl), fun j hj => (r2 j (by omega) (by omega)).trans (fo j (by omega) (by omega) (by omega) (by omega) (by omega)), fun R hR => ?_, fun j R hj hR => ?_⟩
  · rw [rf_moveRule]
    refine rc_in rfl hi ?_
    refine rc_in rfl hk ?_
    refine rc_in rfl hi ?_
    refine rc_in rfl hk ?_
    refine rc_in rfl hi ?_
    refine rc_in rfl hk ?_
    refine rc_in rfl hi ?_
    refine rc_in rfl hk ?_
    refine rc_in rfl hi ?_
    refine rc_in rfl hk ?_
    rw [nI_clamp (by omega), nI_clamp (by omega), ← hg1]
    exact e
  · obtain ⟨a1, a2, a3, a4, a5, a6, a7⟩ := hR
    refine ⟨by rw [k6, upd_e]; exact a1, ?_, a3, by rw [k9, upd_e]; exact a4, ?_, a6, fun c hc => by rw [k11, k12, upd_e, upd_e]; exact a7 c hc⟩
    · refine At_getD _ _ (fun s hs => ?_)
      rw [(r3 s (Nat.zero_le _) (by omega)).1, f8]
      exact At_get _ _ s a2 hs
    · refine At_getD _ _ (fun s hs => ?_)
      have hs' : s < (tpT (r_x R) (r_tm R)).length + 1 := by rw [List.length_append] at hs; exact hs
      rw [(r3 s (Nat.zero_le _) (by omega)).2, f10]
      exact At_get _ _ s a5 hs
  · obtain ⟨a1, a2, a3, a4, a5, a6, a7⟩ := hR
    refine ⟨by rw [k6, upd_n hj]; exact a1, ?_, a3, by rw [k9, upd_n hj]; exact a4, ?_, a6, fun c hc => by rw [k11, k12, upd_n hj, upd_n hj]; exact a7 c hc⟩
    · refine At_cg a2 (fun t q1 q2 => ?_)
      rw [(r4 t (by omega)).1, f8]
    · refine At_cg a5 (fun t q1 q2 => ?_)
      rw [List.length_append] at q2
      have q2 : t < 64 * j + ((tpT (r_x R) (r_tm R)).length + 1) := q2
      rw [(r4 t (by omega)).2, f10]
theorem key_eq {a c : Nat} (ha : c_nm a) (hc : c < 65536) : nI (a - 97) = nI c - 97 ↔ a = c := by
  constructor
  · intro h
    have h2 := Int32.sub_eq_iff_eq_add.mp h.symm
    have e : nI (a - 97) + 97 = nI a := by
      have : nI (a - 97) + nI 97 = nI (a - 97 + 97) := nI_add _ _
      rw [show a - 97 + 97 = a by omega] at this
      exact this
    rw [e] at h2
    exact (nI_inj (by omega) (by omega) h2).symm
  · intro h
    rw [← h]
    have : nI a - nI 97 = nI (a - 97) := nI_sb (by omega)
    exact this.symm
theorem forget_lp {F c n : Nat} (hF : 5000 ≤ F) (hc : c < 65536) (hn : n ≤ 12) : ∀ (k i kp d : Nat) (gs : OS) (rt : Nat → RSt), i + k = n → kp ≤ i → gs.1 5 = nI n → k < d → (∀ j, j < kp → RG (rt j) ∧ RH gs j (rt j)) → (∀ j, i ≤ j → j < n → RG (rt j) ∧ RH gs j (rt j)) →
    ∃ g2, rf_forget_9 F d gs (nI c) (nI kp) (nI i) = some (nI (n - (r_dr c k i kp rt).2), g2) ∧ (r_dr c k i kp rt).2 ≤ n ∧ g2.1 5 = nI (r_dr c k i kp rt).2 ∧ (∀ j, j ≠ 5 → g2.1 j = gs.1 j) ∧ (∀ j, j < 6 ∨ 12 < j → g2.2 j = gs.2 j) ∧ ∀ j, j < (r_dr c k i kp rt).2 → RG ((r_dr c k i kp rt).1 j) ∧ RH g2 j ((r_dr c k i kp rt).1 j)
  | 0, i, kp, d, gs, rt, hk, hkp, h5, hd, ha, hb => by
    obtain ⟨d, rfl⟩ : ∃ e, d = e + 1 := ⟨d - 1, by omega⟩
    refine ⟨sI gs 5 (nI kp), ?_, (show kp ≤ n by omega), sI_e _ _ _, fun j hj => sI_n hj, fun _ _ => rfl, fun j hj => ⟨(ha j hj).1, (ha j hj).2⟩⟩
    rw [rf_forget_9]
    refine rc_leT h5 rfl (by omega) ?_
    show some (gs.1 5 - nI kp, _) = some (nI (n - kp), _)
    rw [h5, nI_sb (by omega)]
  | k + 1, i, kp, d, gs, rt, hk, hkp, h5, hd, ha, hb => by
    obtain ⟨d, rfl⟩ : ∃ e, d = e + 1 := ⟨d - 1, by omega⟩
    obtain ⟨hG, hH⟩ := hb i (Nat.le_refl _) (by omega)
    have hnm : c_nm (r_mc (rt i)) := hG.2.2.2.2.1
    have hk6 : gs.2 6 i = nI (r_mc (rt i) - 97) := hH.1
    by_cases hm : r_mc (rt i) = c
    · have er : r_dr c (k + 1) i kp rt = r_dr c k (i + 1) kp rt := by rw [r_dr, if_pos hm]
      obtain ⟨g2, e, r⟩ := forget_lp hF hc hn k (i + 1) kp d gs rt (by omega) (by omega) h5 (by omega) ha (fun j q1 q2 => hb j (by omega) q2)
      rw [er]
      refine ⟨g2, ?_, r⟩
      rw [rf_forget_9]
      refine rc_leF h5 rfl (by omega) ?_
      refine rc_in rfl (by omega) ?_
      rw [nI_clamp (by omega)]
      refine rc_pT (by rw [hk6]; exact (key_eq hnm hc).mpr hm) ?_
      rw [rf_forget_42, nI_1]
      exact e
    · have er : r_dr c (k + 1) i kp rt = r_dr c k (i + 1) (kp + 1) (r_swp rt i kp) := by rw [r_dr, if_neg hm]
      obtain ⟨g1, e1, m1, m2, m3, m4⟩ := move_ok (F := F) (kp := kp) (i := i) (gs := gs) hF (by omega) (by omega)
      have ha1 : ∀ j, j < kp + 1 → RG (r_swp rt i kp j) ∧ RH g1 j (r_swp rt i kp j) := fun j hj => by
        by_cases hj2 : j = kp
        · rw [hj2, r_swp_k]
          exact ⟨hG, m3 _ hH⟩
        · rw [r_swp_o _ (by omega) hj2]
          exact ⟨(ha j (by omega)).1, m4 j _ hj2 (ha j (by omega)).2⟩
      have hb1 : ∀ j, i + 1 ≤ j → j < n → RG (r_swp rt i kp j) ∧ RH g1 j (r_swp rt i kp j) := fun j q1 q2 => by
        rw [r_swp_o _ (by omega) (by omega)]
        exact ⟨(hb j (by omega) q2).1, m4 j _ (by omega) (hb j (by omega) q2).2⟩
      obtain ⟨g2, e, r1, r2, r3, r4, r5⟩ := forget_lp hF hc hn k (i + 1) (kp + 1) d g1 (r_swp rt i kp) (by omega) (by omega) (by rw [m1]; exact h5) (by omega) ha1 hb1
      rw [er]
      refine ⟨g2, ?_, r1, r2, fun j hj => (r3 j hj).trans (by rw [m1]), fun j hj => (r4 j hj).trans (m2 j hj), r5⟩
      rw [rf_forget_9]
      refine rc_leF h5 rfl (by omega) ?_
      refine rc_in rfl (by omega) ?_
      rw [nI_clamp (by omega)]
      refine rc_pF (by rw [hk6]; exact fun q => hm ((key_eq hnm hc).mp q)) ?_
      refine rc_bd e1 ?_
      rw [rf_forget_42, nI_1, nI_1]
      exact e
theorem forget_ok {F c n : Nat} {gs : OS} {rt : Nat → RSt} (hF : 5000 ≤ F) (hc : c < 65536) (hR : RS gs rt n) : ∃ g2, rf_forget F gs (nI c) = some (nI (n - (r_dr c n 0 0 rt).2), g2) ∧ g2.1 0 = nI 0 ∧ RS g2 (r_dr c n 0 0 rt).1 (r_dr c n 0 0 rt).2 ∧ (∀ j, j ≠ 0 → j ≠ 5 → g2.1 j = gs.1 j) ∧ ∀ j, j < 6 ∨ 12 < j → g2.2 j = gs.2 j := by
  obtain ⟨g2, e, r1, r2, r3, r4, r5⟩ := forget_lp (F := F) hF hc hR.2.1 n 0 0 F (sI gs 0 0) rt (by omega) (Nat.le_refl _) ((sI_n (by decide)).trans hR.1) (by have := hR.2.1; omega) (fun j hj => absurd hj (Nat.not_lt_zero _)) (fun j _ hj => ⟨(hR.2.2 j hj).1, (hR.2.2 j hj).2⟩)
  refine ⟨g2, e, (r3 0 (by decide)).trans (sI_e _ _ _), ⟨r2, by have := hR.2.1; omega, r5⟩, fun j q1 q2 => (r3 j q2).trans (sI_n q1), r4⟩
theorem mark_ok {F n : Nat} {gs : OS} {mk : Nat → Int32} {k : Int32} (h38 : gs.1 38 = nI n) (hn : n ≤ 150) (hm : ∀ i, i < n → gs.2 39 i = mk i) : rf_mark F gs k = some (s_at mk n k, sI gs 0 0) := by
  rw [rf_mark]
  unfold s_at
  by_cases h0 : k < 0
  · rw [if_neg (fun q => q.1 h0)]
    exact rc_pT h0 rfl
  · refine rc_pF h0 ?_
    by_cases h1 : nI n ≤ k
    · rw [if_neg (fun q => q.2 h1)]
      refine rc_pF ?_ rfl
      rw [h38]
      exact Int32.not_lt.mpr h1
    · rw [if_pos ⟨h0, h1⟩]
      obtain ⟨q1, q2⟩ := in_n h0 h1 hn (by decide)
      refine rc_pT (by rw [h38]; exact Int32.not_le.mp h1) ?_
      refine (gd_t q1).trans ?_
      show some ((gs.2 39) k.toNatClampNeg, sI gs 0 0) = _
      rw [hm _ q2]
theorem oI_le {z w : Int} (h1 : -200 ≤ z) (h2 : z ≤ 200) (h3 : -200 ≤ w) (h4 : w ≤ 200) : Int32.ofInt z ≤ Int32.ofInt w ↔ z ≤ w := by
  rw [Int32.le_iff_toInt_le, Int32.toInt_ofInt_of_le (by omega) (by omega), Int32.toInt_ofInt_of_le (by omega) (by omega)]
theorem dp_lp {F n : Nat} {gs : OS} {mk : Nat → Int32} (h38 : gs.1 38 = nI n) (hn : n ≤ 150) (hm : ∀ i, i < n → gs.2 39 i = mk i) : ∀ (k i d : Nat) (z w : Int), i + k = n → -(i : Int) ≤ z → z ≤ w → w ≤ i → k < d → rf_depth_11 F d gs (Int32.ofInt z) (Int32.ofInt w) (nI i) = some (s_dp mk k i (Int32.ofInt z) (Int32.ofInt w), gs)
  | 0, i, d, z, w, hk, h1, h2, h3, hd => by
    obtain ⟨d, rfl⟩ : ∃ e, d = e + 1 := ⟨d - 1, by omega⟩
    rw [rf_depth_11]
    exact rc_leT h38 rfl (by omega) rfl
  | k + 1, i, d, z, w, hk, h1, h2, h3, hd => by
    obtain ⟨d, rfl⟩ : ∃ e, d = e + 1 := ⟨d - 1, by omega⟩
    have ei : (nI i).toNatClampNeg = i := nI_clamp (by omega)
    have em := hm i (by omega)
    have e52 : ∀ (z' : Int), -(i : Int) - 1 ≤ z' → z' ≤ i + 1 → rf_depth_52 F (rf_depth_11 F d) gs (Int32.ofInt w) (nI i) (Int32.ofInt z') = rf_depth_11 F d gs (Int32.ofInt z') (Int32.ofInt (if z' ≤ w then w else z')) (nI (i + 1)) := fun z' q1 q2 => by
      rw [rf_depth_52]
      by_cases h : z' ≤ w
      · rw [if_pos h]
        refine rc_pT ((oI_le (by omega) (by omega) (by omega) (by omega)).mpr h) ?_
        rw [rf_depth_63, nI_1]
      · rw [if_neg h]
        refine rc_pF (fun q => h ((oI_le (by omega) (by omega) (by omega) (by omega)).mp q)) ?_
        rw [rf_depth_63, nI_1]
    have e1 : Int32.ofInt z + 1 = Int32.ofInt (z + 1) := (Int32.ofInt_add z 1).symm
    have e2 : Int32.ofInt z - 1 = Int32.ofInt (z - 1) := (Int32.ofInt_sub z 1).symm
    have e3 : Int32.ofInt z + (-1) = Int32.ofInt (z - 1) := by rw [← e2]; exact (Int32.sub_eq_add_neg _ _).symm
    rw [rf_depth_11]
    refine rc_leF h38 rfl (by omega) ?_
    refine rc_in rfl (show i < 150 by omega) ?_
    rw [ei, em, s_dp]
    by_cases m1 : mk i = 1
    · rw [if_pos m1]
      refine rc_pT m1 ?_
      rw [e1, e52 _ (by omega) (by omega)]
      have hif : (if Int32.ofInt w < Int32.ofInt (z + 1) then Int32.ofInt (z + 1) else Int32.ofInt w) = Int32.ofInt (if z + 1 ≤ w then w else z + 1) := by
        by_cases h : z + 1 ≤ w
        · rw [if_pos h, if_neg (Int32.not_lt.mpr ((oI_le (by omega) (by omega) (by omega) (by omega)).mpr h))]
        · rw [if_neg h, if_pos (Int32.not_le.mp (fun q => h ((oI_le (by omega) (by omega) (by omega) (by omega)).mp q)))]
      rw [hif]
      refine dp_lp h38 hn hm k (i + 1) d (z + 1) _ (by omega) (by omega) ?_ ?_ (by omega)
      · split <;> omega
      · split <;> omega
    · rw [if_neg m1]
      refine rc_pF m1 ?_
      refine rc_in rfl (show i < 150 by omega) ?_
      by_cases m2 : mk i = 2
      · rw [if_pos m2]
        refine rc_pT m2 ?_
        rw [e2, e3, e52 _ (by omega) (by omega), if_pos (by omega)]
        exact dp_lp h38 hn hm k (i + 1) d (z - 1) w (by omega) (by omega) (by omega) (by omega) (by omega)
      · rw [if_neg m2]
        refine rc_pF m2 ?_
        rw [e52 _ (by omega) (by omega), if_pos h2]
        exact dp_lp h38 hn hm k (i + 1) d z w (by omega) (by omega) (by omega) (by omega) (by omega)
theorem depth_ok {F n : Nat} {gs : OS} {mk : Nat → Int32} (hF : 5000 ≤ F) (h38 : gs.1 38 = nI n) (hn : n ≤ 150) (hm : ∀ i, i < n → gs.2 39 i = mk i) : rf_depth F gs = some (s_dp mk n 0 0 0, sI gs 0 0) := by
  have := dp_lp (F := F) (gs := sI gs 0 0) ((sI_n (by decide)).trans h38) hn (fun i hi => hm i hi) n 0 F 0 0 (by omega) (by omega) (by omega) (by omega) (by omega)
  exact this
