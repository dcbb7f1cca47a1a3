/-! A rule's tokens, with its tildes. -/
def tp_r (x : TSt) (a : Nat) : List Nat := if x_rp x a = 0 then [] else [7]
def tp_l (x : TSt) (g : Nat → List Nat) : Nat → Nat → List Nat
  | 0, _ => []
  | n + 1, a => g a ++ (tp_r x a ++ tp_l x g n (a + x_sp x a))
def tp_n (x : TSt) : Nat → Nat → List Nat
  | 0, _ => []
  | d + 1, a => o_tk (x_sg x a) :: (if x_sg x a = 40 then tp_l x (tp_n x d) (x_it x a) (a + 1) ++ [2] else [])
theorem tp_l_cg {x y : TSt} {g g' : Nat → List Nat} : ∀ (n a b : Nat), t_ch x n a b → (∀ i, a ≤ i → i < b → x_sp x i = x_sp y i ∧ x_rp x i = x_rp y i) → (∀ i, a ≤ i → i < b → i + x_sp x i ≤ b → g i = g' i) → tp_l x g n a = tp_l y g' n a
  | 0, _, _, _, _, _ => rfl
  | n + 1, a, b, h, hs, hg => by
    have h1 : a < b := h.1
    have h2 := t_ch_ge n _ b h.2
    show g a ++ (tp_r x a ++ tp_l x g n (a + x_sp x a)) = g' a ++ (tp_r y a ++ tp_l y g' n (a + x_sp y a))
    have e : tp_r x a = tp_r y a := by unfold tp_r; rw [(hs a (Nat.le_refl _) h1).2]
    rw [← (hs a (Nat.le_refl _) h1).1, e, hg a (Nat.le_refl _) h1 h2, tp_l_cg n (a + x_sp x a) b h.2 (fun i q1 q2 => hs i (by omega) q2) (fun i q1 q2 q3 => hg i (by omega) q2 q3)]
theorem tp_fu {x : TSt} : ∀ (d a : Nat), cl_reg x a → 1 ≤ x_sp x a → x_sp x a ≤ d → tp_n x d a = tp_n x (d + 1) a
  | 0, a, _, h1, h2 => by omega
  | d + 1, a, hr, h1, h2 => by
    rw [tp_n, tp_n]
    by_cases h : x_sg x a = 40
    · rw [if_pos h, if_pos h]
      rw [tp_l_cg (x := x) (y := x) (g := tp_n x d) (g' := tp_n x (d + 1)) (x_it x a) (a + 1) (a + x_sp x a) (hr a (Nat.le_refl _) (by omega)).2 (fun _ _ _ => ⟨rfl, rfl⟩) (fun i q1 q2 q3 => tp_fu d i (cl_sub hr (by omega) q3) (hr i (by omega) q2).1 (by omega))]
    · rw [if_neg h, if_neg h]
def tpT (x : TSt) (a : Nat) : List Nat := tp_n x 60 a
def tpS (x : TSt) (n a : Nat) : List Nat := tp_l x (tp_n x 60) n a
theorem tpS_s {x : TSt} {n a : Nat} : tpS x (n + 1) a = tpT x a ++ (tp_r x a ++ tpS x n (a + x_sp x a)) := rfl
theorem tpT_list {y : TSt} (hw : t_wf6 y) {a : Nat} (ha : a < x_z y) (h : x_sg y a = 40) : tpT y a = 1 :: (tpS y (x_it y a) (a + 1) ++ [2]) := by
  have h1 := hw.1 a ha
  have h2 := hw.2 a ha
  have hr := wf_reg hw.1 ha
  have e : tp_n y 60 a = tp_n y (59 + 1) a := rfl
  unfold tpT
  rw [e, tp_n, if_pos h, h]
  unfold tpS
  rw [tp_l_cg (x := y) (y := y) (g := tp_n y 59) (g' := tp_n y 60) _ _ _ h1.2.2 (fun _ _ _ => ⟨rfl, rfl⟩) (fun i q1 q2 q3 => tp_fu 59 i (cl_sub hr (by omega) q3) (hr i (by omega) q2).1 (by omega))]
  rfl
theorem tpT_leaf {y : TSt} {a : Nat} (h : ¬ x_sg y a = 40) : tpT y a = [o_tk (x_sg y a)] := by
  have e : tp_n y 60 a = tp_n y (59 + 1) a := rfl
  unfold tpT
  rw [e, tp_n, if_neg h]
/-- the signs that a rule's nodes have -/
def x_oks (x : TSt) : Prop := ∀ a, a < x_z x → c_ok 1 (x_sg x a)
theorem otk_leaf {c : Nat} (hc : c_ok 1 c) (h : ¬ c = 40) : 3 ≤ o_tk c ∧ ¬ o_tk c = 7 ∧ o_tk c < 126 := by
  unfold o_tk
  rcases hc with h1 | h1 | h1 | h1 | h1
  · exact absurd h1 h
  · rw [if_pos h1]; omega
  · rw [if_neg (by omega), if_pos h1]; omega
  · rcases h1 with rfl | rfl | rfl <;> decide
  · rw [h1.1]; decide
theorem otk_any {c : Nat} (hc : c_ok 1 c) : 1 ≤ o_tk c ∧ ¬ o_tk c = 2 ∧ ¬ o_tk c = 7 ∧ o_tk c < 126 := by
  by_cases h : c = 40
  · rw [h]; decide
  · have := otk_leaf hc h
    omega
theorem tpT_hd {x : TSt} {a : Nat} : ∃ s, tpT x a = o_tk (x_sg x a) :: s := by
  have e : tp_n x 60 a = tp_n x (59 + 1) a := rfl
  unfold tpT
  rw [e, tp_n]
  exact ⟨_, rfl⟩
theorem tkT_hd2 {y : TSt} {a : Nat} : ∃ s, tkT y a = tkm (some (x_sg y a, x_st y a)) :: s := tkT_hd
theorem sml_of {l : List Nat} {K : Nat} (h : ∀ t, t ∈ l → t < K) (hK : K ≤ 2 ^ 30) : sml l := fun t ht => Nat.lt_of_lt_of_le (h t ht) hK
/-- the tokens of terms side by side are balanced, those of a term are a term's -/
theorem tpl_bal {x : TSt} (hw : t_wf6 x) (ho : x_oks x) : ∀ (k n a b : Nat), x_z x - a ≤ k → t_ch x n a b → b ≤ x_z x → lvl (tpS x n a) 0 = some 0 ∧ ∀ t, t ∈ tpS x n a → t < 126
  | k, 0, a, b, hk, hc, hb => ⟨rfl, fun t ht => by cases ht⟩
  | 0, n + 1, a, b, hk, hc, hb => by
    have : a < b := hc.1
    omega
  | k + 1, n + 1, a, b, hk, hc, hb => by
    have h1 : a < b := hc.1
    have h2 := t_ch_ge n _ b hc.2
    have hwa := hw.1 a (by omega)
    have hT : lvl (tpT x a) 0 = some 0 ∧ ∀ t, t ∈ tpT x a → t < 126 := by
      by_cases h : x_sg x a = 40
      · have ih := tpl_bal hw ho k (x_it x a) (a + 1) (a + x_sp x a) (by omega) hwa.2.2 hwa.2.1
        rw [tpT_list hw (by omega) h]
        refine ⟨?_, fun t ht => ?_⟩
        · exact tmm_lvl (Or.inr ⟨_, rfl, ih.1⟩) 0
        · rcases List.mem_cons.mp ht with rfl | ht
          · decide
          · rcases List.mem_append.mp ht with ht | ht
            · exact ih.2 t ht
            · rcases List.mem_singleton.mp ht with rfl
              decide
      · have := otk_leaf (ho a (by omega)) h
        rw [tpT_leaf h]
        refine ⟨?_, fun t ht => ?_⟩
        · exact tmm_lvl (Or.inl ⟨_, rfl, by omega, by omega⟩) 0
        · rcases List.mem_singleton.mp ht with rfl
          exact this.2.2
    have ih2 := tpl_bal hw ho k n (a + x_sp x a) b (by omega) hc.2 hb
    have hr : lvl (tp_r x a) 0 = some 0 ∧ ∀ t, t ∈ tp_r x a → t < 126 := by
      unfold tp_r
      split
      · exact ⟨rfl, fun t ht => by cases ht⟩
      · exact ⟨rfl, fun t ht => by rcases List.mem_singleton.mp ht with rfl; decide⟩
    rw [tpS_s]
    refine ⟨?_, fun t ht => ?_⟩
    · rw [lvl_app, hT.1]
      show lvl (tp_r x a ++ tpS x n (a + x_sp x a)) 0 = some 0
      rw [lvl_app, hr.1]
      exact ih2.1
    · rcases List.mem_append.mp ht with ht | ht
      · exact hT.2 t ht
      · rcases List.mem_append.mp ht with ht | ht
        · exact hr.2 t ht
        · exact ih2.2 t ht
theorem tpT_tmm {x : TSt} (hw : t_wf6 x) (ho : x_oks x) {a : Nat} (ha : a < x_z x) : tmm (tpT x a) ∧ ∀ t, t ∈ tpT x a → t < 126 := by
  have hwa := hw.1 a ha
  by_cases h : x_sg x a = 40
  · have ih := tpl_bal hw ho (x_z x) (x_it x a) (a + 1) (a + x_sp x a) (by omega) hwa.2.2 hwa.2.1
    rw [tpT_list hw ha h]
    refine ⟨Or.inr ⟨_, rfl, ih.1⟩, fun t ht => ?_⟩
    rcases List.mem_cons.mp ht with rfl | ht
    · decide
    · rcases List.mem_append.mp ht with ht | ht
      · exact ih.2 t ht
      · rcases List.mem_singleton.mp ht with rfl
        decide
  · have := otk_leaf (ho a ha) h
    rw [tpT_leaf h]
    exact ⟨Or.inl ⟨_, rfl, by omega, by omega⟩, fun t ht => by rcases List.mem_singleton.mp ht with rfl; exact this.2.2⟩
/-- a term's tokens are small where its stamps are -/
theorem tkm_lt {c k : Nat} (h : k ≤ 2 ^ 20) : tkm (some (c, k)) < 2 ^ 30 := by
  unfold tkm
  simp only
  repeat' split
  all_goals omega
theorem tkl_bal {x : TSt} (hw : t_wf6 x) (ho : t_ok x) : ∀ (k n a b : Nat), x_z x - a ≤ k → t_ch x n a b → b ≤ x_z x → lvl (tkS x n a) 0 = some 0
  | k, 0, a, b, hk, hc, hb => rfl
  | 0, n + 1, a, b, hk, hc, hb => by
    have : a < b := hc.1
    omega
  | k + 1, n + 1, a, b, hk, hc, hb => by
    have h1 : a < b := hc.1
    have h2 := t_ch_ge n _ b hc.2
    have hwa := hw.1 a (by omega)
    have hT : lvl (tkT x a) 0 = some 0 := by
      by_cases h : x_sg x a = 40
      · have ih := tkl_bal hw ho k (x_it x a) (a + 1) (a + x_sp x a) (by omega) hwa.2.2 hwa.2.1
        rw [tkT_list hw (by omega) h]
        exact tmm_lvl (Or.inr ⟨_, rfl, ih⟩) 0
      · have := tkm_leaf (k := x_st x a) h (ho a (by omega))
        rw [tkT_leaf h]
        exact tmm_lvl (Or.inl ⟨_, rfl, this.1, this.2⟩) 0
    have ih2 := tkl_bal hw ho k n (a + x_sp x a) b (by omega) hc.2 hb
    rw [tkS_s, lvl_app, hT]
    exact ih2
theorem tkT_tmm {x : TSt} (hw : t_wf6 x) (ho : t_ok x) {a : Nat} (ha : a < x_z x) : tmm (tkT x a) := by
  have hwa := hw.1 a ha
  by_cases h : x_sg x a = 40
  · have ih := tkl_bal hw ho (x_z x) (x_it x a) (a + 1) (a + x_sp x a) (by omega) hwa.2.2 hwa.2.1
    rw [tkT_list hw ha h]
    exact Or.inr ⟨_, rfl, ih⟩
  · have := tkm_leaf (k := x_st x a) h (ho a ha)
    rw [tkT_leaf h]
    exact Or.inl ⟨_, rfl, this.1, this.2⟩
/-- an item's end, in a pattern (w 0) or a template (w 1) -/
theorem item_lp {F : Nat} {gs : OS} {w : Nat} (hw : w < 2) : ∀ (B : List Nat) (l0 l1 p d b : Nat), lvl B l0 = some l1 → At (gs.2 (8 + 2 * w)) p B → sml B → p + B.length ≤ 768 → 1 ≤ b → b + l0 + B.length ≤ 9999 → rf_itemEnd_8 F (d + B.length) gs (nI w) (nI p) (nI (b + l0)) 1 = rf_itemEnd_8 F d gs (nI w) (nI (p + B.length)) (nI (b + l1)) 1
  | [], l0, l1, p, d, b, h, _, _, _, _, _ => by cases h; rfl
  | t :: B, l0, l1, p, d, b, h, ha, hs, hp, hb, hl => by
    rw [List.length_cons] at hp hl ⊢
    have ht := sml_h hs
    unfold lvl at h
    have step : ∀ {C : RO}, rf_itemEnd_32 F (rf_itemEnd_8 F (d + B.length)) gs (nI w) (nI p) (nI (b + l0)) (nI t) = C → rf_itemEnd_8 F (d + (B.length + 1)) gs (nI w) (nI p) (nI (b + l0)) 1 = C := fun {C} k => by
      rw [show d + (B.length + 1) = (d + B.length) + 1 by omega, rf_itemEnd_8]
      refine rc_eqF (a := 1) (b := 0) rfl rfl (by decide) ?_
      rcases (show w = 0 ∨ w = 1 by omega) with rfl | rfl
      · refine rc_eqE (b := 0) rfl rfl rfl ?_
        refine rc_in rfl (by omega) ?_
        rw [cl_at ha.1]
        exact k
      · refine rc_eqF (b := 0) rfl rfl (by decide) ?_
        refine rc_in rfl (by omega) ?_
        rw [cl_at ha.1]
        exact k
    have back : ∀ (l : Nat), lvl B l = some l1 → b + l + B.length ≤ 9999 → rf_itemEnd_52 F (rf_itemEnd_8 F (d + B.length)) gs (nI w) (nI p) (nI (b + l)) = rf_itemEnd_8 F d gs (nI w) (nI (p + (B.length + 1))) (nI (b + l1)) 1 := fun l hll hbl => by
      rw [rf_itemEnd_52]
      refine rc_leF (b := 0) rfl rfl (by omega) ?_
      rw [rf_itemEnd_65, nI_1]
      have := item_lp (F := F) hw B l l1 (p + 1) d b hll ha.2 (sml_t hs) (by omega) hb (by omega)
      rw [this]
      congr 2
      omega
    refine step ?_
    rw [rf_itemEnd_32]
    by_cases h1 : t = 1
    · rw [if_pos h1] at h
      refine rc_eqE (b := 1) rfl rfl h1 ?_
      rw [rf_itemEnd_43]
      refine rc_eqF (b := 2) rfl rfl (by omega) ?_
      rw [nI_1]
      exact back (l0 + 1) h (by omega)
    · rw [if_neg h1] at h
      refine rc_eqF (b := 1) rfl rfl h1 ?_
      rw [rf_itemEnd_43]
      by_cases h2 : t = 2
      · rw [if_pos h2] at h
        by_cases h3 : l0 = 0
        · rw [if_pos h3] at h; cases h
        · rw [if_neg h3] at h
          refine rc_eqE (b := 2) rfl rfl h2 ?_
          rw [nI_q1 (a := b + (l0 - 1)) (by congr 1; omega)]
          exact back (l0 - 1) h (by omega)
      · rw [if_neg h2] at h
        refine rc_eqF (b := 2) rfl rfl h2 ?_
        exact back l0 h (by omega)
theorem item_ok {F : Nat} {gs : OS} {w : Nat} (hw : w < 2) {T : List Nat} {p : Nat} {x v : Int32} (hF : 5000 ≤ F) (hv : v = nI w) (hx : x = nI p) (hT : tmm T) (ha : At (gs.2 (8 + 2 * w)) p T) (hs : sml T) (hp : p + T.length ≤ 768) : rf_itemEnd F gs v x = some (nI (p + T.length), gs) := by
  rw [hx, hv]
  -- one token, and the end
  have one : ∀ (d q l t : Nat) (y : Int32) (C : RO), gs.2 (8 + 2 * w) q = nI t → t < 2 ^ 30 → q < 768 → l < 9999 → y = nI (if t = 1 then l + 1 else if t = 2 then l - 1 else l) → (t = 2 → 1 ≤ l) → rf_itemEnd_52 F (rf_itemEnd_8 F d) gs (nI w) (nI q) y = C → rf_itemEnd_8 F (d + 1) gs (nI w) (nI q) (nI l) 1 = C := by
    intro d q l t y C hq ht hq2 hl hy hy2 k
    have e : rf_itemEnd_32 F (rf_itemEnd_8 F d) gs (nI w) (nI q) (nI l) (nI t) = C := by
      rw [rf_itemEnd_32]
      by_cases h1 : t = 1
      · refine rc_eqE (b := 1) rfl rfl h1 ?_
        rw [rf_itemEnd_43]
        refine rc_eqF (b := 2) rfl rfl (by omega) ?_
        rw [if_pos h1] at hy
        rw [nI_1, ← hy]
        exact k
      · refine rc_eqF (b := 1) rfl rfl h1 ?_
        rw [rf_itemEnd_43]
        rw [if_neg h1] at hy
        by_cases h2 : t = 2
        · refine rc_eqE (b := 2) rfl rfl h2 ?_
          rw [if_pos h2] at hy
          have := hy2 h2
          rw [nI_q1 (a := l - 1) (by congr 1; omega), ← hy]
          exact k
        · refine rc_eqF (b := 2) rfl rfl h2 ?_
          rw [if_neg h2] at hy
          rw [← hy]
          exact k
    rw [rf_itemEnd_8]
    refine rc_eqF (a := 1) (b := 0) rfl rfl (by decide) ?_
    rcases (show w = 0 ∨ w = 1 by omega) with rfl | rfl
    · refine rc_eqE (b := 0) rfl rfl rfl ?_
      refine rc_in rfl (by omega) ?_
      rw [cl_at hq]
      exact e
    · refine rc_eqF (b := 0) rfl rfl (by decide) ?_
      refine rc_in rfl (by omega) ?_
      rw [cl_at hq]
      exact e
  have fin : ∀ (d q : Nat), rf_itemEnd_52 F (rf_itemEnd_8 F (d + 1)) gs (nI w) (nI q) 0 = some (nI (q + 1), gs) := by
    intro d q
    rw [rf_itemEnd_52]
    refine rc_leT (a := 0) (b := 0) rfl rfl (Nat.le_refl _) ?_
    rw [rf_itemEnd_65, nI_1, rf_itemEnd_8]
    exact rc_eqE (a := 0) (b := 0) rfl rfl rfl rfl
  rcases hT with ⟨t, rfl, h1, h2⟩ | ⟨B, rfl, hB⟩
  · have ht := sml_h hs
    have hp : p + 1 ≤ 768 := hp
    obtain ⟨d, hd⟩ : ∃ d, F = d + 1 + 1 := ⟨F - 2, by omega⟩
    rw [rf_itemEnd]
    have := one (d + 1) p 0 t 0 _ ha.1 ht (by omega) (by omega) (by rw [if_neg h1, if_neg h2]; rfl) (fun q => absurd q h2) (fin d p)
    rw [← hd] at this
    exact this
  · have e : (1 :: (B ++ [2])).length = B.length + 2 := by simp
    rw [e] at hp ⊢
    obtain ⟨d, hd⟩ : ∃ d, F = (d + 1 + 1) + B.length + 1 := ⟨F - B.length - 3, by omega⟩
    rw [rf_itemEnd]
    have h2 := one (d + 1) (p + 1 + B.length) 1 2 0 _ (At_r ha.2).1 (by decide) (by omega) (by omega) rfl (fun _ => Nat.le_refl _) (fin d (p + 1 + B.length))
    have hlp := item_lp (F := F) hw B 0 0 (p + 1) (d + 1 + 1) 1 hB (At_l ha.2) (sml_l (sml_t hs)) (by omega) (Nat.le_refl _) (by omega)
    have h3 : rf_itemEnd_52 F (rf_itemEnd_8 F ((d + 1 + 1) + B.length)) gs (nI w) (nI p) (nI 1) = some (nI (p + (B.length + 2)), gs) := by
      rw [rf_itemEnd_52]
      refine rc_leF (b := 0) rfl rfl (by omega) ?_
      rw [rf_itemEnd_65, nI_1]
      refine Eq.trans hlp ?_
      refine Eq.trans h2 ?_
      congr 3
      omega
    have := one ((d + 1 + 1) + B.length) p 0 1 (nI 1) _ ha.1 (by decide) (by omega) (by omega) rfl (fun q => by cases q) h3
    rw [← hd] at this
    exact this
