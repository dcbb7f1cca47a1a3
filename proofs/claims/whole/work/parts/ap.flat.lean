/-- the MANYs among tokens, among nodes -/
def mly (kf : Nat → Nat) : List Nat → List Nat
  | [] => []
  | t :: P => if 100 ≤ t ∧ kf (t - 100) = 2 then (t - 100) :: mly kf P else mly kf P
def mcf (ct : Nat → Nat) : List Nat → Option Nat → Option Nat
  | [], a => a
  | c :: L, a => if a = none ∨ a = some (ct c) then mcf ct L (some (ct c)) else none
def nml (x : TSt) (kf : Nat → Nat) : Nat → Nat → List Nat
  | 0, _ => []
  | k + 1, i => if k_many kf (x_sg x i) then (x_sg x i - 97) :: nml x kf k (i + 1) else nml x kf k (i + 1)
theorem mly_app {kf : Nat → Nat} : ∀ (a b : List Nat), mly kf (a ++ b) = mly kf a ++ mly kf b
  | [], _ => rfl
  | t :: a, b => by
    show (if 100 ≤ t ∧ kf (t - 100) = 2 then (t - 100) :: mly kf (a ++ b) else mly kf (a ++ b)) = (if 100 ≤ t ∧ kf (t - 100) = 2 then (t - 100) :: mly kf a else mly kf a) ++ mly kf b
    by_cases h : 100 ≤ t ∧ kf (t - 100) = 2
    · rw [if_pos h, if_pos h, mly_app]; rfl
    · rw [if_neg h, if_neg h, mly_app]
theorem nml_app {x : TSt} {kf : Nat → Nat} : ∀ (k m i : Nat), nml x kf (k + m) i = nml x kf k i ++ nml x kf m (i + k)
  | 0, m, i => by rw [Nat.zero_add]; rfl
  | k + 1, m, i => by
    rw [show k + 1 + m = (k + m) + 1 by omega]
    show (if k_many kf (x_sg x i) then (x_sg x i - 97) :: nml x kf (k + m) (i + 1) else nml x kf (k + m) (i + 1)) = (if k_many kf (x_sg x i) then (x_sg x i - 97) :: nml x kf k (i + 1) else nml x kf k (i + 1)) ++ nml x kf m (i + (k + 1))
    have e := nml_app (x := x) (kf := kf) k m (i + 1)
    rw [show i + 1 + k = i + (k + 1) by omega] at e
    by_cases h : k_many kf (x_sg x i)
    · rw [if_pos h, if_pos h, e]; rfl
    · rw [if_neg h, if_neg h, e]
theorem m_cp_mcf {x : TSt} {kf ct : Nat → Nat} : ∀ (k i : Nat) (a : Option Nat), m_cp x kf ct k i a = mcf ct (nml x kf k i) a
  | 0, _, _ => rfl
  | k + 1, i, a => by
    unfold m_cp nml
    by_cases h : k_many kf (x_sg x i)
    · rw [if_pos h, if_pos h]
      unfold mcf
      by_cases h2 : a = none ∨ a = some (ct (x_sg x i - 97))
      · rw [if_pos h2, if_pos h2, m_cp_mcf k (i + 1)]
      · rw [if_neg h2, if_neg h2]
    · rw [if_neg h, if_neg h, m_cp_mcf k (i + 1)]
theorem mcf_all {ct : Nat → Nat} : ∀ (L : List Nat) (k n : Nat), mcf ct L (some k) = some n → n = k ∧ ∀ c, c ∈ L → ct c = n
  | [], k, n, h => by cases h; exact ⟨rfl, fun c hc => by cases hc⟩
  | c :: L, k, n, h => by
    unfold mcf at h
    by_cases h2 : (some k : Option Nat) = none ∨ some k = some (ct c)
    · rw [if_pos h2] at h
      have hk : k = ct c := by
        rcases h2 with h2 | h2
        · cases h2
        · exact Option.some.inj h2
      obtain ⟨a, b⟩ := mcf_all L _ _ h
      refine ⟨by omega, fun c' hc' => ?_⟩
      rcases List.mem_cons.mp hc' with rfl | hc'
      · omega
      · exact b c' hc'
    · rw [if_neg h2] at h; cases h
theorem mcf_all0 {ct : Nat → Nat} {L : List Nat} {n : Nat} (h : mcf ct L none = some n) : ∀ c, c ∈ L → ct c = n := by
  cases L with
  | nil => intro c hc; cases hc
  | cons c L =>
    unfold mcf at h
    rw [if_pos (Or.inl rfl)] at h
    obtain ⟨a, b⟩ := mcf_all L _ _ h
    intro c' hc'
    rcases List.mem_cons.mp hc' with rfl | hc'
    · omega
    · exact b c' hc'
theorem mly_mem {kf : Nat → Nat} {t : Nat} (h1 : 100 ≤ t) (h2 : kf (t - 100) = 2) : ∀ (P : List Nat), t ∈ P → t - 100 ∈ mly kf P
  | [], h => by cases h
  | t' :: P, h => by
    unfold mly
    rcases List.mem_cons.mp h with rfl | h
    · rw [if_pos ⟨h1, h2⟩]
      exact List.mem_cons_self
    · have := mly_mem h1 h2 P h
      split
      · exact List.mem_cons_of_mem _ this
      · exact this
theorem tpS_mly {x : TSt} {kf : Nat → Nat} (hw : t_wf6 x) (hl : t_lf x) (ho : x_oks x) : ∀ (k n a b : Nat), x_z x - a ≤ k → t_ch x n a b → b ≤ x_z x → mly kf (tpS x n a) = nml x kf (b - a) a
  | k, 0, a, b, hk, hc, hb => by
    have hc : a = b := hc
    rw [show b - a = 0 by omega]
    rfl
  | 0, n + 1, a, b, hk, hc, hb => by
    have : a < b := hc.1
    omega
  | k + 1, n + 1, a, b, hk, hc, hb => by
    have h1 : a < b := hc.1
    have h2 := t_ch_ge n _ b hc.2
    have hwa := hw.1 a (by omega)
    have hT : mly kf (tpT x a) = nml x kf (x_sp x a) a := by
      by_cases h : x_sg x a = 40
      · have ih := tpS_mly (kf := kf) hw hl ho k (x_it x a) (a + 1) (a + x_sp x a) (by omega) hwa.2.2 hwa.2.1
        rw [tpT_list hw (by omega) h]
        show mly kf (tpS x (x_it x a) (a + 1) ++ [2]) = _
        rw [mly_app, ih, show mly kf [2] = [] by rfl, List.append_nil]
        obtain ⟨s, hs⟩ : ∃ s, x_sp x a = s + 1 := ⟨x_sp x a - 1, by omega⟩
        rw [hs, show a + (s + 1) - (a + 1) = s by omega]
        show _ = (if k_many kf (x_sg x a) then _ else nml x kf s (a + 1))
        rw [if_neg (fun q => by have := q.1; omega)]
      · have hlf := hl a (by omega) h
        have hok := ho a (by omega)
        rw [tpT_leaf h, hlf.1]
        show (if 100 ≤ o_tk (x_sg x a) ∧ kf (o_tk (x_sg x a) - 100) = 2 then [o_tk (x_sg x a) - 100] else []) = (if k_many kf (x_sg x a) then [x_sg x a - 97] else [])
        by_cases hn : c_nm (x_sg x a)
        · have e := otk_nm hn
          rw [show o_tk (x_sg x a) - 100 = x_sg x a - 97 by omega]
          by_cases hk2 : kf (x_sg x a - 97) = 2
          · rw [if_pos ⟨by omega, hk2⟩, if_pos ⟨hn, hk2⟩]
          · rw [if_neg (fun q => hk2 q.2), if_neg (fun q => hk2 q.2)]
        · rw [if_neg (c := k_many kf (x_sg x a)) (fun q => hn q.1)]
          refine if_neg (fun q => ?_)
          by_cases h95 : x_sg x a = 95
          · rw [otk_95 h95] at q
            omega
          · have := otk_pl hok hn h95
            omega
    have ih2 := tpS_mly (kf := kf) hw hl ho k n (a + x_sp x a) b (by omega) hc.2 hb
    have hr : mly kf (tp_r x a) = [] := by
      unfold tp_r
      split <;> rfl
    rw [tpS_s, mly_app, mly_app, hT, hr, ih2, List.nil_append, show b - a = x_sp x a + (b - (a + x_sp x a)) by omega, nml_app]
theorem tpT_mly {x : TSt} {kf : Nat → Nat} (hw : t_wf6 x) (hl : t_lf x) (ho : x_oks x) {a : Nat} (ha : a < x_z x) : mly kf (tpT x a) = nml x kf (x_sp x a) a := by
  have hwa := hw.1 a ha
  have h := tpS_mly (kf := kf) hw hl ho (x_z x) 1 a (a + x_sp x a) (by omega) ⟨by omega, rfl⟩ hwa.2.1
  have e : tpS x 1 a = tpT x a ++ (tp_r x a ++ []) := rfl
  have hr : mly kf (tp_r x a) = [] := by
    unfold tp_r
    split <;> rfl
  rw [e, mly_app, mly_app, hr] at h
  rw [show a + x_sp x a - a = x_sp x a by omega] at h
  rw [← h]
  show mly kf (tpT x a) = mly kf (tpT x a) ++ ([] ++ [])
  rw [List.nil_append, List.append_nil]
/-- the reference's copies -/
theorem cop_bad {F r e : Nat} {y : TSt} {kf : Nat → Nat} {q : MSt} {md : Nat} {gs : OS} (hr : r < 12) (he : e ≤ 768) (hG : GM gs y kf q md r) : ∀ (P : List Nat) (i d : Nat), At (gs.2 10) i P → (∀ t, t ∈ P → t < 126) → i + P.length = e → P.length < d → rf_copies_7 F d gs (nI r) (nI e) (-1) (nI i) = some (-1, gs)
  | [], i, d, _, _, hl, hd => by
    obtain ⟨d, rfl⟩ : ∃ e, d = e + 1 := ⟨d - 1, by have : 0 < d := hd; omega⟩
    have hl : i + 0 = e := hl
    rw [rf_copies_7]
    exact rc_leT rfl rfl (by omega) rfl
  | t :: P, i, d, ha, ht, hl, hd => by
    rw [List.length_cons] at hl hd
    obtain ⟨d, rfl⟩ : ∃ e, d = e + 1 := ⟨d - 1, by omega⟩
    have ht1 := ht t List.mem_cons_self
    have hat : gs.2 10 (nI i).toNatClampNeg = nI t := cl_at ha.1
    have ih := cop_bad (F := F) hr he hG P (i + 1) d ha.2 (fun t h => ht t (List.mem_cons_of_mem _ h)) (by omega) (by omega)
    have ih' : rf_copies_84 F (rf_copies_7 F d) gs (nI r) (nI e) (-1) (nI i) = some (-1, gs) := by
      rw [rf_copies_84, nI_1]
      exact ih
    rw [rf_copies_7]
    refine rc_leF rfl rfl (by omega) ?_
    refine rc_in rfl (by omega) ?_
    by_cases h1 : 100 ≤ t
    · have hlo := letter_ok (F := F) (gs := gs) hat h1
      have hmod : (t - 100) % 32 = t - 100 := by omega
      rw [hmod] at hlo
      have h26 : t - 100 < 26 := by omega
      have b2 := (hG.2.2.2.1 (t - 100) h26).2
      have b2' : gs.2 12 (nI r).toNatClampNeg >>> (nI (t - 100) &&& 31) &&& 1 = nI (if kf (t - 100) = 2 then 1 else 0) := by
        rw [nI_clamp (by omega)]
        exact b2
      refine rc_bd (isName_y hat h1) ?_
      refine rc_eqF (a := 1) (b := 0) rfl rfl (by decide) ?_
      refine rc_in rfl hr ?_
      refine rc_bd hlo ?_
      by_cases k2 : kf (t - 100) = 2
      · rw [if_pos k2] at b2'
        refine rc_eqF (a := 1) (b := 0) b2' rfl (by decide) ?_
        refine rc_bd hlo ?_
        refine rc_in rfl h26 ?_
        have h30 : gs.2 30 (nI (t - 100)).toNatClampNeg = nI (q.1 (t - 100)) := cl_at (hG.2.1 _ h26 k2)
        have h60 := hG.2.2.1 (t - 100)
        refine rc_pF (by decide) ?_
        refine rc_pF (by
          rw [h30]
          intro q9
          have := nI_pos (n := q.1 (t - 100)) (by omega)
          rw [← q9] at this
          exact absurd (by decide) this) ?_
        rw [rf_copies_82]
        exact ih'
      · rw [if_neg k2] at b2'
        exact rc_eqE (a := 0) (b := 0) b2' rfl rfl ih'
    · refine rc_bd (isName_n hat (by omega)) ?_
      exact rc_eqE (a := 0) (b := 0) rfl rfl rfl ih'
def acI : Option Nat → Int32
  | none => -2
  | some k => nI k
theorem cop_lp {F r e : Nat} {y : TSt} {kf : Nat → Nat} {q : MSt} {md : Nat} {gs : OS} (hr : r < 12) (he : e ≤ 768) (hG : GM gs y kf q md r) : ∀ (P : List Nat) (i d : Nat) (acc : Option Nat), (∀ k, acc = some k → k ≤ 60) → At (gs.2 10) i P → (∀ t, t ∈ P → t < 126) → i + P.length = e → P.length < d → ∃ v, rf_copies_7 F d gs (nI r) (nI e) (acI acc) (nI i) = some (v, gs) ∧ (∀ k, mcf q.1 (mly kf P) acc = some k → v = nI k) ∧ (mcf q.1 (mly kf P) acc = none → v < 0)
  | [], i, d, acc, _, _, _, hl, hd => by
    obtain ⟨d, rfl⟩ : ∃ e, d = e + 1 := ⟨d - 1, by have : 0 < d := hd; omega⟩
    have hl : i + 0 = e := hl
    refine ⟨acI acc, ?_, fun k hk => ?_, fun h => ?_⟩
    · rw [rf_copies_7]
      exact rc_leT rfl rfl (by omega) rfl
    · have hk : acc = some k := hk
      rw [hk]
      rfl
    · have h : acc = none := h
      rw [h]
      decide
  | t :: P, i, d, acc, hac, ha, ht, hl, hd => by
    rw [List.length_cons] at hl hd
    obtain ⟨d, rfl⟩ : ∃ e, d = e + 1 := ⟨d - 1, by omega⟩
    have ht1 := ht t List.mem_cons_self
    have ht2 : ∀ t', t' ∈ P → t' < 126 := fun t h => ht t (List.mem_cons_of_mem _ h)
    have hat : gs.2 10 (nI i).toNatClampNeg = nI t := cl_at ha.1
    have hd2 : ∀ {C : RO}, _ = C → rf_copies_7 F (d + 1) gs (nI r) (nI e) (acI acc) (nI i) = C := fun {C} k => by
      rw [rf_copies_7]
      refine rc_leF rfl rfl (by omega) ?_
      refine rc_in rfl (by omega) ?_
      exact k
    by_cases h1 : 100 ≤ t
    · have hlo := letter_ok (F := F) (gs := gs) hat h1
      have hmod : (t - 100) % 32 = t - 100 := by omega
      rw [hmod] at hlo
      have h26 : t - 100 < 26 := by omega
      have b2 := (hG.2.2.2.1 (t - 100) h26).2
      have b2' : gs.2 12 (nI r).toNatClampNeg >>> (nI (t - 100) &&& 31) &&& 1 = nI (if kf (t - 100) = 2 then 1 else 0) := by
        rw [nI_clamp (by omega)]
        exact b2
      by_cases k2 : kf (t - 100) = 2
      · rw [if_pos k2] at b2'
        have em : mly kf (t :: P) = (t - 100) :: mly kf P := if_pos ⟨h1, k2⟩
        have h30 : gs.2 30 (nI (t - 100)).toNatClampNeg = nI (q.1 (t - 100)) := cl_at (hG.2.1 _ h26 k2)
        have h60 := hG.2.2.1 (t - 100)
        rw [em]
        have hd3 : ∀ {C : RO}, _ = C → rf_copies_7 F (d + 1) gs (nI r) (nI e) (acI acc) (nI i) = C := fun {C} k => hd2 (by
          refine rc_bd (isName_y hat h1) ?_
          refine rc_eqF (a := 1) (b := 0) rfl rfl (by decide) ?_
          refine rc_in rfl hr ?_
          refine rc_bd hlo ?_
          refine rc_eqF (a := 1) (b := 0) b2' rfl (by decide) ?_
          refine rc_bd hlo ?_
          refine rc_in rfl h26 ?_
          exact k)
        by_cases hm : acc = none ∨ acc = some (q.1 (t - 100))
        · obtain ⟨v, e1, e2, e3⟩ := cop_lp (F := F) hr he hG P (i + 1) d (some (q.1 (t - 100))) (fun k hk => by cases hk; exact h60) ha.2 ht2 (by omega) (by omega)
          have e1' : rf_copies_76 F (rf_copies_7 F d) gs (nI r) (nI e) (nI i) (gs.2 30 (nI (t - 100)).toNatClampNeg) = some (v, gs) := by
            rw [rf_copies_76, rf_copies_82, rf_copies_84, h30, nI_1]
            exact e1
          refine ⟨v, hd3 ?_, fun k hk => e2 k ?_, fun hk => e3 ?_⟩
          · rcases hm with hm | hm
            · rw [hm]
              exact rc_pT rfl e1'
            · rw [hm]
              refine rc_pF ?_ ?_
              · show ¬ nI (q.1 (t - 100)) = -2
                intro q9
                have := nI_pos (n := q.1 (t - 100)) (by omega)
                rw [q9] at this
                exact absurd (by decide) this
              · exact rc_pT (by rw [h30]; rfl) e1'
          · unfold mcf at hk
            rw [if_pos hm] at hk
            exact hk
          · unfold mcf at hk
            rw [if_pos hm] at hk
            exact hk
        · obtain ⟨k0, hk0⟩ : ∃ k0, acc = some k0 := by
            cases acc with
            | none => exact absurd (Or.inl rfl) hm
            | some k0 => exact ⟨k0, rfl⟩
          have hk60 := hac k0 hk0
          refine ⟨-1, hd3 ?_, fun k hk => ?_, fun _ => by decide⟩
          · rw [hk0]
            refine rc_pF ?_ ?_
            · show ¬ nI k0 = -2
              intro q9
              have := nI_pos (n := k0) (by omega)
              rw [q9] at this
              exact absurd (by decide) this
            · refine rc_eqF (a := k0) rfl h30 (fun q9 => hm (Or.inr (by rw [hk0, q9]))) ?_
              rw [rf_copies_82, rf_copies_84, nI_1]
              exact cop_bad hr he hG P (i + 1) d ha.2 ht2 (by omega) (by omega)
          · unfold mcf at hk
            rw [if_neg hm] at hk
            cases hk
      · rw [if_neg k2] at b2'
        have em : mly kf (t :: P) = mly kf P := if_neg (fun q9 => k2 q9.2)
        obtain ⟨v, e1, e2, e3⟩ := cop_lp (F := F) hr he hG P (i + 1) d acc hac ha.2 ht2 (by omega) (by omega)
        rw [em]
        refine ⟨v, hd2 ?_, e2, e3⟩
        refine rc_bd (isName_y hat h1) ?_
        refine rc_eqF (a := 1) (b := 0) rfl rfl (by decide) ?_
        refine rc_in rfl hr ?_
        refine rc_bd hlo ?_
        refine rc_eqE (a := 0) (b := 0) b2' rfl rfl ?_
        rw [rf_copies_84, nI_1]
        exact e1
    · have em : mly kf (t :: P) = mly kf P := if_neg (fun q9 => h1 q9.1)
      obtain ⟨v, e1, e2, e3⟩ := cop_lp (F := F) hr he hG P (i + 1) d acc hac ha.2 ht2 (by omega) (by omega)
      rw [em]
      refine ⟨v, hd2 ?_, e2, e3⟩
      refine rc_bd (isName_n hat (by omega)) ?_
      refine rc_eqE (a := 0) (b := 0) rfl rfl rfl ?_
      rw [rf_copies_84, nI_1]
      exact e1
/-- the levels of what is put, of plain tokens -/
theorem flat_lvl {y : TSt} {kf : Nat → Nat} {q : MSt} {md n r : Nat} {gs : OS} (hwy : t_wf6 y) (hoy : t_ok y) (hG : GM gs y kf q md r) : ∀ (P : List Nat) (l : Nat), (∀ t, t ∈ P → t < 126) → (∀ t, t ∈ P → 100 ≤ t → kf (t - 100) = 2 → n < q.1 (t - 100)) → lvl (P.flatMap (etk y kf q md n)) l = lvl P l
  | [], _, _, _ => rfl
  | t :: P, l, ht, hc => by
    have ht1 := ht t List.mem_cons_self
    rw [List.flatMap_cons, etk_lvl hwy hoy ht1 (fun h => GM_1 hG ht1 h) (fun h k => GM_2 hG ht1 h k (hc t List.mem_cons_self h k))]
    have ih := fun l => flat_lvl hwy hoy hG P l (fun t h => ht t (List.mem_cons_of_mem _ h)) (fun t h => hc t (List.mem_cons_of_mem _ h))
    show (if t = 1 then lvl (P.flatMap _) (l + 1) else if t = 2 then (if l = 0 then none else lvl (P.flatMap _) (l - 1)) else lvl (P.flatMap _) l) = (if t = 1 then lvl P (l + 1) else if t = 2 then (if l = 0 then none else lvl P (l - 1)) else lvl P l)
    rw [ih, ih, ih]
/-- a template's signs -/
def x_tms (x : TSt) (tm : Nat) : Prop := ∀ a, tm ≤ a → a < x_z x → c_tm (x_sg x a)
theorem otk_tm {c : Nat} (h : c_tm c) (hn : ¬ c_nm c) : tkm (some (c, 0)) = o_tk c ∧ o_tk c < 100 := by
  have hok : c_ok 1 c := by
    rcases h with h | h | h | h
    · exact Or.inl h
    · exact Or.inr (Or.inl h)
    · exact Or.inr (Or.inr (Or.inl h))
    · exact Or.inr (Or.inr (Or.inr (Or.inl h)))
  have h95 : ¬ c = 95 := by
    rcases h with h | h | h | h
    · omega
    · exact absurd h hn
    · omega
    · rcases h with h | h | h <;> omega
  exact ⟨(otk_tkm hok hn h95 h).mpr rfl, (otk_pl hok hn h95).1⟩
section FLAT
variable {x y : TSt} {kf cp : Nat → Nat} {q : MSt} {md tm : Nat}
/-- a leaf of a template, put -/
theorem leaf_etk (hk3 : ∀ c, kf c < 3) {D a k0 : Nat} (hc : c_tm (x_sg x a)) (h40 : ¬ x_sg x a = 40) : (f_n x kf cp (f_vt y q.2) md (D + 1) a k0).map tkm = etk y kf q md k0 (o_tk (x_sg x a)) := by
  unfold f_n etk
  by_cases hn : c_nm (x_sg x a)
  · have e := otk_nm hn
    rw [if_neg (c := o_tk (x_sg x a) < 100) (by omega), show o_tk (x_sg x a) - 100 = x_sg x a - 97 by omega]
    have h3 := hk3 (x_sg x a - 97)
    by_cases k0' : kf (x_sg x a - 97) = 0
    · rw [if_neg (c := k_var kf (x_sg x a)) (fun q9 => q9.2 k0'), if_neg (c := kf (x_sg x a - 97) = 1) (by omega), if_neg (c := kf (x_sg x a - 97) = 2) (by omega), if_pos (c := c_nm (x_sg x a)) hn, if_neg (c := x_sg x a = 40) h40]
      show [tkm (some (x_sg x a, md + 1))] = _
      rw [tkm_nm hn, e]
      congr 1
      omega
    · rw [if_pos (c := k_var kf (x_sg x a)) ⟨hn, k0'⟩]
      by_cases k1 : kf (x_sg x a - 97) = 1
      · rw [if_pos (c := kf (x_sg x a - 97) = 1) k1, if_neg (c := k_many kf (x_sg x a)) (fun q9 => by have := q9.2; omega)]
        rfl
      · rw [if_neg (c := kf (x_sg x a - 97) = 1) k1, if_pos (c := kf (x_sg x a - 97) = 2) (by omega), if_pos (c := k_many kf (x_sg x a)) ⟨hn, by omega⟩]
        rfl
  · obtain ⟨e1, e2⟩ := otk_tm hc hn
    rw [if_pos e2, if_neg (fun q9 => hn q9.1), if_neg hn, if_neg h40]
    show [tkm (some (x_sg x a, 0))] = _
    rw [e1]
/-- an item without tildes, put -/
theorem flat_l (hwx : t_wf6 x) (hD : Nat → Nat → List Tk) {k0 : Nat} (hg : ∀ a, tm ≤ a → a < x_z x → (∀ j, a < j → j < a + x_sp x a → x_rp x j = 0) → (hD a k0).map tkm = (tpT x a).flatMap (etk y kf q md k0)) : ∀ (n a b : Nat), t_ch x n a b → b ≤ x_z x → tm ≤ a → (∀ j, a ≤ j → j < b → x_rp x j = 0) → (f_l x cp hD k0 n a).map tkm = (tpS x n a).flatMap (etk y kf q md k0)
  | 0, _, _, _, _, _, _ => rfl
  | n + 1, a, b, hc, hb, ha, hnr => by
    have h1 : a < b := hc.1
    have h2 := t_ch_ge n _ b hc.2
    have hrp := hnr a (Nat.le_refl _) h1
    have er : tp_r x a = [] := by unfold tp_r; rw [if_pos hrp]
    show ((if x_rp x a = 0 then hD a k0 else f_c (hD a) (cp a) 0) ++ f_l x cp hD k0 n (a + x_sp x a)).map tkm = _
    rw [if_pos hrp, List.map_append, hg a ha (by omega) (fun j p1 p2 => hnr j (by omega) (by omega)), flat_l hwx hD hg n (a + x_sp x a) b hc.2 hb (by omega) (fun j p1 p2 => hnr j (by omega) p2), tpS_s, er, List.nil_append, List.flatMap_append]
theorem flat_n (hk3 : ∀ c, kf c < 3) (hwx : t_wf6 x) (hts : x_tms x tm) : ∀ (D a k0 : Nat), tm ≤ a → a < x_z x → x_sp x a ≤ D → (∀ j, a < j → j < a + x_sp x a → x_rp x j = 0) → (f_n x kf cp (f_vt y q.2) md D a k0).map tkm = (tpT x a).flatMap (etk y kf q md k0)
  | 0, a, k0, _, ha, hD, _ => by
    have := (hwx.1 a ha).1
    omega
  | D + 1, a, k0, hta, ha, hD, hnr => by
    have hwa := hwx.1 a ha
    by_cases h40 : x_sg x a = 40
    · have e : (f_n x kf cp (f_vt y q.2) md (D + 1) a k0).map tkm = 1 :: ((f_l x cp (f_n x kf cp (f_vt y q.2) md D) k0 (x_it x a) (a + 1)).map tkm ++ [2]) := by
        rw [f_n, if_neg (fun q9 => by have := q9.1; omega), if_neg (c := c_nm (x_sg x a)) (by omega), if_pos h40, List.map_cons, List.map_append, tkm_open h40]
        rfl
      rw [e, tpT_list hwx ha h40]
      -- each item's span is smaller
      have hl : ∀ (n a' b : Nat), t_ch x n a' b → b ≤ a + x_sp x a → a < a' → (f_l x cp (f_n x kf cp (f_vt y q.2) md D) k0 n a').map tkm = (tpS x n a').flatMap (etk y kf q md k0) := by
        intro n
        induction n with
        | zero => intro a' b _ _ _; rfl
        | succ n ih =>
          intro a' b hc hb haa
          have h1 : a' < b := hc.1
          have h2 := t_ch_ge n _ b hc.2
          have hrp := hnr a' (by omega) (by omega)
          have er : tp_r x a' = [] := by unfold tp_r; rw [if_pos hrp]
          show ((if x_rp x a' = 0 then f_n x kf cp (f_vt y q.2) md D a' k0 else _) ++ f_l x cp (f_n x kf cp (f_vt y q.2) md D) k0 n (a' + x_sp x a')).map tkm = _
          have hw' := (hwx.1 a' (by omega)).1
          rw [if_pos hrp, List.map_append, flat_n hk3 hwx hts D a' k0 (by omega) (by omega) (by omega) (fun j p1 p2 => hnr j (by omega) (by omega)), ih (a' + x_sp x a') b hc.2 hb (by omega), tpS_s, er, List.nil_append, List.flatMap_append]
      rw [hl (x_it x a) (a + 1) (a + x_sp x a) hwa.2.2 (Nat.le_refl _) (by omega), List.flatMap_cons, List.flatMap_append]
      rfl
    · rw [leaf_etk hk3 (hts a hta ha) h40, tpT_leaf h40, List.flatMap_cons, List.flatMap_nil, List.append_nil]
end FLAT
