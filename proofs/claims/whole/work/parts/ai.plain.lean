/-! Matching: the reference's matchPlain. -/
def bnd (gs : OS) (o : Option Nat) (c t : Nat) : OS := match o with
  | none => sA gs 29 (upd (gs.2 29) c (nI t))
  | some n => sA gs 31 (upd (gs.2 31) (64 * c + n) (nI t))
theorem bnd_1 {gs : OS} {o : Option Nat} {c t : Nat} : (bnd gs o c t).1 = gs.1 := by cases o <;> rfl
theorem bnd_2 {gs : OS} {o : Option Nat} {c t k : Nat} (h1 : k ≠ 29) (h2 : k ≠ 31) : (bnd gs o c t).2 k = gs.2 k := by
  cases o
  · exact sA_n h1
  · exact sA_n h2
theorem tmm_hd {T : List Nat} (h : tmm T) : ∃ t r, T = t :: r ∧ ¬ t = 2 := by
  rcases h with ⟨t, rfl, h1, h2⟩ | ⟨B, rfl, hB⟩
  · exact ⟨t, [], rfl, h2⟩
  · exact ⟨1, _, rfl, by decide⟩
theorem mul64 {a : Nat} : (64 : Int32) * nI a = nI (64 * a) := (Int32.ofNat_mul 64 a).symm
section MP
variable {F d : Nat} {gs : OS} {to i t : Nat}
theorem mp_end {x4 : Int32} (h : to ≤ i) (hi : i ≤ 768) : rf_matchPlain_6 F (d + 1) gs (nI to) x4 (nI t) (nI i) = some (0, sI gs 41 (nI t)) := by
  rw [rf_matchPlain_6]
  exact rc_leT rfl rfl h rfl
theorem mp_name {o : Option Nat} {c : Nat} {T : List Nat} (hF : 5000 ≤ F) (hi : i < to) (hto : to ≤ 768) (hw : gs.2 8 i = nI (c + 100)) (hc : c < 26) (ho : ∀ n, o = some n → n < 60) (hT : tmm T) (ha : At (gs.2 22) t T) (hs : sml T) (ht : t + T.length ≤ 2400) : rf_matchPlain_6 F (d + 1) gs (nI to) (lI o) (nI t) (nI i) = rf_matchPlain_6 F d (bnd gs o c t) (nI to) (lI o) (nI (t + T.length)) (nI (i + 1)) := by
  have hat : gs.2 8 (nI i).toNatClampNeg = nI (c + 100) := cl_at hw
  obtain ⟨t0, r, e0, h2⟩ := tmm_hd hT
  have hr : gs.2 22 (nI t).toNatClampNeg = nI t0 := by
    rw [e0] at ha
    exact cl_at ha.1
  have ht0 : t0 < 2 ^ 30 := hs t0 (by rw [e0]; exact List.mem_cons_self)
  have hlen : 1 ≤ T.length := by rw [e0, List.length_cons]; omega
  have hmod : (c + 100 - 100) % 32 = c := by omega
  have hlo := letter_ok (F := F) (gs := gs) hat (by omega)
  rw [hmod] at hlo
  have h143 : ∀ x4, rf_matchPlain_143 F (rf_matchPlain_6 F d) (bnd gs o c t) (nI to) x4 (nI t) (nI i) 1 = rf_matchPlain_6 F d (bnd gs o c t) (nI to) x4 (nI (t + T.length)) (nI (i + 1)) := by
    intro x4
    rw [rf_matchPlain_143]
    refine rc_eqF (a := 1) (b := 0) rfl rfl (by decide) ?_
    refine rc_bd (skip_ok hF rfl hT (by rw [bnd_2 (by decide) (by decide)]; exact ha) hs ht) ?_
    rw [rf_matchPlain_161, nI_1]
  rw [rf_matchPlain_6]
  refine rc_leF rfl rfl hi ?_
  refine rc_in rfl (by omega) ?_
  refine rc_eqF (b := 6) hat rfl (by omega) ?_
  refine rc_bd (isName_y hat (by omega)) ?_
  refine rc_eqF (a := 1) (b := 0) rfl rfl (by decide) ?_
  rw [rf_matchPlain_36, rf_matchPlain_41]
  refine rc_eqF (a := 1) (b := 0) rfl rfl (by decide) ?_
  refine rc_in rfl (by omega) ?_
  refine rc_eqF (b := 2) hr rfl h2 ?_
  rw [rf_matchPlain_84]
  refine rc_eqF (a := 1) (b := 0) rfl rfl (by decide) ?_
  refine rc_bd (isName_y hat (by omega)) ?_
  refine rc_eqF (a := 1) (b := 0) rfl rfl (by decide) ?_
  cases o with
  | none =>
    refine rc_pF (by decide) ?_
    refine rc_bd hlo ?_
    refine rc_in rfl hc ?_
    rw [nI_clamp (by omega)]
    exact h143 _
  | some n =>
    have hn := ho n rfl
    refine rc_leT (a := 0) (b := n) rfl rfl (Nat.zero_le _) ?_
    refine rc_bd hlo ?_
    have e : (64 : Int32) * nI c + lI (some n) = nI (64 * c + n) := by
      rw [mul64]
      exact nI_add _ _
    rw [e]
    refine rc_in rfl (by omega) ?_
    rw [nI_clamp (by omega)]
    exact h143 _
theorem mp_wild {x4 : Int32} {T : List Nat} (hF : 5000 ≤ F) (hi : i < to) (hto : to ≤ 768) (hw : gs.2 8 i = nI 6) (hT : tmm T) (ha : At (gs.2 22) t T) (hs : sml T) (ht : t + T.length ≤ 2400) : rf_matchPlain_6 F (d + 1) gs (nI to) x4 (nI t) (nI i) = rf_matchPlain_6 F d gs (nI to) x4 (nI (t + T.length)) (nI (i + 1)) := by
  have hat : gs.2 8 (nI i).toNatClampNeg = nI 6 := cl_at hw
  obtain ⟨t0, r, e0, h2⟩ := tmm_hd hT
  have hr : gs.2 22 (nI t).toNatClampNeg = nI t0 := by
    rw [e0] at ha
    exact cl_at ha.1
  have ht0 : t0 < 2 ^ 30 := hs t0 (by rw [e0]; exact List.mem_cons_self)
  have hlen : 1 ≤ T.length := by rw [e0, List.length_cons]; omega
  rw [rf_matchPlain_6]
  refine rc_leF rfl rfl hi ?_
  refine rc_in rfl (by omega) ?_
  refine rc_eqE (b := 6) hat rfl rfl ?_
  rw [rf_matchPlain_36, rf_matchPlain_41]
  refine rc_eqF (a := 1) (b := 0) rfl rfl (by decide) ?_
  refine rc_in rfl (by omega) ?_
  refine rc_eqF (b := 2) hr rfl h2 ?_
  rw [rf_matchPlain_84]
  refine rc_eqF (a := 1) (b := 0) rfl rfl (by decide) ?_
  refine rc_bd (isName_n hat (by decide)) ?_
  refine rc_eqE (a := 0) (b := 0) rfl rfl rfl ?_
  rw [rf_matchPlain_143]
  refine rc_eqF (a := 1) (b := 0) rfl rfl (by decide) ?_
  refine rc_bd (skip_ok hF rfl hT ha hs ht) ?_
  rw [rf_matchPlain_161, nI_1]
theorem mp_close {x4 : Int32} {w : Nat} (hi : i < to) (hto : to ≤ 768) (hw : gs.2 8 i = nI w) (hw2 : w = 6 ∨ 100 ≤ w) (hws : w < 2 ^ 30) (hr : gs.2 22 t = nI 2) (ht : t < 2400) : rf_matchPlain_6 F (d + 1) gs (nI to) x4 (nI t) (nI i) = some (0, sI gs 41 (-1)) := by
  have hat : gs.2 8 (nI i).toNatClampNeg = nI w := cl_at hw
  have hr : gs.2 22 (nI t).toNatClampNeg = nI 2 := cl_at hr
  have h41 : rf_matchPlain_36 F (rf_matchPlain_6 F d) gs (nI to) x4 (nI t) (nI i) (gs.2 8 (nI i).toNatClampNeg) = some (0, sI gs 41 (-1)) := by
    rw [rf_matchPlain_36, rf_matchPlain_41]
    refine rc_eqF (a := 1) (b := 0) rfl rfl (by decide) ?_
    refine rc_in rfl (by omega) ?_
    refine rc_eqE (b := 2) hr rfl rfl ?_
    rw [rf_matchPlain_84]
    exact rc_eqE (a := 0) (b := 0) rfl rfl rfl rfl
  rw [rf_matchPlain_6]
  refine rc_leF rfl rfl hi ?_
  refine rc_in rfl (by omega) ?_
  by_cases h6 : w = 6
  · exact rc_eqE (b := 6) hat rfl h6 h41
  · refine rc_eqF (b := 6) hat rfl h6 ?_
    refine rc_bd (isName_y hat (by omega)) ?_
    exact rc_eqF (a := 1) (b := 0) rfl rfl (by decide) h41
theorem mp_eq {x4 : Int32} {w : Nat} (hi : i < to) (hto : to ≤ 768) (hw : gs.2 8 i = nI w) (hw2 : w < 100) (hw6 : ¬ w = 6) (hr : gs.2 22 t = nI w) (ht : t < 2400) : rf_matchPlain_6 F (d + 1) gs (nI to) x4 (nI t) (nI i) = rf_matchPlain_6 F d gs (nI to) x4 (nI (t + 1)) (nI (i + 1)) := by
  have hat : gs.2 8 (nI i).toNatClampNeg = nI w := cl_at hw
  have hr : gs.2 22 (nI t).toNatClampNeg = nI w := cl_at hr
  rw [rf_matchPlain_6]
  refine rc_leF rfl rfl hi ?_
  refine rc_in rfl (by omega) ?_
  refine rc_eqF (b := 6) hat rfl hw6 ?_
  refine rc_bd (isName_n hat hw2) ?_
  refine rc_eqE (a := 0) (b := 0) rfl rfl rfl ?_
  rw [rf_matchPlain_41]
  refine rc_eqE (a := 0) (b := 0) rfl rfl rfl ?_
  refine rc_in rfl (by omega) ?_
  refine rc_eqE hr hat rfl ?_
  rw [rf_matchPlain_84]
  refine rc_eqF (a := 1) (b := 0) rfl rfl (by decide) ?_
  refine rc_bd (isName_n hat hw2) ?_
  refine rc_eqE (a := 0) (b := 0) rfl rfl rfl ?_
  rw [rf_matchPlain_143]
  refine rc_eqE (a := 0) (b := 0) rfl rfl rfl ?_
  rw [rf_matchPlain_161, nI_1, nI_1]
theorem mp_ne {x4 : Int32} {w v : Nat} (hi : i < to) (hto : to ≤ 768) (hw : gs.2 8 i = nI w) (hw2 : w < 100) (hw6 : ¬ w = 6) (hr : gs.2 22 t = nI v) (hv : v < 2 ^ 30) (hvw : ¬ v = w) (ht : t < 2400) : rf_matchPlain_6 F (d + 1) gs (nI to) x4 (nI t) (nI i) = some (0, sI gs 41 (-1)) := by
  have hat : gs.2 8 (nI i).toNatClampNeg = nI w := cl_at hw
  have hr : gs.2 22 (nI t).toNatClampNeg = nI v := cl_at hr
  rw [rf_matchPlain_6]
  refine rc_leF rfl rfl hi ?_
  refine rc_in rfl (by omega) ?_
  refine rc_eqF (b := 6) hat rfl hw6 ?_
  refine rc_bd (isName_n hat hw2) ?_
  refine rc_eqE (a := 0) (b := 0) rfl rfl rfl ?_
  rw [rf_matchPlain_41]
  refine rc_eqE (a := 0) (b := 0) rfl rfl rfl ?_
  refine rc_in rfl (by omega) ?_
  refine rc_eqF hr hat hvw ?_
  rw [rf_matchPlain_84]
  exact rc_eqE (a := 0) (b := 0) rfl rfl rfl rfl
end MP
/-- what matching changes: where, places, reached -/
def mch (gs g2 : OS) : Prop := (∀ k, k ≠ 41 → g2.1 k = gs.1 k) ∧ ∀ k, k ≠ 29 → k ≠ 31 → g2.2 k = gs.2 k
theorem mch.rf {gs : OS} : mch gs gs := ⟨fun _ _ => rfl, fun _ _ _ => rfl⟩
theorem mch.tr {a b c : OS} (h : mch a b) (h2 : mch b c) : mch a c := ⟨fun k hk => (h2.1 k hk).trans (h.1 k hk), fun k hk hj => (h2.2 k hk hj).trans (h.2 k hk hj)⟩
theorem mch.b {gs : OS} {o : Option Nat} {c t : Nat} : mch gs (bnd gs o c t) := ⟨fun k hk => by rw [bnd_1], fun k h1 h2 => bnd_2 h1 h2⟩
theorem mch.i {a b : OS} {v : Int32} (h : mch a b) : mch a (sI b 41 v) := h.tr ⟨fun k hk => sI_n hk, fun _ _ _ => rfl⟩
/-- a term of y lies in the row from p on -/
def TA (gs : OS) (y : TSt) (p nd : Nat) : Prop := nd < x_z y ∧ p + (tkT y nd).length ≤ 2400 ∧ At (gs.2 22) p (tkT y nd) ∧ sml (tkT y nd)
/-- what was found is where the reference says -/
def MR (gs : OS) (y : TSt) (kf : Nat → Nat) (q : MSt) : Prop := ∀ c, c < 26 → (kf c = 1 → 0 < q.1 c → ∃ p, gs.2 29 c = nI p ∧ TA gs y p (q.2 c 0)) ∧ (kf c = 2 → ∀ k, k < q.1 c → ∃ p, gs.2 31 (64 * c + k) = nI p ∧ TA gs y p (q.2 c k))
theorem MR_cg {gs g2 : OS} {y : TSt} {kf : Nat → Nat} {q : MSt} (h : MR gs y kf q) (h1 : g2.2 29 = gs.2 29) (h2 : g2.2 31 = gs.2 31) (h3 : g2.2 22 = gs.2 22) : MR g2 y kf q := by
  intro c hc
  obtain ⟨a, b⟩ := h c hc
  unfold TA at a b ⊢
  rw [h1, h2, h3]
  exact ⟨a, b⟩
theorem bind_1 {gs : OS} {y : TSt} {kf : Nat → Nat} {q : MSt} {c t nd : Nat} (h : MR gs y kf q) (hc : c < 26) (hk : kf c = 1) (h0 : q.1 c = 0) (ht : TA gs y t nd) : m_bd c nd q = some (va_up q.1 c 1, m_put q.2 c 0 nd) ∧ MR (bnd gs none c t) y kf (va_up q.1 c 1, m_put q.2 c 0 nd) := by
  refine ⟨?_, fun c' hc' => ⟨fun hk' hp' => ?_, fun hk' k hk2 => ?_⟩⟩
  · unfold m_bd
    rw [if_pos (by omega), h0]
  · by_cases h9 : c' = c
    · subst h9
      refine ⟨t, ?_, ?_⟩
      · show (sA gs 29 (upd (gs.2 29) c' (nI t))).2 29 c' = nI t
        rw [sA_e]
        exact upd_e _ _ _
      · show TA (bnd gs none c' t) y t (m_put q.2 c' 0 nd c' 0)
        unfold TA m_put
        rw [va_up_self, va_up_self, bnd_2 (by decide) (by decide)]
        exact ht
    · have hp' : 0 < va_up q.1 c 1 c' := hp'
      rw [va_up_ne _ _ h9] at hp'
      obtain ⟨p, e1, e2⟩ := (h c' hc').1 hk' hp'
      refine ⟨p, ?_, ?_⟩
      · show (sA gs 29 (upd (gs.2 29) c (nI t))).2 29 c' = nI p
        rw [sA_e, upd_n h9]
        exact e1
      · show TA (bnd gs none c t) y p (m_put q.2 c 0 nd c' 0)
        unfold TA m_put at *
        rw [va_up_ne _ _ h9, bnd_2 (by decide) (by decide)]
        exact e2
  · have h9 : c' ≠ c := fun q9 => by rw [q9, hk] at hk'; cases hk'
    have hk2 : k < va_up q.1 c 1 c' := hk2
    rw [va_up_ne _ _ h9] at hk2
    obtain ⟨p, e1, e2⟩ := (h c' hc').2 hk' k hk2
    refine ⟨p, ?_, ?_⟩
    · show (sA gs 29 (upd (gs.2 29) c (nI t))).2 31 _ = nI p
      rw [sA_n (by decide)]
      exact e1
    · show TA (bnd gs none c t) y p (m_put q.2 c 0 nd c' k)
      unfold TA m_put at *
      rw [va_up_ne _ _ h9, bnd_2 (by decide) (by decide)]
      exact e2
theorem bind_2 {gs : OS} {y : TSt} {kf : Nat → Nat} {q : MSt} {c t nd n : Nat} (h : MR gs y kf q) (hc : c < 26) (hk : kf c = 2) (h0 : q.1 c = n) (hn : n < 60) (h60 : ∀ c, q.1 c ≤ 60) (ht : TA gs y t nd) : m_bd c nd q = some (va_up q.1 c (n + 1), m_put q.2 c n nd) ∧ MR (bnd gs (some n) c t) y kf (va_up q.1 c (n + 1), m_put q.2 c n nd) := by
  refine ⟨?_, fun c' hc' => ⟨fun hk' hp' => ?_, fun hk' k hk2 => ?_⟩⟩
  · unfold m_bd
    rw [if_pos (by omega), h0]
  · have h9 : c' ≠ c := fun q9 => by rw [q9, hk] at hk'; cases hk'
    have hp' : 0 < va_up q.1 c (n + 1) c' := hp'
    rw [va_up_ne _ _ h9] at hp'
    obtain ⟨p, e1, e2⟩ := (h c' hc').1 hk' hp'
    refine ⟨p, ?_, ?_⟩
    · show (sA gs 31 (upd (gs.2 31) (64 * c + n) (nI t))).2 29 c' = nI p
      rw [sA_n (by decide)]
      exact e1
    · show TA (bnd gs (some n) c t) y p (m_put q.2 c n nd c' 0)
      unfold TA m_put at *
      rw [va_up_ne _ _ h9, bnd_2 (by decide) (by decide)]
      exact e2
  · have hk2 : k < va_up q.1 c (n + 1) c' := hk2
    by_cases h9 : c' = c
    · subst h9
      rw [va_up_self] at hk2
      by_cases h8 : k = n
      · subst h8
        refine ⟨t, ?_, ?_⟩
        · show (sA gs 31 (upd (gs.2 31) (64 * c' + k) (nI t))).2 31 (64 * c' + k) = nI t
          rw [sA_e]
          exact upd_e _ _ _
        · show TA (bnd gs (some k) c' t) y t (m_put q.2 c' k nd c' k)
          unfold TA m_put
          rw [va_up_self, va_up_self, bnd_2 (by decide) (by decide)]
          exact ht
      · obtain ⟨p, e1, e2⟩ := (h c' hc').2 hk' k (by omega)
        refine ⟨p, ?_, ?_⟩
        · show (sA gs 31 (upd (gs.2 31) (64 * c' + n) (nI t))).2 31 (64 * c' + k) = nI p
          rw [sA_e, upd_n (by omega)]
          exact e1
        · show TA (bnd gs (some n) c' t) y p (m_put q.2 c' n nd c' k)
          unfold TA m_put at *
          rw [va_up_self, va_up_ne _ _ h8, bnd_2 (by decide) (by decide)]
          exact e2
    · rw [va_up_ne _ _ h9] at hk2
      obtain ⟨p, e1, e2⟩ := (h c' hc').2 hk' k hk2
      have := h60 c'
      refine ⟨p, ?_, ?_⟩
      · show (sA gs 31 (upd (gs.2 31) (64 * c + n) (nI t))).2 31 (64 * c' + k) = nI p
        rw [sA_e, upd_n (by omega)]
        exact e1
      · show TA (bnd gs (some n) c t) y p (m_put q.2 c n nd c' k)
        unfold TA m_put at *
        rw [va_up_ne _ _ h9, bnd_2 (by decide) (by decide)]
        exact e2
