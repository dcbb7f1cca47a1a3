/-! The reference's functions on states, walked by what is known of the state. -/
theorem rc_eqT {x y : Int32} {A B C : RO} (h : x = y) (k : A = C) : ci (x = y) A B = C := (ci_p h).trans k
theorem rc_eqF {x y : Int32} {A B C : RO} {a b : Nat} (ex : x = nI a) (ey : y = nI b) (h : ¬ a = b) (k : B = C) (ha : a < 2 ^ 31 := by omega) (hb : b < 2 ^ 31 := by omega) : ci (x = y) A B = C := (ci_n (fun q => h (nI_inj ha hb (by rw [← ex, ← ey]; exact q)))).trans k
theorem rc_eqE {x y : Int32} {A B C : RO} {a b : Nat} (ex : x = nI a) (ey : y = nI b) (h : a = b) (k : A = C) : ci (x = y) A B = C := (ci_p (by rw [ex, ey, h])).trans k
theorem rc_ltT {x y : Int32} {A B C : RO} {a b : Nat} (ex : x = nI a) (ey : y = nI b) (h : a < b) (k : A = C) (hb : b < 2 ^ 31 := by omega) : ci (x < y) A B = C := (ci_p (by rw [ex, ey]; exact nI_lt h hb)).trans k
theorem rc_ltF {x y : Int32} {A B C : RO} {a b : Nat} (ex : x = nI a) (ey : y = nI b) (h : b ≤ a) (k : B = C) (ha : a < 2 ^ 31 := by omega) : ci (x < y) A B = C := (ci_n (by rw [ex, ey]; exact nI_nlt h ha)).trans k
theorem rc_leT {x y : Int32} {A B C : RO} {a b : Nat} (ex : x = nI a) (ey : y = nI b) (h : a ≤ b) (k : A = C) (hb : b < 2 ^ 31 := by omega) : ci (x ≤ y) A B = C := (ci_p (by rw [ex, ey]; exact nI_le h hb)).trans k
theorem rc_leF {x y : Int32} {A B C : RO} {a b : Nat} (ex : x = nI a) (ey : y = nI b) (h : b < a) (k : B = C) (ha : a < 2 ^ 31 := by omega) : ci (x ≤ y) A B = C := (ci_n (by rw [ex, ey]; exact nI_ge h ha)).trans k
theorem rc_in {x : Int32} {A C : RO} {a n : Nat} (ex : x = nI a) (h : a < n) (k : A = C) (hn : n < 2 ^ 31 := by omega) : gd (vp_in x n) A = C := (gd_t (by rw [ex]; exact vp_in_nI h hn)).trans k
theorem rc_ib {x : Int32} {A C : RO} (h : ib x) (k : A = C) : gd (ib x) A = C := (gd_t h).trans k
theorem rc_bd {x : RO} {f : Int32 → OS → RO} {C : RO} {r1 : Int32} {g1 : OS} (h : x = some (r1, g1)) (k : f r1 g1 = C) : bd x f = C := (bd_k h).trans k
theorem rc_pT {p : Prop} {A B C : RO} (h : p) (k : A = C) : ci p A B = C := (ci_p h).trans k
theorem rc_pF {p : Prop} {A B C : RO} (h : ¬ p) (k : B = C) : ci p A B = C := (ci_n h).trans k
theorem cl_at {f : Nat → Int32} {p : Nat} {v : Int32} (h : f p = v) (hp : p < 2 ^ 31 := by omega) : f (nI p).toNatClampNeg = v := by rw [nI_clamp hp]; exact h
theorem cl_ax {f : Nat → Int32} {p : Nat} {x v : Int32} (ex : x = nI p) (h : f p = v) (hp : p < 2 ^ 31 := by omega) : f x.toNatClampNeg = v := by rw [ex, nI_clamp hp]; exact h
theorem nI_p1 {x : Int32} {a : Nat} (h : x = nI a) : x + 1 = nI (a + 1) := by rw [h]; exact nI_1 a
theorem nI_q1 {x : Int32} {a : Nat} (h : x = nI (a + 1)) : x + (-1) = nI a := by
  rw [h, nI_m1 rfl]
  rfl
theorem nI_s1 {x : Int32} {a : Nat} (h : x = nI (a + 1)) : x - 1 = nI a := by rw [h]; exact nI_pred a
/-- ints and rows of a changed state -/
theorem sI_e (gs : OS) (k : Nat) (v : Int32) : (sI gs k v).1 k = v := va_up_self _ _ _
theorem sI_n {gs : OS} {k j : Nat} {v : Int32} (h : j ≠ k) : (sI gs k v).1 j = gs.1 j := va_up_ne _ _ h
theorem sA_e (gs : OS) (k : Nat) (v : Nat → Int32) : (sA gs k v).2 k = v := va_up_self _ _ _
theorem sA_n {gs : OS} {k j : Nat} {v : Nat → Int32} (h : j ≠ k) : (sA gs k v).2 j = gs.2 j := va_up_ne _ _ h
/-- a row holds these tokens from p on -/
def At (f : Nat → Int32) : Nat → List Nat → Prop
  | _, [] => True
  | p, t :: r => f p = nI t ∧ At f (p + 1) r
theorem At_l {f : Nat → Int32} : ∀ {p : Nat} {a b : List Nat}, At f p (a ++ b) → At f p a
  | _, [], _, _ => trivial
  | _, _ :: _, _, h => ⟨h.1, At_l h.2⟩
theorem At_r {f : Nat → Int32} : ∀ {p : Nat} {a b : List Nat}, At f p (a ++ b) → At f (p + a.length) b
  | _, [], _, h => h
  | p, t :: a, _, h => by
    have := At_r h.2
    rw [List.length_cons]
    rwa [show p + (a.length + 1) = p + 1 + a.length by omega]
theorem At_app {f : Nat → Int32} : ∀ {p : Nat} {a b : List Nat}, At f p a → At f (p + a.length) b → At f p (a ++ b)
  | _, [], _, _, h => h
  | p, t :: a, _, h, h2 => ⟨h.1, At_app h.2 (by rw [List.length_cons] at h2; rwa [show p + 1 + a.length = p + (a.length + 1) by omega])⟩
theorem At_cg {f g : Nat → Int32} : ∀ {p : Nat} {a : List Nat}, At f p a → (∀ i, p ≤ i → i < p + a.length → f i = g i) → At g p a
  | _, [], _, _ => trivial
  | p, t :: a, h, hh => ⟨(hh p (Nat.le_refl _) (by rw [List.length_cons]; omega)).symm.trans h.1, At_cg h.2 (fun i q1 q2 => hh i (by omega) (by rw [List.length_cons]; omega))⟩
theorem At_upd {f : Nat → Int32} {p i : Nat} {v : Int32} {a : List Nat} (h : At f p a) (hi : i < p ∨ p + a.length ≤ i) : At (upd f i v) p a := At_cg h (fun j q1 q2 => by
  have : j ≠ i := by omega
  unfold upd
  rw [if_neg this])
/-- the level behind the tokens, l lists being begun -/
def lvl : List Nat → Nat → Option Nat
  | [], l => some l
  | t :: r, l => if t = 1 then lvl r (l + 1) else if t = 2 then (if l = 0 then none else lvl r (l - 1)) else lvl r l
theorem lvl_app : ∀ (a b : List Nat) (l : Nat), lvl (a ++ b) l = (lvl a l).bind (lvl b)
  | [], b, l => rfl
  | t :: a, b, l => by
    show (if t = 1 then lvl (a ++ b) (l + 1) else if t = 2 then (if l = 0 then none else lvl (a ++ b) (l - 1)) else lvl (a ++ b) l) = (if t = 1 then lvl a (l + 1) else if t = 2 then (if l = 0 then none else lvl a (l - 1)) else lvl a l).bind (lvl b)
    by_cases h1 : t = 1
    · rw [if_pos h1, if_pos h1, lvl_app]
    · rw [if_neg h1, if_neg h1]
      by_cases h2 : t = 2
      · rw [if_pos h2, if_pos h2]
        by_cases h3 : l = 0
        · rw [if_pos h3, if_pos h3]; rfl
        · rw [if_neg h3, if_neg h3, lvl_app]
      · rw [if_neg h2, if_neg h2, lvl_app]
theorem lvl_sh : ∀ (a : List Nat) (l m k : Nat), lvl a l = some m → lvl a (l + k) = some (m + k)
  | [], l, m, k, h => by cases h; rfl
  | t :: a, l, m, k, h => by
    unfold lvl at h ⊢
    by_cases h1 : t = 1
    · rw [if_pos h1] at h ⊢
      have := lvl_sh a _ _ k h
      rwa [show l + 1 + k = l + k + 1 by omega] at this
    · rw [if_neg h1] at h ⊢
      by_cases h2 : t = 2
      · rw [if_pos h2] at h ⊢
        by_cases h3 : l = 0
        · rw [if_pos h3] at h; cases h
        · rw [if_neg h3] at h
          rw [if_neg (by omega)]
          have := lvl_sh a _ _ k h
          rwa [show l - 1 + k = l + k - 1 by omega] at this
      · rw [if_neg h2] at h ⊢
        exact lvl_sh a _ _ k h
/-- a term's tokens -/
def tmm (T : List Nat) : Prop := (∃ t, T = [t] ∧ ¬ t = 1 ∧ ¬ t = 2) ∨ ∃ B, T = 1 :: (B ++ [2]) ∧ lvl B 0 = some 0
theorem tmm_lvl {T : List Nat} (h : tmm T) (l : Nat) : lvl T l = some l := by
  rcases h with ⟨t, rfl, h1, h2⟩ | ⟨B, rfl, hB⟩
  · show (if t = 1 then lvl [] (l + 1) else if t = 2 then (if l = 0 then none else lvl [] (l - 1)) else lvl [] l) = _
    rw [if_neg h1, if_neg h2]
    rfl
  · show lvl (B ++ [2]) (l + 1) = _
    have := lvl_sh B 0 0 (l + 1) hB
    rw [lvl_app, show l + 1 = 0 + (l + 1) by omega, this]
    show (if 0 + (l + 1) = 0 then none else lvl [] (0 + (l + 1) - 1)) = _
    rw [if_neg (by omega)]
    show some (0 + (l + 1) - 1) = some l
    congr 1
    omega
theorem tmm_sk {T : List Nat} (h : tmm T) (r : List Nat) : sk (T ++ r) 0 = r := by
  have key : ∀ (B r : List Nat) (l m : Nat), lvl B l = some m → sk (B ++ r) (l + 1) = sk r (m + 1) := by
    intro B
    induction B with
    | nil => intro r l m h; cases h; rfl
    | cons t B ih =>
      intro r l m h
      unfold lvl at h
      show (if t = 1 then sk (B ++ r) (l + 1 + 1) else if t = 2 then (if l + 1 ≤ 1 then B ++ r else sk (B ++ r) (l + 1 - 1)) else if l + 1 = 0 then B ++ r else sk (B ++ r) (l + 1)) = _
      by_cases h1 : t = 1
      · rw [if_pos h1] at h ⊢
        exact ih r _ _ h
      · rw [if_neg h1] at h ⊢
        by_cases h2 : t = 2
        · rw [if_pos h2] at h ⊢
          by_cases h3 : l = 0
          · rw [if_pos h3] at h; cases h
          · rw [if_neg h3] at h
            rw [if_neg (by omega)]
            have := ih r _ _ h
            rwa [show l - 1 + 1 = l + 1 - 1 by omega] at this
        · rw [if_neg h2] at h ⊢
          rw [if_neg (by omega)]
          exact ih r _ _ h
  rcases h with ⟨t, rfl, h1, h2⟩ | ⟨B, rfl, hB⟩
  · show (if t = 1 then sk ([] ++ r) (0 + 1) else if t = 2 then (if 0 ≤ 1 then [] ++ r else sk ([] ++ r) (0 - 1)) else if 0 = 0 then [] ++ r else sk ([] ++ r) 0) = _
    rw [if_neg h1, if_neg h2, if_pos rfl]
    rfl
  · show sk ((B ++ [2]) ++ r) (0 + 1) = r
    rw [List.append_assoc, key B _ 0 0 hB]
    rfl
/-- the first term of tokens that close all begun lists -/
theorem fst_cl : ∀ (L : List Nat) (k l : Nat), lvl L (k + 1 + l) = some 0 → ∃ B R, L = B ++ 2 :: R ∧ lvl B k = some 0 ∧ lvl R l = some 0
  | [], k, l, h => absurd (Option.some.inj h) (by omega)
  | t :: L, k, l, h => by
    unfold lvl at h
    by_cases h1 : t = 1
    · rw [if_pos h1] at h
      obtain ⟨B, R, e, hB, hR⟩ := fst_cl L (k + 1) l (by rw [← h]; congr 1; omega)
      refine ⟨t :: B, R, by rw [e]; rfl, ?_, hR⟩
      unfold lvl
      rw [if_pos h1]
      exact hB
    · rw [if_neg h1] at h
      by_cases h2 : t = 2
      · rw [if_pos h2, if_neg (by omega)] at h
        cases k with
        | zero => exact ⟨[], L, by rw [h2]; rfl, rfl, by rw [← h]; congr 1; omega⟩
        | succ k =>
          obtain ⟨B, R, e, hB, hR⟩ := fst_cl L k l (by rw [← h]; congr 1; omega)
          refine ⟨t :: B, R, by rw [e]; rfl, ?_, hR⟩
          unfold lvl
          rw [if_neg h1, if_pos h2, if_neg (by omega)]
          exact hB
      · rw [if_neg h2] at h
        obtain ⟨B, R, e, hB, hR⟩ := fst_cl L k l h
        refine ⟨t :: B, R, by rw [e]; rfl, ?_, hR⟩
        unfold lvl
        rw [if_neg h1, if_neg h2]
        exact hB
theorem fst_tm {t l : Nat} {r : List Nat} (h : lvl (t :: r) l = some 0) (h2 : ¬ t = 2) : ∃ T R, t :: r = T ++ R ∧ tmm T ∧ sk (t :: r) 0 = R ∧ lvl R l = some 0 ∧ T.head? = some t := by
  by_cases h1 : t = 1
  · unfold lvl at h
    rw [if_pos h1] at h
    obtain ⟨B, R, e, hB, hR⟩ := fst_cl r 0 l (by rw [← h]; congr 1; omega)
    have hT : tmm (1 :: (B ++ [2])) := Or.inr ⟨B, rfl, hB⟩
    have e2 : t :: r = (1 :: (B ++ [2])) ++ R := by rw [h1, e]; simp
    refine ⟨_, R, e2, hT, ?_, hR, by rw [h1]; rfl⟩
    rw [e2]
    exact tmm_sk hT R
  · have hT : tmm [t] := Or.inl ⟨t, rfl, h1, h2⟩
    refine ⟨[t], r, rfl, hT, ?_, ?_, rfl⟩
    · exact tmm_sk hT r
    · unfold lvl at h
      rw [if_neg h1, if_neg h2] at h
      exact h
/-- tokens that are small -/
def sml (l : List Nat) : Prop := ∀ t, t ∈ l → t < 2 ^ 30
theorem sml_l {a b : List Nat} (h : sml (a ++ b)) : sml a := fun t ht => h t (List.mem_append_left _ ht)
theorem sml_r {a b : List Nat} (h : sml (a ++ b)) : sml b := fun t ht => h t (List.mem_append_right _ ht)
theorem sml_t {t : Nat} {b : List Nat} (h : sml (t :: b)) : sml b := fun q hq => h q (List.mem_cons_of_mem _ hq)
theorem sml_h {t : Nat} {b : List Nat} (h : sml (t :: b)) : t < 2 ^ 30 := h t List.mem_cons_self
theorem sml_app {a b : List Nat} (h : sml a) (h2 : sml b) : sml (a ++ b) := fun t ht => (List.mem_append.mp ht).elim (h t) (h2 t)
/-- skip's loop passes tokens -/
theorem skip_lp {F : Nat} {gs : OS} : ∀ (B : List Nat) (l0 l1 p d b : Nat), lvl B l0 = some l1 → At (gs.2 22) p B → sml B → p + B.length ≤ 2400 → 1 ≤ b → b + l0 + B.length ≤ 9999 → rf_skip_20 F (d + B.length) gs (nI p) (nI (b + l0)) = rf_skip_20 F d gs (nI (p + B.length)) (nI (b + l1))
  | [], l0, l1, p, d, b, h, _, _, _, _, _ => by cases h; rfl
  | t :: B, l0, l1, p, d, b, h, ha, hs, hp, hb, hl => by
    rw [List.length_cons] at hp hl ⊢
    have ht := sml_h hs
    have hat : gs.2 22 (nI p).toNatClampNeg = nI t := cl_at ha.1
    unfold lvl at h
    rw [show d + (B.length + 1) = (d + B.length) + 1 by omega, rf_skip_20]
    refine rc_leF (b := 0) rfl rfl (by omega) ?_
    refine rc_in rfl (by omega) ?_
    by_cases h1 : t = 1
    · rw [if_pos h1] at h
      refine rc_eqE (b := 1) hat rfl h1 ?_
      rw [rf_skip_37]
      refine rc_in rfl (by omega) ?_
      refine rc_eqF (b := 2) hat rfl (by omega) ?_
      rw [rf_skip_50, nI_1, nI_1]
      have := skip_lp (F := F) B (l0 + 1) l1 (p + 1) d b h ha.2 (sml_t hs) (by omega) hb (by omega)
      rw [show b + l0 + 1 = b + (l0 + 1) by omega, this]
      congr 2
      omega
    · rw [if_neg h1] at h
      refine rc_eqF (b := 1) hat rfl h1 ?_
      rw [rf_skip_37]
      refine rc_in rfl (by omega) ?_
      by_cases h2 : t = 2
      · rw [if_pos h2] at h
        by_cases h3 : l0 = 0
        · rw [if_pos h3] at h; cases h
        · rw [if_neg h3] at h
          refine rc_eqE (b := 2) hat rfl h2 ?_
          rw [rf_skip_50, nI_1, nI_q1 (a := b + (l0 - 1)) (by congr 1; omega)]
          have := skip_lp (F := F) B (l0 - 1) l1 (p + 1) d b h ha.2 (sml_t hs) (by omega) hb (by omega)
          rw [this]
          congr 2
          omega
      · rw [if_neg h2] at h
        refine rc_eqF (b := 2) hat rfl h2 ?_
        rw [rf_skip_50, nI_1]
        have := skip_lp (F := F) B l0 l1 (p + 1) d b h ha.2 (sml_t hs) (by omega) hb (by omega)
        rw [this]
        congr 2
        omega
theorem skip_ok {F : Nat} {gs : OS} {T : List Nat} {p : Nat} {x : Int32} (hF : 5000 ≤ F) (hx : x = nI p) (hT : tmm T) (ha : At (gs.2 22) p T) (hs : sml T) (hp : p + T.length ≤ 2400) : rf_skip F gs x = some (nI (p + T.length), gs) := by
  rw [hx]
  rcases hT with ⟨t, rfl, h1, h2⟩ | ⟨B, rfl, hB⟩
  · have ht := sml_h hs
    have hp : p + 1 ≤ 2400 := hp
    rw [rf_skip]
    refine rc_in rfl (by omega) ?_
    refine rc_eqF (b := 1) (cl_at ha.1) rfl h1 ?_
    rw [nI_1]
    rfl
  · have e : (1 :: (B ++ [2])).length = B.length + 2 := by simp
    rw [e] at hp ⊢
    rw [rf_skip]
    refine rc_in rfl (by omega) ?_
    refine rc_eqE (b := 1) (cl_at ha.1) rfl rfl ?_
    rw [nI_1]
    have hl : lvl (B ++ [2]) 1 = some 0 := by
      have := lvl_sh B 0 0 1 hB
      rw [lvl_app, show (1 : Nat) = 0 + 1 by rfl, this]
      rfl
    obtain ⟨d, hd⟩ : ∃ d, F = (d + 1 + 1) + B.length := ⟨F - B.length - 2, by omega⟩
    have h1 := skip_lp (F := F) B 0 0 (p + 1) (d + 1 + 1) 1 hB (At_l ha.2) (sml_l (sml_t hs)) (by omega) (by omega) (by omega)
    have e1 : rf_skip_20 F F gs (nI (p + 1)) 1 = rf_skip_20 F ((d + 1 + 1) + B.length) gs (nI (p + 1)) (nI (1 + 0)) := by rw [← hd]; rfl
    rw [e1, h1, rf_skip_20]
    have hat : gs.2 22 (nI (p + 1 + B.length)).toNatClampNeg = nI 2 := cl_at (At_r ha.2).1
    refine rc_leF (b := 0) rfl rfl (by omega) ?_
    refine rc_in rfl (by omega) ?_
    refine rc_eqF (b := 1) hat rfl (by omega) ?_
    rw [rf_skip_37]
    refine rc_in rfl (by omega) ?_
    refine rc_eqE (b := 2) hat rfl rfl ?_
    rw [rf_skip_50, nI_1, nI_q1 (a := 0) rfl, rf_skip_20]
    refine rc_leT (a := 0) (b := 0) rfl rfl (Nat.le_refl _) ?_
    congr 3
    omega
