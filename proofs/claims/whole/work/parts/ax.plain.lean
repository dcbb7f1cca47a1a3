/-! A plain term's text, read by rows. -/
def t_rl (cap s0 dm kd : Nat) : List Nat → TSt → Option TSt
  | [], x => some x
  | c :: C, x => (t_take cap s0 dm kd c x).bind (t_rl cap s0 dm kd C)
def dls (sg : Nat → Nat) (n : Nat) : Nat → Nat → List Nat
  | _, 0 => []
  | i, k + 1 => dch sg n i :: dls sg n (i + 1) k
theorem t_rds_rl {cap s0 dm kd n : Nat} {sg : Nat → Nat} : ∀ (k i : Nat) (x : TSt), t_rds cap s0 dm kd sg n i k x = t_rl cap s0 dm kd (dls sg n i k) x
  | 0, _, _ => rfl
  | k + 1, i, x => by
    show (match t_take cap s0 dm kd (dch sg n i) x with | none => none | some y => t_rds cap s0 dm kd sg n (i + 1) k y) = (t_take cap s0 dm kd (dch sg n i) x).bind (t_rl cap s0 dm kd (dls sg n (i + 1) k))
    cases t_take cap s0 dm kd (dch sg n i) x with
    | none => rfl
    | some y => exact t_rds_rl k (i + 1) y
/-- the class's draft -/
def Ds (sg : Nat → Nat) (n : Nat) (cs : List Nat) : Prop := n = cs.length ∧ ∀ i, i < n → sg i = cs.getD i 0
theorem dls_eq {sg : Nat → Nat} {n : Nat} {cs : List Nat} (h : Ds sg n cs) : ∀ (k i : Nat), i + k ≤ n → dls sg n i k = (cs.drop i).take k
  | 0, _, _ => rfl
  | k + 1, i, hi => by
    have h1 := h.1
    have hlt : i < cs.length := by omega
    have e1 : cs.drop i = cs[i] :: cs.drop (i + 1) := List.drop_eq_getElem_cons hlt
    have e2 : dch sg n i = cs[i] := by
      unfold dch
      rw [if_pos (by omega), h.2 i (by omega), List.getD_eq_getElem?_getD, List.getElem?_eq_getElem hlt]
      rfl
    show dch sg n i :: dls sg n (i + 1) k = _
    rw [e1, List.take_succ_cons, e2, dls_eq h k (i + 1) (by omega)]
theorem dls_all {sg : Nat → Nat} {n : Nat} {cs : List Nat} (h : Ds sg n cs) : dls sg n 0 n = cs := by
  rw [dls_eq h n 0 (by omega), List.drop_zero, h.1, List.take_length]
/-- signs and their tokens -/
theorem otk_cls (c : Nat) : (c = 40 ∧ o_tk c = 1) ∨ (c = 41 ∧ o_tk c = 2) ∨ ((c_nm c ∨ c_nu c ∨ c_kw c) ∧ lft (o_tk c)) ∨ ((c = 126 ∨ ¬ c_ok 0 c) ∧ ¬ c = 41 ∧ ¬ lft (o_tk c) ∧ ¬ o_tk c = 1 ∧ ¬ o_tk c = 2) := by
  by_cases h1 : c_nm c
  · right; right; left
    exact ⟨Or.inl h1, Or.inl (by rw [otk_nm h1]; omega)⟩
  · by_cases h2 : c_nu c
    · right; right; left
      refine ⟨Or.inr (Or.inl h2), Or.inr (Or.inr ?_)⟩
      unfold o_tk
      rw [if_neg h1, if_pos h2]
      omega
    · by_cases h3 : c = 40
      · left; exact ⟨h3, by rw [h3]; decide⟩
      · by_cases h4 : c = 41
        · right; left; exact ⟨h4, by rw [h4]; decide⟩
        · by_cases h5 : c_kw c
          · right; right; left
            refine ⟨Or.inr (Or.inr h5), Or.inr (Or.inl ?_)⟩
            rcases h5 with rfl | rfl | rfl <;> decide
          · right; right; right
            have hn : ¬ c_ok 0 c := by
              rintro (h | h | h | h | h)
              · exact h3 h
              · exact h1 h
              · exact h2 h
              · exact h5 h
              · exact absurd h.2 (by decide)
            have hv : o_tk c = 8 ∨ o_tk c = 6 ∨ o_tk c = 7 ∨ o_tk c = 0 := by
              unfold o_tk
              rw [if_neg h1, if_neg h2, if_neg h3, if_neg h4]
              by_cases g1 : c = 61
              · rw [if_pos g1]; exact Or.inl rfl
              · rw [if_neg g1, if_neg (fun q => h5 (Or.inr (Or.inl q))), if_neg (fun q => h5 (Or.inl q)), if_neg (fun q => h5 (Or.inr (Or.inr q)))]
                by_cases g2 : c = 95
                · rw [if_pos g2]; exact Or.inr (Or.inl rfl)
                · rw [if_neg g2]
                  by_cases g3 : c = 126
                  · rw [if_pos g3]; exact Or.inr (Or.inr (Or.inl rfl))
                  · rw [if_neg g3]; exact Or.inr (Or.inr (Or.inr rfl))
            refine ⟨Or.inr hn, h4, ?_, by omega, by omega⟩
            unfold lft
            omega
/-- behind a whole term nothing can be read -/
theorem rl_end {cap s0 dm kd : Nat} {C : List Nat} {x y : TSt} (h0 : x_dp x = 0) (hz : s0 < x_z x) (h : t_rl cap s0 dm kd C x = some y) : C = [] ∧ y = x := by
  cases C with
  | nil => cases h; exact ⟨rfl, rfl⟩
  | cons c C =>
    exfalso
    obtain ⟨w, hw, _⟩ := Option.bind_eq_some_iff.mp h
    unfold t_take at hw
    split at hw
    · unfold t_close at hw
      rw [if_pos h0] at hw
      cases hw
    · split at hw
      · split at hw
        · cases hw
        · unfold t_rep at hw
          split at hw
          · cases hw
          · rw [if_pos h0] at hw; cases hw
      · split at hw
        · unfold t_add at hw
          rw [if_neg (fun q => q.1 ⟨h0, hz⟩)] at hw
          cases hw
        · cases hw
/-- a whole term, and nothing behind it -/
theorem rl_done {cap s0 dm kd : Nat} {C : List Nat} {w : TSt} (h0 : x_dp w = 0) (hz : s0 < x_z w) : (∃ y, t_rl cap s0 dm kd C w = some y ∧ x_dp y = 0 ∧ s0 < x_z y) ↔ (some (C.map o_tk) : Option (List Nat)) = some [] := by
  constructor
  · rintro ⟨y, h1, _⟩
    rw [(rl_end h0 hz h1).1]
    rfl
  · intro h
    have : C = [] := List.map_eq_nil_iff.mp (Option.some.inj h)
    rw [this]
    exact ⟨w, rfl, h0, hz⟩
theorem rl0 {cap s0 : Nat} : ∀ (C : List Nat) (x : TSt), ((1 ≤ x_dp x ∧ s0 < x_z x) ∨ (x_z x = s0 ∧ x_dp x = 0)) → s0 ≤ x_z x → x_z x - s0 + C.length ≤ 60 → x_z x + C.length ≤ cap → ((∃ y, t_rl cap s0 8 0 C x = some y ∧ x_dp y = 0 ∧ s0 < x_z y) ↔ te (C.map o_tk) (x_dp x) = some [])
  | [], x, hs, hz, _, _ => by
    constructor
    · rintro ⟨y, h1, h2, h3⟩
      cases h1
      rcases hs with hs | hs <;> omega
    · intro h
      cases h
  | c :: C, x, hs, hz, h60, hcap => by
    rw [List.length_cons] at h60 hcap
    rw [List.map_cons]
    have hnw : ¬ (x_dp x = 0 ∧ s0 < x_z x) := by rintro ⟨a, b⟩; rcases hs with hs | hs <;> omega
    rcases otk_cls c with ⟨hc, ht⟩ | ⟨hc, ht⟩ | ⟨hc, ht⟩ | ⟨hc, h41, hlf, n1, n2⟩
    · -- (
      have et : t_take cap s0 8 0 c x = t_add cap s0 8 c 0 x := t_take_ad (by omega) (by omega) (Or.inl hc)
      by_cases h8 : 8 ≤ x_dp x
      · have e1 : t_add cap s0 8 c 0 x = none := by
          unfold t_add
          rw [if_neg (fun q => q.2.1 ⟨hc, h8⟩)]
        constructor
        · rintro ⟨y, h1, _⟩
          obtain ⟨w, hw, _⟩ := Option.bind_eq_some_iff.mp h1
          rw [et, e1] at hw
          cases hw
        · intro h
          rw [te, if_pos ht, if_pos h8] at h
          cases h
      · have hcan : t_can cap c (x_z x) s0 (x_dp x) 8 := ⟨hnw, fun q => h8 q.2, by omega, by omega⟩
        obtain ⟨w, hw⟩ : ∃ w, t_add cap s0 8 c 0 x = some w := ⟨_, by unfold t_add; rw [if_pos hcan]⟩
        obtain ⟨a1, a2, a3⟩ := t_add_z hw
        have ih := rl0 (cap := cap) (s0 := s0) C w (Or.inl ⟨by rw [a3 hc]; omega, by omega⟩) (by omega) (by omega) (by omega)
        have er : t_rl cap s0 8 0 (c :: C) x = t_rl cap s0 8 0 C w := by
          show (t_take cap s0 8 0 c x).bind _ = _
          rw [et, hw]
          rfl
        rw [er, ih, a3 hc, te, if_pos ht, if_neg h8]
    · -- )
      have et : t_take cap s0 8 0 c x = t_close x := by unfold t_take; rw [if_pos hc]
      by_cases h0 : x_dp x = 0
      · have e1 : t_close x = none := by unfold t_close; rw [if_pos h0]
        constructor
        · rintro ⟨y, h1, _⟩
          obtain ⟨w, hw, _⟩ := Option.bind_eq_some_iff.mp h1
          rw [et, e1] at hw
          cases hw
        · intro h
          rw [te, if_neg (by omega), if_pos ht, if_pos h0] at h
          cases h
      · obtain ⟨w, hw⟩ : ∃ w, t_close x = some w := ⟨_, by unfold t_close; rw [if_neg h0]⟩
        have hwz : x_z w = x_z x ∧ x_dp w = x_dp x - 1 := by
          unfold t_close at hw
          rw [if_neg h0] at hw
          cases hw
          exact ⟨rfl, rfl⟩
        have er : t_rl cap s0 8 0 (c :: C) x = t_rl cap s0 8 0 C w := by
          show (t_take cap s0 8 0 c x).bind _ = _
          rw [et, hw]
          rfl
        rw [er, te, if_neg (by omega), if_pos ht, if_neg h0]
        by_cases h1 : x_dp x = 1
        · rw [if_pos h1]
          exact rl_done (by omega) (by rcases hs with hs | hs <;> omega)
        · rw [if_neg h1]
          have ih := rl0 (cap := cap) (s0 := s0) C w (Or.inl ⟨by omega, by rcases hs with hs | hs <;> omega⟩) (by omega) (by omega) (by omega)
          rw [ih, hwz.2]
    · -- a leaf
      have hc40 : ¬ c = 40 := by
        rcases hc with h | h | h
        · omega
        · omega
        · rcases h with h | h | h <;> omega
      have hok : c_ok 0 c := by
        rcases hc with h | h | h
        · exact Or.inr (Or.inl h)
        · exact Or.inr (Or.inr (Or.inl h))
        · exact Or.inr (Or.inr (Or.inr (Or.inl h)))
      have h41 : ¬ c = 41 ∧ ¬ c = 126 := by
        rcases hc with h | h | h
        · omega
        · omega
        · rcases h with h | h | h <;> omega
      have et : t_take cap s0 8 0 c x = t_add cap s0 8 c 0 x := t_take_ad h41.1 h41.2 hok
      have n12 : ¬ o_tk c = 1 ∧ ¬ o_tk c = 2 := by
        have := ht
        unfold lft at this
        omega
      have hcan : t_can cap c (x_z x) s0 (x_dp x) 8 := ⟨hnw, fun q => hc40 q.1, by omega, by omega⟩
      obtain ⟨w, hw⟩ : ∃ w, t_add cap s0 8 c 0 x = some w := ⟨_, by unfold t_add; rw [if_pos hcan]⟩
      have hwz : x_z w = x_z x + 1 ∧ x_dp w = x_dp x := by
        unfold t_add at hw
        rw [if_pos hcan] at hw
        cases hw
        refine ⟨rfl, ?_⟩
        show (if c = 40 then x_dp x + 1 else x_dp x) = x_dp x
        rw [if_neg hc40]
      have er : t_rl cap s0 8 0 (c :: C) x = t_rl cap s0 8 0 C w := by
        show (t_take cap s0 8 0 c x).bind _ = _
        rw [et, hw]
        rfl
      rw [er, te, if_neg n12.1, if_neg n12.2, if_pos ht]
      by_cases h0 : x_dp x = 0
      · rw [if_pos h0]
        exact rl_done (by omega) (by omega)
      · rw [if_neg h0]
        have ih := rl0 (cap := cap) (s0 := s0) C w (Or.inl ⟨by omega, by omega⟩) (by omega) (by omega) (by omega)
        rw [ih, hwz.2]
    · have et : t_take cap s0 8 0 c x = none := by
        unfold t_take
        rw [if_neg h41]
        by_cases h126 : c = 126
        · rw [if_pos h126, if_pos rfl]
        · rw [if_neg h126, if_neg (hc.resolve_left h126)]
      constructor
      · rintro ⟨y, h1, _⟩
        obtain ⟨w, hw, _⟩ := Option.bind_eq_some_iff.mp h1
        rw [et] at hw
        cases hw
      · intro h
        rw [te, if_neg n1, if_neg n2, if_neg hlf] at h
        cases h
/-- the signs and stamps of what was read -/
def x_rd (kd s0 : Nat) (x : TSt) : Prop := ∀ i, s0 ≤ i → i < x_z x → c_ok kd (x_sg x i) ∧ x_st x i = 0
theorem take_rd {cap s0 dm kd c : Nat} {x y : TSt} (h : x_rd kd s0 x) (ht : t_take cap s0 dm kd c x = some y) : x_rd kd s0 y ∧ x_z y ≤ x_z x + 1 := by
  unfold t_take at ht
  split at ht
  · unfold t_close at ht
    split at ht
    · cases ht
    · cases ht; exact ⟨h, Nat.le_succ _⟩
  · split at ht
    · split at ht
      · cases ht
      · unfold t_rep at ht
        split at ht
        · cases ht
        · split at ht
          · cases ht
          · split at ht
            · cases ht; exact ⟨h, Nat.le_succ _⟩
            · cases ht
    · split at ht
      · rename_i hok
        unfold t_add at ht
        split at ht
        · cases ht
          refine ⟨fun i h1 h2 => ?_, Nat.le_refl _⟩
          show c_ok kd (va_up (x_sg x) (x_z x) c i) ∧ va_up (x_st x) (x_z x) 0 i = 0
          have h2 : i < x_z x + 1 := h2
          by_cases hq : i = x_z x
          · rw [hq, va_up_self, va_up_self]
            exact ⟨hok, rfl⟩
          · rw [va_up_ne _ _ hq, va_up_ne _ _ hq]
            exact h i h1 (by omega)
        · cases ht
      · cases ht
theorem rl_rd {cap s0 dm kd : Nat} : ∀ (C : List Nat) (x y : TSt), x_rd kd s0 x → t_rl cap s0 dm kd C x = some y → x_rd kd s0 y ∧ x_z y ≤ x_z x + C.length
  | [], x, y, h, hr => by cases hr; exact ⟨h, Nat.le_refl _⟩
  | c :: C, x, y, h, hr => by
    obtain ⟨w, hw, hr⟩ := Option.bind_eq_some_iff.mp hr
    have h1 := take_rd h hw
    have h2 := rl_rd C w y h1.1 hr
    refine ⟨h2.1, ?_⟩
    rw [List.length_cons]
    omega
/-- a text that was read: its tokens -/
theorem d_tk_dls {sg : Nat → Nat} {n : Nat} : ∀ (k i : Nat), d_tk sg n i k = (dls sg n i k).flatMap c_tk
  | 0, _ => rfl
  | k + 1, i => by
    show c_tk (dch sg n i) ++ d_tk sg n (i + 1) k = (dch sg n i :: dls sg n (i + 1) k).flatMap c_tk
    rw [List.flatMap_cons, d_tk_dls k (i + 1)]
theorem rl_signs {cap s0 dm kd : Nat} : ∀ (C : List Nat) (x y : TSt), t_rl cap s0 dm kd C x = some y → ∀ c, c ∈ C → c = 41 ∨ (c = 126 ∧ ¬ kd = 0) ∨ c_ok kd c
  | [], _, _, _ => fun c hc => by cases hc
  | c :: C, x, y, hr => fun c' hc' => by
    obtain ⟨w, hw, hr⟩ := Option.bind_eq_some_iff.mp hr
    rcases List.mem_cons.mp hc' with rfl | hc'
    · unfold t_take at hw
      split at hw
      · exact Or.inl (by assumption)
      · split at hw
        · split at hw
          · cases hw
          · exact Or.inr (Or.inl ⟨by assumption, by assumption⟩)
        · split at hw
          · exact Or.inr (Or.inr (by assumption))
          · cases hw
    · exact rl_signs C w y hr c' hc'
theorem c_tk_map {c : Nat} (h : c = 41 ∨ c_ok 0 c) : (c_tk c).map tkm = [o_tk c] := by
  unfold c_tk
  rcases h with h | h
  · rw [if_pos h, h]; decide
  · have h41 : ¬ c = 41 ∧ ¬ c = 126 := by
      rcases h with h | h | h | h | h
      · omega
      · omega
      · omega
      · rcases h with h | h | h <;> omega
      · exact absurd h.2 (by decide)
    rw [if_neg h41.1, if_neg h41.2]
    have htm : c_tm c := by
      rcases h with h | h | h | h | h
      · exact Or.inl h
      · exact Or.inr (Or.inl h)
      · exact Or.inr (Or.inr (Or.inl h))
      · exact Or.inr (Or.inr (Or.inr h))
      · exact absurd h.2 (by decide)
    show [tkm (some (c, 0))] = _
    by_cases hn : c_nm c
    · rw [tkm_nm hn, otk_nm hn]
      congr 1
      omega
    · rw [(otk_tm htm hn).1]
theorem flat_tk : ∀ (C : List Nat), (∀ c, c ∈ C → c = 41 ∨ c_ok 0 c) → (C.flatMap c_tk).map tkm = C.map o_tk
  | [], _ => rfl
  | c :: C, h => by
    rw [List.flatMap_cons, List.map_append, c_tk_map (h c List.mem_cons_self), flat_tk C (fun c h' => h c (List.mem_cons_of_mem _ h')), List.map_cons]
    rfl
/-- a plain text: it is a term, and what is known of it -/
theorem plain_ok {cap n : Nat} {sg : Nat → Nat} {cs : List Nat} {y : TSt} (hcap : 60 ≤ cap) (hd : Ds sg n cs) (hn : cs.length ≤ 60) : ((∃ y1, t_res cap 0 sg n 0 n (t_clr y) = some y1) ↔ te (cs.map o_tk) 0 = some []) ∧ ∀ y1, t_res cap 0 sg n 0 n (t_clr y) = some y1 → tkT y1 0 = cs.map o_tk ∧ 0 < x_z y1 ∧ x_z y1 ≤ 60 ∧ t_ok y1 ∧ ∀ i, i < x_z y1 → x_st y1 i = 0 := by
  have e1 : t_res cap 0 sg n 0 n (t_clr y) = match t_rl cap 0 8 0 cs (t_beg (t_clr y)) with
      | none => none
      | some y => if x_dp y = 0 ∧ 0 < x_z y then some y else none := by
    unfold t_res
    show (match t_rds cap 0 8 0 sg n 0 (n - 0) (t_beg (t_clr y)) with | none => none | some y => if x_dp y = 0 ∧ 0 < x_z y then some y else none) = _
    rw [t_rds_rl, Nat.sub_zero, dls_all hd]
  have hrl := rl0 (cap := cap) (s0 := 0) cs (t_beg (t_clr y)) (Or.inr ⟨rfl, rfl⟩) (Nat.zero_le _) (by show 0 - 0 + _ ≤ 60; omega) (by show 0 + _ ≤ cap; omega)
  refine ⟨?_, fun y1 h => ?_⟩
  · rw [show te (cs.map o_tk) 0 = te (cs.map o_tk) (x_dp (t_beg (t_clr y))) from rfl, ← hrl, e1]
    constructor
    · rintro ⟨y1, h⟩
      cases hr : t_rl cap 0 8 0 cs (t_beg (t_clr y)) with
      | none => rw [hr] at h; cases h
      | some w =>
        rw [hr] at h
        by_cases hq : x_dp w = 0 ∧ 0 < x_z w
        · exact ⟨w, rfl, hq.1, hq.2⟩
        · have h : (if x_dp w = 0 ∧ 0 < x_z w then some w else none) = some y1 := h
          rw [if_neg hq] at h; cases h
    · rintro ⟨w, h1, h2, h3⟩
      refine ⟨w, ?_⟩
      rw [h1]
      exact if_pos ⟨h2, h3⟩
  · have htk := t_res_tk (t_wf6_clr y) (fun i hi => absurd hi (Nat.not_lt_zero _)) h
    rw [e1] at h
    cases hr : t_rl cap 0 8 0 cs (t_beg (t_clr y)) with
    | none => rw [hr] at h; cases h
    | some w =>
      rw [hr] at h
      have h : (if x_dp w = 0 ∧ 0 < x_z w then some w else none) = some y1 := h
      by_cases hq : x_dp w = 0 ∧ 0 < x_z w
      · rw [if_pos hq] at h
        cases h
        have hrd := rl_rd cs _ _ (fun i _ hi => absurd hi (Nat.not_lt_zero _)) hr
        have hsg := rl_signs cs _ _ hr
        have hz : x_z y1 ≤ 0 + cs.length := hrd.2
        refine ⟨?_, hq.2, by omega, fun i hi => ?_, fun i hi => (hrd.1 i (Nat.zero_le _) hi).2⟩
        · have htk : tk_n y1 60 0 = d_tk sg n 0 (n - 0) := htk
          unfold tkT
          rw [htk, d_tk_dls, Nat.sub_zero, dls_all hd]
          refine flat_tk cs (fun c hc => ?_)
          rcases hsg c hc with h | h | h
          · exact Or.inl h
          · exact absurd rfl h.2
          · exact Or.inr h
        · have := (hrd.1 i (Nat.zero_le _) hi).1
          rcases this with h | h | h | h | h
          · exact Or.inl h
          · exact Or.inr (Or.inl h)
          · exact Or.inr (Or.inr (Or.inl h))
          · exact Or.inr (Or.inr (Or.inr h))
          · exact absurd h.2 (by decide)
      · rw [if_neg hq] at h; cases h
