/-! The reference's expansion on states and that on lists of tokens. -/
/-- a stack, its top first -/
def Bk (f : Nat → Int32) : List Nat → Prop
  | [] => True
  | b :: r => f r.length = nI b ∧ Bk f r
theorem Bk_cg {f g : Nat → Int32} : ∀ {a : List Nat}, Bk f a → (∀ i, i < a.length → f i = g i) → Bk g a
  | [], _, _ => trivial
  | b :: a, h, hh => ⟨(hh _ (by rw [List.length_cons]; omega)).symm.trans h.1, Bk_cg h.2 (fun i q => hh i (by rw [List.length_cons]; omega))⟩
theorem upd_e (f : Nat → Int32) (i : Nat) (v : Int32) : upd f i v i = v := by unfold upd; rw [if_pos rfl]
theorem upd_n {f : Nat → Int32} {i j : Nat} {v : Int32} (h : j ≠ i) : upd f i v j = f j := by unfold upd; rw [if_neg h]
theorem Bk_push {f : Nat → Int32} {a : List Nat} {b : Nat} (h : Bk f a) : Bk (upd f a.length (nI b)) (b :: a) := ⟨upd_e _ _ _, Bk_cg h (fun i q => (upd_n (by omega)).symm)⟩
/-- how many of the begun lists bind -/
def bcn : List Nat → Nat
  | [] => 0
  | b :: r => (if b = 1 then 1 else 0) + bcn r
theorem bcn_le : ∀ a : List Nat, bcn a ≤ a.length
  | [] => Nat.le_refl _
  | b :: a => by
    have := bcn_le a
    rw [List.length_cons]
    unfold bcn
    split <;> omega
/-- what an expansion leaves as it is -/
def fr (gs g2 : OS) : Prop := (∀ k, k < 21 → g2.1 k = gs.1 k) ∧ ∀ k, k < 21 → g2.2 k = gs.2 k
theorem fr.rf {gs : OS} : fr gs gs := ⟨fun _ _ => rfl, fun _ _ => rfl⟩
theorem fr.tr {a b c : OS} (h : fr a b) (h2 : fr b c) : fr a c := ⟨fun k hk => (h2.1 k hk).trans (h.1 k hk), fun k hk => (h2.2 k hk).trans (h.2 k hk)⟩
theorem fr.i {a b : OS} {k : Nat} {v : Int32} (h : fr a b) (hk : 21 ≤ k) : fr a (sI b k v) := h.tr ⟨fun j hj => sI_n (by omega), fun j hj => rfl⟩
theorem fr.a {a b : OS} {k : Nat} {v : Nat → Int32} (h : fr a b) (hk : 21 ≤ k) : fr a (sA b k v) := h.tr ⟨fun j hj => rfl, fun j hj => sA_n (by omega)⟩
/-- marks put one after the other: how many there are, which, whether one was too many -/
abbrev MS : Type := Nat × (Nat → Int32) × Nat
def pm1 (m : Int32) (s : MS) : MS := if s.2.2 = 0 ∧ s.1 < 150 then (s.1 + 1, upd s.2.1 s.1 m, 0) else (s.1, s.2.1, 3)
def pm : List Int32 → MS → MS
  | [], s => s
  | m :: r, s => pm r (pm1 m s)
theorem pm_app : ∀ (a b : List Int32) (s : MS), pm (a ++ b) s = pm b (pm a s)
  | [], _, _ => rfl
  | m :: a, b, s => pm_app a b _
theorem pm1_3 {m : Int32} {s : MS} (h : ¬ s.2.2 = 0) : pm1 m s = (s.1, s.2.1, 3) := if_neg (fun q => h q.1)
theorem pm_3 : ∀ (a : List Int32) (s : MS), s.2.2 = 3 → (pm a s).2.2 = 3
  | [], _, h => h
  | m :: a, s, h => by
    show (pm a (pm1 m s)).2.2 = 3
    rw [pm1_3 (by rw [h]; decide)]
    exact pm_3 a _ rfl
/-- the marks of a state -/
def MK (gs : OS) (s : MS) : Prop := gs.1 38 = nI s.1 ∧ s.1 ≤ 150 ∧ gs.1 40 = nI s.2.2 ∧ (s.2.2 = 0 ∨ s.2.2 = 3) ∧ ∀ i, i < s.1 → gs.2 39 i = s.2.1 i
/-- all but the marks stays -/
def sm (gs g2 : OS) : Prop := (∀ k, k ≠ 38 → k ≠ 40 → g2.1 k = gs.1 k) ∧ ∀ k, k ≠ 39 → g2.2 k = gs.2 k
theorem sm.rf {gs : OS} : sm gs gs := ⟨fun _ _ _ => rfl, fun _ _ => rfl⟩
theorem sm.tr {a b c : OS} (h : sm a b) (h2 : sm b c) : sm a c := ⟨fun k hk hj => (h2.1 k hk hj).trans (h.1 k hk hj), fun k hk => (h2.2 k hk).trans (h.2 k hk)⟩
theorem sm.fr {a b : OS} (h : sm a b) : fr a b := ⟨fun k hk => h.1 k (by omega) (by omega), fun k hk => h.2 k (by omega)⟩
theorem MK_cg {gs g2 : OS} {s : MS} (h : MK gs s) (h1 : g2.1 38 = gs.1 38) (h2 : g2.1 40 = gs.1 40) (h3 : g2.2 39 = gs.2 39) : MK g2 s := by
  obtain ⟨a, b, c, d, e⟩ := h
  exact ⟨h1.trans a, b, h2.trans c, d, fun i hi => by rw [h3]; exact e i hi⟩
theorem put_ok {F : Nat} {gs : OS} {s : MS} {m : Int32} (h : MK gs s) : ∃ g2, rf_put F gs m = some (0, g2) ∧ sm gs g2 ∧ MK g2 (pm1 m s) := by
  obtain ⟨a, b, c, d, e⟩ := h
  by_cases hf : s.1 = 150
  · have e1 : pm1 m s = (s.1, s.2.1, 3) := if_neg (by omega)
    refine ⟨sI gs 40 3, ?_, ⟨fun k h1 h2 => sI_n h2, fun _ _ => rfl⟩, ?_⟩
    · rw [rf_put]
      refine rc_eqE (b := 150) a rfl hf ?_
      rw [rf_put_15]
      exact rc_eqF (a := 3) (b := 0) (sI_e _ _ _) rfl (by decide) rfl
    · rw [e1]
      exact ⟨(sI_n (by decide)).trans a, b, sI_e _ _ _, Or.inr rfl, e⟩
  · rw [rf_put]
    rcases d with d | d
    · have e1 : pm1 m s = (s.1 + 1, upd s.2.1 s.1 m, 0) := if_pos ⟨d, by omega⟩
      rw [e1]
      refine ⟨_, rc_eqF (b := 150) a rfl hf (by rw [rf_put_15]; exact rc_eqE (b := 0) c rfl d (rc_in a (by omega) rfl)), ?_, ?_⟩
      · refine ⟨fun k h1 h2 => ?_, fun k h1 => ?_⟩
        · exact sI_n h1
        · exact sA_n h1
      · refine ⟨(show (sI gs 38 (gs.1 38 + 1)).1 38 = _ from (sI_e _ _ _).trans (nI_p1 a)), by show s.1 + 1 ≤ 150; omega, (show (sI gs 38 (gs.1 38 + 1)).1 40 = _ from (sI_n (by decide)).trans (by rw [c, d])), Or.inl rfl, ?_⟩
        intro i hi
        have e2 : (sA (sI gs 38 (gs.1 38 + 1)) 39 (upd (gs.2 39) (gs.1 38).toNatClampNeg m)).2 39 = upd (gs.2 39) (gs.1 38).toNatClampNeg m := sA_e _ _ _
        rw [e2, a, nI_clamp (by omega)]
        show upd (gs.2 39) s.1 m i = upd s.2.1 s.1 m i
        by_cases h9 : i = s.1
        · rw [h9, upd_e, upd_e]
        · rw [upd_n h9, upd_n h9]
          exact e i (by have hi : i < s.1 + 1 := hi; omega)
    · have e1 : pm1 m s = (s.1, s.2.1, 3) := if_neg (by omega)
      rw [e1]
      exact ⟨gs, rc_eqF (b := 150) a rfl hf (by rw [rf_put_15]; exact rc_eqF (a := 3) (b := 0) (c.trans (by rw [d])) rfl (by decide) rfl), sm.rf, a, b, c.trans (by rw [d]), Or.inr rfl, e⟩
theorem isName_y {F : Nat} {gs : OS} {x : Int32} {t : Nat} (hx : x = nI t) (h : 100 ≤ t) (ht : t < 2 ^ 31 := by omega) : rf_isName F gs x = some (1, gs) := by
  rw [rf_isName]
  refine rc_ltF (b := 100) hx rfl h ?_
  rw [rf_isName_11]
  exact rc_ib (Or.inr rfl) rfl
theorem isName_n {F : Nat} {gs : OS} {x : Int32} {t : Nat} (hx : x = nI t) (h : t < 100) : rf_isName F gs x = some (0, gs) := by
  rw [rf_isName]
  refine rc_ltT (b := 100) hx rfl h ?_
  rw [rf_isName_11]
  exact rc_ib (Or.inl rfl) rfl
theorem isKey_y {F : Nat} {gs : OS} {x : Int32} {t : Nat} (hx : x = nI t) (h : 3 ≤ t ∧ t ≤ 5) : rf_isKeyword F gs x = some (1, gs) := by
  rw [rf_isKeyword]
  refine rc_ltF (b := 3) hx rfl h.1 ?_
  refine rc_ltF (a := 5) rfl hx h.2 ?_
  rw [rf_isKeyword_15]
  exact rc_ib (Or.inr rfl) rfl
theorem isKey_n {F : Nat} {gs : OS} {x : Int32} {t : Nat} (hx : x = nI t) (h : ¬ (3 ≤ t ∧ t ≤ 5)) (ht : t < 2 ^ 31 := by omega) : rf_isKeyword F gs x = some (0, gs) := by
  have e : rf_isKeyword_14 F gs = some (0, gs) := by
    rw [rf_isKeyword_14, rf_isKeyword_15]
    exact rc_ib (Or.inl rfl) rfl
  rw [rf_isKeyword]
  by_cases h1 : t < 3
  · exact rc_ltT (b := 3) hx rfl h1 e
  · refine rc_ltF (b := 3) hx rfl (by omega) ?_
    exact rc_ltT (a := 5) rfl hx (by omega) e
theorem isNum_y {F : Nat} {gs : OS} {x : Int32} {t : Nat} (hx : x = nI t) (h : 10 ≤ t ∧ t < 100) : rf_isNumeral F gs x = some (1, gs) := by
  rw [rf_isNumeral]
  refine rc_ltF (b := 10) hx rfl h.1 ?_
  refine rc_leF (a := 100) rfl hx h.2 ?_
  rw [rf_isNumeral_17]
  exact rc_ib (Or.inr rfl) rfl
theorem isNum_n {F : Nat} {gs : OS} {x : Int32} {t : Nat} (hx : x = nI t) (h : ¬ (10 ≤ t ∧ t < 100)) (ht : t < 2 ^ 31 := by omega) : rf_isNumeral F gs x = some (0, gs) := by
  have e : rf_isNumeral_16 F gs = some (0, gs) := by
    rw [rf_isNumeral_16, rf_isNumeral_17]
    exact rc_ib (Or.inl rfl) rfl
  rw [rf_isNumeral]
  by_cases h1 : t < 10
  · exact rc_ltT (b := 10) hx rfl h1 e
  · refine rc_ltF (b := 10) hx rfl (by omega) ?_
    exact rc_leT (a := 100) rfl hx (by omega) e
theorem letter_ok {F : Nat} {gs : OS} {x : Int32} {t : Nat} (hx : x = nI t) (h : 100 ≤ t) (ht : t < 2 ^ 31 := by omega) : rf_letterOf F gs x = some (nI ((t - 100) % 32), gs) := by
  rw [rf_letterOf, hx]
  have e : nI t - 100 = nI (t - 100) := nsub (b := 100) h
  rw [e, nI_and31 (by omega)]
/-- the level of a name -/
theorem lv_lp {F : Nat} {gs : OS} {t : Nat} (ht : t < 2 ^ 30) : ∀ (nm : List Nat) (d : Nat), nm.length < d → nm.length ≤ 16 → Bk (gs.2 35) nm → sml nm → rf_levelOf_7 F d gs (nI t) (nI nm.length - 1) = some (lI (o_lv t nm), gs)
  | [], d, hd, _, _, _ => by
    obtain ⟨d, rfl⟩ : ∃ e, d = e + 1 := ⟨d - 1, by have : 0 < d := hd; omega⟩
    rw [rf_levelOf_7]
    refine rc_pT (by decide) ?_
    rw [rf_levelOf_27]
    rfl
  | b :: r, d, hd, h16, hb, hs => by
    rw [List.length_cons] at hd h16
    obtain ⟨d, rfl⟩ : ∃ e, d = e + 1 := ⟨d - 1, by omega⟩
    have e0 : nI (b :: r).length - 1 = nI r.length := nI_pred _
    rw [e0, rf_levelOf_7]
    refine rc_ltF (b := 0) rfl rfl (Nat.zero_le _) ?_
    refine rc_in rfl (by omega) ?_
    have hbt := sml_h hs
    by_cases h : b = t
    · refine rc_eqE (cl_at hb.1) rfl h ?_
      rw [rf_levelOf_27, o_lv, if_pos h]
      rfl
    · refine rc_eqF (cl_at hb.1) rfl h ?_
      rw [nI_dec, o_lv, if_neg h]
      exact lv_lp ht r d (by omega) (by omega) hb.2 (sml_t hs)
theorem lv_ok {F : Nat} {gs : OS} {x : Int32} {t : Nat} {nm : List Nat} (hF : 5000 ≤ F) (hx : x = nI t) (ht : t < 2 ^ 30) (hn : nm.length ≤ 12) (h34 : gs.1 34 = nI nm.length) (hb : Bk (gs.2 35) nm) (hs : sml nm) : rf_levelOf F gs x = some (lI (o_lv t nm), gs) := by
  rw [rf_levelOf, h34, hx]
  exact lv_lp ht nm F (by omega) (by omega) hb hs
theorem o_lv_lt (t : Nat) : ∀ (nm : List Nat) (l : Nat), o_lv t nm = some l → l < nm.length
  | [], _, h => by cases h
  | b :: r, l, h => by
    unfold o_lv at h
    rw [List.length_cons]
    by_cases h1 : b = t
    · rw [if_pos h1] at h; cases h; omega
    · rw [if_neg h1] at h
      have := o_lv_lt t r l h
      omega
/-- a state of the expansion -/
def OY (gs : OS) (fu : Nat) (r op nm : List Nat) (mk : Nat → Int32) (fd md : Nat) : Prop := ∃ pos, gs.1 36 = nI pos ∧ gs.1 21 = nI (pos + r.length) ∧ pos + r.length ≤ 120 + 120 * md ∧ At (gs.2 22) pos r ∧ sml r ∧ lvl r op.length = some 0 ∧
  gs.1 32 = nI op.length ∧ op.length ≤ 12 ∧ Bk (gs.2 33) op ∧ (∀ b, b ∈ op → b < 2) ∧
  gs.1 34 = nI nm.length ∧ nm.length = bcn op ∧ Bk (gs.2 35) nm ∧ sml nm ∧
  MK gs (fd, mk, 0) ∧ gs.1 37 = nI md ∧ md ≤ fu ∧ fu ≤ 12
def OX (gs : OS) (fu : Nat) (q : OQ) : Prop := OY gs fu q.1 q.2.1 q.2.2.1 q.2.2.2.1 q.2.2.2.2.1 q.2.2.2.2.2
/-- a state, or a fault -/
def OF (gs : OS) (fu : Nat) : OR OQ → Prop
  | .ok q => OX gs fu q
  | .error e => gs.1 40 = nI e.1 ∧ (e.1 = 2 ∨ e.1 = 3) ∧ gs.1 37 = nI e.2 ∧ e.2 ≤ 12
theorem o_put_pm {m : Int32} {q : OQ} : o_put m q = if (pm1 m (q.2.2.2.2.1, q.2.2.2.1, 0)).2.2 = 0 then .ok (q.1, q.2.1, q.2.2.1, (pm1 m (q.2.2.2.2.1, q.2.2.2.1, 0)).2.1, (pm1 m (q.2.2.2.2.1, q.2.2.2.1, 0)).1, q.2.2.2.2.2) else .error (3, q.2.2.2.2.2) := by
  unfold o_put
  by_cases h : q.2.2.2.2.1 < 150
  · have e : pm1 m (q.2.2.2.2.1, q.2.2.2.1, 0) = (q.2.2.2.2.1 + 1, upd q.2.2.2.1 q.2.2.2.2.1 m, 0) := if_pos ⟨rfl, h⟩
    rw [if_pos h, e]
    rfl
  · have e : pm1 m (q.2.2.2.2.1, q.2.2.2.1, 0) = (q.2.2.2.2.1, q.2.2.2.1, 3) := if_neg (fun z => h z.2)
    rw [if_neg h, e]
    rfl
theorem o_puts_pm : ∀ (ms : List Int32) (q : OQ), o_puts ms q = if (pm ms (q.2.2.2.2.1, q.2.2.2.1, 0)).2.2 = 0 then .ok (q.1, q.2.1, q.2.2.1, (pm ms (q.2.2.2.2.1, q.2.2.2.1, 0)).2.1, (pm ms (q.2.2.2.2.1, q.2.2.2.1, 0)).1, q.2.2.2.2.2) else .error (3, q.2.2.2.2.2)
  | [], q => rfl
  | m :: r, q => by
    show ob (o_put m q) (o_puts r) = if (pm r (pm1 m (q.2.2.2.2.1, q.2.2.2.1, 0))).2.2 = 0 then _ else _
    rw [o_put_pm]
    by_cases h : (pm1 m (q.2.2.2.2.1, q.2.2.2.1, 0)).2.2 = 0
    · rw [if_pos h]
      show o_puts r _ = _
      rw [o_puts_pm r]
      have e : ((pm1 m (q.2.2.2.2.1, q.2.2.2.1, 0)).1, (pm1 m (q.2.2.2.2.1, q.2.2.2.1, 0)).2.1, 0) = pm1 m (q.2.2.2.2.1, q.2.2.2.1, 0) := by
        generalize pm1 m (q.2.2.2.2.1, q.2.2.2.1, 0) = s at h ⊢
        obtain ⟨a, b, c⟩ := s
        cases h
        rfl
      show (if (pm r ((pm1 m (q.2.2.2.2.1, q.2.2.2.1, 0)).1, (pm1 m (q.2.2.2.2.1, q.2.2.2.1, 0)).2.1, 0)).2.2 = 0 then _ else _) = _
      rw [e]
      rfl
    · rw [if_neg h]
      have h3 : (pm1 m (q.2.2.2.2.1, q.2.2.2.1, 0)).2.2 = 3 := by
        unfold pm1 at h ⊢
        split at h
        · exact absurd rfl h
        · rw [if_neg (by assumption)]
      rw [if_neg (by
        have := pm_3 r _ h3
        intro q9
        rw [this] at q9
        cases q9)]
      rfl
