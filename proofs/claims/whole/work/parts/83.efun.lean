/-! An expansion, said by functions: a row, how many replacements were made, the marks. -/
abbrev r_x (q : RSt) : TSt := q.2.2.2.2.1
abbrev r_kf (q : RSt) : Nat → Nat := q.2.2.2.2.2.1
def r_tm (q : RSt) : Nat := q.2.2.2.2.2.2.1.toNatClampNeg
/-- a rule that was read -/
def r_gd (q : RSt) : Prop := r_ok q ∧ q.2.2.2.2.2.2.1 = nI (r_tm q) ∧ r_fit (r_x q) (r_kf q) (r_tm q)
def e_mt (x y : TSt) (us : Nat) : Option MSt := m_fi x y 60 0 us 1 (fun _ => 0, fun _ _ => 0)
/-- the first of k rules from i on that fits: its place, and what it found -/
def e_ff (rt : Nat → RSt) (y : TSt) (us : Nat) : Nat → Nat → Option (Nat × MSt)
  | 0, _ => none
  | k + 1, i => if r_mc (rt i) = x_sg y (us + 1) then match e_mt (r_x (rt i)) y us with
      | some q => some (i, q)
      | none => e_ff rt y us k (i + 1)
    else e_ff rt y us k (i + 1)
abbrev XSt : Type := TSt × Nat × (Nat → Int32) × Nat
/-- names bound, the innermost first -/
abbrev Env0 : Type := List (Nat × Nat)
def en_lv (c k : Nat) : Env0 → Option Nat
  | [] => none
  | q :: r => if q.1 = c ∧ q.2 = k then some r.length else en_lv c k r
def e_en (bl bs : Nat → Nat) : Nat → Env0
  | 0 => []
  | i + 1 => (bl i, bs i) :: e_en bl bs i
theorem e_en_len (bl bs : Nat → Nat) : ∀ n, (e_en bl bs n).length = n
  | 0 => rfl
  | n + 1 => by
    show (e_en bl bs n).length + 1 = n + 1
    rw [e_en_len]
theorem e_lv_en (bl bs : Nat → Nat) (c k : Nat) : ∀ n, e_lv bl bs c k n = en_lv c k (e_en bl bs n)
  | 0 => rfl
  | n + 1 => by
    show (if bl n = c ∧ bs n = k then some n else e_lv bl bs c k n) = (if bl n = c ∧ bs n = k then some (e_en bl bs n).length else en_lv c k (e_en bl bs n))
    rw [e_en_len, e_lv_en bl bs c k n]
theorem e_en_cg {bl bs cl cs : Nat → Nat} : ∀ n, (∀ i, i < n → bl i = cl i ∧ bs i = cs i) → e_en bl bs n = e_en cl cs n
  | 0, _ => rfl
  | n + 1, h => by
    show (bl n, bs n) :: e_en bl bs n = (cl n, cs n) :: e_en cl cs n
    rw [(h n (Nat.lt_succ_self _)).1, (h n (Nat.lt_succ_self _)).2, e_en_cg n (fun i hi => h i (Nat.lt_succ_of_lt hi))]
/-- a term is a use of a rule -/
def e_u (y : TSt) (en : Env0) (rt : Nat → RSt) (n nd : Nat) : Prop := ¬ x_it y nd = 0 ∧ c_nm (x_sg y (nd + 1)) ∧ (∃ j, j < n ∧ r_mc (rt j) = x_sg y (nd + 1)) ∧ en_lv (x_sg y (nd + 1)) (x_st y (nd + 1)) en = none
theorem e_us_u {y : TSt} {bl bs : Nat → Nat} {bd : Nat} {rt : Nat → RSt} {n nd : Nat} : e_us y bl bs bd rt n nd ↔ e_u y (e_en bl bs bd) rt n nd := by
  unfold e_us e_u
  rw [e_lv_en]
abbrev XR (α : Type) : Type := Except (String × Nat) α
def e_put (m : Int32) (q : XSt) : XR XSt := if q.2.2.2 < 150 then .ok (q.1, q.2.1, upd q.2.2.1 q.2.2.2 m, q.2.2.2 + 1) else .error (uoN, q.2.1)
def e_puts (ms : List Int32) (q : XSt) : XR XSt := if q.2.2.2 + ms.length ≤ 150 then .ok (q.1, q.2.1, p_ap q.2.2.1 q.2.2.2 ms, q.2.2.2 + ms.length) else .error (uoN, q.2.1)
/-- what a rule's template is put as -/
def e_tk (q : RSt) (y : TSt) (mm : MSt) (md : Nat) : List Tk := f_n (r_x q) (r_kf q) (f_cp (r_x q) (r_kf q) mm.1) (f_vt y mm.2) md 60 (r_tm q) 0
/-- one replacement: the new term's node -/
noncomputable def e_rp (cap : Nat) (rt : Nat → RSt) (n fu nd : Nat) (q : XSt) : XR (Nat × XSt) :=
  if fu ≤ q.2.1 then .error (uoN, q.2.1) else match e_ff rt q.1 nd n 0 with
    | none => .error (isN, q.2.1)
    | some (i, mm) => @ite _ (m_ev (r_x (rt i)) (r_kf (rt i)) mm.1 (r_tm (rt i))) (Classical.propDecidable _) (match t_run cap (x_z q.1) 12 (e_tk (rt i) q.1 mm q.2.1) (t_beg q.1) with
        | none => .error (uoN, q.2.1)
        | some y2 => .ok (x_z q.1, y2, q.2.1 + 1, q.2.2.1, q.2.2.2)) (.error (isN, q.2.1))
/-- replaced as long as it is a use, k times at most -/
noncomputable def e_rs (cap : Nat) (rt : Nat → RSt) (n fu : Nat) (en : Env0) : Nat → Nat → XSt → XR (Nat × XSt)
  | 0, nd, q => .ok (nd, q)
  | k + 1, nd, q => @ite _ (e_u q.1 en rt n nd) (Classical.propDecidable _) (match e_rp cap rt n fu nd q with
      | .error e => .error e
      | .ok p => e_rs cap rt n fu en k p.1 p.2) (.ok (nd, q))
def e_xs (g : Nat → Env0 → XSt → XR XSt) (en : Env0) : Nat → Nat → XSt → XR XSt
  | 0, _, q => .ok q
  | k + 1, a, q => match g a en q with
    | .error e => .error e
    | .ok p => e_xs g en k (a + x_sp p.1 a) p
def xb {α β : Type} (a : XR α) (f : α → XR β) : XR β := match a with
  | .error e => .error e
  | .ok p => f p
noncomputable def e_fm (g : Nat → Env0 → XSt → XR XSt) (en : Env0) (t : Nat) (q : XSt) : XR XSt :=
  @ite _ (e_wf q.1 t) (Classical.propDecidable _)
    (xb (xb (e_put 1 q) (fun q => if x_sg q.1 (t + 1) = 76 then xb (e_put 3 q) (fun q => e_xs g ((x_sg q.1 (t + 2), x_st q.1 (t + 2)) :: en) 1 (t + 3) q)
      else if x_sg q.1 (t + 1) = 73 then xb (e_put 4 q) (fun q => e_xs g en 3 (t + 2) q)
      else if x_sg q.1 (t + 1) = 81 then xb (e_put 5 q) (fun q => e_puts (q_n q.1 60 (t + 2)) q)
      else e_xs g en (x_it q.1 t) (t + 1) q)) (e_put 2))
    (.error (isN, q.2.1))
/-- the mark of a name -/
def e_nm (c k : Nat) (en : Env0) : Int32 := match en_lv c k en with
  | none => 100 + nI c - 97
  | some i => 200 + nI i
/-- an expression, d lists deeper being allowed -/
noncomputable def e_ex (cap : Nat) (rt : Nat → RSt) (n fu : Nat) : Nat → Nat → Env0 → XSt → XR XSt
  | 0, _, _, q => .error (uoN, q.2.1)
  | d + 1, nd, en, q => xb (e_rs cap rt n fu en 13 nd q) (fun p =>
    if c_nm (x_sg p.2.1 p.1) then e_put (e_nm (x_sg p.2.1 p.1) (x_st p.2.1 p.1) en) p.2
    else if c_nu (x_sg p.2.1 p.1) then e_put (10 + nI (x_sg p.2.1 p.1) - 48) p.2
    else e_fm (fun a en q => e_ex cap rt n fu d a en q) en p.1 p.2)
/-- what an expansion's row and counts keep to -/
def x_inv (cap : Nat) (q : XSt) : Prop := t_raw cap q.1 ∧ t_wf6 q.1 ∧ t_lf q.1 ∧ t_sm (2 ^ 31) q.1 ∧ q.2.1 ≤ 12 ∧ q.2.2.2 ≤ 150
/-- the row only grows -/
def x_gr (q p : XSt) : Prop := x_z q.1 ≤ x_z p.1 ∧ t_ag (x_z q.1) q.1 p.1
theorem x_gr.rf {q : XSt} : x_gr q q := ⟨Nat.le_refl _, t_ag.rf⟩
theorem x_gr.tr {a b c : XSt} (h : x_gr a b) (h2 : x_gr b c) : x_gr a c := ⟨Nat.le_trans h.1 h2.1, h.2.tr (fun i hi => h2.2 i (Nat.lt_of_lt_of_le hi h.1))⟩
theorem t_beg_inv12 {cap : Nat} {x : TSt} (h : t_raw cap x) : t_inv cap (x_z x) 12 (t_beg x) := ⟨h.1, h.2.1, Nat.le_refl _, Nat.zero_le _, by decide, fun j hj => absurd hj (Nat.not_lt_zero _), (fun l hl => by cases hl), h.2.2.1, h.2.2.2⟩
theorem e_put_ok {cap : Nat} {m : Int32} {q p : XSt} (hq : x_inv cap q) (h : e_put m q = .ok p) : x_inv cap p ∧ x_gr q p := by
  unfold e_put at h
  split at h
  · cases h
    obtain ⟨h1, h2, h3, h4, h5, h6⟩ := hq
    refine ⟨⟨h1, h2, h3, h4, h5, ?_⟩, Nat.le_refl _, t_ag.rf⟩
    show q.2.2.2 + 1 ≤ 150
    omega
  · cases h
theorem e_puts_ok {cap : Nat} {ms : List Int32} {q p : XSt} (hq : x_inv cap q) (h : e_puts ms q = .ok p) : x_inv cap p ∧ x_gr q p := by
  unfold e_puts at h
  split at h
  · cases h
    obtain ⟨h1, h2, h3, h4, h5, h6⟩ := hq
    refine ⟨⟨h1, h2, h3, h4, h5, ?_⟩, Nat.le_refl _, t_ag.rf⟩
    assumption
  · cases h
