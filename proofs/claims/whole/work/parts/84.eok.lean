/-! An expansion keeps its row in order. -/
def tk_op : List Tk → Nat
  | [] => 0
  | some q :: r => (if q.1 = 40 then 1 else 0) + tk_op r
  | none :: r => tk_op r
def tk_cl : List Tk → Nat
  | [] => 0
  | some _ :: r => tk_cl r
  | none :: r => 1 + tk_cl r
theorem tk_op_app : ∀ a b : List Tk, tk_op (a ++ b) = tk_op a + tk_op b
  | [], b => by simp [tk_op]
  | some q :: r, b => by
    show (if q.1 = 40 then 1 else 0) + tk_op (r ++ b) = (if q.1 = 40 then 1 else 0) + tk_op r + tk_op b
    rw [tk_op_app r b, Nat.add_assoc]
  | none :: r, b => tk_op_app r b
theorem tk_cl_app : ∀ a b : List Tk, tk_cl (a ++ b) = tk_cl a + tk_cl b
  | [], b => by simp [tk_cl]
  | some q :: r, b => tk_cl_app r b
  | none :: r, b => by
    show 1 + tk_cl (r ++ b) = 1 + tk_cl r + tk_cl b
    rw [tk_cl_app r b, Nat.add_assoc]
def tk_bal (ts : List Tk) : Prop := tk_op ts = tk_cl ts
theorem tk_bal_app {a b : List Tk} (ha : tk_bal a) (hb : tk_bal b) : tk_bal (a ++ b) := by
  unfold tk_bal at *
  rw [tk_op_app, tk_cl_app, ha, hb]
theorem tk_bal_li {c k : Nat} {ts : List Tk} (h : tk_bal ts) (hc : c = 40) : tk_bal (some (c, k) :: (ts ++ [none])) := by
  unfold tk_bal at *
  show (if c = 40 then 1 else 0) + tk_op (ts ++ [none]) = tk_cl (ts ++ [none])
  rw [if_pos hc, tk_op_app, tk_cl_app, h]
  show 1 + (tk_cl ts + 0) = tk_cl ts + 1
  omega
theorem tk_bal_lf {c k : Nat} (hc : ¬ c = 40) : tk_bal [some (c, k)] := by
  show (if c = 40 then 1 else 0) + 0 = 0
  rw [if_neg hc]
theorem tk_l_bal {x : TSt} {g : Nat → List Tk} (hg : ∀ a, tk_bal (g a)) : ∀ n a, tk_bal (tk_l x g n a)
  | 0, _ => rfl
  | n + 1, a => tk_bal_app (hg a) (tk_l_bal hg n _)
theorem tk_n_bal {x : TSt} : ∀ d a, tk_bal (tk_n x d a)
  | 0, _ => rfl
  | d + 1, a => by
    unfold tk_n
    by_cases h : x_sg x a = 40
    · rw [if_pos h]; exact tk_bal_li (tk_l_bal (tk_n_bal d) _ _) h
    · rw [if_neg h]; exact tk_bal_lf h
theorem f_c_bal {g : Nat → List Tk} (hg : ∀ j, tk_bal (g j)) : ∀ n j, tk_bal (f_c g n j)
  | 0, _ => rfl
  | n + 1, j => tk_bal_app (hg j) (f_c_bal hg n _)
theorem f_l_bal {x : TSt} {cp : Nat → Nat} {g : Nat → Nat → List Tk} {k0 : Nat} (hg : ∀ a j, tk_bal (g a j)) : ∀ n a, tk_bal (f_l x cp g k0 n a)
  | 0, _ => rfl
  | n + 1, a => by
    unfold f_l
    refine tk_bal_app ?_ (f_l_bal hg n _)
    split
    · exact hg a k0
    · exact f_c_bal (hg a) _ _
theorem f_n_bal {x : TSt} {kf cp : Nat → Nat} {vt : Nat → Nat → List Tk} {md : Nat} (hv : ∀ v k, tk_bal (vt v k)) : ∀ d a k0, tk_bal (f_n x kf cp vt md d a k0)
  | 0, _, _ => rfl
  | d + 1, a, k0 => by
    unfold f_n
    split
    · exact hv _ _
    · by_cases h : x_sg x a = 40
      · rw [if_pos h]; exact tk_bal_li (f_l_bal (f_n_bal hv d) _ _) h
      · rw [if_neg h]; exact tk_bal_lf h
theorem t_run_dp {cap s0 dm : Nat} : ∀ (ts : List Tk) (x y : TSt), t_run cap s0 dm ts x = some y → x_dp y + tk_cl ts = x_dp x + tk_op ts
  | [], x, y, h => by cases h; rfl
  | some q :: r, x, y, h => by
    rw [t_run_s] at h
    obtain ⟨w, hw, h⟩ := Option.bind_eq_some_iff.mp h
    have h1 := t_run_dp r w y h
    have h2 : x_dp w = x_dp x + (if q.1 = 40 then 1 else 0) := by
      unfold t_add at hw
      split at hw
      · obtain rfl := Option.some.inj hw
        show (if q.1 = 40 then x_dp x + 1 else x_dp x) = _
        split <;> rfl
      · cases hw
    show x_dp y + tk_cl r = x_dp x + ((if q.1 = 40 then 1 else 0) + tk_op r)
    omega
  | none :: r, x, y, h => by
    rw [t_run_e] at h
    obtain ⟨w, hw, h⟩ := Option.bind_eq_some_iff.mp h
    have h1 := t_run_dp r w y h
    have h2 : x_dp w + 1 = x_dp x := by
      unfold t_close at hw
      split at hw
      · cases hw
      · obtain rfl := Option.some.inj hw
        show x_dp x - 1 + 1 = x_dp x
        omega
    show x_dp y + (1 + tk_cl r) = x_dp x + tk_op r
    omega
theorem f_n_hd {x : TSt} {kf cp : Nat → Nat} {vt : Nat → Nat → List Tk} {md d a k0 : Nat} (hv : ∀ v k, ∃ q r, vt v k = some q :: r) : ∃ q r, f_n x kf cp vt md (d + 1) a k0 = some q :: r := by
  unfold f_n
  split
  · exact hv _ _
  · exact ⟨_, _, rfl⟩
theorem e_ff_ok {rt : Nat → RSt} {y : TSt} {us : Nat} : ∀ (k i j : Nat) (q : MSt), e_ff rt y us k i = some (j, q) → i ≤ j ∧ j < i + k ∧ r_mc (rt j) = x_sg y (us + 1) ∧ e_mt (r_x (rt j)) y us = some q
  | 0, _, _, _, h => by cases h
  | k + 1, i, j, q, h => by
    unfold e_ff at h
    split at h
    · rename_i h1
      split at h
      · rename_i q2 h2
        cases h
        exact ⟨Nat.le_refl _, by omega, h1, h2⟩
      · obtain ⟨a1, a2, a3⟩ := e_ff_ok k (i + 1) j q h
        exact ⟨by omega, by omega, a3⟩
    · obtain ⟨a1, a2, a3⟩ := e_ff_ok k (i + 1) j q h
      exact ⟨by omega, by omega, a3⟩
/-- a template put behind a row of whole terms -/
theorem e_fill_ok {cap : Nat} {q : XSt} {r : RSt} {mm : MSt} {y2 : TSt} (hq : x_inv cap q) (hr : t_raw 60 (r_x r)) (h : t_run cap (x_z q.1) 12 (e_tk r q.1 mm q.2.1) (t_beg q.1) = some y2) : t_raw cap y2 ∧ t_wf6 y2 ∧ t_lf y2 ∧ t_sm (2 ^ 31) y2 ∧ x_z q.1 < x_z y2 ∧ t_ag (x_z q.1) q.1 y2 := by
  obtain ⟨h1, h2, h3, h4, h5, h6⟩ := hq
  have hb0 := t_bd_beg (t_wf6_beg h2) rfl
  have hs : ∀ t, some t ∈ e_tk r q.1 mm q.2.1 → t.1 < 65536 := f_n_all (p := fun t => t.1 < 65536) (fun i => hr.2.2.1 i) (fun v k t ht => tk_n_all (p := fun t => t.1 < 65536) (fun i => h1.2.2.1 i) _ _ t ht) _ _ _
  have hk : ∀ t, some t ∈ e_tk r q.1 mm q.2.1 → t.2 < 2 ^ 31 := f_n_all (p := fun t => t.2 < 2 ^ 31) (fun i => by show (if c_nm (x_sg (r_x r) i) then q.2.1 + 1 else 0) < 2 ^ 31; split <;> omega) (fun v k t ht => tk_n_all (p := fun t => t.2 < 2 ^ 31) (fun i => h4 i) _ _ t ht) _ _ _
  have hb := t_run_bd _ _ _ hb0 h
  have hi := t_run_inv _ _ _ hs (t_beg_inv12 h1) h
  have hd : x_dp y2 = 0 := by
    have h7 := t_run_dp _ _ _ h
    have h8 : tk_bal (e_tk r q.1 mm q.2.1) := f_n_bal (fun v k => tk_n_bal _ _) _ _ _
    unfold tk_bal at h8
    have h9 : x_dp (t_beg q.1) = 0 := rfl
    omega
  refine ⟨t_inv_raw hi.1, t_bd_wf hb.1 hd, (t_run_li _ _ _ hb0 ⟨h3, fun j hj => absurd hj (Nat.not_lt_zero _)⟩ h).1, t_run_sm _ (t_beg q.1) _ hk (show t_sm (2 ^ 31) (t_beg q.1) from h4) h, ?_, fun i hi => hb.2 i hi⟩
  obtain ⟨t, ts, e⟩ : ∃ t ts, e_tk r q.1 mm q.2.1 = some t :: ts := f_n_hd (fun v k => ⟨_, _, rfl⟩)
  rw [e] at h hs
  rw [t_run_s] at h
  obtain ⟨w, hw, h⟩ := Option.bind_eq_some_iff.mp h
  have z1 := (t_add_z hw).2.1
  have z0 : x_z w = x_z q.1 + 1 := z1
  have z2 := (t_run_inv _ _ _ (fun q hq => hs q (List.mem_cons_of_mem _ hq)) (t_add_inv (t_beg_inv12 h1) (hs t List.mem_cons_self) hw).1 h).2
  omega
theorem e_rp_ok {cap n fu nd : Nat} {rt : Nat → RSt} {q p : XSt} {t : Nat} (hf : fu ≤ 12) (hrt : ∀ j, j < n → t_raw 60 (r_x (rt j))) (hq : x_inv cap q) (h : e_rp cap rt n fu nd q = .ok (t, p)) : x_inv cap p ∧ x_gr q p ∧ t < x_z p.1 := by
  unfold e_rp at h
  split at h
  · cases h
  · rename_i hfu
    split at h
    · cases h
    · rename_i i mm hff
      split at h
      · split at h
        · cases h
        · rename_i y2 hy
          cases h
          obtain ⟨a1, a2, a3, a4⟩ := e_ff_ok _ _ _ _ hff
          obtain ⟨b1, b2, b3, b4, b5, b6⟩ := e_fill_ok hq (hrt i (by omega)) hy
          exact ⟨⟨b1, b2, b3, b4, by show q.2.1 + 1 ≤ 12; omega, hq.2.2.2.2.2⟩, ⟨Nat.le_of_lt b5, b6⟩, b5⟩
      · cases h
theorem e_rs_ok {cap n fu : Nat} {rt : Nat → RSt} {en : Env0} (hf : fu ≤ 12) (hrt : ∀ j, j < n → t_raw 60 (r_x (rt j))) : ∀ (k nd : Nat) (q p : XSt) (t : Nat), nd < x_z q.1 → x_inv cap q → e_rs cap rt n fu en k nd q = .ok (t, p) → x_inv cap p ∧ x_gr q p ∧ t < x_z p.1
  | 0, nd, q, p, t, hn, hq, h => by cases h; exact ⟨hq, x_gr.rf, hn⟩
  | k + 1, nd, q, p, t, hn, hq, h => by
    unfold e_rs at h
    split at h
    · split at h
      · cases h
      · rename_i w hw
        have h1 := e_rp_ok (t := w.1) (p := w.2) hf hrt hq hw
        have h2 := e_rs_ok hf hrt k w.1 w.2 p t h1.2.2 h1.1 h
        exact ⟨h2.1, h1.2.1.tr h2.2.1, h2.2.2⟩
    · cases h; exact ⟨hq, x_gr.rf, hn⟩
theorem xb_ok {α β : Type} {a : XR α} {f : α → XR β} {p : β} (h : xb a f = .ok p) : ∃ w, a = .ok w ∧ f w = .ok p := by
  cases a with
  | error e => cases h
  | ok w => exact ⟨w, rfl, h⟩
theorem e_xs_ok {cap : Nat} {g : Nat → Env0 → XSt → XR XSt} {en : Env0} (hg : ∀ a q p, a < x_z q.1 → x_inv cap q → g a en q = .ok p → x_inv cap p ∧ x_gr q p) : ∀ (k a b : Nat) (q p : XSt), t_ch q.1 k a b → b ≤ x_z q.1 → x_inv cap q → e_xs g en k a q = .ok p → x_inv cap p ∧ x_gr q p
  | 0, a, b, q, p, _, _, hq, h => by cases h; exact ⟨hq, x_gr.rf⟩
  | k + 1, a, b, q, p, hc, hb, hq, h => by
    unfold e_xs at h
    split at h
    · cases h
    · rename_i w hw
      have hab : a < b := hc.1
      have h1 := hg a q w (by omega) hq hw
      have e1 := (h1.2.2 a (by omega)).2.2.1
      rw [← e1] at h
      have h2 := e_xs_ok hg k (a + x_sp q.1 a) b w p (t_ch_cg (x := q.1) _ _ _ (fun i _ hi => (h1.2.2 i (by omega)).2.2.1) hc.2) (Nat.le_trans hb h1.2.1) h1.1 h
      exact ⟨h2.1, h1.2.tr h2.2⟩
theorem ch_lf {y : TSt} {n a b : Nat} (hl : t_lf y) (hb : b ≤ x_z y) (hs : ¬ x_sg y a = 40) (h : t_ch y (n + 1) a b) : t_ch y n (a + 1) b := by
  have h1 : a < b := h.1
  have h2 := h.2
  rw [(hl a (by omega) hs).1] at h2
  exact h2
theorem fm_L {y : TSt} {t : Nat} (hw : t_wf y) (hl : t_lf y) (ht : t < x_z y) (h3 : x_it y t = 3) (h1 : x_sg y (t + 1) = 76) (h2 : c_nm (x_sg y (t + 2))) : t_ch y 1 (t + 3) (t + x_sp y t) := by
  have h := hw t ht
  rw [h3] at h
  exact ch_lf hl h.2.1 (by omega) (ch_lf hl h.2.1 (by omega) h.2.2)
theorem fm_I {y : TSt} {t : Nat} (hw : t_wf y) (hl : t_lf y) (ht : t < x_z y) (h3 : x_it y t = 4) (h1 : x_sg y (t + 1) = 73) : t_ch y 3 (t + 2) (t + x_sp y t) := by
  have h := hw t ht
  rw [h3] at h
  exact ch_lf hl h.2.1 (by omega) h.2.2
theorem fm_Q {y : TSt} {t : Nat} (hw : t_wf y) (hl : t_lf y) (ht : t < x_z y) (h3 : x_it y t = 2) (h1 : x_sg y (t + 1) = 81) : t_ch y 1 (t + 2) (t + x_sp y t) := by
  have h := hw t ht
  rw [h3] at h
  exact ch_lf hl h.2.1 (by omega) h.2.2
theorem e_put_row {m : Int32} {q p : XSt} (h : e_put m q = .ok p) : p.1 = q.1 ∧ p.2.1 = q.2.1 := by
  unfold e_put at h
  split at h
  · cases h; exact ⟨rfl, rfl⟩
  · cases h
theorem e_fm_ok {cap : Nat} {g : Nat → Env0 → XSt → XR XSt} {en : Env0} (hg : ∀ en a q p, a < x_z q.1 → x_inv cap q → g a en q = .ok p → x_inv cap p ∧ x_gr q p) {t : Nat} {q p : XSt} (ht : t < x_z q.1) (hq : x_inv cap q) (h : e_fm g en t q = .ok p) : x_inv cap p ∧ x_gr q p := by
  unfold e_fm at h
  split at h
  · rename_i hwf
    obtain ⟨w, h, h2⟩ := xb_ok h
    obtain ⟨w1, h1, h⟩ := xb_ok h
    have p1 := e_put_ok hq h1
    have p2 := (e_put_row h1).1
    have hw := hq.2.1.1
    have hl := hq.2.2.1
    have hs := (hw t ht).2.1
    have hm : x_inv cap w ∧ x_gr w1 w := by
      rw [p2] at h
      split at h
      · rename_i c1
        obtain ⟨w2, h3, h⟩ := xb_ok h
        have p3 := e_put_ok p1.1 h3
        have p4 : w2.1 = q.1 := (e_put_row h3).1.trans p2
        have hc := fm_L hw hl ht (hwf.2.1 c1).1 c1 (hwf.2.1 c1).2
        rw [← p4] at hc hs
        have p5 := e_xs_ok (hg _) _ _ _ _ _ hc hs p3.1 h
        exact ⟨p5.1, p3.2.tr p5.2⟩
      · split at h
        · rename_i c1
          obtain ⟨w2, h3, h⟩ := xb_ok h
          have p3 := e_put_ok p1.1 h3
          have p4 : w2.1 = q.1 := (e_put_row h3).1.trans p2
          have hc := fm_I hw hl ht (hwf.2.2.1 c1) c1
          rw [← p4] at hc hs
          have p5 := e_xs_ok (hg _) _ _ _ _ _ hc hs p3.1 h
          exact ⟨p5.1, p3.2.tr p5.2⟩
        · split at h
          · obtain ⟨w2, h3, h⟩ := xb_ok h
            have p3 := e_put_ok p1.1 h3
            have p5 := e_puts_ok p3.1 h
            exact ⟨p5.1, p3.2.tr p5.2⟩
          · have hc := (hw t ht).2.2
            have hc2 : t_ch w1.1 (x_it q.1 t) (t + 1) (t + x_sp q.1 t) := by rw [p2]; exact hc
            exact e_xs_ok (hg _) _ _ _ _ _ hc2 (by rw [p2]; exact hs) p1.1 h
    have p6 := e_put_ok hm.1 h2
    exact ⟨p6.1, (p1.2.tr hm.2).tr p6.2⟩
  · cases h
theorem e_ex_ok {cap n fu : Nat} {rt : Nat → RSt} (hf : fu ≤ 12) (hrt : ∀ j, j < n → t_raw 60 (r_x (rt j))) : ∀ (d : Nat) (en : Env0) (nd : Nat) (q p : XSt), nd < x_z q.1 → x_inv cap q → e_ex cap rt n fu d nd en q = .ok p → x_inv cap p ∧ x_gr q p
  | 0, en, nd, q, p, _, _, h => by cases h
  | d + 1, en, nd, q, p, hn, hq, h => by
    unfold e_ex at h
    obtain ⟨w, h1, h⟩ := xb_ok h
    have a1 := e_rs_ok hf hrt _ _ _ w.2 w.1 hn hq h1
    split at h
    · have a2 := e_put_ok a1.1 h
      exact ⟨a2.1, a1.2.1.tr a2.2⟩
    · split at h
      · have a2 := e_put_ok a1.1 h
        exact ⟨a2.1, a1.2.1.tr a2.2⟩
      · have a2 := e_fm_ok (fun en a q p => e_ex_ok hf hrt d en a q p) a1.2.2 a1.1 h
        exact ⟨a2.1, a1.2.1.tr a2.2⟩
