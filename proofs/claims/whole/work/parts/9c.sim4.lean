/-! The expansion by rows and that by tokens go alike: the whole of it. -/
section SIM3
variable {cap n fu : Nat} {rt : Nat → RSt} {cn : Nat → Bool} {rp : Nat → List Nat → Except Nat (List Nat)}
theorem oR_e {r op : List Nat} {en : Env0} {a : XR XSt} {e : String × Nat} (h : a = .error e) : oR r op en a = .error (xc e.1, e.2) := by rw [h]; rfl
theorem sim_fm (hru : o_ru cap rt n fu cn rp) {op : List Nat} {en : Env0} {g : Nat → Env0 → XSt → XR XSt} (hop : ¬ op.length = 12) (hen : ∀ q, q ∈ en → c_nm q.1) (hg : ∀ b en2, (∀ q, q ∈ en2 → c_nm q.1) → o_sim cap cn rp (b :: op) en2 g) {t : Nat} {q : XSt} (r : List Nat) (ht : t < x_z q.1) (hq : x_inv cap q) (ho : t_oq q) (h1 : ¬ c_nm (x_sg q.1 t)) (h2 : ¬ c_nu (x_sg q.1 t)) (hu : ¬ e_u q.1 en rt n t) :
    (∀ e, e_fm g en t q = .error e → o_to cn rp (oS (tkT q.1 t ++ r) op en q) (.error (xc e.1, e.2))) ∧ (∀ p, e_fm g en t q = .ok p → o_to cn rp (oS (tkT q.1 t ++ r) op en q) (.ok (oS r op en p)) ∧ t_oq p ∧ x_inv cap p ∧ x_gr q p) := by
  have hw := hq.2.1
  have hl := hq.2.2.1
  by_cases h40 : x_sg q.1 t = 40
  · cases hm : x_it q.1 t with
    | zero =>
      have hnw : ¬ e_wf q.1 t := fun w => w.1 hm
      have e1 : e_fm g en t q = .error (isN, q.2.1) := by unfold e_fm; rw [if_neg hnw]
      rw [e1]
      refine ⟨fun e h => ?_, fun p h => by cases h⟩
      cases h
      rw [tkT_list hw ht h40, hm]
      exact o_to.one (o_st_em hop)
    | succ m =>
      have hi0 : ¬ x_it q.1 t = 0 := by omega
      have hit := t_it_le hw.1 ht
      have hwt := hw.1 t ht
      rw [hm] at hwt
      have hhd := tkT_head hw ht h40 hm
      have hc1 := ho.1 (t + 1) (by omega)
      by_cases hk : c_kw (x_sg q.1 (t + 1))
      · -- a form
        have hn40 : ¬ x_sg q.1 (t + 1) = 40 := by rcases hk with h | h | h <;> omega
        have hs1 := (hl (t + 1) (by omega) hn40).1
        rw [tkT_leaf hn40, hs1] at hhd
        have hT : tkT q.1 t ++ r = 1 :: tkm (some (x_sg q.1 (t + 1), x_st q.1 (t + 1))) :: (tkS q.1 m (t + 2) ++ 2 :: r) := by
          rw [hhd]
          simp
        rw [hT]
        have hst := o_st_fm (cn := cn) (rp := rp) (en := en) (q := q) (r1 := tkS q.1 m (t + 2) ++ 2 :: r) hop (tkm_kw (k := x_st q.1 (t + 1)) hk)
        have hgood := fm_good hw hl ho.1 ht hm hk r
        have hch2 := ch_lf hl hwt.2.1 hn40 hwt.2.2
        by_cases hwf : e_wf q.1 t
        · have e0 : ∀ q0 : OQ, o_fm (tkm (some (x_sg q.1 (t + 1), x_st q.1 (t + 1)))) (tkS q.1 m (t + 2) ++ 2 :: r) q0 = ob (ob (o_put 1 q0) (o_put (nI (tkm (some (x_sg q.1 (t + 1), x_st q.1 (t + 1))))))) (fun q0 => if tkm (some (x_sg q.1 (t + 1), x_st q.1 (t + 1))) = 5 then ob (o_puts ((o_1st (tkS q.1 m (t + 2) ++ 2 :: r)).map o_qm ++ [2]) q0) (fun q0 => .ok ((sk (tkS q.1 m (t + 2) ++ 2 :: r) 0).tail, q0.2.1, q0.2.2))
              else if tkm (some (x_sg q.1 (t + 1), x_st q.1 (t + 1))) = 3 then .ok ((tkS q.1 m (t + 2) ++ 2 :: r).tail, 1 :: q0.2.1, (tkS q.1 m (t + 2) ++ 2 :: r).headD 0 :: q0.2.2.1, q0.2.2.2) else .ok (tkS q.1 m (t + 2) ++ 2 :: r, 0 :: q0.2.1, q0.2.2)) := fun q0 => by
            unfold o_fm
            rw [if_pos (hgood.mpr hwf)]
          rw [e0, o_put_S] at hst
          have ef : e_fm g en t q = xb (xb (e_put 1 q) (fun q => if x_sg q.1 (t + 1) = 76 then xb (e_put 3 q) (fun q => e_xs g ((x_sg q.1 (t + 2), x_st q.1 (t + 2)) :: en) 1 (t + 3) q)
              else if x_sg q.1 (t + 1) = 73 then xb (e_put 4 q) (fun q => e_xs g en 3 (t + 2) q)
              else if x_sg q.1 (t + 1) = 81 then xb (e_put 5 q) (fun q => e_puts (q_n q.1 60 (t + 2)) q)
              else e_xs g en (x_it q.1 t) (t + 1) q)) (e_put 2) := by
            unfold e_fm
            rw [if_pos hwf]
          rw [ef]
          cases hp1 : e_put 1 q with
          | error e =>
            rw [hp1] at hst
            refine ⟨fun e' h => ?_, fun p h => by cases h⟩
            cases h
            exact o_to.one hst
          | ok w =>
            rw [hp1] at hst
            obtain ⟨w1, w2, w3, w4⟩ := x_of_put hq ho hp1
            have hst : o_st cn rp (oS (1 :: tkm (some (x_sg q.1 (t + 1), x_st q.1 (t + 1))) :: (tkS q.1 m (t + 2) ++ 2 :: r)) op en q) = ob (o_put (nI (tkm (some (x_sg q.1 (t + 1), x_st q.1 (t + 1))))) (oS (1 :: tkm (some (x_sg q.1 (t + 1), x_st q.1 (t + 1))) :: (tkS q.1 m (t + 2) ++ 2 :: r)) op en w)) _ := hst
            rw [o_put_S] at hst
            rcases hk with hk | hk | hk
            · -- L
              obtain ⟨f1, f2⟩ := hwf.2.1 hk
              have hm2 : m = 2 := by omega
              subst hm2
              rw [tkm_L hk] at hst ⊢
              have hs2 := (hl (t + 2) (by omega) (by omega)).1
              have hT2 : tkS q.1 2 (t + 2) ++ 2 :: r = (x_sg q.1 (t + 2) + 3 + 32 * x_st q.1 (t + 2)) :: (tkS q.1 1 (t + 3) ++ 2 :: r) := by
                rw [tkS_s, tkT_leaf (by omega), hs2, tkm_nm f2]
                simp
              rw [hT2] at hst ⊢
              show (∀ e, xb (if x_sg w.1 (t + 1) = 76 then _ else _) (e_put 2) = .error e → _) ∧ (∀ p, xb (if x_sg w.1 (t + 1) = 76 then _ else _) (e_put 2) = .ok p → _)
              rw [w3, if_pos hk]
              cases hp3 : e_put 3 w with
              | error e =>
                rw [show nI 3 = 3 from rfl, hp3] at hst
                refine ⟨fun e' h => ?_, fun p h => by cases h⟩
                cases h
                exact o_to.one hst
              | ok v =>
                obtain ⟨v1, v2, v3, v4⟩ := x_of_put w1 w2 hp3
                have hvq : v.1 = q.1 := v3.trans w3
                rw [show nI 3 = 3 from rfl, hp3] at hst
                have hen2 : ∀ z, z ∈ (x_sg q.1 (t + 2), x_st q.1 (t + 2)) :: en → c_nm z.1 := fun z hz => by
                  rcases List.mem_cons.mp hz with hz | hz
                  · rw [hz]; exact f2
                  · exact hen z hz
                have hch3 := ch_lf hl hwt.2.1 (show ¬ x_sg q.1 (t + 2) = 40 by omega) hch2
                obtain ⟨s1, s2⟩ := sim_its (b := 1) (op := op) (en := (x_sg q.1 (t + 2), x_st q.1 (t + 2)) :: en) (en2 := en) (r := r) rfl (hg 1 _ hen2) (k := 1) (a := t + 3) (q := v) (by rw [hvq]; exact hch3) (by rw [hvq]; exact hwt.2.1) v1 v2
                have hs : o_to cn rp (oS (1 :: 3 :: (x_sg q.1 (t + 2) + 3 + 32 * x_st q.1 (t + 2)) :: (tkS q.1 1 (t + 3) ++ 2 :: r)) op en q) (.ok (oS (tkS v.1 1 (t + 3) ++ 2 :: r) (1 :: op) ((x_sg q.1 (t + 2), x_st q.1 (t + 2)) :: en) v)) := by
                  rw [hvq]
                  exact o_to.one hst
                show (∀ e, xb (e_xs g ((x_sg v.1 (t + 2), x_st v.1 (t + 2)) :: en) 1 (t + 3) v) (e_put 2) = .error e → _) ∧ (∀ p, xb (e_xs g ((x_sg v.1 (t + 2), x_st v.1 (t + 2)) :: en) 1 (t + 3) v) (e_put 2) = .ok p → _)
                rw [hvq]
                refine ⟨fun e h => hs.tr (s1 e h), fun p h => ?_⟩
                obtain ⟨z1, z2, z3, z4⟩ := s2 p h
                exact ⟨hs.tr z1, z2, z3, (w4.tr v4).tr z4⟩
            · -- I
              have f1 := hwf.2.2.1 hk
              have hm2 : m = 3 := by omega
              subst hm2
              rw [tkm_I hk] at hst ⊢
              show (∀ e, xb (if x_sg w.1 (t + 1) = 76 then _ else if x_sg w.1 (t + 1) = 73 then _ else _) (e_put 2) = .error e → _) ∧ (∀ p, xb (if x_sg w.1 (t + 1) = 76 then _ else if x_sg w.1 (t + 1) = 73 then _ else _) (e_put 2) = .ok p → _)
              rw [w3, if_neg (by omega), if_pos hk]
              cases hp3 : e_put 4 w with
              | error e =>
                rw [show nI 4 = 4 from rfl, hp3] at hst
                refine ⟨fun e' h => ?_, fun p h => by cases h⟩
                cases h
                exact o_to.one hst
              | ok v =>
                obtain ⟨v1, v2, v3, v4⟩ := x_of_put w1 w2 hp3
                have hvq : v.1 = q.1 := v3.trans w3
                rw [show nI 4 = 4 from rfl, hp3] at hst
                obtain ⟨s1, s2⟩ := sim_its (b := 0) (op := op) (en := en) (en2 := en) (r := r) rfl (hg 0 _ hen) (k := 3) (a := t + 2) (q := v) (by rw [hvq]; exact hch2) (by rw [hvq]; exact hwt.2.1) v1 v2
                have hs : o_to cn rp (oS (1 :: 4 :: (tkS q.1 3 (t + 2) ++ 2 :: r)) op en q) (.ok (oS (tkS v.1 3 (t + 2) ++ 2 :: r) (0 :: op) en v)) := by
                  rw [hvq]
                  exact o_to.one hst
                refine ⟨fun e h => hs.tr (s1 e h), fun p h => ?_⟩
                obtain ⟨z1, z2, z3, z4⟩ := s2 p h
                exact ⟨hs.tr z1, z2, z3, (w4.tr v4).tr z4⟩
            · -- Q
              have f1 := hwf.2.2.2 hk
              have hm2 : m = 1 := by omega
              subst hm2
              have ht2 : t + 2 < t + x_sp q.1 t := hch2.1
              rw [tkm_Q hk] at hst ⊢
              show (∀ e, xb (if x_sg w.1 (t + 1) = 76 then _ else if x_sg w.1 (t + 1) = 73 then _ else if x_sg w.1 (t + 1) = 81 then _ else _) (e_put 2) = .error e → _) ∧ (∀ p, xb (if x_sg w.1 (t + 1) = 76 then _ else if x_sg w.1 (t + 1) = 73 then _ else if x_sg w.1 (t + 1) = 81 then _ else _) (e_put 2) = .ok p → _)
              rw [w3, if_neg (by omega), if_neg (by omega), if_pos hk]
              cases hp3 : e_put 5 w with
              | error e =>
                rw [show nI 5 = 5 from rfl, hp3] at hst
                refine ⟨fun e' h => ?_, fun p h => by cases h⟩
                cases h
                exact o_to.one hst
              | ok v =>
                obtain ⟨v1, v2, v3, v4⟩ := x_of_put w1 w2 hp3
                have hvq : v.1 = q.1 := v3.trans w3
                rw [show nI 5 = 5 from rfl, hp3] at hst
                have hT1 : tkS q.1 1 (t + 2) ++ 2 :: r = tkT q.1 (t + 2) ++ 2 :: r := by
                  rw [tkS_s]
                  show (tkT q.1 (t + 2) ++ []) ++ 2 :: r = _
                  rw [List.append_nil]
                have hmk : (o_1st (tkS q.1 1 (t + 2) ++ 2 :: r)).map o_qm = q_n q.1 60 (t + 2) := by
                  rw [hT1, o_1st_T hw.1 ho.1 (by omega)]
                  exact qm_n 60 (t + 2) (tk_ok_n hw.1 ho.1 60 _ (by omega))
                have hsk : (sk (tkS q.1 1 (t + 2) ++ 2 :: r) 0).tail = r := by
                  rw [hT1, sk_T hw.1 ho.1 (by omega)]
                  rfl
                have hst2 : o_st cn rp (oS (1 :: 5 :: (tkS q.1 1 (t + 2) ++ 2 :: r)) op en q) = ob (o_puts ((o_1st (tkS q.1 1 (t + 2) ++ 2 :: r)).map o_qm ++ [2]) (oS (1 :: 5 :: (tkS q.1 1 (t + 2) ++ 2 :: r)) op en v)) (fun q0 => .ok ((sk (tkS q.1 1 (t + 2) ++ 2 :: r) 0).tail, q0.2.1, q0.2.2)) := hst
                rw [hmk, hsk, o_puts_S _ _ v1.2.2.2.2.2] at hst2
                have epp : e_puts (q_n q.1 60 (t + 2) ++ [2]) v = xb (e_puts (q_n q.1 60 (t + 2)) v) (e_put 2) := by
                  unfold e_puts
                  by_cases ha : v.2.2.2 + (q_n q.1 60 (t + 2)).length ≤ 150
                  · rw [if_pos ha]
                    show _ = e_put 2 (v.1, v.2.1, p_ap v.2.2.1 v.2.2.2 (q_n q.1 60 (t + 2)), v.2.2.2 + (q_n q.1 60 (t + 2)).length)
                    unfold e_put
                    by_cases hb : v.2.2.2 + (q_n q.1 60 (t + 2)).length < 150
                    · rw [if_pos (by rw [List.length_append]; show _ + (_ + 1) ≤ 150; omega), if_pos hb, p_ap_app, List.length_append]
                      rfl
                    · rw [if_neg (by rw [List.length_append]; show ¬ _ + (_ + 1) ≤ 150; omega), if_neg hb]
                  · rw [if_neg ha, if_neg (by rw [List.length_append]; show ¬ _ + (_ + 1) ≤ 150; omega)]
                    rfl
                rw [epp] at hst2
                show (∀ e, xb (e_puts (q_n v.1 60 (t + 2)) v) (e_put 2) = .error e → _) ∧ (∀ p, xb (e_puts (q_n v.1 60 (t + 2)) v) (e_put 2) = .ok p → _)
                rw [hvq]
                refine ⟨fun e h => ?_, fun p h => ?_⟩
                · rw [h] at hst2
                  exact o_to.one hst2
                · rw [h] at hst2
                  obtain ⟨u, hu1, hu2⟩ := xb_ok h
                  have hu3 := e_puts_ok v1 hu1
                  have hu4 : u.1 = q.1 := by
                    unfold e_puts at hu1
                    split at hu1
                    · cases hu1; exact hvq
                    · cases hu1
                  have hu5 : t_oq u := by
                    unfold e_puts at hu1
                    split at hu1
                    · cases hu1; exact v2
                    · cases hu1
                  obtain ⟨z1, z2, z3, z4⟩ := x_of_put hu3.1 hu5 hu2
                  exact ⟨o_to.one hst2, z2, z1, ((w4.tr v4).tr hu3.2).tr z4⟩
        · have e1 : e_fm g en t q = .error (isN, q.2.1) := by unfold e_fm; rw [if_neg hwf]
          have e2 : o_fm (tkm (some (x_sg q.1 (t + 1), x_st q.1 (t + 1)))) (tkS q.1 m (t + 2) ++ 2 :: r) (oS (1 :: tkm (some (x_sg q.1 (t + 1), x_st q.1 (t + 1))) :: (tkS q.1 m (t + 2) ++ 2 :: r)) op en q) = .error (2, q.2.1) := by
            unfold o_fm
            rw [if_neg (fun z => hwf (hgood.mp z))]
            rfl
          rw [e1]
          refine ⟨fun e h => ?_, fun p h => by cases h⟩
          cases h
          exact o_to.one (hst.trans e2)
      · -- an application
        have hwf : e_wf q.1 t := ⟨hi0, fun z => absurd (Or.inl z) hk, fun z => absurd (Or.inr (Or.inl z)) hk, fun z => absurd (Or.inr (Or.inr z)) hk⟩
        obtain ⟨s, hs⟩ := tkT_hd (y := q.1) (a := t + 1)
        have hT : tkT q.1 t ++ r = 1 :: tkm (some (x_sg q.1 (t + 1), x_st q.1 (t + 1))) :: (s ++ (tkS q.1 m (t + 1 + x_sp q.1 (t + 1)) ++ [2]) ++ r) := by
          rw [hhd, hs]
          simp
        have hT2 : tkm (some (x_sg q.1 (t + 1), x_st q.1 (t + 1))) :: (s ++ (tkS q.1 m (t + 1 + x_sp q.1 (t + 1)) ++ [2]) ++ r) = tkS q.1 (m + 1) (t + 1) ++ 2 :: r := by
          rw [tkS_s, hs]
          simp
        have c1 : ¬ tkm (some (x_sg q.1 (t + 1), x_st q.1 (t + 1))) = 2 := by
          by_cases h9 : x_sg q.1 (t + 1) = 40
          · rw [tkm_open h9]; decide
          · exact (tkm_leaf h9 hc1).2
        have c2 : ¬ (3 ≤ tkm (some (x_sg q.1 (t + 1), x_st q.1 (t + 1))) ∧ tkm (some (x_sg q.1 (t + 1), x_st q.1 (t + 1))) ≤ 5) := by
          rcases hc1 with h9 | h9 | h9 | h9
          · rw [tkm_open h9]; decide
          · rw [tkm_nm h9]; omega
          · rw [tkm_nu h9]; omega
          · exact absurd h9 hk
        have c3 : ¬ (100 ≤ tkm (some (x_sg q.1 (t + 1), x_st q.1 (t + 1))) ∧ o_lv (tkm (some (x_sg q.1 (t + 1), x_st q.1 (t + 1)))) (e_nms en) = none ∧ cn ((tkm (some (x_sg q.1 (t + 1), x_st q.1 (t + 1))) - 100) % 32) = true) := fun z => by
          have hnm := (tkm_100 hc1).mp z.1
          have z2 := z.2.1
          have z3 := z.2.2
          rw [tkm_nm hnm] at z2 z3
          rw [o_lv_en hnm en hen] at z2
          rw [show (x_sg q.1 (t + 1) + 3 + 32 * x_st q.1 (t + 1) - 100) % 32 = x_sg q.1 (t + 1) - 97 by omega] at z3
          exact hu ⟨hi0, hnm, (hru.1 _ hnm).mp z3, z2⟩
        have hst := o_st_ap (cn := cn) (rp := rp) (en := en) (q := q) (r1 := s ++ (tkS q.1 m (t + 1 + x_sp q.1 (t + 1)) ++ [2]) ++ r) hop c1 c2 c3
        rw [hT2, o_put_S] at hst
        rw [hT, hT2]
        have ef : e_fm g en t q = xb (xb (e_put 1 q) (fun q => if x_sg q.1 (t + 1) = 76 then xb (e_put 3 q) (fun q => e_xs g ((x_sg q.1 (t + 2), x_st q.1 (t + 2)) :: en) 1 (t + 3) q)
            else if x_sg q.1 (t + 1) = 73 then xb (e_put 4 q) (fun q => e_xs g en 3 (t + 2) q)
            else if x_sg q.1 (t + 1) = 81 then xb (e_put 5 q) (fun q => e_puts (q_n q.1 60 (t + 2)) q)
            else e_xs g en (x_it q.1 t) (t + 1) q)) (e_put 2) := by
          unfold e_fm
          rw [if_pos hwf]
        rw [ef]
        cases hp1 : e_put 1 q with
        | error e =>
          rw [hp1] at hst
          refine ⟨fun e' h => ?_, fun p h => by cases h⟩
          cases h
          exact o_to.one hst
        | ok w =>
          rw [hp1] at hst
          obtain ⟨w1, w2, w3, w4⟩ := x_of_put hq ho hp1
          show (∀ e, xb (if x_sg w.1 (t + 1) = 76 then _ else if x_sg w.1 (t + 1) = 73 then _ else if x_sg w.1 (t + 1) = 81 then _ else e_xs g en (x_it w.1 t) (t + 1) w) (e_put 2) = .error e → _) ∧ (∀ p, xb (if x_sg w.1 (t + 1) = 76 then _ else if x_sg w.1 (t + 1) = 73 then _ else if x_sg w.1 (t + 1) = 81 then _ else e_xs g en (x_it w.1 t) (t + 1) w) (e_put 2) = .ok p → _)
          rw [w3, if_neg (fun z => hk (Or.inl z)), if_neg (fun z => hk (Or.inr (Or.inl z))), if_neg (fun z => hk (Or.inr (Or.inr z))), hm]
          obtain ⟨s1, s2⟩ := sim_its (b := 0) (op := op) (en := en) (en2 := en) (r := r) rfl (hg 0 _ hen) (k := m + 1) (a := t + 1) (q := w) (by rw [w3]; exact hwt.2.2) (by rw [w3]; exact hwt.2.1) w1 w2
          have hs2 : o_to cn rp (oS (1 :: (tkS q.1 (m + 1) (t + 1) ++ 2 :: r)) op en q) (.ok (oS (tkS w.1 (m + 1) (t + 1) ++ 2 :: r) (0 :: op) en w)) := by
            rw [w3]
            exact o_to.one hst
          refine ⟨fun e h => hs2.tr (s1 e h), fun p h => ?_⟩
          obtain ⟨z1, z2, z3, z4⟩ := s2 p h
          exact ⟨hs2.tr z1, z2, z3, w4.tr z4⟩
  · -- a keyword alone
    have hkw : c_kw (x_sg q.1 t) := by
      rcases ho.1 t ht with h | h | h | h
      · exact absurd h h40
      · exact absurd h h1
      · exact absurd h h2
      · exact h
    have e1 : e_fm g en t q = .error (isN, q.2.1) := by unfold e_fm; rw [if_neg (not_wf_kw hl ht h40)]
    rw [e1, tkT_leaf h40]
    refine ⟨fun e h => ?_, fun p h => by cases h⟩
    cases h
    exact o_to.one (o_st_kw hop (tkm_kw hkw))
end SIM3
