/-! The reference's expansion, on lists of tokens. -/
/-- what is left of the row; the lists begun, whether each binds; the names bound; the marks; the replacements -/
abbrev OQ : Type := List Nat × List Nat × List Nat × (Nat → Int32) × Nat × Nat
abbrev OR (α : Type) : Type := Except (Nat × Nat) α
def ob {α β : Type} (a : OR α) (f : α → OR β) : OR β := match a with
  | .error e => .error e
  | .ok p => f p
theorem ob_k {α β : Type} {a : OR α} {f : α → OR β} {w : α} (h : a = .ok w) : ob a f = f w := by rw [h]; rfl
theorem ob_e {α β : Type} {a : OR α} {f : α → OR β} {e : Nat × Nat} (h : a = .error e) : ob a f = .error e := by rw [h]; rfl
def o_put (m : Int32) (q : OQ) : OR OQ := if q.2.2.2.2.1 < 150 then .ok (q.1, q.2.1, q.2.2.1, upd q.2.2.2.1 q.2.2.2.2.1 m, q.2.2.2.2.1 + 1, q.2.2.2.2.2) else .error (3, q.2.2.2.2.2)
def o_puts : List Int32 → OQ → OR OQ
  | [], q => .ok q
  | m :: r, q => ob (o_put m q) (o_puts r)
/-- the level of a name, the innermost first -/
def o_lv (t : Nat) : List Nat → Option Nat
  | [] => none
  | q :: r => if q = t then some r.length else o_lv t r
/-- how many terms stand ahead of the list's end -/
def o_ct : Nat → List Nat → Nat
  | 0, _ => 0
  | _ + 1, [] => 0
  | f + 1, t :: r => if t = 2 then 0 else o_ct f (sk (t :: r) 0) + 1
/-- the tokens of the first term -/
def o_1st (r : List Nat) : List Nat := r.take (r.length - (sk r 0).length)
/-- a quoted token's mark -/
def o_qm (t : Nat) : Int32 := if 100 ≤ t then nI (100 + (t - 100) % 32) else if 3 ≤ t ∧ t ≤ 5 then 2 - nI t else nI t
/-- a form: key t1, r1 behind it -/
def o_fm (t1 : Nat) (r1 : List Nat) (q : OQ) : OR OQ :=
  if (if t1 = 3 then o_ct r1.length r1 = 2 ∧ 100 ≤ r1.headD 0 else if t1 = 4 then o_ct r1.length r1 = 3 else o_ct r1.length r1 = 1) then
    ob (ob (o_put 1 q) (o_put (nI t1))) (fun q => if t1 = 5 then ob (o_puts ((o_1st r1).map o_qm ++ [2]) q) (fun q => .ok ((sk r1 0).tail, q.2.1, q.2.2))
      else if t1 = 3 then .ok (r1.tail, 1 :: q.2.1, r1.headD 0 :: q.2.2.1, q.2.2.2) else .ok (r1, 0 :: q.2.1, q.2.2))
  else .error (2, q.2.2.2.2.2)
/-- a name's mark -/
def o_nmk (t : Nat) (nm : List Nat) : Int32 := match o_lv t nm with
  | none => nI (100 + (t - 100) % 32)
  | some i => nI (200 + i)
/-- one step: cn c whether a rule of the letter c is there, rp what a use is replaced by -/
def o_st (cn : Nat → Bool) (rp : Nat → List Nat → Except Nat (List Nat)) (q : OQ) : OR OQ := match q.1 with
  | [] => .ok q
  | t :: r => if t = 2 then ob (o_put 2 q) (fun q => .ok (r, q.2.1.tail, (if q.2.1.headD 0 = 1 then q.2.2.1.tail else q.2.2.1), q.2.2.2))
    else if q.2.1.length = 12 then .error (3, q.2.2.2.2.2)
    else if t = 1 then (match r with
      | [] => .error (2, q.2.2.2.2.2)
      | t1 :: r1 => if t1 = 2 then .error (2, q.2.2.2.2.2) else if 3 ≤ t1 ∧ t1 ≤ 5 then o_fm t1 r1 q
        else if 100 ≤ t1 ∧ o_lv t1 q.2.2.1 = none ∧ cn ((t1 - 100) % 32) = true then (match rp q.2.2.2.2.2 (t :: r) with
          | .error e => .error (e, q.2.2.2.2.2)
          | .ok r2 => .ok (r2, q.2.1, q.2.2.1, q.2.2.2.1, q.2.2.2.2.1, q.2.2.2.2.2 + 1))
        else ob (o_put 1 q) (fun q => .ok (t1 :: r1, 0 :: q.2.1, q.2.2)))
    else if 100 ≤ t then ob (o_put (o_nmk t q.2.2.1) q) (fun q => .ok (r, q.2))
    else if 3 ≤ t ∧ t ≤ 5 then .error (2, q.2.2.2.2.2)
    else ob (o_put (nI t) q) (fun q => .ok (r, q.2))
def o_go (cn : Nat → Bool) (rp : Nat → List Nat → Except Nat (List Nat)) : Nat → OQ → OR OQ
  | 0, q => .ok q
  | n + 1, q => ob (o_st cn rp q) (o_go cn rp n)
theorem o_go_add {cn : Nat → Bool} {rp : Nat → List Nat → Except Nat (List Nat)} : ∀ (a b : Nat) (q : OQ), o_go cn rp (a + b) q = ob (o_go cn rp a q) (o_go cn rp b)
  | 0, b, q => by rw [Nat.zero_add]; rfl
  | a + 1, b, q => by
    rw [Nat.succ_add]
    show ob (o_st cn rp q) (o_go cn rp (a + b)) = ob (ob (o_st cn rp q) (o_go cn rp a)) (o_go cn rp b)
    cases o_st cn rp q with
    | error e => rfl
    | ok w => exact o_go_add a b w
/-- it comes, in some steps, from q to p, or to a fault -/
def o_to (cn : Nat → Bool) (rp : Nat → List Nat → Except Nat (List Nat)) (q : OQ) (p : OR OQ) : Prop := ∃ n, o_go cn rp n q = p
theorem o_to.rf {cn : Nat → Bool} {rp : Nat → List Nat → Except Nat (List Nat)} {q : OQ} : o_to cn rp q (.ok q) := ⟨0, rfl⟩
theorem o_to.tr {cn : Nat → Bool} {rp : Nat → List Nat → Except Nat (List Nat)} {q p : OQ} {w : OR OQ} (h : o_to cn rp q (.ok p)) (h2 : o_to cn rp p w) : o_to cn rp q w := by
  obtain ⟨a, ha⟩ := h
  obtain ⟨b, hb⟩ := h2
  exact ⟨a + b, by rw [o_go_add, ha]; exact hb⟩
theorem o_to.one {cn : Nat → Bool} {rp : Nat → List Nat → Except Nat (List Nat)} {q : OQ} {w : OR OQ} (h : o_st cn rp q = w) : o_to cn rp q w := ⟨1, by
  show ob (o_st cn rp q) (fun q => .ok q) = w
  rw [h]
  cases w <;> rfl⟩
