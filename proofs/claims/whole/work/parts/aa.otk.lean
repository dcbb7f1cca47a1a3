/-- the reference's number of a sign -/
def o_tk (c : Nat) : Nat := if c_nm c then c + 3 else if c_nu c then c - 38 else if c = 40 then 1 else if c = 41 then 2 else if c = 61 then 8 else if c = 73 then 4 else if c = 76 then 3 else if c = 81 then 5 else if c = 95 then 6 else if c = 126 then 7 else 0
theorem o_tk_lt {c : Nat} (h : c < 65536) : o_tk c < 126 := by
  unfold o_tk
  repeat (first | (split) | omega)
theorem nI_and31 {a : Nat} (h : a < 2 ^ 31) : nI a &&& 31 = nI (a % 32) := by
  apply Int32.toBitVec_inj.mp
  apply BitVec.eq_of_toNat_eq
  have e1 : (nI a &&& 31).toBitVec = (nI a).toBitVec &&& (31 : Int32).toBitVec := rfl
  rw [e1, BitVec.toNat_and]
  have e2 : ((31 : Int32).toBitVec).toNat = 2 ^ 5 - 1 := by decide
  have e3 : ∀ n, n < 2 ^ 31 → ((nI n).toBitVec).toNat = n := fun n hn => by
    show (BitVec.ofNat 32 n).toNat = n
    rw [BitVec.toNat_ofNat]
    exact Nat.mod_eq_of_lt (by omega)
  rw [e2, Nat.and_two_pow_sub_one_eq_mod, e3 a h, e3 (a % 32) (by omega)]
theorem sA_1 (gs : OS) (k : Nat) (v : Nat → Int32) : (sA gs k v).1 = gs.1 := rfl
theorem sI_2 (gs : OS) (k : Nat) (v : Int32) : (sI gs k v).2 = gs.2 := rfl
