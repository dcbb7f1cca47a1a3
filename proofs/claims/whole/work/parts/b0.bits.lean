/-! Bits of a set of letters. -/
def bt1 (v : Int32) (c : Nat) : Int32 := (v >>> (nI c &&& 31)) &&& 1
theorem bv_bit {v : Int32} {c : Nat} (hc : c < 32) : bt1 v c = if v.toBitVec.getLsbD c then 1 else 0 := by
  have e1 : nI c &&& 31 = nI c := by rw [nI_and31 (by omega), Nat.mod_eq_of_lt hc]
  unfold bt1
  rw [e1]
  apply Int32.toBitVec_inj.mp
  rw [Int32.toBitVec_and, Int32.toBitVec_shiftRight]
  have e2 : ((nI c).toBitVec.smod 32) = BitVec.ofNat 32 c := by
    show (BitVec.ofNat 32 c).smod 32 = _
    have : ∀ d : Nat, d < 32 → (BitVec.ofNat 32 d).smod 32 = BitVec.ofNat 32 d := by decide
    exact this c hc
  rw [e2]
  apply BitVec.eq_of_getLsbD_eq
  intro i hi
  rw [BitVec.getLsbD_and]
  have e3 : (1 : Int32).toBitVec = 1#32 := by decide
  rw [e3]
  by_cases h0 : i = 0
  · subst h0
    rw [BitVec.sshiftRight_eq', BitVec.toNat_ofNat, Nat.mod_eq_of_lt (by omega), BitVec.getLsbD_sshiftRight]
    by_cases hb : v.toBitVec.getLsbD c
    · rw [if_pos hb]
      simp [hc, hb]
    · rw [if_neg hb]
      have hb2 : v.toBitVec.getLsbD c = false := by simpa using hb
      have hz : (0 : Int32).toBitVec = 0#32 := by decide
      rw [hz, BitVec.getLsbD_zero, Nat.add_zero, if_pos hc, hb2]
      simp
  · have e4 : (1#32).getLsbD i = false := by
      rw [BitVec.getLsbD_one]
      simp [h0]
    rw [e4, Bool.and_false]
    split
    · rw [e3, e4]
    · have : (0 : Int32).toBitVec = 0#32 := by decide
      rw [this, BitVec.getLsbD_zero]
theorem bit_shl {d i : Nat} (hd : d < 32) (hi : i < 32) : (((1 : Int32) <<< (nI d &&& 31)).toBitVec).getLsbD i = decide (i = d) := by
  have e1 : nI d &&& 31 = nI d := by rw [nI_and31 (by omega), Nat.mod_eq_of_lt hd]
  rw [e1, Int32.toBitVec_shiftLeft]
  have key : ∀ d : Nat, d < 32 → ∀ i : Nat, i < 32 → (((1 : Int32).toBitVec) <<< ((nI d).toBitVec.smod 32)).getLsbD i = decide (i = d) := by decide
  exact key d hd i hi
theorem bt_or {v : Int32} {c d : Nat} (hc : c < 32) (hd : d < 32) : bt1 (v ||| ((1 : Int32) <<< (nI d &&& 31))) c = if c = d then 1 else bt1 v c := by
  rw [bv_bit hc, bv_bit hc, Int32.toBitVec_or, BitVec.getLsbD_or, bit_shl hd hc]
  by_cases h : c = d
  · rw [if_pos h]
    simp [h]
  · rw [if_neg h]
    simp [h]
theorem bt_and0 {v : Int32} {d : Nat} (hd : d < 32) : v &&& ((1 : Int32) <<< (nI d &&& 31)) = 0 ↔ bt1 v d = 0 := by
  rw [bv_bit hd]
  constructor
  · intro h
    have h2 := congrArg (fun z : Int32 => z.toBitVec.getLsbD d) h
    simp only [Int32.toBitVec_and, BitVec.getLsbD_and] at h2
    rw [bit_shl hd hd] at h2
    have h0 : ((0 : Int32).toBitVec).getLsbD d = false := by
      have : (0 : Int32).toBitVec = 0#32 := by decide
      rw [this, BitVec.getLsbD_zero]
    rw [h0] at h2
    simp at h2
    simp [h2]
  · intro h
    have hb : v.toBitVec.getLsbD d = false := by
      by_cases hb : v.toBitVec.getLsbD d
      · rw [if_pos hb] at h
        exact absurd h (by decide)
      · simpa using hb
    apply Int32.toBitVec_inj.mp
    apply BitVec.eq_of_getLsbD_eq
    intro i hi
    rw [Int32.toBitVec_and, BitVec.getLsbD_and, bit_shl hd hi]
    have : (0 : Int32).toBitVec = 0#32 := by decide
    rw [this, BitVec.getLsbD_zero]
    by_cases hid : i = d
    · rw [hid, hb]; rfl
    · simp [hid]
theorem bt_andn {v w : Int32} {c : Nat} (hc : c < 32) : bt1 (v &&& (w ^^^ (-1))) c = if bt1 w c = 1 then 0 else bt1 v c := by
  rw [bv_bit hc, bv_bit hc, bv_bit hc, Int32.toBitVec_and, Int32.toBitVec_xor, BitVec.getLsbD_and, BitVec.getLsbD_xor]
  have e : ((-1 : Int32).toBitVec).getLsbD c = true := by
    have : ∀ c : Nat, c < 32 → ((-1 : Int32).toBitVec).getLsbD c = true := by decide
    exact this c hc
  rw [e]
  by_cases hw : w.toBitVec.getLsbD c
  · simp [hw]
  · simp [hw]
theorem bt_0 {c : Nat} (hc : c < 32) : bt1 0 c = 0 := by
  rw [bv_bit hc]
  have : (0 : Int32).toBitVec = 0#32 := by decide
  rw [this, BitVec.getLsbD_zero]
  rfl
theorem bt_01 {v : Int32} {c : Nat} (hc : c < 32) : bt1 v c = 0 ∨ bt1 v c = 1 := by
  rw [bv_bit hc]
  split
  · exact Or.inr rfl
  · exact Or.inl rfl
