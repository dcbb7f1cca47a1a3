/-- the mark of a leaf that is quoted -/
def e_qm (c : Nat) : Int32 := if c = 76 then -1 else if c = 73 then -2 else if c = 81 then -3 else if c_nm c then 100 + nI c - 97 else 10 + nI c - 48
