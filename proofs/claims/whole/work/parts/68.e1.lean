/-! the reference's fresh memory, before it reads the law -/
def lawL : List Int := [102, 97, 108, 108, 115, 32, 50, 32, 59, 32, 116, 97, 107, 101, 115, 32, 51, 32, 59, 32, 99, 108, 111, 115, 101, 115, 32, 49, 48, 32, 59]
def wordL : List Int := [102, 97, 108, 108, 115, 32, 32, 32, 116, 97, 107, 101, 115, 32, 32, 32, 99, 108, 111, 115, 101, 115, 32, 32, 112, 108, 97, 99, 101, 32, 32, 32, 109, 111, 114, 101, 32, 32, 32, 32, 98, 101, 115, 105, 100, 101, 32, 32, 103, 97, 112, 115, 32, 32, 32, 32, 101, 110, 100, 32, 32, 32, 32, 32, 114, 101, 97, 99, 104, 32, 32, 32, 111, 114, 32, 32, 32, 32, 32, 32, 97, 110, 100, 32, 32, 32, 32, 32, 110, 111, 116, 32, 32, 32, 32, 32]
def tm0 : gMem := fun k i => if k = 3 then (if 0 ≤ i then lawL.getD i.toNat 0 else 0) else if k = 4 then (if i = 0 then 31 else 0) else if k = 12 then (if 0 ≤ i ∧ i < 4 then -1 else 0) else if k = 15 then (if 0 ≤ i then lawL.getD i.toNat 0 else 0) else if k = 20 then (if 0 ≤ i then wordL.getD i.toNat 0 else 0) else 0
set_option maxRecDepth 100000 in
theorem tm_next : (f_X9_next tm0).2 16 0 = 5 := by decide +kernel
