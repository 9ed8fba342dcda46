/-! the class as a memory: arrays by their cells (14 .. 46), plain fields by numbers from 50 on: 50 x.hasImage, 51 texts.many, 52 reader.size, 53 reader.codes, 54 reader.at, 55 reader.token, 56 reader.tokenAt, 57 reader.number, 58 reader.fault, 59 now.gaps, 60 now.stands, 61 now.end, 62 now.reach, 63 now.law, 64 plans.way, 65 plans.longest, 66 plans.longestAt, 67 plans.stretches, 68 picks.any, 69 picks.chosen, 70 picks.least, 71 lots.lot, 72 lots.stands, 73 lots.had, 74 lots.fell, 75 kept.gaps, 76 kept.stands, 77 kept.end, 78 kept.reach, 79 kept.law, 90.. sorts, 94.. sizes of sheets -/
def lgX : Nat → Bool := fun k => k == 42 || k == 69 || k == 70 || k == 71
def wdX (a : Nat → Nat) (cI cJ cS cT : ClassId) (s : gMem) : va_W := [(a 0, .inr (8, [.ref (a 1), .ref (a 2), .ref (a 3), .ref (a 5), .ref (a 6), .ref (a 7), .ref (a 8), .ref (a 9), gI (s 50 0)])), (a 1, .inr (7, [.ref (a 18), .ref (a 25), .ref (a 32), gI (s 51 0)])), (a 2, .inr (3, [.ref (a 33), .ref (a 34), .ref (a 35), gI (s 52 0), gI (s 53 0), gI (s 54 0), gI (s 55 0), gI (s 56 0), gI (s 57 0), gI (s 58 0)])), (a 3, .inr (4, [.ref (a 4), .ref (a 1), .ref (a 36), .ref (a 37), .ref (a 38), .ref (a 39)])), (a 4, .inr (6, [.ref (a 40), .ref (a 41), gI (s 59 0), gI (s 60 0), gI (s 61 0), gI (s 62 0), gI (s 63 0)])), (a 5, .inr (2, [.ref (a 3), .ref (a 42), .ref (a 43), .ref (a 44), gI (s 64 0), gI (s 65 0), gI (s 66 0), gI (s 67 0)])), (a 6, .inr (1, [.ref (a 5), gI (s 68 0), gL (s 69 0), gL (s 70 0)])), (a 7, .inr (0, [.ref (a 3), gL (s 71 0), gI (s 72 0), gI (s 73 0), gI (s 74 0)])), (a 8, .inr (6, [.ref (a 45), .ref (a 46), gI (s 75 0), gI (s 76 0), gI (s 77 0), gI (s 78 0), gI (s 79 0)])), (a 9, .inl (cS, 4, .inr (.inr (.inr (.inr (fun j => some (a (10 + j)))))))), (a 10, .inr (5, [.ref (a 14), gI (s 90 0), gI (s 94 0)])), (a 11, .inr (5, [.ref (a 15), gI (s 91 0), gI (s 95 0)])), (a 12, .inr (5, [.ref (a 16), gI (s 92 0), gI (s 96 0)])), (a 13, .inr (5, [.ref (a 17), gI (s 93 0), gI (s 97 0)])), (a 14, .inl (cI, 40, .inl (fun j : Nat => Int32.ofInt (s 14 (j : Int))))), (a 15, .inl (cI, 40, .inl (fun j : Nat => Int32.ofInt (s 15 (j : Int))))), (a 16, .inl (cI, 40, .inl (fun j : Nat => Int32.ofInt (s 16 (j : Int))))), (a 17, .inl (cI, 40, .inl (fun j : Nat => Int32.ofInt (s 17 (j : Int))))), (a 18, .inl (cT, 6, .inr (.inr (.inr (.inr (fun j => some (a (19 + j)))))))), (a 19, .inl (cI, 160, .inl (fun j : Nat => Int32.ofInt (s 19 (j : Int))))), (a 20, .inl (cI, 160, .inl (fun j : Nat => Int32.ofInt (s 20 (j : Int))))), (a 21, .inl (cI, 160, .inl (fun j : Nat => Int32.ofInt (s 21 (j : Int))))), (a 22, .inl (cI, 160, .inl (fun j : Nat => Int32.ofInt (s 22 (j : Int))))), (a 23, .inl (cI, 160, .inl (fun j : Nat => Int32.ofInt (s 23 (j : Int))))), (a 24, .inl (cI, 160, .inl (fun j : Nat => Int32.ofInt (s 24 (j : Int))))), (a 25, .inl (cT, 6, .inr (.inr (.inr (.inr (fun j => some (a (26 + j)))))))), (a 26, .inl (cI, 4, .inl (fun j : Nat => Int32.ofInt (s 26 (j : Int))))), (a 27, .inl (cI, 4, .inl (fun j : Nat => Int32.ofInt (s 27 (j : Int))))), (a 28, .inl (cI, 4, .inl (fun j : Nat => Int32.ofInt (s 28 (j : Int))))), (a 29, .inl (cI, 4, .inl (fun j : Nat => Int32.ofInt (s 29 (j : Int))))), (a 30, .inl (cI, 4, .inl (fun j : Nat => Int32.ofInt (s 30 (j : Int))))), (a 31, .inl (cI, 4, .inl (fun j : Nat => Int32.ofInt (s 31 (j : Int))))), (a 32, .inl (cI, 161, .inl (fun j : Nat => Int32.ofInt (s 32 (j : Int))))), (a 33, .inl (cI, 160, .inl (fun j : Nat => Int32.ofInt (s 33 (j : Int))))), (a 34, .inl (cI, 160, .inl (fun j : Nat => Int32.ofInt (s 34 (j : Int))))), (a 35, .inl (cI, 4, .inl (fun j : Nat => Int32.ofInt (s 35 (j : Int))))), (a 36, .inl (cI, 6, .inl (fun j : Nat => Int32.ofInt (s 36 (j : Int))))), (a 37, .inl (cI, 272, .inl (fun j : Nat => Int32.ofInt (s 37 (j : Int))))), (a 38, .inl (cI, 272, .inl (fun j : Nat => Int32.ofInt (s 38 (j : Int))))), (a 39, .inl (cI, 16, .inl (fun j : Nat => Int32.ofInt (s 39 (j : Int))))), (a 40, .inl (cI, 16, .inl (fun j : Nat => Int32.ofInt (s 40 (j : Int))))), (a 41, .inl (cI, 16, .inl (fun j : Nat => Int32.ofInt (s 41 (j : Int))))), (a 42, .inl (cJ, 256, .inr (.inl (fun j : Nat => Int64.ofInt (s 42 (j : Int)))))), (a 43, .inl (cI, 16, .inl (fun j : Nat => Int32.ofInt (s 43 (j : Int))))), (a 44, .inl (cI, 16, .inl (fun j : Nat => Int32.ofInt (s 44 (j : Int))))), (a 45, .inl (cI, 16, .inl (fun j : Nat => Int32.ofInt (s 45 (j : Int))))), (a 46, .inl (cI, 16, .inl (fun j : Nat => Int32.ofInt (s 46 (j : Int)))))]
theorem hwdX (a : Nat → Nat) (cI cJ cS cT : ClassId) : ∀ σ, (wdX a cI cJ cS cT σ).map (·.1) = (wdX a cI cJ cS cT (fun _ _ => 0)).map (·.1) := fun _ => rfl
theorem memb (b n : Nat) {k : Nat} {W : List Nat} (hk : k < n) (h : (List.range n).all (fun j => decide (b + j ∈ W)) = true) : b + k ∈ W := by
  have h1 := List.all_eq_true.mp h k (List.mem_range.mpr hk)
  exact of_decide_eq_true h1
theorem shO (a : Nat → Nat) (cI cJ cS cT : ClassId) (s : gMem) : ∀ {k : Nat}, k < 4 → (wdX a cI cJ cS cT s)[10 + k]? = some (a (10 + k), .inr (5, [.ref (a (14 + k)), gI (s (90 + k) 0), gI (s (94 + k) 0)]))
  | 0, _ => rfl
  | 1, _ => rfl
  | 2, _ => rfl
  | 3, _ => rfl
  | q + 4, h => absurd h (by omega)
theorem shL1 : ∀ {k : Nat}, k < 4 → lgX (90 + k) = false
  | 0, _ => rfl
  | 1, _ => rfl
  | 2, _ => rfl
  | 3, _ => rfl
  | q + 4, h => absurd h (by omega)
theorem shS1 (a : Nat → Nat) (cI cJ cS cT : ClassId) (s : gMem) (v : Int) : ∀ {k : Nat}, k < 4 → (wdX a cI cJ cS cT s).set (10 + k) (a (10 + k), .inr (5, List.set [.ref (a (14 + k)), gI (s (90 + k) 0), gI (s (94 + k) 0)] 1 (gI v))) = wdX a cI cJ cS cT (mset s (90 + k) 0 v)
  | 0, _ => rfl
  | 1, _ => rfl
  | 2, _ => rfl
  | 3, _ => rfl
  | q + 4, h => absurd h (by omega)
theorem shL2 : ∀ {k : Nat}, k < 4 → lgX (94 + k) = false
  | 0, _ => rfl
  | 1, _ => rfl
  | 2, _ => rfl
  | 3, _ => rfl
  | q + 4, h => absurd h (by omega)
theorem shS2 (a : Nat → Nat) (cI cJ cS cT : ClassId) (s : gMem) (v : Int) : ∀ {k : Nat}, k < 4 → (wdX a cI cJ cS cT s).set (10 + k) (a (10 + k), .inr (5, List.set [.ref (a (14 + k)), gI (s (90 + k) 0), gI (s (94 + k) 0)] 2 (gI v))) = wdX a cI cJ cS cT (mset s (94 + k) 0 v)
  | 0, _ => rfl
  | 1, _ => rfl
  | 2, _ => rfl
  | 3, _ => rfl
  | q + 4, h => absurd h (by omega)
theorem scL : ∀ {k : Nat}, k < 4 → lgX (14 + k) = false
  | 0, _ => rfl
  | 1, _ => rfl
  | 2, _ => rfl
  | 3, _ => rfl
  | q + 4, h => absurd h (by omega)
theorem scA (a : Nat → Nat) (cI cJ cS cT : ClassId) (s : gMem) : ∀ {k : Nat}, k < 4 → (wdX a cI cJ cS cT s)[14 + k]? = some (a (14 + k), .inl (cI, 40, .inl (fun j : Nat => Int32.ofInt (s (14 + k) (j : Int)))))
  | 0, _ => rfl
  | 1, _ => rfl
  | 2, _ => rfl
  | 3, _ => rfl
  | q + 4, h => absurd h (by omega)
theorem scS (a : Nat → Nat) (cI cJ cS cT : ClassId) (s : gMem) (i v : Int) : ∀ {k : Nat}, k < 4 → (wdX a cI cJ cS cT s).set (14 + k) (a (14 + k), .inl (cI, 40, .inl (fun j : Nat => Int32.ofInt (mset s (14 + k) i v (14 + k) (j : Int))))) = wdX a cI cJ cS cT (mset s (14 + k) i v)
  | 0, _ => rfl
  | 1, _ => rfl
  | 2, _ => rfl
  | 3, _ => rfl
  | q + 4, h => absurd h (by omega)
theorem coL : ∀ {k : Nat}, k < 6 → lgX (19 + k) = false
  | 0, _ => rfl
  | 1, _ => rfl
  | 2, _ => rfl
  | 3, _ => rfl
  | 4, _ => rfl
  | 5, _ => rfl
  | q + 6, h => absurd h (by omega)
theorem coA (a : Nat → Nat) (cI cJ cS cT : ClassId) (s : gMem) : ∀ {k : Nat}, k < 6 → (wdX a cI cJ cS cT s)[19 + k]? = some (a (19 + k), .inl (cI, 160, .inl (fun j : Nat => Int32.ofInt (s (19 + k) (j : Int)))))
  | 0, _ => rfl
  | 1, _ => rfl
  | 2, _ => rfl
  | 3, _ => rfl
  | 4, _ => rfl
  | 5, _ => rfl
  | q + 6, h => absurd h (by omega)
theorem coS (a : Nat → Nat) (cI cJ cS cT : ClassId) (s : gMem) (i v : Int) : ∀ {k : Nat}, k < 6 → (wdX a cI cJ cS cT s).set (19 + k) (a (19 + k), .inl (cI, 160, .inl (fun j : Nat => Int32.ofInt (mset s (19 + k) i v (19 + k) (j : Int))))) = wdX a cI cJ cS cT (mset s (19 + k) i v)
  | 0, _ => rfl
  | 1, _ => rfl
  | 2, _ => rfl
  | 3, _ => rfl
  | 4, _ => rfl
  | 5, _ => rfl
  | q + 6, h => absurd h (by omega)
theorem beL : ∀ {k : Nat}, k < 6 → lgX (26 + k) = false
  | 0, _ => rfl
  | 1, _ => rfl
  | 2, _ => rfl
  | 3, _ => rfl
  | 4, _ => rfl
  | 5, _ => rfl
  | q + 6, h => absurd h (by omega)
theorem beA (a : Nat → Nat) (cI cJ cS cT : ClassId) (s : gMem) : ∀ {k : Nat}, k < 6 → (wdX a cI cJ cS cT s)[26 + k]? = some (a (26 + k), .inl (cI, 4, .inl (fun j : Nat => Int32.ofInt (s (26 + k) (j : Int)))))
  | 0, _ => rfl
  | 1, _ => rfl
  | 2, _ => rfl
  | 3, _ => rfl
  | 4, _ => rfl
  | 5, _ => rfl
  | q + 6, h => absurd h (by omega)
theorem beS (a : Nat → Nat) (cI cJ cS cT : ClassId) (s : gMem) (i v : Int) : ∀ {k : Nat}, k < 6 → (wdX a cI cJ cS cT s).set (26 + k) (a (26 + k), .inl (cI, 4, .inl (fun j : Nat => Int32.ofInt (mset s (26 + k) i v (26 + k) (j : Int))))) = wdX a cI cJ cS cT (mset s (26 + k) i v)
  | 0, _ => rfl
  | 1, _ => rfl
  | 2, _ => rfl
  | 3, _ => rfl
  | 4, _ => rfl
  | 5, _ => rfl
  | q + 6, h => absurd h (by omega)
