/-! the lowest bit in which two sets differ -/
def lwk : Nat → Nat → Nat
  | 0, _ => 0
  | n + 1, d => if d % 2 = 1 then 0 else lwk n (d / 2) + 1
def lwOK (j : Nat) : Prop := ∀ h : Fin 8, ∀ l : Fin 256, iand ((256 * (8 * j + h.val) + l.val : Nat) : Int) (-((256 * (8 * j + h.val) + l.val : Nat) : Int)) = ((if 256 * (8 * j + h.val) + l.val = 0 then 0 else 2 ^ lwk 16 (256 * (8 * j + h.val) + l.val) : Nat) : Int)
theorem lw_0 : lwOK 0 := by unfold lwOK; decide +kernel
theorem lw_1 : lwOK 1 := by unfold lwOK; decide +kernel
theorem lw_2 : lwOK 2 := by unfold lwOK; decide +kernel
theorem lw_3 : lwOK 3 := by unfold lwOK; decide +kernel
theorem lw_4 : lwOK 4 := by unfold lwOK; decide +kernel
theorem lw_5 : lwOK 5 := by unfold lwOK; decide +kernel
theorem lw_6 : lwOK 6 := by unfold lwOK; decide +kernel
theorem lw_7 : lwOK 7 := by unfold lwOK; decide +kernel
theorem lw_8 : lwOK 8 := by unfold lwOK; decide +kernel
theorem lw_9 : lwOK 9 := by unfold lwOK; decide +kernel
theorem lw_10 : lwOK 10 := by unfold lwOK; decide +kernel
theorem lw_11 : lwOK 11 := by unfold lwOK; decide +kernel
theorem lw_12 : lwOK 12 := by unfold lwOK; decide +kernel
theorem lw_13 : lwOK 13 := by unfold lwOK; decide +kernel
theorem lw_14 : lwOK 14 := by unfold lwOK; decide +kernel
theorem lw_15 : lwOK 15 := by unfold lwOK; decide +kernel
theorem lw_16 : lwOK 16 := by unfold lwOK; decide +kernel
theorem lw_17 : lwOK 17 := by unfold lwOK; decide +kernel
theorem lw_18 : lwOK 18 := by unfold lwOK; decide +kernel
theorem lw_19 : lwOK 19 := by unfold lwOK; decide +kernel
theorem lw_20 : lwOK 20 := by unfold lwOK; decide +kernel
theorem lw_21 : lwOK 21 := by unfold lwOK; decide +kernel
theorem lw_22 : lwOK 22 := by unfold lwOK; decide +kernel
theorem lw_23 : lwOK 23 := by unfold lwOK; decide +kernel
theorem lw_24 : lwOK 24 := by unfold lwOK; decide +kernel
theorem lw_25 : lwOK 25 := by unfold lwOK; decide +kernel
theorem lw_26 : lwOK 26 := by unfold lwOK; decide +kernel
theorem lw_27 : lwOK 27 := by unfold lwOK; decide +kernel
theorem lw_28 : lwOK 28 := by unfold lwOK; decide +kernel
theorem lw_29 : lwOK 29 := by unfold lwOK; decide +kernel
theorem lw_30 : lwOK 30 := by unfold lwOK; decide +kernel
theorem lw_31 : lwOK 31 := by unfold lwOK; decide +kernel
theorem lw_all : ∀ j : Nat, j < 32 → lwOK j
  | 0, _ => lw_0
  | 1, _ => lw_1
  | 2, _ => lw_2
  | 3, _ => lw_3
  | 4, _ => lw_4
  | 5, _ => lw_5
  | 6, _ => lw_6
  | 7, _ => lw_7
  | 8, _ => lw_8
  | 9, _ => lw_9
  | 10, _ => lw_10
  | 11, _ => lw_11
  | 12, _ => lw_12
  | 13, _ => lw_13
  | 14, _ => lw_14
  | 15, _ => lw_15
  | 16, _ => lw_16
  | 17, _ => lw_17
  | 18, _ => lw_18
  | 19, _ => lw_19
  | 20, _ => lw_20
  | 21, _ => lw_21
  | 22, _ => lw_22
  | 23, _ => lw_23
  | 24, _ => lw_24
  | 25, _ => lw_25
  | 26, _ => lw_26
  | 27, _ => lw_27
  | 28, _ => lw_28
  | 29, _ => lw_29
  | 30, _ => lw_30
  | 31, _ => lw_31
  | q + 32, h => absurd h (by omega)
theorem lw_e {d : Nat} (h0 : 0 < d) (h : d < 65536) : iand (d : Int) (-(d : Int)) = ((2 ^ lwk 16 d : Nat) : Int) := by
  have h1 := lw_all (d / 2048) (by omega) ⟨d / 256 % 8, by omega⟩ ⟨d % 256, by omega⟩
  have e : 256 * (8 * (d / 2048) + d / 256 % 8) + d % 256 = d := by omega
  simp only [e] at h1
  rw [if_neg (by omega)] at h1
  exact h1
theorem lwk_p : ∀ (n d : Nat), 0 < d → d < 2 ^ n → lwk n d < n ∧ d.testBit (lwk n d) = true ∧ ∀ j, j < lwk n d → d.testBit j = false := by
  intro n
  induction n with
  | zero => intro d h0 h; exfalso; simp at h; omega
  | succ n ih =>
    intro d h0 h
    have e : lwk (n + 1) d = if d % 2 = 1 then 0 else lwk n (d / 2) + 1 := rfl
    rw [e]
    by_cases c : d % 2 = 1
    · rw [if_pos c]
      refine ⟨by omega, ?_, fun j hj => by omega⟩
      rw [Nat.testBit_zero]; simp [c]
    · rw [if_neg c]
      rw [Nat.pow_succ] at h
      obtain ⟨i1, i2, i3⟩ := ih (d / 2) (by omega) (by omega)
      refine ⟨by omega, ?_, fun j hj => ?_⟩
      · rw [Nat.testBit_succ]; exact i2
      · cases j with
        | zero => rw [Nat.testBit_zero]; simp [c]
        | succ j => rw [Nat.testBit_succ]; exact i3 j (by omega)
theorem ixor_N {a b : Nat} (ha : a < 65536) (hb : b < 65536) : ixor (a : Int) (b : Int) = ((a ^^^ b : Nat) : Int) := by
  have h1 : ((Int32.ofInt (a : Int)).toBitVec.toNat : Int) = a := o_nat (by omega) (by omega)
  have h2 : ((Int32.ofInt (b : Int)).toBitVec.toNat : Int) = b := o_nat (by omega) (by omega)
  have h3 : (Int32.ofInt (a : Int) ^^^ Int32.ofInt (b : Int)).toBitVec.toNat = a ^^^ b := by
    rw [Int32.toBitVec_xor, BitVec.toNat_xor]
    have e1 : (Int32.ofInt (a : Int)).toBitVec.toNat = a := by omega
    have e2 : (Int32.ofInt (b : Int)).toBitVec.toNat = b := by omega
    rw [e1, e2]
  have h4 : a ^^^ b < 2 ^ 16 := Nat.xor_lt_two_pow (by omega) (by omega)
  have h5 : ixor (a : Int) (b : Int) = (Int32.ofInt (a : Int) ^^^ Int32.ofInt (b : Int)).toBitVec.toInt := rfl
  rw [h5, BitVec.toInt_eq_toNat_cond, h3]
  split <;> omega
def LXA (x y : Int) : Prop := ∃ k : Int, 0 ≤ k ∧ k ≤ 15 ∧ bitS x k ∧ ¬ bitS y k ∧ ∀ j, 0 ≤ j → j < k → (bitS x j ↔ bitS y j)
theorem ahead_p {x y : Int} (hx : 0 ≤ x ∧ x ≤ 65535) (hy : 0 ≤ y ∧ y ≤ 65535) (hne : ¬ x = y) : ∃ k : Int, 0 ≤ k ∧ k ≤ 15 ∧ (bitS x k ↔ ¬ bitS y k) ∧ (∀ j, 0 ≤ j → j < k → (bitS x j ↔ bitS y j)) ∧ (f_X9_isAhead x y = 0 ↔ ¬ bitS x k) := by
  obtain ⟨a, rfl⟩ : ∃ n : Nat, x = n := ⟨x.toNat, by omega⟩
  obtain ⟨b, rfl⟩ : ∃ n : Nat, y = n := ⟨y.toNat, by omega⟩
  have hab : ¬ a = b := fun e => hne (by rw [e])
  have hX := ixor_N (a := a) (b := b) (by omega) (by omega)
  have h4 : a ^^^ b < 2 ^ 16 := Nat.xor_lt_two_pow (by omega) (by omega)
  have h0 : 0 < a ^^^ b := by
    rcases Nat.eq_zero_or_pos (a ^^^ b) with z | z
    · refine absurd (Nat.eq_of_testBit_eq (fun i => ?_)) hab
      have q := Nat.testBit_xor a b i
      rw [z, Nat.zero_testBit] at q
      revert q
      cases a.testBit i <;> cases b.testBit i <;> simp
    · exact z
  obtain ⟨l1, l2, l3⟩ := lwk_p 16 (a ^^^ b) h0 h4
  obtain ⟨k, hk⟩ : ∃ k, k = lwk 16 (a ^^^ b) := ⟨_, rfl⟩
  rw [← hk] at l1 l2 l3
  rw [Nat.testBit_xor] at l2
  have bt : ∀ (n : Nat) (j : Nat), n < 65536 → j < 16 → (bitS (n : Int) (j : Int) ↔ n.testBit j = true) := fun n j hn hj => by
    have z := bitS_N (x := (n : Int)) (p := (j : Int)) (by omega) (by omega)
    have e1 : ((n : Nat) : Int).toNat = n := by omega
    have e2 : ((j : Nat) : Int).toNat = j := by omega
    rw [e1, e2] at z
    exact z
  refine ⟨k, by omega, by omega, ?_, fun j j0 j1 => ?_, ?_⟩
  · rw [bt a k (by omega) l1, bt b k (by omega) l1]
    revert l2
    cases a.testBit k <;> cases b.testBit k <;> simp
  · obtain ⟨i, rfl⟩ : ∃ n : Nat, j = n := ⟨j.toNat, by omega⟩
    have z := l3 i (by omega)
    rw [Nat.testBit_xor] at z
    rw [bt a i (by omega) (by omega), bt b i (by omega) (by omega)]
    revert z
    cases a.testBit i <;> cases b.testBit i <;> simp
  · have e1 : iand (ixor (a : Int) b) (-(ixor (a : Int) b)) = ishl 1 (k : Int) := by
      rw [hX, lw_e h0 (by omega), ← hk, ishl_1N (by omega)]
    have sp := shl_rg (p := (k : Int)) (by omega)
    have an := andn_rg (x := ishl 1 (k : Int)) (y := (a : Int)) sp
    have e2 : f_X9_isAhead (a : Int) b = if iand (ishl 1 (k : Int)) (a : Int) = 0 then 0 else 1 := by
      unfold f_X9_isAhead
      rw [e1]
    rw [e2]
    constructor
    · intro z hb
      by_cases c : iand (ishl 1 (k : Int)) (a : Int) = 0
      · have q := (bit_and (x := ishl 1 (k : Int)) (y := (a : Int)) (i := (k : Int)) sp hx (by omega)).mpr ⟨(bit_shl (p := (k : Int)) (i := (k : Int)) (by omega) (by omega)).mpr rfl, hb⟩
        rw [c] at q
        exact zer _ (by omega) (by omega) q
      · rw [if_neg c] at z; omega
    · intro hb
      have c : iand (ishl 1 (k : Int)) (a : Int) = 0 := ext16 an (by omega) (fun i i0 i1 => by
        rw [bit_and sp hx (by omega), bit_shl (by omega) (by omega)]
        constructor
        · rintro ⟨e, q⟩
          rw [e] at q
          exact absurd q hb
        · intro q
          exact absurd q (zer i i0 (by omega)))
      rw [if_pos c]
theorem ahead_L {x y : Int} (hx : 0 ≤ x ∧ x ≤ 65535) (hy : 0 ≤ y ∧ y ≤ 65535) (hne : ¬ x = y) : (¬ f_X9_isAhead x y = 0 → LXA x y) ∧ (f_X9_isAhead x y = 0 → LXA y x) := by
  obtain ⟨k, k0, k1, k2, k3, k4⟩ := ahead_p hx hy hne
  constructor
  · intro z
    have hb : bitS x k := Classical.byContradiction fun q => z (k4.mpr q)
    exact ⟨k, k0, k1, hb, k2.mp hb, k3⟩
  · intro z
    have hb := k4.mp z
    have hb2 : bitS y k := Classical.byContradiction fun q => hb (k2.mpr q)
    exact ⟨k, k0, k1, hb2, hb, fun j j0 j1 => (k3 j j0 j1).symm⟩
theorem LXA_tr {x y z : Int} (h1 : LXA x y) (h2 : LXA y z) : LXA x z := by
  obtain ⟨k, k0, k1, a1, a2, a3⟩ := h1
  obtain ⟨l, l0, l1, b1, b2, b3⟩ := h2
  by_cases c : k < l
  · exact ⟨k, k0, k1, a1, fun q => a2 ((b3 k k0 c).mpr q), fun j j0 j1 => (a3 j j0 j1).trans (b3 j j0 (by omega))⟩
  · by_cases d : l < k
    · exact ⟨l, l0, l1, (a3 l l0 d).mpr b1, b2, fun j j0 j1 => (a3 j j0 (by omega)).trans (b3 j j0 j1)⟩
    · have e : k = l := by omega
      subst e
      exact absurd b1 a2
theorem LXA_as {x y : Int} (h1 : LXA x y) (h2 : LXA y x) : False := by
  obtain ⟨k, k0, k1, a1, a2, a3⟩ := LXA_tr h1 h2
  exact a2 a1
/-- a set before another: fewer places, or the same number and a lower place first -/
def BFR (x y : Int) : Prop := gc x 16 < gc y 16 ∨ (gc x 16 = gc y 16 ∧ LXA x y)
theorem BFR_tr {x y z : Int} (h1 : BFR x y) (h2 : BFR y z) : BFR x z := by
  rcases h1 with h1 | ⟨h1, h1'⟩ <;> rcases h2 with h2 | ⟨h2, h2'⟩
  · exact Or.inl (by omega)
  · exact Or.inl (by omega)
  · exact Or.inl (by omega)
  · exact Or.inr ⟨by omega, LXA_tr h1' h2'⟩
theorem BFR_as {x y : Int} (h1 : BFR x y) (h2 : BFR y x) : False := by
  rcases h1 with h1 | ⟨h1, h1'⟩ <;> rcases h2 with h2 | ⟨h2, h2'⟩
  · omega
  · omega
  · omega
  · exact LXA_as h1' h2'
def BTR (V : Int → Int) (x y : Int) : Prop := V x < V y ∨ (V x = V y ∧ BFR x y)
theorem BTR_tr {V : Int → Int} {x y z : Int} (h1 : BTR V x y) (h2 : BTR V y z) : BTR V x z := by
  rcases h1 with h1 | ⟨h1, h1'⟩ <;> rcases h2 with h2 | ⟨h2, h2'⟩
  · exact Or.inl (by omega)
  · exact Or.inl (by omega)
  · exact Or.inl (by omega)
  · exact Or.inr ⟨by omega, BFR_tr h1' h2'⟩
theorem BTR_as {V : Int → Int} {x y : Int} (h1 : BTR V x y) (h2 : BTR V y x) : False := by
  rcases h1 with h1 | ⟨h1, h1'⟩ <;> rcases h2 with h2 | ⟨h2, h2'⟩
  · omega
  · omega
  · omega
  · exact BFR_as h1' h2'
theorem BFR_to {x y : Int} (hx : 0 ≤ x ∧ x ≤ 65535) (hy : 0 ≤ y ∧ y ≤ 65535) (hne : ¬ x = y) : BFR x y ∨ BFR y x := by
  obtain ⟨h1, h2⟩ := ahead_L hx hy hne
  unfold BFR
  by_cases a : gc x 16 < gc y 16
  · exact Or.inl (Or.inl a)
  · by_cases b : gc y 16 < gc x 16
    · exact Or.inr (Or.inl b)
    · by_cases c : f_X9_isAhead x y = 0
      · exact Or.inr (Or.inr ⟨by omega, h2 c⟩)
      · exact Or.inl (Or.inr ⟨by omega, h1 c⟩)
/-- b is the best of the sets P -/
def BEST (V : Int → Int) (P : Int → Prop) (b : Int) : Prop := P b ∧ ∀ y, P y → ¬ y = b → BTR V b y
theorem BEST_u {V : Int → Int} {P Q : Int → Prop} {a b : Int} (h1 : BEST V P a) (h2 : BEST V Q b) (hPQ : ∀ y, P y ↔ Q y) : a = b := Classical.byContradiction fun hne => by
  have q1 := h1.2 b ((hPQ b).mpr h2.1) (fun e => hne e.symm)
  have q2 := h2.2 a ((hPQ a).mp h1.1) hne
  exact BTR_as q1 q2
theorem BEST_in {V : Int → Int} {P Q : Int → Prop} {b x : Int} (h : BEST V P b) (hPQ : ∀ y, Q y ↔ P y ∨ y = x) (hb : BTR V b x) : BEST V Q b := ⟨(hPQ b).mpr (Or.inl h.1), fun y hy hne => by
  rcases (hPQ y).mp hy with z | z
  · exact h.2 y z hne
  · rw [z]; exact hb⟩
theorem BEST_new {V : Int → Int} {P Q : Int → Prop} {b x : Int} (h : BEST V P b) (hPQ : ∀ y, Q y ↔ P y ∨ y = x) (hb : BTR V x b) : BEST V Q x := ⟨(hPQ x).mpr (Or.inr rfl), fun y hy hne => by
  rcases (hPQ y).mp hy with z | z
  · by_cases e : y = b
    · rw [e]; exact hb
    · exact BTR_tr hb (h.2 y z e)
  · exact absurd z hne⟩
