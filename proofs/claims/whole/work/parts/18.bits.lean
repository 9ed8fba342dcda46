/-! bits of small numbers; the machine's count of ones is the reference's -/
theorem iand_N {a b : Nat} (ha : a < 2147483648) (hb : b < 2147483648) : iand (a : Int) (b : Int) = ((a &&& b : Nat) : Int) := by
  have h1 := o_nat (x := (a : Int)) (by omega) (by omega)
  have h2 := o_nat (x := (b : Int)) (by omega) (by omega)
  have h3 : (Int32.ofInt (a : Int) &&& Int32.ofInt (b : Int)).toBitVec.toNat = a &&& b := by
    rw [Int32.toBitVec_and, BitVec.toNat_and]
    congr 1 <;> omega
  have h4 : a &&& b ≤ a := Nat.and_le_left
  have h5 : iand (a : Int) (b : Int) = (Int32.ofInt (a : Int) &&& Int32.ofInt (b : Int)).toBitVec.toInt := rfl
  rw [h5, BitVec.toInt_eq_toNat_cond]
  split <;> omega
theorem iushr_N {a : Nat} (ha : a < 2147483648) (k : Nat) (hs : (((Int32.ofInt (k : Int)).toUInt32 &&& Int32.toUInt32 31).toBitVec % 32).toNat = k) : iushr (a : Int) (k : Int) = ((a / 2 ^ k : Nat) : Int) := by
  have h1 : Int32.ofInt (a : Int) = nI a := Int32.ofInt_eq_ofNat
  unfold iushr
  rw [h1, pk_ushrN (by omega) _ k hs]
  exact nI_toInt (Nat.lt_of_le_of_lt (Nat.div_le_self a (2 ^ k)) (by omega))
theorem ishr_N {a : Nat} (ha : a < 2147483648) {k : Nat} (hk : k < 17) : ishr (a : Int) (k : Int) = ((a / 2 ^ k : Nat) : Int) := by
  have h1 : Int32.ofInt (a : Int) = nI a := Int32.ofInt_eq_ofNat
  have hs : ∀ q : Fin 17, ((Int32.ofInt (q.val : Int) &&& 31).toBitVec.smod 32).toNat = q.val := by decide +kernel
  unfold ishr
  rw [h1, pk_shrN (by omega) _ k (hs ⟨k, hk⟩)]
  exact nI_toInt (Nat.lt_of_le_of_lt (Nat.div_le_self a (2 ^ k)) (by omega))
def nK4 (d : Nat) : Nat := d &&& 63
def nK3 (c : Nat) : Nat := nK4 (c + c / 65536)
def nK2 (c : Nat) : Nat := nK3 (c + c / 256)
def nK1 (b : Nat) : Nat := nK2 ((b + b / 16) &&& 252645135)
def nK0 (a : Nat) : Nat := nK1 ((a &&& 858993459) + (a / 4 &&& 858993459))
def bcN (x : Nat) : Nat := nK0 (x - (x / 2 &&& 1431655765))
def pcs (x : Nat) : Nat → Nat
  | 0 => 0
  | n + 1 => pcs x n + x / 2 ^ n % 2
def pcN (x : Nat) : Nat := 0 + x / 1 % 2 + x / 2 % 2 + x / 4 % 2 + x / 8 % 2 + x / 16 % 2 + x / 32 % 2 + x / 64 % 2 + x / 128 % 2 + x / 256 % 2 + x / 512 % 2 + x / 1024 % 2 + x / 2048 % 2 + x / 4096 % 2 + x / 8192 % 2 + x / 16384 % 2 + x / 32768 % 2
theorem pcs_N (x : Nat) : pcs x 16 = pcN x := rfl
def bcOK (j : Nat) : Prop := ∀ h : Fin 8, ∀ l : Fin 256, bcN (256 * (8 * j + h.val) + l.val) = pcN (256 * (8 * j + h.val) + l.val)
theorem bc_0 : bcOK 0 := by unfold bcOK; decide +kernel
theorem bc_1 : bcOK 1 := by unfold bcOK; decide +kernel
theorem bc_2 : bcOK 2 := by unfold bcOK; decide +kernel
theorem bc_3 : bcOK 3 := by unfold bcOK; decide +kernel
theorem bc_4 : bcOK 4 := by unfold bcOK; decide +kernel
theorem bc_5 : bcOK 5 := by unfold bcOK; decide +kernel
theorem bc_6 : bcOK 6 := by unfold bcOK; decide +kernel
theorem bc_7 : bcOK 7 := by unfold bcOK; decide +kernel
theorem bc_8 : bcOK 8 := by unfold bcOK; decide +kernel
theorem bc_9 : bcOK 9 := by unfold bcOK; decide +kernel
theorem bc_10 : bcOK 10 := by unfold bcOK; decide +kernel
theorem bc_11 : bcOK 11 := by unfold bcOK; decide +kernel
theorem bc_12 : bcOK 12 := by unfold bcOK; decide +kernel
theorem bc_13 : bcOK 13 := by unfold bcOK; decide +kernel
theorem bc_14 : bcOK 14 := by unfold bcOK; decide +kernel
theorem bc_15 : bcOK 15 := by unfold bcOK; decide +kernel
theorem bc_16 : bcOK 16 := by unfold bcOK; decide +kernel
theorem bc_17 : bcOK 17 := by unfold bcOK; decide +kernel
theorem bc_18 : bcOK 18 := by unfold bcOK; decide +kernel
theorem bc_19 : bcOK 19 := by unfold bcOK; decide +kernel
theorem bc_20 : bcOK 20 := by unfold bcOK; decide +kernel
theorem bc_21 : bcOK 21 := by unfold bcOK; decide +kernel
theorem bc_22 : bcOK 22 := by unfold bcOK; decide +kernel
theorem bc_23 : bcOK 23 := by unfold bcOK; decide +kernel
theorem bc_24 : bcOK 24 := by unfold bcOK; decide +kernel
theorem bc_25 : bcOK 25 := by unfold bcOK; decide +kernel
theorem bc_26 : bcOK 26 := by unfold bcOK; decide +kernel
theorem bc_27 : bcOK 27 := by unfold bcOK; decide +kernel
theorem bc_28 : bcOK 28 := by unfold bcOK; decide +kernel
theorem bc_29 : bcOK 29 := by unfold bcOK; decide +kernel
theorem bc_30 : bcOK 30 := by unfold bcOK; decide +kernel
theorem bc_31 : bcOK 31 := by unfold bcOK; decide +kernel
theorem bc_all : ∀ j : Nat, j < 32 → bcOK j
  | 0, _ => bc_0
  | 1, _ => bc_1
  | 2, _ => bc_2
  | 3, _ => bc_3
  | 4, _ => bc_4
  | 5, _ => bc_5
  | 6, _ => bc_6
  | 7, _ => bc_7
  | 8, _ => bc_8
  | 9, _ => bc_9
  | 10, _ => bc_10
  | 11, _ => bc_11
  | 12, _ => bc_12
  | 13, _ => bc_13
  | 14, _ => bc_14
  | 15, _ => bc_15
  | 16, _ => bc_16
  | 17, _ => bc_17
  | 18, _ => bc_18
  | 19, _ => bc_19
  | 20, _ => bc_20
  | 21, _ => bc_21
  | 22, _ => bc_22
  | 23, _ => bc_23
  | 24, _ => bc_24
  | 25, _ => bc_25
  | 26, _ => bc_26
  | 27, _ => bc_27
  | 28, _ => bc_28
  | 29, _ => bc_29
  | 30, _ => bc_30
  | 31, _ => bc_31
  | q + 32, h => absurd h (by omega)
theorem bc_pcs {x : Nat} (h : x < 65536) : bcN x = pcs x 16 := by
  have h1 := bc_all (x / 2048) (by omega) ⟨x / 256 % 8, by omega⟩ ⟨x % 256, by omega⟩
  have e : 256 * (8 * (x / 2048) + x / 256 % 8) + x % 256 = x := by omega
  simp only [e] at h1
  rw [pcs_N]
  exact h1
def bK4 (v : Int) : Int := iand v 63
def bK3 (v : Int) : Int := bK4 (iwr (v + iushr v 16))
def bK2 (v : Int) : Int := bK3 (iwr (v + iushr v 8))
def bK1 (v : Int) : Int := bK2 (iand (iwr (v + iushr v 4)) 252645135)
def bK0 (v : Int) : Int := bK1 (iwr (iand v 858993459 + iand (iushr v 2) 858993459))
theorem bK4_N {d : Nat} (h : d < 1048576) : bK4 (d : Int) = ((nK4 d : Nat) : Int) := iand_N (b := 63) (by omega) (by decide)
theorem bK3_N {c : Nat} (h : c < 524288) : bK3 (c : Int) = ((nK3 c : Nat) : Int) := by
  have e13 : iushr (c : Int) 16 = ((c / 65536 : Nat) : Int) := iushr_N (by omega) 16 (by decide +kernel)
  have e14 : iwr ((c : Int) + ((c / 65536 : Nat) : Int)) = ((c + c / 65536 : Nat) : Int) := by rw [iwr_of ⟨by omega, by omega⟩]; omega
  rw [bK3, e13, e14, bK4_N (by omega)]
  rfl
theorem bK2_N {c : Nat} (h : c < 262144) : bK2 (c : Int) = ((nK2 c : Nat) : Int) := by
  have e13 : iushr (c : Int) 8 = ((c / 256 : Nat) : Int) := iushr_N (by omega) 8 (by decide +kernel)
  have e14 : iwr ((c : Int) + ((c / 256 : Nat) : Int)) = ((c + c / 256 : Nat) : Int) := by rw [iwr_of ⟨by omega, by omega⟩]; omega
  rw [bK2, e13, e14, bK3_N (by omega)]
  rfl
theorem bK1_N {b : Nat} (h : b < 131072) : bK1 (b : Int) = ((nK1 b : Nat) : Int) := by
  have e13 : iushr (b : Int) 4 = ((b / 16 : Nat) : Int) := iushr_N (by omega) 4 (by decide +kernel)
  have e14 : iwr ((b : Int) + ((b / 16 : Nat) : Int)) = ((b + b / 16 : Nat) : Int) := by rw [iwr_of ⟨by omega, by omega⟩]; omega
  have e15 : iand ((b + b / 16 : Nat) : Int) 252645135 = (((b + b / 16) &&& 252645135 : Nat) : Int) := iand_N (b := 252645135) (by omega) (by decide)
  have l7 : (b + b / 16) &&& 252645135 ≤ b + b / 16 := Nat.and_le_left
  rw [bK1, e13, e14, e15, bK2_N (by omega)]
  rfl
theorem bK0_N {a : Nat} (h : a < 65536) : bK0 (a : Int) = ((nK0 a : Nat) : Int) := by
  have e4 : iand (a : Int) 858993459 = ((a &&& 858993459 : Nat) : Int) := iand_N (b := 858993459) (by omega) (by decide)
  have e5 : iushr (a : Int) 2 = ((a / 4 : Nat) : Int) := iushr_N (by omega) 2 (by decide +kernel)
  have e6 : iand ((a / 4 : Nat) : Int) 858993459 = ((a / 4 &&& 858993459 : Nat) : Int) := iand_N (b := 858993459) (by omega) (by decide)
  have l4 : a &&& 858993459 ≤ a := Nat.and_le_left
  have l5 : a / 4 &&& 858993459 ≤ a / 4 := Nat.and_le_left
  have e7 : iwr (((a &&& 858993459 : Nat) : Int) + ((a / 4 &&& 858993459 : Nat) : Int)) = (((a &&& 858993459) + (a / 4 &&& 858993459) : Nat) : Int) := by rw [iwr_of ⟨by omega, by omega⟩]; omega
  rw [bK0, e4, e5, e6, e7, bK1_N (by omega)]
  rfl
theorem bc_N {x : Nat} (h : x < 65536) : f_J6_bitCount_0f7a4 (x : Int) = ((bcN x : Nat) : Int) := by
  have e0 : f_J6_bitCount_0f7a4 (x : Int) = bK0 (iwr ((x : Int) - iand (iushr (x : Int) 1) 1431655765)) := rfl
  have e1 : iushr (x : Int) 1 = ((x / 2 : Nat) : Int) := iushr_N (by omega) 1 (by decide +kernel)
  have e2 : iand ((x / 2 : Nat) : Int) 1431655765 = ((x / 2 &&& 1431655765 : Nat) : Int) := iand_N (b := 1431655765) (by omega) (by decide)
  have l2 : x / 2 &&& 1431655765 ≤ x / 2 := Nat.and_le_left
  have e3 : iwr ((x : Int) - ((x / 2 &&& 1431655765 : Nat) : Int)) = ((x - (x / 2 &&& 1431655765) : Nat) : Int) := by rw [iwr_of ⟨by omega, by omega⟩]; omega
  rw [e0, e1, e2, e3, bK0_N (by omega)]
  rfl
theorem w_ones {x : Nat} (h : x < 65536) : ∀ (n k : Nat), k ≤ 16 → 16 - k < n → w_X9_ones_4 (x : Int) n ((pcs x k : Nat) : Int) (k : Int) = (((pcs x 16 : Nat) : Int), 16) := by
  intro n
  induction n with
  | zero => intro k h1 h2; omega
  | succ n ih =>
    intro k h1 h2
    rw [w_X9_ones_4_s]
    by_cases hk : k < 16
    · rw [if_pos (by omega)]
      unfold gl
      have e1 : ishr (x : Int) (k : Int) = ((x / 2 ^ k : Nat) : Int) := ishr_N (by omega) (by omega)
      have l1 : x / 2 ^ k ≤ x := Nat.div_le_self x (2 ^ k)
      have e2 : iand ((x / 2 ^ k : Nat) : Int) 1 = ((x / 2 ^ k &&& 1 : Nat) : Int) := iand_N (b := 1) (by omega) (by decide)
      rw [e1, e2, Nat.and_one_is_mod]
      have e3 : ((pcs x k : Nat) : Int) + ((x / 2 ^ k % 2 : Nat) : Int) = ((pcs x (k + 1) : Nat) : Int) := by rw [pcs]; omega
      have e4 : (k : Int) + 1 = ((k + 1 : Nat) : Int) := by omega
      rw [e3, e4]
      exact ih (k + 1) (by omega) (by omega)
    · have e : k = 16 := by omega
      subst e
      rw [if_neg (by omega)]
      rfl
theorem ones_pcs {x : Nat} (h : x < 65536) : f_X9_ones (x : Int) = ((pcs x 16 : Nat) : Int) := by
  unfold f_X9_ones
  have h1 := w_ones h 17 0 (by omega) (by omega)
  have h2 : w_X9_ones_4 (x : Int) 17 0 0 = (((pcs x 16 : Nat) : Int), 16) := h1
  rw [h2]
  rfl
theorem bc_ones {x : Int} (h0 : 0 ≤ x) (h1 : x ≤ 65535) : f_J6_bitCount_0f7a4 x = f_X9_ones x := by
  obtain ⟨n, rfl⟩ : ∃ n : Nat, x = n := ⟨x.toNat, by omega⟩
  rw [bc_N (by omega), ones_pcs (by omega), bc_pcs (by omega)]
theorem bc_rg {x : Int} (h0 : 0 ≤ x) (h1 : x ≤ 65535) : 0 ≤ f_J6_bitCount_0f7a4 x ∧ f_J6_bitCount_0f7a4 x ≤ 16 := by
  rw [bc_ones h0 h1]
  exact (f_X9_ones_p x ⟨by omega, by omega⟩).2
