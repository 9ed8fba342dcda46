/-! bits of small numbers; the machine's count of ones is the reference's -/
theorem iand_N {a b : Nat} (ha : a < 2147483648) (hb : b < 2147483648) : iand (a : Int) (b : Int) = ((a &&& b : Nat) : Int) := by
  have h1 := o_nat (x := (a : Int)) (by omega) (by omega)
  have h2 := o_nat (x := (b : Int)) (by omega) (by omega)
  have h3 : (Int32.ofInt (a : Int) &&& Int32.ofInt (b : Int)).toBitVec.toNat = a &&& b := by
    rw [Int32.toBitVec_and, BitVec.toNat_and]
    congr 1 <;> omega
  have h4 : a &&& b ≤ a := Nat.and_le_left
  have h5 : iand (a : Int) (b : Int) = (Int32.ofInt (a : Int) &&& Int32.ofInt (b : Int)).toBitVec.toInt := rfl
  rw [h5, BitVec.toInt_eq_toNat_cond]
  split <;> omega
theorem iushr_N {a : Nat} (ha : a < 2147483648) (k : Nat) (hs : (((Int32.ofInt (k : Int)).toUInt32 &&& Int32.toUInt32 31).toBitVec % 32).toNat = k) : iushr (a : Int) (k : Int) = ((a / 2 ^ k : Nat) : Int) := by
  have h1 : Int32.ofInt (a : Int) = nI a := Int32.ofInt_eq_ofNat
  unfold iushr
  rw [h1, pk_ushrN (by omega) _ k hs]
  exact nI_toInt (Nat.lt_of_le_of_lt (Nat.div_le_self a (2 ^ k)) (by omega))
theorem ishr_N {a : Nat} (ha : a < 2147483648) {k : Nat} (hk : k < 17) : ishr (a : Int) (k : Int) = ((a / 2 ^ k : Nat) : Int) := by
  have h1 : Int32.ofInt (a : Int) = nI a := Int32.ofInt_eq_ofNat
  have hs : ∀ q : Fin 17, ((Int32.ofInt (q.val : Int) &&& 31).toBitVec.smod 32).toNat = q.val := by decide +kernel
  unfold ishr
  rw [h1, pk_shrN (by omega) _ k (hs ⟨k, hk⟩)]
  exact nI_toInt (Nat.lt_of_le_of_lt (Nat.div_le_self a (2 ^ k)) (by omega))
def bcN (x : Nat) : Nat :=
  (fun a : Nat => (fun b : Nat => (fun c : Nat => (fun d : Nat => (d + d / 65536) &&& 63) (c + c / 256)) ((b + b / 16) &&& 252645135)) ((a &&& 858993459) + (a / 4 &&& 858993459))) (x - (x / 2 &&& 1431655765))
def pcs (x : Nat) : Nat → Nat
  | 0 => 0
  | n + 1 => pcs x n + x / 2 ^ n % 2
theorem bc_all : ∀ h l : Fin 256, bcN (256 * h.val + l.val) = pcs (256 * h.val + l.val) 16 := by decide +kernel
theorem bc_pcs {x : Nat} (h : x < 65536) : bcN x = pcs x 16 := by
  have h1 := bc_all ⟨x / 256, by omega⟩ ⟨x % 256, by omega⟩
  have e : 256 * (x / 256) + x % 256 = x := by omega
  simp only [e] at h1
  exact h1
theorem bc_N {x : Nat} (h : x < 65536) : f_J6_bitCount_0f7a4 (x : Int) = ((bcN x : Nat) : Int) := by
  unfold f_J6_bitCount_0f7a4 gl
  have e1 : iushr (x : Int) 1 = ((x / 2 : Nat) : Int) := iushr_N (by omega) 1 (by decide +kernel)
  have e2 : iand ((x / 2 : Nat) : Int) 1431655765 = ((x / 2 &&& 1431655765 : Nat) : Int) := iand_N (b := 1431655765) (by omega) (by decide)
  have l2 : x / 2 &&& 1431655765 ≤ x / 2 := Nat.and_le_left
  rw [e1, e2]
  have e3 : iwr ((x : Int) - ((x / 2 &&& 1431655765 : Nat) : Int)) = ((x - (x / 2 &&& 1431655765) : Nat) : Int) := by rw [iwr_of ⟨by omega, by omega⟩]; omega
  rw [e3]
  show _ = (((fun a : Nat => (fun b : Nat => (fun c : Nat => (fun d : Nat => (d + d / 65536) &&& 63) (c + c / 256)) ((b + b / 16) &&& 252645135)) ((a &&& 858993459) + (a / 4 &&& 858993459))) (x - (x / 2 &&& 1431655765)) : Nat) : Int)
  have l3 : x - (x / 2 &&& 1431655765) < 65536 := by omega
  generalize x - (x / 2 &&& 1431655765) = a at l3 ⊢
  have e4 : iand (a : Int) 858993459 = ((a &&& 858993459 : Nat) : Int) := iand_N (b := 858993459) (by omega) (by decide)
  have e5 : iushr (a : Int) 2 = ((a / 4 : Nat) : Int) := iushr_N (by omega) 2 (by decide +kernel)
  have e6 : iand ((a / 4 : Nat) : Int) 858993459 = ((a / 4 &&& 858993459 : Nat) : Int) := iand_N (b := 858993459) (by omega) (by decide)
  have l4 : a &&& 858993459 ≤ a := Nat.and_le_left
  have l5 : a / 4 &&& 858993459 ≤ a / 4 := Nat.and_le_left
  rw [e4, e5, e6]
  have e7 : iwr (((a &&& 858993459 : Nat) : Int) + ((a / 4 &&& 858993459 : Nat) : Int)) = (((a &&& 858993459) + (a / 4 &&& 858993459) : Nat) : Int) := by rw [iwr_of ⟨by omega, by omega⟩]; omega
  rw [e7]
  show _ = (((fun b : Nat => (fun c : Nat => (fun d : Nat => (d + d / 65536) &&& 63) (c + c / 256)) ((b + b / 16) &&& 252645135)) ((a &&& 858993459) + (a / 4 &&& 858993459)) : Nat) : Int)
  have l6 : (a &&& 858993459) + (a / 4 &&& 858993459) < 131072 := by omega
  generalize (a &&& 858993459) + (a / 4 &&& 858993459) = b at l6 ⊢
  have e8 : iushr (b : Int) 4 = ((b / 16 : Nat) : Int) := iushr_N (by omega) 4 (by decide +kernel)
  rw [e8]
  have e9 : iwr ((b : Int) + ((b / 16 : Nat) : Int)) = ((b + b / 16 : Nat) : Int) := by rw [iwr_of ⟨by omega, by omega⟩]; omega
  rw [e9]
  have e10 : iand ((b + b / 16 : Nat) : Int) 252645135 = (((b + b / 16) &&& 252645135 : Nat) : Int) := iand_N (b := 252645135) (by omega) (by decide)
  rw [e10]
  show _ = (((fun c : Nat => (fun d : Nat => (d + d / 65536) &&& 63) (c + c / 256)) ((b + b / 16) &&& 252645135) : Nat) : Int)
  have l7 : (b + b / 16) &&& 252645135 ≤ b + b / 16 := Nat.and_le_left
  have l8 : (b + b / 16) &&& 252645135 < 262144 := by omega
  generalize (b + b / 16) &&& 252645135 = c at l8 ⊢
  have e11 : iushr (c : Int) 8 = ((c / 256 : Nat) : Int) := iushr_N (by omega) 8 (by decide +kernel)
  rw [e11]
  have e12 : iwr ((c : Int) + ((c / 256 : Nat) : Int)) = ((c + c / 256 : Nat) : Int) := by rw [iwr_of ⟨by omega, by omega⟩]; omega
  rw [e12]
  show _ = (((fun d : Nat => (d + d / 65536) &&& 63) (c + c / 256) : Nat) : Int)
  have l9 : c + c / 256 < 524288 := by omega
  generalize c + c / 256 = d at l9 ⊢
  have e13 : iushr (d : Int) 16 = ((d / 65536 : Nat) : Int) := iushr_N (by omega) 16 (by decide +kernel)
  rw [e13]
  have e14 : iwr ((d : Int) + ((d / 65536 : Nat) : Int)) = ((d + d / 65536 : Nat) : Int) := by rw [iwr_of ⟨by omega, by omega⟩]; omega
  rw [e14]
  exact iand_N (b := 63) (by omega) (by decide)
theorem w_ones {x : Nat} (h : x < 65536) : ∀ (n k : Nat), k ≤ 16 → 16 - k < n → w_X9_ones_4 (x : Int) n ((pcs x k : Nat) : Int) (k : Int) = (((pcs x 16 : Nat) : Int), 16) := by
  intro n
  induction n with
  | zero => intro k h1 h2; omega
  | succ n ih =>
    intro k h1 h2
    rw [w_X9_ones_4_s]
    by_cases hk : k < 16
    · rw [if_pos (by omega)]
      unfold gl
      have e1 : ishr (x : Int) (k : Int) = ((x / 2 ^ k : Nat) : Int) := ishr_N (by omega) (by omega)
      have l1 : x / 2 ^ k ≤ x := Nat.div_le_self x (2 ^ k)
      have e2 : iand ((x / 2 ^ k : Nat) : Int) 1 = ((x / 2 ^ k &&& 1 : Nat) : Int) := iand_N (b := 1) (by omega) (by decide)
      rw [e1, e2, Nat.and_one_is_mod]
      have e3 : ((pcs x k : Nat) : Int) + ((x / 2 ^ k % 2 : Nat) : Int) = ((pcs x (k + 1) : Nat) : Int) := by rw [pcs]; omega
      have e4 : (k : Int) + 1 = ((k + 1 : Nat) : Int) := by omega
      rw [e3, e4]
      exact ih (k + 1) (by omega) (by omega)
    · have e : k = 16 := by omega
      subst e
      rw [if_neg (by omega)]
      rfl
theorem ones_pcs {x : Nat} (h : x < 65536) : f_X9_ones (x : Int) = ((pcs x 16 : Nat) : Int) := by
  unfold f_X9_ones
  have h1 := w_ones h 17 0 (by omega) (by omega)
  have h2 : w_X9_ones_4 (x : Int) 17 0 0 = (((pcs x 16 : Nat) : Int), 16) := h1
  rw [h2]
  rfl
theorem bc_ones {x : Int} (h0 : 0 ≤ x) (h1 : x ≤ 65535) : f_J6_bitCount_0f7a4 x = f_X9_ones x := by
  obtain ⟨n, rfl⟩ : ∃ n : Nat, x = n := ⟨x.toNat, by omega⟩
  rw [bc_N (by omega), ones_pcs (by omega), bc_pcs (by omega)]
theorem bc_rg {x : Int} (h0 : 0 ≤ x) (h1 : x ≤ 65535) : 0 ≤ f_J6_bitCount_0f7a4 x ∧ f_J6_bitCount_0f7a4 x ≤ 16 := by
  rw [bc_ones h0 h1]
  exact (f_X9_ones_p x ⟨by omega, by omega⟩).2
