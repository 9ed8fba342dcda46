/-! the reference object as a memory: array field f is (s f i), a plain field f is (s f 0) -/
def gT (cI cJ cS cT : ClassId) : List (ClassId × FieldType) := [(cI, .int), (cJ, .long), (cS, .object RX5), (cT, .array .int)]
def lgM : Nat → Bool := fun k => k == 34
def wdM (a : Nat → Nat) (cI cJ : ClassId) (s : gMem) : va_W := [(a 0, .inr (9, [.ref (a 1), .ref (a 2), .ref (a 3), .ref (a 4), gI (s 4 0), .ref (a 5), .ref (a 6), gI (s 7 0), gI (s 8 0), gI (s 9 0), gI (s 10 0), .ref (a 7), .ref (a 8), .ref (a 9), .ref (a 10), .ref (a 11), gI (s 16 0), gI (s 17 0), gI (s 18 0), gI (s 19 0), .ref (a 12), .ref (a 13), gI (s 22 0), gI (s 23 0), gI (s 24 0), .ref (a 14), .ref (a 15), .ref (a 16), .ref (a 17), .ref (a 18), gI (s 30 0), gI (s 31 0), gI (s 32 0), gI (s 33 0), .ref (a 19), gI (s 35 0), gI (s 36 0), gI (s 37 0)])), (a 1, .inl (cI, 16, .inl (fun j : Nat => Int32.ofInt (s 0 (j : Int))))), (a 2, .inl (cI, 16, .inl (fun j : Nat => Int32.ofInt (s 1 (j : Int))))), (a 3, .inl (cI, 4, .inl (fun j : Nat => Int32.ofInt (s 2 (j : Int))))), (a 4, .inl (cI, 160, .inl (fun j : Nat => Int32.ofInt (s 3 (j : Int))))), (a 5, .inl (cI, 1200, .inl (fun j : Nat => Int32.ofInt (s 5 (j : Int))))), (a 6, .inl (cI, 24, .inl (fun j : Nat => Int32.ofInt (s 6 (j : Int))))), (a 7, .inl (cI, 36, .inl (fun j : Nat => Int32.ofInt (s 11 (j : Int))))), (a 8, .inl (cI, 4, .inl (fun j : Nat => Int32.ofInt (s 12 (j : Int))))), (a 9, .inl (cI, 4, .inl (fun j : Nat => Int32.ofInt (s 13 (j : Int))))), (a 10, .inl (cI, 160, .inl (fun j : Nat => Int32.ofInt (s 14 (j : Int))))), (a 11, .inl (cI, 31, .inl (fun j : Nat => Int32.ofInt (s 15 (j : Int))))), (a 12, .inl (cI, 96, .inl (fun j : Nat => Int32.ofInt (s 20 (j : Int))))), (a 13, .inl (cI, 200, .inl (fun j : Nat => Int32.ofInt (s 21 (j : Int))))), (a 14, .inl (cI, 200, .inl (fun j : Nat => Int32.ofInt (s 25 (j : Int))))), (a 15, .inl (cI, 6, .inl (fun j : Nat => Int32.ofInt (s 26 (j : Int))))), (a 16, .inl (cI, 16, .inl (fun j : Nat => Int32.ofInt (s 27 (j : Int))))), (a 17, .inl (cI, 16, .inl (fun j : Nat => Int32.ofInt (s 28 (j : Int))))), (a 18, .inl (cI, 16, .inl (fun j : Nat => Int32.ofInt (s 29 (j : Int))))), (a 19, .inl (cJ, 16, .inr (.inl (fun j : Nat => Int64.ofInt (s 34 (j : Int))))))]
theorem hwdM (a : Nat → Nat) (cI cJ : ClassId) : ∀ σ, (wdM a cI cJ σ).map (·.1) = (wdM a cI cJ (fun _ _ => 0)).map (·.1) := fun _ => rfl
/-! what is held true of the reference's memory: texts that can be reckoned, kinds, mores, orders -/
def cdep (c : Int) : Int := if 100000 ≤ c ∨ c < 11 then 1 else if c = 13 ∨ c = 19 then 0 else -1
theorem cdep_c (c : Int) : (cdep c = 1 ∧ (100000 ≤ c ∨ c < 11)) ∨ (cdep c = 0 ∧ (c = 13 ∨ c = 19)) ∨ (cdep c = -1 ∧ 11 ≤ c ∧ c < 100000 ∧ c ≠ 13 ∧ c ≠ 19) := by
  unfold cdep
  by_cases h : 100000 ≤ c ∨ c < 11
  · rw [if_pos h]; exact Or.inl ⟨rfl, h⟩
  · rw [if_neg h]
    by_cases h2 : c = 13 ∨ c = 19
    · rw [if_pos h2]; exact Or.inr (Or.inl ⟨rfl, h2⟩)
    · rw [if_neg h2]; exact Or.inr (Or.inr ⟨rfl, by omega, by omega, by omega, by omega⟩)
def dep (f : Int → Int) (b : Int) : Nat → Int
  | 0 => 0
  | n + 1 => dep f b n + cdep (f (b + n))
theorem dep_s (f : Int → Int) (b : Int) {j : Int} (h : 0 ≤ j) : dep f b (j + 1).toNat = dep f b j.toNat + cdep (f (b + j)) := by
  obtain ⟨n, rfl⟩ : ∃ n : Nat, j = n := ⟨j.toNat, by omega⟩
  have e1 : ((n : Int) + 1).toNat = n + 1 := by omega
  have e2 : (n : Int).toNat = n := by omega
  rw [e1, e2]; rfl
/-- a code that can stand in a text -/
def okc (c : Int) : Prop := (0 ≤ c ∧ c ≤ 5) ∨ (11 ≤ c ∧ c ≤ 19) ∨ (100000 ≤ c ∧ c ≤ 109999)
def VT (f st : Int → Int) (t part : Int) : Prop := 0 ≤ st (4 * t + part) ∧ st (4 * t + part) < st (4 * t + part + 1) ∧ st (4 * t + part + 1) ≤ 200 ∧ ∀ j : Int, 0 ≤ j → j < st (4 * t + part + 1) - st (4 * t + part) → okc (f (200 * t + (st (4 * t + part) + j))) ∧ 1 ≤ dep f (200 * t + st (4 * t + part)) (j + 1).toNat
def VS (s : gMem) : Prop := 1 ≤ s 7 0 ∧ s 7 0 ≤ 6 ∧ 0 ≤ s 8 0 ∧ s 8 0 < s 7 0 ∧ ∀ t part : Int, 0 ≤ t → t < s 7 0 → 0 ≤ part → part ≤ 2 → VT (s 5) (s 6) t part
def KN (s : gMem) : Prop := ∀ i, 0 ≤ s 0 i ∧ s 0 i ≤ 5
def MO (s : gMem) : Prop := ∀ i, 0 ≤ s 1 i ∧ s 1 i ≤ 9
def OR (s : gMem) : Prop := ∀ i, 0 ≤ s 27 i ∧ s 27 i ≤ 15
def BE (s : gMem) : Prop := ∀ i, 0 ≤ s 28 i ∧ s 28 i ≤ 16
def FI (s : gMem) : Prop := ∀ i, 0 ≤ s 29 i ∧ s 29 i ≤ 16
theorem VT_at {f st : Int → Int} {t part k : Int} (h : VT f st t part) (h1 : st (4 * t + part) ≤ k) (h2 : k < st (4 * t + part + 1)) : okc (f (200 * t + k)) ∧ 1 ≤ dep f (200 * t + st (4 * t + part)) (k - st (4 * t + part)).toNat + cdep (f (200 * t + k)) ∧ dep f (200 * t + st (4 * t + part)) (k + 1 - st (4 * t + part)).toNat = dep f (200 * t + st (4 * t + part)) (k - st (4 * t + part)).toNat + cdep (f (200 * t + k)) := by
  obtain ⟨q1, q2, q3, q4⟩ := h
  obtain ⟨q5, q6⟩ := q4 (k - st (4 * t + part)) (by omega) (by omega)
  have e1 : 200 * t + (st (4 * t + part) + (k - st (4 * t + part))) = 200 * t + k := by omega
  have e2 := dep_s f (200 * t + st (4 * t + part)) (j := k - st (4 * t + part)) (by omega)
  have e3 : k - st (4 * t + part) + 1 = k + 1 - st (4 * t + part) := by omega
  have e4 : 200 * t + st (4 * t + part) + (k - st (4 * t + part)) = 200 * t + k := by omega
  rw [e3, e4] at e2
  rw [e1] at q5
  rw [e3, e2] at q6
  exact ⟨q5, q6, e2⟩
theorem KN_set {s : gMem} {i v : Int} (h : KN s) (hv : 0 ≤ v ∧ v ≤ 5) : KN (mset s 0 i v) := fun j => by
  rw [mset_at]
  split
  · exact hv
  · exact h j
theorem MO_set {s : gMem} {i v : Int} (h : MO s) (hv : 0 ≤ v ∧ v ≤ 9) : MO (mset s 1 i v) := fun j => by
  rw [mset_at]
  split
  · exact hv
  · exact h j
theorem OR_set {s : gMem} {i v : Int} (h : OR s) (hv : 0 ≤ v ∧ v ≤ 15) : OR (mset s 27 i v) := fun j => by
  rw [mset_at]
  split
  · exact hv
  · exact h j
theorem BE_set {s : gMem} {i v : Int} (h : BE s) (hv : 0 ≤ v ∧ v ≤ 16) : BE (mset s 28 i v) := fun j => by
  rw [mset_at]
  split
  · exact hv
  · exact h j
theorem FI_set {s : gMem} {i v : Int} (h : FI s) (hv : 0 ≤ v ∧ v ≤ 16) : FI (mset s 29 i v) := fun j => by
  rw [mset_at]
  split
  · exact hv
  · exact h j
theorem mul_rg {x y a b : Int} (h0 : 0 ≤ x) (h1 : x ≤ a) (h2 : 0 ≤ y) (h3 : y ≤ b) : 0 ≤ x * y ∧ x * y ≤ a * b := ⟨Int.mul_nonneg h0 h2, Int.mul_le_mul h1 h3 h2 (by omega)⟩
def MN (s : gMem) : Prop := ∀ i, -1 ≤ s 34 i ∧ s 34 i ≤ 1000000000000
theorem MN_set {s : gMem} {i v : Int} (h : MN s) (hv : -1 ≤ v ∧ v ≤ 1000000000000) : MN (mset s 34 i v) := fun j => by
  rw [mset_at]
  split
  · exact hv
  · exact h j
theorem dv_lo {x y : Int} (h0 : 0 ≤ x) (h1 : 0 < y) (h2 : y ≤ 100) : x / 100 ≤ x / y := by
  rw [Int.le_ediv_iff_mul_le h1]
  have h3 : 0 ≤ x / 100 := Int.ediv_nonneg h0 (by decide)
  have h4 : x / 100 * y ≤ x / 100 * 100 := Int.mul_le_mul_of_nonneg_left h2 h3
  omega
theorem mul_rg2 {x y a b c : Int} (h0 : -c ≤ x) (h1 : x ≤ a) (h2 : 0 ≤ y) (h3 : y ≤ b) (ha : 0 ≤ a) (hc : 0 ≤ c) : -(c * b) ≤ x * y ∧ x * y ≤ a * b := by
  have e1 : x * y ≤ a * y := Int.mul_le_mul_of_nonneg_right h1 h2
  have e2 : a * y ≤ a * b := Int.mul_le_mul_of_nonneg_left h3 ha
  have e3 : -c * y ≤ x * y := Int.mul_le_mul_of_nonneg_right h0 h2
  have e4 : c * y ≤ c * b := Int.mul_le_mul_of_nonneg_left h3 hc
  rw [Int.neg_mul] at e3
  omega
def TD (s : gMem) : Prop := ∀ i, 0 ≤ s 2 i ∧ (i < 2 → s 2 i ≤ 65535) ∧ (2 ≤ i → s 2 i ≤ 2)
theorem TD_set {s : gMem} {i v : Int} (h : TD s) (hv : 0 ≤ v ∧ (i < 2 → v ≤ 65535) ∧ (2 ≤ i → v ≤ 2)) : TD (mset s 2 i v) := fun j => by
  rw [mset_at]
  split
  · rename_i e
    rw [e]
    exact hv
  · exact h j
def SO (s : gMem) : Prop := ∀ i, -1 ≤ s 12 i ∧ s 12 i ≤ 2
theorem SO_set {s : gMem} {i v : Int} (h : SO s) (hv : -1 ≤ v ∧ v ≤ 2) : SO (mset s 12 i v) := fun j => by
  rw [mset_at]
  split
  · exact hv
  · exact h j
def SZ (s : gMem) : Prop := ∀ i, 0 ≤ s 13 i ∧ s 13 i ≤ 40
theorem SZ_set {s : gMem} {i v : Int} (h : SZ s) (hv : 0 ≤ v ∧ v ≤ 40) : SZ (mset s 13 i v) := fun j => by
  rw [mset_at]
  split
  · exact hv
  · exact h j
def IR (s : gMem) : Prop := ∀ i, 0 ≤ s 11 i ∧ (i < 16 → s 11 i ≤ 5) ∧ (16 ≤ i → i < 32 → s 11 i ≤ 9) ∧ (32 ≤ i → i < 34 → s 11 i ≤ 65535) ∧ (34 ≤ i → s 11 i ≤ 2)
theorem IR_set {s : gMem} {i v : Int} (h : IR s) (hv : 0 ≤ v ∧ (i < 16 → v ≤ 5) ∧ (16 ≤ i → i < 32 → v ≤ 9) ∧ (32 ≤ i → i < 34 → v ≤ 65535) ∧ (34 ≤ i → v ≤ 2)) : IR (mset s 11 i v) := fun j => by
  rw [mset_at]
  split
  · rename_i e
    rw [e]
    exact hv
  · exact h j
theorem o_nat {x : Int} (h0 : 0 ≤ x) (h1 : x < 2147483648) : ((Int32.ofInt x).toBitVec.toNat : Int) = x := by
  have e : (Int32.ofInt x).toInt = x := Int32.toInt_ofInt_of_le (by omega) h1
  have e2 : (Int32.ofInt x).toBitVec.toInt = x := e
  have h3 := (Int32.ofInt x).toBitVec.isLt
  rw [BitVec.toInt_eq_toNat_cond] at e2
  split at e2 <;> omega
theorem iand_nn {x : Int} (y : Int) (h0 : 0 ≤ x) (h1 : x < 2147483648) : 0 ≤ iand x y ∧ iand x y ≤ x := by
  have hx := o_nat h0 h1
  have h2 : (Int32.ofInt x &&& Int32.ofInt y).toBitVec.toNat ≤ (Int32.ofInt x).toBitVec.toNat := by
    rw [Int32.toBitVec_and, BitVec.toNat_and]
    exact Nat.and_le_left
  have h3 : iand x y = (Int32.ofInt x &&& Int32.ofInt y).toBitVec.toInt := rfl
  rw [h3, BitVec.toInt_eq_toNat_cond]
  split <;> omega
theorem ior_16 {x y : Int} (h0 : 0 ≤ x) (h1 : x ≤ 65535) (h2 : 0 ≤ y) (h3 : y ≤ 65535) : 0 ≤ ior x y ∧ ior x y ≤ 65535 := by
  have hx := o_nat h0 (by omega)
  have hy := o_nat h2 (by omega)
  have h4 : (Int32.ofInt x ||| Int32.ofInt y).toBitVec.toNat < 2 ^ 16 := by
    rw [Int32.toBitVec_or, BitVec.toNat_or]
    exact Nat.or_lt_two_pow (by omega) (by omega)
  have h5 : ior x y = (Int32.ofInt x ||| Int32.ofInt y).toBitVec.toInt := rfl
  rw [h5, BitVec.toInt_eq_toNat_cond]
  split <;> omega
theorem ishl_1 {p : Int} (h0 : 0 ≤ p) (h1 : p ≤ 15) : 1 ≤ ishl 1 p ∧ ishl 1 p ≤ 32768 := by
  have h : ∀ n : Fin 16, 1 ≤ ishl 1 (n.val : Int) ∧ ishl 1 (n.val : Int) ≤ 32768 := by decide +kernel
  have := h ⟨p.toNat, by omega⟩
  have e : ((p.toNat : Nat) : Int) = p := by omega
  simp only [e] at this
  exact this
theorem VS_of {s s0 : gMem} (h : VS s0) (e5 : s 5 = s0 5) (e6 : s 6 = s0 6) (e7 : s 7 = s0 7) (h0 : 0 ≤ s 8 0) (h1 : s 8 0 < s0 7 0) : VS s := by
  obtain ⟨k1, k2, k3, k4, k5⟩ := h
  unfold VS
  rw [e5, e6, e7]
  exact ⟨k1, k2, h0, h1, k5⟩
theorem ishl_2 {p : Int} (h0 : 0 ≤ p) (h1 : p ≤ 16) : 1 ≤ ishl 1 p ∧ ishl 1 p ≤ 65536 := by
  have h : ∀ n : Fin 17, 1 ≤ ishl 1 (n.val : Int) ∧ ishl 1 (n.val : Int) ≤ 65536 := by decide +kernel
  have := h ⟨p.toNat, by omega⟩
  have e : ((p.toNat : Nat) : Int) = p := by omega
  simp only [e] at this
  exact this
