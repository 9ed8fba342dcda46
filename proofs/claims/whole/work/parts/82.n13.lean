section
/-! what the statement gives of strings and statics at the start -/
def sT (i : Nat) : Term := .string "AGapEveryTwenty$Reader" (113 + 2 * i)
def sV (i : Nat) : Term := .field (sT i) "java/lang/String" "value" "[B"
def sK : Term := .static "AGapEveryTwenty" "KIND_ABOVE" "[I"
abbrev sF : List Cond := flatC (Jvm.Cond.and given_1 narrow_1)
set_option maxRecDepth 100000 in
theorem sF_ex : ∀ i : Nat, i < 12 → Cond.exactly (sT i) "java/lang/String" ∈ sF := by decide +kernel
set_option maxRecDepth 100000 in
theorem sF_co : ∀ i : Nat, i < 12 → Cond.eq (.field (sT i) "java/lang/String" "coder" "B") (.int 0) ∈ sF := by decide +kernel
set_option maxRecDepth 100000 in
theorem sF_ar : ∀ i : Nat, i < 12 → Cond.arrayOf (sV i) .byte ∈ sF := by decide +kernel
set_option maxRecDepth 100000 in
theorem sF_le : ∀ i : Nat, i < 12 → Cond.eq (.length (sV i)) (.int (Int32.ofNat (xLen.getD i 0))) ∈ sF := by decide +kernel
set_option maxRecDepth 100000 in
theorem sF_el : ∀ i : Nat, i < 12 → ∀ j : Nat, j < xLen.getD i 0 → Cond.eq (.elem (sV i) (.int (Int32.ofNat j))) (.int ((xByt.getD i []).getD j 0)) ∈ sF := by decide +kernel
set_option maxRecDepth 100000 in
theorem sF_ne : ∀ i : Nat, i < 12 → ∀ j : Nat, j < 12 → i ≠ j → Cond.not (Cond.eq (sT i) (sT j)) ∈ sF ∨ Cond.not (Cond.eq (sT j) (sT i)) ∈ sF := by decide +kernel
set_option maxRecDepth 100000 in
theorem sF_ka : Cond.arrayOf sK .int ∈ sF := by decide +kernel
set_option maxRecDepth 100000 in
theorem sF_kl : Cond.eq (.length sK) (.int (Int32.ofNat 6)) ∈ sF := by decide +kernel
set_option maxRecDepth 100000 in
theorem sF_ke : ∀ j : Nat, j < 6 → Cond.eq (.elem sK (.int (Int32.ofNat j))) (.int (Int32.ofInt (xKd.getD j 0))) ∈ sF := by decide +kernel
set_option maxRecDepth 100000 in
theorem sF_cs : Cond.eq (.static "java/lang/String" "COMPACT_STRINGS" "Z") (.int 1) ∈ sF := by decide +kernel
set_option maxRecDepth 100000 in
theorem sF_si : Cond.isRef (.static "jdk/internal/util/Preconditions" "SIOOBE_FORMATTER" "Ljava/util/function/BiFunction;") ∈ sF := by decide +kernel
set_option maxRecDepth 100000 in
theorem sW_r : ∀ i : Nat, i < 12 → Cond.stringRef RX3 (113 + 2 * i) (xTx.getD i "") ∈ lw_tbl := by decide +kernel
set_option maxRecDepth 100000 in
theorem sW_1 : Cond.laysStatic "java/lang/String" "COMPACT_STRINGS" "Z" ∈ lw_tbl := List.mem_of_getElem? (i := 426) (by decide +kernel)
set_option maxRecDepth 100000 in
theorem sW_2 : Cond.laysStatic "jdk/internal/util/Preconditions" "SIOOBE_FORMATTER" "Ljava/util/function/BiFunction;" ∈ lw_tbl := List.mem_of_getElem? (i := 442) (by decide +kernel)
set_option maxRecDepth 100000 in
theorem sW_3 : Cond.laysStatic "AGapEveryTwenty" "KIND_ABOVE" "[I" ∈ lw_tbl := List.mem_of_getElem? (i := 897) (by decide +kernel)
set_option maxRecDepth 100000 in
theorem sW_4 : Cond.initialized "java/lang/String" ∈ lw_tbl := List.mem_of_getElem? (i := 66) (by decide +kernel)
set_option maxRecDepth 100000 in
theorem sW_5 : Cond.initialized "jdk/internal/util/Preconditions" ∈ lw_tbl := List.mem_of_getElem? (i := 68) (by decide +kernel)
set_option maxRecDepth 100000 in
theorem sW_6 : Cond.initialized "AGapEveryTwenty" ∈ lw_tbl := List.mem_of_getElem? (i := 55) (by decide +kernel)
theorem XS_start {args : Array Value} {s : State} {A : Nat → Prop} (hg : (Jvm.Cond.and given_1 narrow_1).before args s = true) (hts : ∀ w ∈ lw_tbl, w.before args s = true) (hA : ∀ a : Nat, a < s.heap.size → ¬ A a) : ∃ (adK adV : Nat → Nat) (kA : Nat), XS adK adV kA A s := by
  have hs := flat_of_before _ hg
  obtain ⟨adK, adV, hS, hE⟩ := vk_Sof (args := args) (s := s) (N := 12) (tm := sT) (len := xLen) (byt := xByt) (A := A) (fun i hi => Nat.lt_of_lt_of_le (xlen_lt i hi) (by decide)) (fun i hi => hs _ (sF_ex i hi)) (fun i hi => hs _ (sF_co i hi)) (fun i hi => hs _ (sF_ar i hi)) (fun i hi => hs _ (sF_le i hi)) (fun i hi j hj => hs _ (sF_el i hi j hj)) (fun i j hi hj hij => (sF_ne i hi j hj hij).imp (hs _) (hs _)) hA
  obtain ⟨kA, hk, hT⟩ := va_Tof (args := args) (s := s) (tm := sK) (ty := .int) (N := 6) (f := fun j => .int (Int32.ofInt (xKd.getD j 0))) (A := A) (by decide) (hs _ sF_ka) (va_eqt (hs _ sF_kl)) (fun j hj => va_eqt (hs _ (sF_ke j hj))) hA
  exact ⟨adK, adV, kA, fun i hi => vk_R.of (hts _ (sW_r i hi)) (hE i hi), hS, va_Zof (hts _ sW_1) (hts _ sW_4) (va_eqi (hs _ sF_cs)) hA, va_Zqof (hts _ sW_2) (hts _ sW_5) (hs _ sF_si) hA, va_Zof (hts _ sW_3) (hts _ sW_6) hk hA, hT⟩
end
