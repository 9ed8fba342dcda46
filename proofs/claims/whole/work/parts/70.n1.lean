section
/-- the first k numbers of a list, then 0 -/
def xst (L : List Int) (k : Nat) : Nat → Int32 := fun j => if j < k then Int32.ofInt (L.getD j 0) else 0
theorem xst_1 (L : List Int) (x : Int) (h : L.getD 0 0 = x) : upd (fun _ => 0) 0 (Int32.ofInt x) = xst L 1 := by
  funext j
  simp only [upd, xst]
  by_cases q : j = 0
  · subst q
    rw [if_pos rfl, if_pos (by omega), h]
  · rw [if_neg q, if_neg (by omega)]
theorem xst_s (L : List Int) (k : Nat) (x : Int) (h : L.getD k 0 = x) : upd (xst L k) k (Int32.ofInt x) = xst L (k + 1) := by
  funext j
  simp only [upd, xst]
  by_cases q : j = k
  · subst q
    rw [if_pos rfl, if_pos (by omega), h]
  · rw [if_neg q]
    by_cases q2 : j < k
    · rw [if_pos q2, if_pos (by omega)]
    · rw [if_neg q2, if_neg (by omega)]
def xsm (L : List Int) (k : Nat) : Int → Int := fun i => if 0 ≤ i ∧ i < k then L.getD i.toNat 0 else 0
theorem xsm_st (L : List Int) (k : Nat) : (fun j : Nat => Int32.ofInt (xsm L k (j : Int))) = xst L k := by
  funext j
  simp only [xsm, xst, Int.toNat_natCast]
  by_cases q : j < k
  · rw [if_pos q, if_pos (by omega)]
  · rw [if_neg q, if_neg (by omega)]
    rfl
/-- an object's own address first, then the others -/
def hd (h : Nat) (u : Nat → Nat) : Nat → Nat := fun k => match k with
  | 0 => h
  | k + 1 => u k
def xL19 : List Int := [2, 3, 10]
def xL26 : List Int := [0, 1, 2, 3]
theorem wn_aI : Cond.arrayClass .int ∈ gBIG := gm (List.mem_of_getElem? (i := 103) (by decide +kernel)) (by decide +kernel)
theorem wn_aJ : Cond.arrayClass .long ∈ gBIG := gm (List.mem_of_getElem? (i := 257) (by decide +kernel)) (by decide +kernel)
theorem df_X0 : ∀ j, j < 5 → defaultValue (tyX0 j) = vp_V [.null, gL 0, gI 0, gI 0, gI 0] j
  | 0, _ => rfl
  | 1, _ => rfl
  | 2, _ => rfl
  | 3, _ => rfl
  | 4, _ => rfl
  | j + 5, h => absurd h (by omega)
theorem df_X1 : ∀ j, j < 4 → defaultValue (tyX1 j) = vp_V [.null, gI 0, gL 0, gL 0] j
  | 0, _ => rfl
  | 1, _ => rfl
  | 2, _ => rfl
  | 3, _ => rfl
  | j + 4, h => absurd h (by omega)
theorem df_X2 : ∀ j, j < 8 → defaultValue (tyX2 j) = vp_V [.null, .null, .null, .null, gI 0, gI 0, gI 0, gI 0] j
  | 0, _ => rfl
  | 1, _ => rfl
  | 2, _ => rfl
  | 3, _ => rfl
  | 4, _ => rfl
  | 5, _ => rfl
  | 6, _ => rfl
  | 7, _ => rfl
  | j + 8, h => absurd h (by omega)
theorem df_X3 : ∀ j, j < 10 → defaultValue (tyX3 j) = vp_V [.null, .null, .null, gI 0, gI 0, gI 0, gI 0, gI 0, gI 0, gI 0] j
  | 0, _ => rfl
  | 1, _ => rfl
  | 2, _ => rfl
  | 3, _ => rfl
  | 4, _ => rfl
  | 5, _ => rfl
  | 6, _ => rfl
  | 7, _ => rfl
  | 8, _ => rfl
  | 9, _ => rfl
  | j + 10, h => absurd h (by omega)
theorem df_X4 : ∀ j, j < 6 → defaultValue (tyX4 j) = vp_V [.null, .null, .null, .null, .null, .null] j
  | 0, _ => rfl
  | 1, _ => rfl
  | 2, _ => rfl
  | 3, _ => rfl
  | 4, _ => rfl
  | 5, _ => rfl
  | j + 6, h => absurd h (by omega)
theorem df_X5 : ∀ j, j < 3 → defaultValue (tyX5 j) = vp_V [.null, gI 0, gI 0] j
  | 0, _ => rfl
  | 1, _ => rfl
  | 2, _ => rfl
  | j + 3, h => absurd h (by omega)
theorem df_X6 : ∀ j, j < 7 → defaultValue (tyX6 j) = vp_V [.null, .null, gI 0, gI 0, gI 0, gI 0, gI 0] j
  | 0, _ => rfl
  | 1, _ => rfl
  | 2, _ => rfl
  | 3, _ => rfl
  | 4, _ => rfl
  | 5, _ => rfl
  | 6, _ => rfl
  | j + 7, h => absurd h (by omega)
theorem df_X7 : ∀ j, j < 4 → defaultValue (tyX7 j) = vp_V [.null, .null, .null, gI 0] j
  | 0, _ => rfl
  | 1, _ => rfl
  | 2, _ => rfl
  | 3, _ => rfl
  | j + 4, h => absurd h (by omega)
theorem df_X8 : ∀ j, j < 9 → defaultValue (tyX8 j) = vp_V [.null, .null, .null, .null, .null, .null, .null, .null, gI 0] j
  | 0, _ => rfl
  | 1, _ => rfl
  | 2, _ => rfl
  | 3, _ => rfl
  | 4, _ => rfl
  | 5, _ => rfl
  | 6, _ => rfl
  | 7, _ => rfl
  | 8, _ => rfl
  | j + 9, h => absurd h (by omega)
theorem df_X9 : ∀ j, j < 38 → defaultValue (tyX9 j) = vp_V [.null, .null, .null, .null, gI 0, .null, .null, gI 0, gI 0, gI 0, gI 0, .null, .null, .null, .null, .null, gI 0, gI 0, gI 0, gI 0, .null, .null, gI 0, gI 0, gI 0, .null, .null, .null, .null, .null, gI 0, gI 0, gI 0, gI 0, .null, gI 0, gI 0, gI 0] j
  | 0, _ => rfl
  | 1, _ => rfl
  | 2, _ => rfl
  | 3, _ => rfl
  | 4, _ => rfl
  | 5, _ => rfl
  | 6, _ => rfl
  | 7, _ => rfl
  | 8, _ => rfl
  | 9, _ => rfl
  | 10, _ => rfl
  | 11, _ => rfl
  | 12, _ => rfl
  | 13, _ => rfl
  | 14, _ => rfl
  | 15, _ => rfl
  | 16, _ => rfl
  | 17, _ => rfl
  | 18, _ => rfl
  | 19, _ => rfl
  | 20, _ => rfl
  | 21, _ => rfl
  | 22, _ => rfl
  | 23, _ => rfl
  | 24, _ => rfl
  | 25, _ => rfl
  | 26, _ => rfl
  | 27, _ => rfl
  | 28, _ => rfl
  | 29, _ => rfl
  | 30, _ => rfl
  | 31, _ => rfl
  | 32, _ => rfl
  | 33, _ => rfl
  | 34, _ => rfl
  | 35, _ => rfl
  | 36, _ => rfl
  | 37, _ => rfl
  | j + 38, h => absurd h (by omega)
theorem wn_25 : Cond.instanceMethod Lib.objectInit ∈ gBIG := gm (List.mem_of_getElem? (i := 79) (by decide +kernel)) (by decide +kernel)
theorem wn_26 : Cond.code Lib.objectInit ⟨#[0xb1]⟩ 1 none ∈ gBIG := gm (List.mem_of_getElem? (i := 80) (by decide +kernel)) (by decide +kernel)
theorem wn_32 : Cond.methodLink RX7 3 Lib.objectInit ∈ gBIG := gm (List.mem_of_getElem? (i := 86) (by decide +kernel)) (by decide +kernel)
theorem wn_33 : Cond.classLink RX7 9 ("[" ++ (FieldType.array .int).toString) ∈ gBIG := gm (List.mem_of_getElem? (i := 87) (by decide +kernel)) (by decide +kernel)
theorem wn_35 : Cond.fieldLink RX7 11 "AGapEveryTwenty$Texts" "codes" "[[I" ∈ gBIG := gm (List.mem_of_getElem? (i := 89) (by decide +kernel)) (by decide +kernel)
theorem wn_36 : Cond.fieldLink RX7 16 "AGapEveryTwenty$Texts" "begins" "[[I" ∈ gBIG := gm (List.mem_of_getElem? (i := 90) (by decide +kernel)) (by decide +kernel)
theorem wn_37 : Cond.fieldLink RX7 19 "AGapEveryTwenty$Texts" "pile" "[I" ∈ gBIG := gm (List.mem_of_getElem? (i := 91) (by decide +kernel)) (by decide +kernel)
theorem wn_38 : Cond.fieldLink RX7 23 "AGapEveryTwenty$Texts" "many" "I" ∈ gBIG := gm (List.mem_of_getElem? (i := 92) (by decide +kernel)) (by decide +kernel)
theorem wn_55 : Cond.methodLink RX3 3 Lib.objectInit ∈ gBIG := gm (List.mem_of_getElem? (i := 109) (by decide +kernel)) (by decide +kernel)
theorem wn_56 : Cond.fieldLink RX3 9 "AGapEveryTwenty$Reader" "tape" "[I" ∈ gBIG := gm (List.mem_of_getElem? (i := 110) (by decide +kernel)) (by decide +kernel)
theorem wn_57 : Cond.fieldLink RX3 15 "AGapEveryTwenty$Reader" "code" "[I" ∈ gBIG := gm (List.mem_of_getElem? (i := 111) (by decide +kernel)) (by decide +kernel)
theorem wn_59 : Cond.fieldLink RX3 18 "AGapEveryTwenty$Reader" "begins" "[I" ∈ gBIG := gm (List.mem_of_getElem? (i := 113) (by decide +kernel)) (by decide +kernel)
theorem wn_101 : Cond.methodLink RX6 3 Lib.objectInit ∈ gBIG := gm (List.mem_of_getElem? (i := 155) (by decide +kernel)) (by decide +kernel)
theorem wn_102 : Cond.fieldLink RX6 9 "AGapEveryTwenty$State" "kind" "[I" ∈ gBIG := gm (List.mem_of_getElem? (i := 156) (by decide +kernel)) (by decide +kernel)
theorem wn_105 : Cond.fieldLink RX6 15 "AGapEveryTwenty$State" "more" "[I" ∈ gBIG := gm (List.mem_of_getElem? (i := 159) (by decide +kernel)) (by decide +kernel)
theorem wn_173 : Cond.methodLink RX2 3 Lib.objectInit ∈ gBIG := gm (List.mem_of_getElem? (i := 227) (by decide +kernel)) (by decide +kernel)
theorem wn_174 : Cond.fieldLink RX2 22 "AGapEveryTwenty$Plans" "row" "LAGapEveryTwenty$Row;" ∈ gBIG := gm (List.mem_of_getElem? (i := 228) (by decide +kernel)) (by decide +kernel)
theorem wn_175 : Cond.fieldLink RX2 9 "AGapEveryTwenty$Plans" "known" "[J" ∈ gBIG := gm (List.mem_of_getElem? (i := 229) (by decide +kernel)) (by decide +kernel)
theorem wn_176 : Cond.fieldLink RX2 15 "AGapEveryTwenty$Plans" "order" "[I" ∈ gBIG := gm (List.mem_of_getElem? (i := 230) (by decide +kernel)) (by decide +kernel)
theorem wn_178 : Cond.fieldLink RX2 19 "AGapEveryTwenty$Plans" "besides" "[I" ∈ gBIG := gm (List.mem_of_getElem? (i := 232) (by decide +kernel)) (by decide +kernel)
theorem wn_209 : Cond.methodLink RX1 3 Lib.objectInit ∈ gBIG := gm (List.mem_of_getElem? (i := 263) (by decide +kernel)) (by decide +kernel)
theorem wn_210 : Cond.fieldLink RX1 9 "AGapEveryTwenty$Picks" "plans" "LAGapEveryTwenty$Plans;" ∈ gBIG := gm (List.mem_of_getElem? (i := 264) (by decide +kernel)) (by decide +kernel)
theorem wn_230 : Cond.methodLink RX0 3 Lib.objectInit ∈ gBIG := gm (List.mem_of_getElem? (i := 284) (by decide +kernel)) (by decide +kernel)
theorem wn_231 : Cond.fieldLink RX0 9 "AGapEveryTwenty$Lots" "row" "LAGapEveryTwenty$Row;" ∈ gBIG := gm (List.mem_of_getElem? (i := 285) (by decide +kernel)) (by decide +kernel)
theorem wn_258 : Cond.methodLink RX5 3 Lib.objectInit ∈ gBIG := gm (List.mem_of_getElem? (i := 312) (by decide +kernel)) (by decide +kernel)
theorem wn_259 : Cond.fieldLink RX5 9 "AGapEveryTwenty$Sheet" "cells" "[I" ∈ gBIG := gm (List.mem_of_getElem? (i := 313) (by decide +kernel)) (by decide +kernel)
theorem wn_261 : Cond.fieldLink RX5 15 "AGapEveryTwenty$Sheet" "sort" "I" ∈ gBIG := gm (List.mem_of_getElem? (i := 315) (by decide +kernel)) (by decide +kernel)
set_option maxRecDepth 100000 in
set_option maxHeartbeats 4000000 in
theorem c_X5_init (l : Launch) (D : va_G) (cI cJ cS cT : ClassId) (h : Nat) : nC l yX5_init cX5_init 1 1 1 40 64 D (gT cI cJ cS cT) [(h, .inr (5, [.null, gI 0, gI 0]))] [.ref h] (fun u => [(h, .inr (5, [.ref (u 0), gI (-1), gI 0])), ((u 0), .inl (cI, 40, .inl (fun _ => 0)))]) := by
  refine nC_of (by decide +kernel) (Nat.le_of_ble_eq_true rfl) ?_
  intro A p e R s m args below meth c hR hAe E
  subst hR
  refine n_lv [0] (lv' := [(0, .ref h)]) rfl ?_
  refine n_aload (pc := 0) E 0 dX5_init_0 rfl rfl ?_
  refine n_obj (pc := 1) E wn_258 wn_25 wn_26 ⟨Nat.le_of_ble_eq_true rfl, Nat.le_of_ble_eq_true rfl⟩ (Nat.le_of_ble_eq_true rfl) dX5_init_1 ?_
  refine n_aload (pc := 4) E 0 dX5_init_4 rfl rfl ?_
  refine n_bipush (pc := 5) E dX5_init_5 (by decide) ?_
  refine n_newI (pc := 7) (N := 40) E 0 rfl wn_aI (by decide) rfl (by decide) (Nat.le_of_ble_eq_true rfl) (Nat.le_of_ble_eq_true rfl) dX5_init_7 (fun q1 => ?_)
  refine n_w (ws' := [(h, .inr (5, [.null, gI 0, gI 0])), (q1, .inl (cI, 40, .inl (fun _ => 0)))]) rfl ?_
  refine n_putF (pc := 9) (q0 := 0) (f := 0) (ws' := [(h, .inr (5, [.ref q1, gI 0, gI 0])), (q1, .inl (cI, 40, .inl (fun _ => 0)))]) E tyX5 tyX5_ok nmX5 inX5 rfl rfl (by decide) wn_259 rfl rfl rfl rfl (tyX5_ok 0 (by decide)) rfl rfl (Nat.le_of_ble_eq_true rfl) rfl dX5_init_9 ?_
  refine n_aload (pc := 12) E 0 dX5_init_12 rfl rfl ?_
  refine n_iconst (pc := 13) E dX5_init_13 ?_
  refine n_put (pc := 14) (q0 := 0) (f := 1) (ws' := [(h, .inr (5, [.ref q1, gI (-1), gI 0])), (q1, .inl (cI, 40, .inl (fun _ => 0)))]) E tyX5 tyX5_ok nmX5 inX5 rfl rfl (by decide) wn_261 rfl rfl (tyX5_ok 1 (by decide)) rfl rfl (Nat.le_of_ble_eq_true rfl) rfl dX5_init_14 ?_
  exact n_ret (pc := 17) E hAe (fun k => [q1].getD k 0) [0, 1] rfl rfl dX5_init_17
set_option maxRecDepth 100000 in
set_option maxHeartbeats 4000000 in
theorem c_X6_init (l : Launch) (D : va_G) (cI cJ cS cT : ClassId) (h : Nat) : nC l yX6_init cX6_init 1 1 2 32 64 D (gT cI cJ cS cT) [(h, .inr (6, [.null, .null, gI 0, gI 0, gI 0, gI 0, gI 0]))] [.ref h] (fun u => [(h, .inr (6, [.ref (u 0), .ref (u 1), gI 0, gI 0, gI 0, gI 0, gI 0])), ((u 0), .inl (cI, 16, .inl (fun _ => 0))), ((u 1), .inl (cI, 16, .inl (fun _ => 0)))]) := by
  refine nC_of (by decide +kernel) (Nat.le_of_ble_eq_true rfl) ?_
  intro A p e R s m args below meth c hR hAe E
  subst hR
  refine n_lv [0] (lv' := [(0, .ref h)]) rfl ?_
  refine n_aload (pc := 0) E 0 dX6_init_0 rfl rfl ?_
  refine n_obj (pc := 1) E wn_101 wn_25 wn_26 ⟨Nat.le_of_ble_eq_true rfl, Nat.le_of_ble_eq_true rfl⟩ (Nat.le_of_ble_eq_true rfl) dX6_init_1 ?_
  refine n_aload (pc := 4) E 0 dX6_init_4 rfl rfl ?_
  refine n_bipush (pc := 5) E dX6_init_5 (by decide) ?_
  refine n_newI (pc := 7) (N := 16) E 0 rfl wn_aI (by decide) rfl (by decide) (Nat.le_of_ble_eq_true rfl) (Nat.le_of_ble_eq_true rfl) dX6_init_7 (fun q1 => ?_)
  refine n_w (ws' := [(h, .inr (6, [.null, .null, gI 0, gI 0, gI 0, gI 0, gI 0])), (q1, .inl (cI, 16, .inl (fun _ => 0)))]) rfl ?_
  refine n_putF (pc := 9) (q0 := 0) (f := 0) (ws' := [(h, .inr (6, [.ref q1, .null, gI 0, gI 0, gI 0, gI 0, gI 0])), (q1, .inl (cI, 16, .inl (fun _ => 0)))]) E tyX6 tyX6_ok nmX6 inX6 rfl rfl (by decide) wn_102 rfl rfl rfl rfl (tyX6_ok 0 (by decide)) rfl rfl (Nat.le_of_ble_eq_true rfl) rfl dX6_init_9 ?_
  refine n_aload (pc := 12) E 0 dX6_init_12 rfl rfl ?_
  refine n_bipush (pc := 13) E dX6_init_13 (by decide) ?_
  refine n_newI (pc := 15) (N := 16) E 0 rfl wn_aI (by decide) rfl (by decide) (Nat.le_of_ble_eq_true rfl) (Nat.le_of_ble_eq_true rfl) dX6_init_15 (fun q2 => ?_)
  refine n_w (ws' := [(h, .inr (6, [.ref q1, .null, gI 0, gI 0, gI 0, gI 0, gI 0])), (q1, .inl (cI, 16, .inl (fun _ => 0))), (q2, .inl (cI, 16, .inl (fun _ => 0)))]) rfl ?_
  refine n_putF (pc := 17) (q0 := 0) (f := 1) (ws' := [(h, .inr (6, [.ref q1, .ref q2, gI 0, gI 0, gI 0, gI 0, gI 0])), (q1, .inl (cI, 16, .inl (fun _ => 0))), (q2, .inl (cI, 16, .inl (fun _ => 0)))]) E tyX6 tyX6_ok nmX6 inX6 rfl rfl (by decide) wn_105 rfl rfl rfl rfl (tyX6_ok 1 (by decide)) rfl rfl (Nat.le_of_ble_eq_true rfl) rfl dX6_init_17 ?_
  exact n_ret (pc := 20) E hAe (fun k => [q1, q2].getD k 0) [0, 1, 2] rfl rfl dX6_init_20
set_option maxRecDepth 100000 in
set_option maxHeartbeats 4000000 in
theorem c_X0_init (l : Launch) (D : va_G) (cI cJ cS cT : ClassId) (h r : Nat) : nC l yX0_init cX0_init 2 1 0 0 64 D (gT cI cJ cS cT) [(h, .inr (0, [.null, gL 0, gI 0, gI 0, gI 0]))] [.ref h, .ref r] (fun u => [(h, .inr (0, [.ref r, gL 0, gI 0, gI 0, gI 0]))]) := by
  refine nC_of (by decide +kernel) (Nat.le_of_ble_eq_true rfl) ?_
  intro A p e R s m args below meth c hR hAe E
  subst hR
  refine n_lv [0, 1] (lv' := [(0, .ref h), (1, .ref r)]) rfl ?_
  refine n_aload (pc := 0) E 0 dX0_init_0 rfl rfl ?_
  refine n_obj (pc := 1) E wn_230 wn_25 wn_26 ⟨Nat.le_of_ble_eq_true rfl, Nat.le_of_ble_eq_true rfl⟩ (Nat.le_of_ble_eq_true rfl) dX0_init_1 ?_
  refine n_aload (pc := 4) E 0 dX0_init_4 rfl rfl ?_
  refine n_aload (pc := 5) E 1 dX0_init_5 rfl rfl ?_
  refine n_putF (pc := 6) (q0 := 0) (f := 0) (ws' := [(h, .inr (0, [.ref r, gL 0, gI 0, gI 0, gI 0]))]) E tyX0 tyX0_ok nmX0 inX0 rfl rfl (by decide) wn_231 rfl rfl rfl rfl (tyX0_ok 0 (by decide)) rfl rfl (Nat.le_of_ble_eq_true rfl) rfl dX0_init_6 ?_
  exact n_ret (pc := 9) E hAe (fun k => [].getD k 0) [0] rfl rfl dX0_init_9
set_option maxRecDepth 100000 in
set_option maxHeartbeats 4000000 in
theorem c_X1_init (l : Launch) (D : va_G) (cI cJ cS cT : ClassId) (h r : Nat) : nC l yX1_init cX1_init 2 1 0 0 64 D (gT cI cJ cS cT) [(h, .inr (1, [.null, gI 0, gL 0, gL 0]))] [.ref h, .ref r] (fun u => [(h, .inr (1, [.ref r, gI 0, gL 0, gL 0]))]) := by
  refine nC_of (by decide +kernel) (Nat.le_of_ble_eq_true rfl) ?_
  intro A p e R s m args below meth c hR hAe E
  subst hR
  refine n_lv [0, 1] (lv' := [(0, .ref h), (1, .ref r)]) rfl ?_
  refine n_aload (pc := 0) E 0 dX1_init_0 rfl rfl ?_
  refine n_obj (pc := 1) E wn_209 wn_25 wn_26 ⟨Nat.le_of_ble_eq_true rfl, Nat.le_of_ble_eq_true rfl⟩ (Nat.le_of_ble_eq_true rfl) dX1_init_1 ?_
  refine n_aload (pc := 4) E 0 dX1_init_4 rfl rfl ?_
  refine n_aload (pc := 5) E 1 dX1_init_5 rfl rfl ?_
  refine n_putF (pc := 6) (q0 := 0) (f := 0) (ws' := [(h, .inr (1, [.ref r, gI 0, gL 0, gL 0]))]) E tyX1 tyX1_ok nmX1 inX1 rfl rfl (by decide) wn_210 rfl rfl rfl rfl (tyX1_ok 0 (by decide)) rfl rfl (Nat.le_of_ble_eq_true rfl) rfl dX1_init_6 ?_
  exact n_ret (pc := 9) E hAe (fun k => [].getD k 0) [0] rfl rfl dX1_init_9
set_option maxRecDepth 100000 in
set_option maxHeartbeats 4000000 in
theorem c_X2_init (l : Launch) (D : va_G) (cI cJ cS cT : ClassId) (h r : Nat) : nC l yX2_init cX2_init 2 1 3 288 64 D (gT cI cJ cS cT) [(h, .inr (2, [.null, .null, .null, .null, gI 0, gI 0, gI 0, gI 0]))] [.ref h, .ref r] (fun u => [(h, .inr (2, [.ref r, .ref (u 0), .ref (u 1), .ref (u 2), gI 0, gI 0, gI 0, gI 0])), ((u 0), .inl (cJ, 256, .inr (.inl (fun _ => 0)))), ((u 1), .inl (cI, 16, .inl (fun _ => 0))), ((u 2), .inl (cI, 16, .inl (fun _ => 0)))]) := by
  refine nC_of (by decide +kernel) (Nat.le_of_ble_eq_true rfl) ?_
  intro A p e R s m args below meth c hR hAe E
  subst hR
  refine n_lv [0, 1] (lv' := [(0, .ref h), (1, .ref r)]) rfl ?_
  refine n_aload (pc := 0) E 0 dX2_init_0 rfl rfl ?_
  refine n_obj (pc := 1) E wn_173 wn_25 wn_26 ⟨Nat.le_of_ble_eq_true rfl, Nat.le_of_ble_eq_true rfl⟩ (Nat.le_of_ble_eq_true rfl) dX2_init_1 ?_
  refine n_aload (pc := 4) E 0 dX2_init_4 rfl rfl ?_
  refine n_sipush (pc := 5) E dX2_init_5 (by decide) ?_
  refine n_newJ (pc := 8) (N := 256) E 1 rfl wn_aJ (by decide) rfl (by decide) (Nat.le_of_ble_eq_true rfl) (Nat.le_of_ble_eq_true rfl) dX2_init_8 (fun q1 => ?_)
  refine n_w (ws' := [(h, .inr (2, [.null, .null, .null, .null, gI 0, gI 0, gI 0, gI 0])), (q1, .inl (cJ, 256, .inr (.inl (fun _ => 0))))]) rfl ?_
  refine n_putF (pc := 10) (q0 := 0) (f := 1) (ws' := [(h, .inr (2, [.null, .ref q1, .null, .null, gI 0, gI 0, gI 0, gI 0])), (q1, .inl (cJ, 256, .inr (.inl (fun _ => 0))))]) E tyX2 tyX2_ok nmX2 inX2 rfl rfl (by decide) wn_175 rfl rfl rfl rfl (tyX2_ok 1 (by decide)) rfl rfl (Nat.le_of_ble_eq_true rfl) rfl dX2_init_10 ?_
  refine n_aload (pc := 13) E 0 dX2_init_13 rfl rfl ?_
  refine n_bipush (pc := 14) E dX2_init_14 (by decide) ?_
  refine n_newI (pc := 16) (N := 16) E 0 rfl wn_aI (by decide) rfl (by decide) (Nat.le_of_ble_eq_true rfl) (Nat.le_of_ble_eq_true rfl) dX2_init_16 (fun q2 => ?_)
  refine n_w (ws' := [(h, .inr (2, [.null, .ref q1, .null, .null, gI 0, gI 0, gI 0, gI 0])), (q1, .inl (cJ, 256, .inr (.inl (fun _ => 0)))), (q2, .inl (cI, 16, .inl (fun _ => 0)))]) rfl ?_
  refine n_putF (pc := 18) (q0 := 0) (f := 2) (ws' := [(h, .inr (2, [.null, .ref q1, .ref q2, .null, gI 0, gI 0, gI 0, gI 0])), (q1, .inl (cJ, 256, .inr (.inl (fun _ => 0)))), (q2, .inl (cI, 16, .inl (fun _ => 0)))]) E tyX2 tyX2_ok nmX2 inX2 rfl rfl (by decide) wn_176 rfl rfl rfl rfl (tyX2_ok 2 (by decide)) rfl rfl (Nat.le_of_ble_eq_true rfl) rfl dX2_init_18 ?_
  refine n_aload (pc := 21) E 0 dX2_init_21 rfl rfl ?_
  refine n_bipush (pc := 22) E dX2_init_22 (by decide) ?_
  refine n_newI (pc := 24) (N := 16) E 0 rfl wn_aI (by decide) rfl (by decide) (Nat.le_of_ble_eq_true rfl) (Nat.le_of_ble_eq_true rfl) dX2_init_24 (fun q3 => ?_)
  refine n_w (ws' := [(h, .inr (2, [.null, .ref q1, .ref q2, .null, gI 0, gI 0, gI 0, gI 0])), (q1, .inl (cJ, 256, .inr (.inl (fun _ => 0)))), (q2, .inl (cI, 16, .inl (fun _ => 0))), (q3, .inl (cI, 16, .inl (fun _ => 0)))]) rfl ?_
  refine n_putF (pc := 26) (q0 := 0) (f := 3) (ws' := [(h, .inr (2, [.null, .ref q1, .ref q2, .ref q3, gI 0, gI 0, gI 0, gI 0])), (q1, .inl (cJ, 256, .inr (.inl (fun _ => 0)))), (q2, .inl (cI, 16, .inl (fun _ => 0))), (q3, .inl (cI, 16, .inl (fun _ => 0)))]) E tyX2 tyX2_ok nmX2 inX2 rfl rfl (by decide) wn_178 rfl rfl rfl rfl (tyX2_ok 3 (by decide)) rfl rfl (Nat.le_of_ble_eq_true rfl) rfl dX2_init_26 ?_
  refine n_aload (pc := 29) E 0 dX2_init_29 rfl rfl ?_
  refine n_aload (pc := 30) E 1 dX2_init_30 rfl rfl ?_
  refine n_putF (pc := 31) (q0 := 0) (f := 0) (ws' := [(h, .inr (2, [.ref r, .ref q1, .ref q2, .ref q3, gI 0, gI 0, gI 0, gI 0])), (q1, .inl (cJ, 256, .inr (.inl (fun _ => 0)))), (q2, .inl (cI, 16, .inl (fun _ => 0))), (q3, .inl (cI, 16, .inl (fun _ => 0)))]) E tyX2 tyX2_ok nmX2 inX2 rfl rfl (by decide) wn_174 rfl rfl rfl rfl (tyX2_ok 0 (by decide)) rfl rfl (Nat.le_of_ble_eq_true rfl) rfl dX2_init_31 ?_
  exact n_ret (pc := 34) E hAe (fun k => [q1, q2, q3].getD k 0) [0, 1, 2, 3] rfl rfl dX2_init_34
set_option maxRecDepth 100000 in
set_option maxHeartbeats 4000000 in
theorem c_X3_init (l : Launch) (D : va_G) (cI cJ cS cT : ClassId) (h : Nat) : nC l yX3_init cX3_init 1 1 3 324 64 D (gT cI cJ cS cT) [(h, .inr (3, [.null, .null, .null, gI 0, gI 0, gI 0, gI 0, gI 0, gI 0, gI 0]))] [.ref h] (fun u => [(h, .inr (3, [.ref (u 0), .ref (u 1), .ref (u 2), gI 0, gI 0, gI 0, gI 0, gI 0, gI 0, gI 0])), ((u 0), .inl (cI, 160, .inl (fun _ => 0))), ((u 1), .inl (cI, 160, .inl (fun _ => 0))), ((u 2), .inl (cI, 4, .inl (fun _ => 0)))]) := by
  refine nC_of (by decide +kernel) (Nat.le_of_ble_eq_true rfl) ?_
  intro A p e R s m args below meth c hR hAe E
  subst hR
  refine n_lv [0] (lv' := [(0, .ref h)]) rfl ?_
  refine n_aload (pc := 0) E 0 dX3_init_0 rfl rfl ?_
  refine n_obj (pc := 1) E wn_55 wn_25 wn_26 ⟨Nat.le_of_ble_eq_true rfl, Nat.le_of_ble_eq_true rfl⟩ (Nat.le_of_ble_eq_true rfl) dX3_init_1 ?_
  refine n_aload (pc := 4) E 0 dX3_init_4 rfl rfl ?_
  refine n_sipush (pc := 5) E dX3_init_5 (by decide) ?_
  refine n_newI (pc := 8) (N := 160) E 0 rfl wn_aI (by decide) rfl (by decide) (Nat.le_of_ble_eq_true rfl) (Nat.le_of_ble_eq_true rfl) dX3_init_8 (fun q1 => ?_)
  refine n_w (ws' := [(h, .inr (3, [.null, .null, .null, gI 0, gI 0, gI 0, gI 0, gI 0, gI 0, gI 0])), (q1, .inl (cI, 160, .inl (fun _ => 0)))]) rfl ?_
  refine n_putF (pc := 10) (q0 := 0) (f := 0) (ws' := [(h, .inr (3, [.ref q1, .null, .null, gI 0, gI 0, gI 0, gI 0, gI 0, gI 0, gI 0])), (q1, .inl (cI, 160, .inl (fun _ => 0)))]) E tyX3 tyX3_ok nmX3 inX3 rfl rfl (by decide) wn_56 rfl rfl rfl rfl (tyX3_ok 0 (by decide)) rfl rfl (Nat.le_of_ble_eq_true rfl) rfl dX3_init_10 ?_
  refine n_aload (pc := 13) E 0 dX3_init_13 rfl rfl ?_
  refine n_sipush (pc := 14) E dX3_init_14 (by decide) ?_
  refine n_newI (pc := 17) (N := 160) E 0 rfl wn_aI (by decide) rfl (by decide) (Nat.le_of_ble_eq_true rfl) (Nat.le_of_ble_eq_true rfl) dX3_init_17 (fun q2 => ?_)
  refine n_w (ws' := [(h, .inr (3, [.ref q1, .null, .null, gI 0, gI 0, gI 0, gI 0, gI 0, gI 0, gI 0])), (q1, .inl (cI, 160, .inl (fun _ => 0))), (q2, .inl (cI, 160, .inl (fun _ => 0)))]) rfl ?_
  refine n_putF (pc := 19) (q0 := 0) (f := 1) (ws' := [(h, .inr (3, [.ref q1, .ref q2, .null, gI 0, gI 0, gI 0, gI 0, gI 0, gI 0, gI 0])), (q1, .inl (cI, 160, .inl (fun _ => 0))), (q2, .inl (cI, 160, .inl (fun _ => 0)))]) E tyX3 tyX3_ok nmX3 inX3 rfl rfl (by decide) wn_57 rfl rfl rfl rfl (tyX3_ok 1 (by decide)) rfl rfl (Nat.le_of_ble_eq_true rfl) rfl dX3_init_19 ?_
  refine n_aload (pc := 22) E 0 dX3_init_22 rfl rfl ?_
  refine n_iconst (pc := 23) E dX3_init_23 ?_
  refine n_newI (pc := 24) (N := 4) E 0 rfl wn_aI (by decide) rfl (by decide) (Nat.le_of_ble_eq_true rfl) (Nat.le_of_ble_eq_true rfl) dX3_init_24 (fun q3 => ?_)
  refine n_w (ws' := [(h, .inr (3, [.ref q1, .ref q2, .null, gI 0, gI 0, gI 0, gI 0, gI 0, gI 0, gI 0])), (q1, .inl (cI, 160, .inl (fun _ => 0))), (q2, .inl (cI, 160, .inl (fun _ => 0))), (q3, .inl (cI, 4, .inl (fun _ => 0)))]) rfl ?_
  refine n_putF (pc := 26) (q0 := 0) (f := 2) (ws' := [(h, .inr (3, [.ref q1, .ref q2, .ref q3, gI 0, gI 0, gI 0, gI 0, gI 0, gI 0, gI 0])), (q1, .inl (cI, 160, .inl (fun _ => 0))), (q2, .inl (cI, 160, .inl (fun _ => 0))), (q3, .inl (cI, 4, .inl (fun _ => 0)))]) E tyX3 tyX3_ok nmX3 inX3 rfl rfl (by decide) wn_59 rfl rfl rfl rfl (tyX3_ok 2 (by decide)) rfl rfl (Nat.le_of_ble_eq_true rfl) rfl dX3_init_26 ?_
  exact n_ret (pc := 29) E hAe (fun k => [q1, q2, q3].getD k 0) [0, 1, 2, 3] rfl rfl dX3_init_29
set_option maxRecDepth 100000 in
set_option maxHeartbeats 4000000 in
theorem c_X7_init (l : Launch) (D : va_G) (cI cJ cS cT : ClassId) (h : Nat) : nC l yX7_init cX7_init 2 1 15 1157 64 D (gT cI cJ cS cT) [(h, .inr (7, [.null, .null, .null, gI 0]))] [.ref h] (fun u => [(h, .inr (7, [.ref (u 0), .ref (u 7), .ref (u 14), gI 1])), ((u 0), .inl (cT, 6, .inr (.inr (.inr (.inr (fun j => some (u (1 + j)))))))), ((u 1), .inl (cI, 160, .inl (xst xL19 3))), ((u 2), .inl (cI, 160, .inl (fun _ => 0))), ((u 3), .inl (cI, 160, .inl (fun _ => 0))), ((u 4), .inl (cI, 160, .inl (fun _ => 0))), ((u 5), .inl (cI, 160, .inl (fun _ => 0))), ((u 6), .inl (cI, 160, .inl (fun _ => 0))), ((u 7), .inl (cT, 6, .inr (.inr (.inr (.inr (fun j => some (u (8 + j)))))))), ((u 8), .inl (cI, 4, .inl (xst xL26 4))), ((u 9), .inl (cI, 4, .inl (fun _ => 0))), ((u 10), .inl (cI, 4, .inl (fun _ => 0))), ((u 11), .inl (cI, 4, .inl (fun _ => 0))), ((u 12), .inl (cI, 4, .inl (fun _ => 0))), ((u 13), .inl (cI, 4, .inl (fun _ => 0))), ((u 14), .inl (cI, 161, .inl (fun _ => 0)))]) := by
  refine nC_of (by decide +kernel) (Nat.le_of_ble_eq_true rfl) ?_
  intro A p e R s m args below meth c hR hAe E
  subst hR
  refine n_lv [0] (lv' := [(0, .ref h)]) rfl ?_
  refine n_aload (pc := 0) E 0 dX7_init_0 rfl rfl ?_
  refine n_obj (pc := 1) E wn_32 wn_25 wn_26 ⟨Nat.le_of_ble_eq_true rfl, Nat.le_of_ble_eq_true rfl⟩ (Nat.le_of_ble_eq_true rfl) dX7_init_1 ?_
  refine n_aload (pc := 4) E 0 dX7_init_4 rfl rfl ?_
  refine n_bipush (pc := 5) E dX7_init_5 (by decide) ?_
  refine n_sipush (pc := 7) E dX7_init_7 (by decide) ?_
  refine n_multi (pc := 10) (N := 6) (M := 160) E 0 3 rfl rfl wn_33 (by decide) rfl (by decide) (by decide) rfl (by decide) (Nat.le_of_ble_eq_true rfl) (Nat.le_of_ble_eq_true rfl) dX7_init_10 (fun q1 => ?_)
  refine n_w (ws' := [(h, .inr (7, [.null, .null, .null, gI 0])), (q1, .inl (cT, 6, .inr (.inr (.inr (.inr (fun j => some (q1 + 1 + j))))))), ((q1 + 1 + 0), .inl (cI, 160, .inl (fun _ => 0))), ((q1 + 1 + 1), .inl (cI, 160, .inl (fun _ => 0))), ((q1 + 1 + 2), .inl (cI, 160, .inl (fun _ => 0))), ((q1 + 1 + 3), .inl (cI, 160, .inl (fun _ => 0))), ((q1 + 1 + 4), .inl (cI, 160, .inl (fun _ => 0))), ((q1 + 1 + 5), .inl (cI, 160, .inl (fun _ => 0)))]) rfl ?_
  refine n_putF (pc := 14) (q0 := 0) (f := 0) (ws' := [(h, .inr (7, [.ref q1, .null, .null, gI 0])), (q1, .inl (cT, 6, .inr (.inr (.inr (.inr (fun j => some (q1 + 1 + j))))))), ((q1 + 1 + 0), .inl (cI, 160, .inl (fun _ => 0))), ((q1 + 1 + 1), .inl (cI, 160, .inl (fun _ => 0))), ((q1 + 1 + 2), .inl (cI, 160, .inl (fun _ => 0))), ((q1 + 1 + 3), .inl (cI, 160, .inl (fun _ => 0))), ((q1 + 1 + 4), .inl (cI, 160, .inl (fun _ => 0))), ((q1 + 1 + 5), .inl (cI, 160, .inl (fun _ => 0)))]) E tyX7 tyX7_ok nmX7 inX7 rfl rfl (by decide) wn_35 rfl rfl rfl rfl (tyX7_ok 0 (by decide)) rfl rfl (Nat.le_of_ble_eq_true rfl) rfl dX7_init_14 ?_
  refine n_aload (pc := 17) E 0 dX7_init_17 rfl rfl ?_
  refine n_bipush (pc := 18) E dX7_init_18 (by decide) ?_
  refine n_iconst (pc := 20) E dX7_init_20 ?_
  refine n_multi (pc := 21) (N := 6) (M := 4) E 0 3 rfl rfl wn_33 (by decide) rfl (by decide) (by decide) rfl (by decide) (Nat.le_of_ble_eq_true rfl) (Nat.le_of_ble_eq_true rfl) dX7_init_21 (fun q2 => ?_)
  refine n_w (ws' := [(h, .inr (7, [.ref q1, .null, .null, gI 0])), (q1, .inl (cT, 6, .inr (.inr (.inr (.inr (fun j => some (q1 + 1 + j))))))), ((q1 + 1 + 0), .inl (cI, 160, .inl (fun _ => 0))), ((q1 + 1 + 1), .inl (cI, 160, .inl (fun _ => 0))), ((q1 + 1 + 2), .inl (cI, 160, .inl (fun _ => 0))), ((q1 + 1 + 3), .inl (cI, 160, .inl (fun _ => 0))), ((q1 + 1 + 4), .inl (cI, 160, .inl (fun _ => 0))), ((q1 + 1 + 5), .inl (cI, 160, .inl (fun _ => 0))), (q2, .inl (cT, 6, .inr (.inr (.inr (.inr (fun j => some (q2 + 1 + j))))))), ((q2 + 1 + 0), .inl (cI, 4, .inl (fun _ => 0))), ((q2 + 1 + 1), .inl (cI, 4, .inl (fun _ => 0))), ((q2 + 1 + 2), .inl (cI, 4, .inl (fun _ => 0))), ((q2 + 1 + 3), .inl (cI, 4, .inl (fun _ => 0))), ((q2 + 1 + 4), .inl (cI, 4, .inl (fun _ => 0))), ((q2 + 1 + 5), .inl (cI, 4, .inl (fun _ => 0)))]) rfl ?_
  refine n_putF (pc := 25) (q0 := 0) (f := 1) (ws' := [(h, .inr (7, [.ref q1, .ref q2, .null, gI 0])), (q1, .inl (cT, 6, .inr (.inr (.inr (.inr (fun j => some (q1 + 1 + j))))))), ((q1 + 1 + 0), .inl (cI, 160, .inl (fun _ => 0))), ((q1 + 1 + 1), .inl (cI, 160, .inl (fun _ => 0))), ((q1 + 1 + 2), .inl (cI, 160, .inl (fun _ => 0))), ((q1 + 1 + 3), .inl (cI, 160, .inl (fun _ => 0))), ((q1 + 1 + 4), .inl (cI, 160, .inl (fun _ => 0))), ((q1 + 1 + 5), .inl (cI, 160, .inl (fun _ => 0))), (q2, .inl (cT, 6, .inr (.inr (.inr (.inr (fun j => some (q2 + 1 + j))))))), ((q2 + 1 + 0), .inl (cI, 4, .inl (fun _ => 0))), ((q2 + 1 + 1), .inl (cI, 4, .inl (fun _ => 0))), ((q2 + 1 + 2), .inl (cI, 4, .inl (fun _ => 0))), ((q2 + 1 + 3), .inl (cI, 4, .inl (fun _ => 0))), ((q2 + 1 + 4), .inl (cI, 4, .inl (fun _ => 0))), ((q2 + 1 + 5), .inl (cI, 4, .inl (fun _ => 0)))]) E tyX7 tyX7_ok nmX7 inX7 rfl rfl (by decide) wn_36 rfl rfl rfl rfl (tyX7_ok 1 (by decide)) rfl rfl (Nat.le_of_ble_eq_true rfl) rfl dX7_init_25 ?_
  refine n_aload (pc := 28) E 0 dX7_init_28 rfl rfl ?_
  refine n_sipush (pc := 29) E dX7_init_29 (by decide) ?_
  refine n_newI (pc := 32) (N := 161) E 0 rfl wn_aI (by decide) rfl (by decide) (Nat.le_of_ble_eq_true rfl) (Nat.le_of_ble_eq_true rfl) dX7_init_32 (fun q3 => ?_)
  refine n_w (ws' := [(h, .inr (7, [.ref q1, .ref q2, .null, gI 0])), (q1, .inl (cT, 6, .inr (.inr (.inr (.inr (fun j => some (q1 + 1 + j))))))), ((q1 + 1 + 0), .inl (cI, 160, .inl (fun _ => 0))), ((q1 + 1 + 1), .inl (cI, 160, .inl (fun _ => 0))), ((q1 + 1 + 2), .inl (cI, 160, .inl (fun _ => 0))), ((q1 + 1 + 3), .inl (cI, 160, .inl (fun _ => 0))), ((q1 + 1 + 4), .inl (cI, 160, .inl (fun _ => 0))), ((q1 + 1 + 5), .inl (cI, 160, .inl (fun _ => 0))), (q2, .inl (cT, 6, .inr (.inr (.inr (.inr (fun j => some (q2 + 1 + j))))))), ((q2 + 1 + 0), .inl (cI, 4, .inl (fun _ => 0))), ((q2 + 1 + 1), .inl (cI, 4, .inl (fun _ => 0))), ((q2 + 1 + 2), .inl (cI, 4, .inl (fun _ => 0))), ((q2 + 1 + 3), .inl (cI, 4, .inl (fun _ => 0))), ((q2 + 1 + 4), .inl (cI, 4, .inl (fun _ => 0))), ((q2 + 1 + 5), .inl (cI, 4, .inl (fun _ => 0))), (q3, .inl (cI, 161, .inl (fun _ => 0)))]) rfl ?_
  refine n_putF (pc := 34) (q0 := 0) (f := 2) (ws' := [(h, .inr (7, [.ref q1, .ref q2, .ref q3, gI 0])), (q1, .inl (cT, 6, .inr (.inr (.inr (.inr (fun j => some (q1 + 1 + j))))))), ((q1 + 1 + 0), .inl (cI, 160, .inl (fun _ => 0))), ((q1 + 1 + 1), .inl (cI, 160, .inl (fun _ => 0))), ((q1 + 1 + 2), .inl (cI, 160, .inl (fun _ => 0))), ((q1 + 1 + 3), .inl (cI, 160, .inl (fun _ => 0))), ((q1 + 1 + 4), .inl (cI, 160, .inl (fun _ => 0))), ((q1 + 1 + 5), .inl (cI, 160, .inl (fun _ => 0))), (q2, .inl (cT, 6, .inr (.inr (.inr (.inr (fun j => some (q2 + 1 + j))))))), ((q2 + 1 + 0), .inl (cI, 4, .inl (fun _ => 0))), ((q2 + 1 + 1), .inl (cI, 4, .inl (fun _ => 0))), ((q2 + 1 + 2), .inl (cI, 4, .inl (fun _ => 0))), ((q2 + 1 + 3), .inl (cI, 4, .inl (fun _ => 0))), ((q2 + 1 + 4), .inl (cI, 4, .inl (fun _ => 0))), ((q2 + 1 + 5), .inl (cI, 4, .inl (fun _ => 0))), (q3, .inl (cI, 161, .inl (fun _ => 0)))]) E tyX7 tyX7_ok nmX7 inX7 rfl rfl (by decide) wn_37 rfl rfl rfl rfl (tyX7_ok 2 (by decide)) rfl rfl (Nat.le_of_ble_eq_true rfl) rfl dX7_init_34 ?_
  refine n_aload (pc := 37) E 0 dX7_init_37 rfl rfl ?_
  refine n_get (pc := 38) (q0 := 0) (f := 0) (v := .ref q1) E inX7 rfl rfl (by decide) wn_35 rfl rfl dX7_init_38 ?_
  refine n_iconst (pc := 41) E dX7_init_41 ?_
  refine n_aald (pc := 42) (q0 := 1) (v := (q1 + 1 + 0)) E 3 rfl rfl rfl (by decide) (by decide) (by decide) rfl dX7_init_42 ?_
  refine n_iconst (pc := 43) E dX7_init_43 ?_
  refine n_iconst (pc := 44) E dX7_init_44 ?_
  refine n_iast (pc := 45) (q0 := 2) (f' := xst xL19 1) (ws' := [(h, .inr (7, [.ref q1, .ref q2, .ref q3, gI 0])), (q1, .inl (cT, 6, .inr (.inr (.inr (.inr (fun j => some (q1 + 1 + j))))))), ((q1 + 1 + 0), .inl (cI, 160, .inl (xst xL19 1))), ((q1 + 1 + 1), .inl (cI, 160, .inl (fun _ => 0))), ((q1 + 1 + 2), .inl (cI, 160, .inl (fun _ => 0))), ((q1 + 1 + 3), .inl (cI, 160, .inl (fun _ => 0))), ((q1 + 1 + 4), .inl (cI, 160, .inl (fun _ => 0))), ((q1 + 1 + 5), .inl (cI, 160, .inl (fun _ => 0))), (q2, .inl (cT, 6, .inr (.inr (.inr (.inr (fun j => some (q2 + 1 + j))))))), ((q2 + 1 + 0), .inl (cI, 4, .inl (fun _ => 0))), ((q2 + 1 + 1), .inl (cI, 4, .inl (fun _ => 0))), ((q2 + 1 + 2), .inl (cI, 4, .inl (fun _ => 0))), ((q2 + 1 + 3), .inl (cI, 4, .inl (fun _ => 0))), ((q2 + 1 + 4), .inl (cI, 4, .inl (fun _ => 0))), ((q2 + 1 + 5), .inl (cI, 4, .inl (fun _ => 0))), (q3, .inl (cI, 161, .inl (fun _ => 0)))]) E 0 rfl rfl (by decide) (by decide) (by decide) (xst_1 xL19 2 rfl) rfl dX7_init_45 ?_
  refine n_aload (pc := 46) E 0 dX7_init_46 rfl rfl ?_
  refine n_get (pc := 47) (q0 := 0) (f := 0) (v := .ref q1) E inX7 rfl rfl (by decide) wn_35 rfl rfl dX7_init_47 ?_
  refine n_iconst (pc := 50) E dX7_init_50 ?_
  refine n_aald (pc := 51) (q0 := 1) (v := (q1 + 1 + 0)) E 3 rfl rfl rfl (by decide) (by decide) (by decide) rfl dX7_init_51 ?_
  refine n_iconst (pc := 52) E dX7_init_52 ?_
  refine n_iconst (pc := 53) E dX7_init_53 ?_
  refine n_iast (pc := 54) (q0 := 2) (f' := xst xL19 2) (ws' := [(h, .inr (7, [.ref q1, .ref q2, .ref q3, gI 0])), (q1, .inl (cT, 6, .inr (.inr (.inr (.inr (fun j => some (q1 + 1 + j))))))), ((q1 + 1 + 0), .inl (cI, 160, .inl (xst xL19 2))), ((q1 + 1 + 1), .inl (cI, 160, .inl (fun _ => 0))), ((q1 + 1 + 2), .inl (cI, 160, .inl (fun _ => 0))), ((q1 + 1 + 3), .inl (cI, 160, .inl (fun _ => 0))), ((q1 + 1 + 4), .inl (cI, 160, .inl (fun _ => 0))), ((q1 + 1 + 5), .inl (cI, 160, .inl (fun _ => 0))), (q2, .inl (cT, 6, .inr (.inr (.inr (.inr (fun j => some (q2 + 1 + j))))))), ((q2 + 1 + 0), .inl (cI, 4, .inl (fun _ => 0))), ((q2 + 1 + 1), .inl (cI, 4, .inl (fun _ => 0))), ((q2 + 1 + 2), .inl (cI, 4, .inl (fun _ => 0))), ((q2 + 1 + 3), .inl (cI, 4, .inl (fun _ => 0))), ((q2 + 1 + 4), .inl (cI, 4, .inl (fun _ => 0))), ((q2 + 1 + 5), .inl (cI, 4, .inl (fun _ => 0))), (q3, .inl (cI, 161, .inl (fun _ => 0)))]) E 0 rfl rfl (by decide) (by decide) (by decide) (xst_s xL19 1 3 rfl) rfl dX7_init_54 ?_
  refine n_aload (pc := 55) E 0 dX7_init_55 rfl rfl ?_
  refine n_get (pc := 56) (q0 := 0) (f := 0) (v := .ref q1) E inX7 rfl rfl (by decide) wn_35 rfl rfl dX7_init_56 ?_
  refine n_iconst (pc := 59) E dX7_init_59 ?_
  refine n_aald (pc := 60) (q0 := 1) (v := (q1 + 1 + 0)) E 3 rfl rfl rfl (by decide) (by decide) (by decide) rfl dX7_init_60 ?_
  refine n_iconst (pc := 61) E dX7_init_61 ?_
  refine n_bipush (pc := 62) E dX7_init_62 (by decide) ?_
  refine n_iast (pc := 64) (q0 := 2) (f' := xst xL19 3) (ws' := [(h, .inr (7, [.ref q1, .ref q2, .ref q3, gI 0])), (q1, .inl (cT, 6, .inr (.inr (.inr (.inr (fun j => some (q1 + 1 + j))))))), ((q1 + 1 + 0), .inl (cI, 160, .inl (xst xL19 3))), ((q1 + 1 + 1), .inl (cI, 160, .inl (fun _ => 0))), ((q1 + 1 + 2), .inl (cI, 160, .inl (fun _ => 0))), ((q1 + 1 + 3), .inl (cI, 160, .inl (fun _ => 0))), ((q1 + 1 + 4), .inl (cI, 160, .inl (fun _ => 0))), ((q1 + 1 + 5), .inl (cI, 160, .inl (fun _ => 0))), (q2, .inl (cT, 6, .inr (.inr (.inr (.inr (fun j => some (q2 + 1 + j))))))), ((q2 + 1 + 0), .inl (cI, 4, .inl (fun _ => 0))), ((q2 + 1 + 1), .inl (cI, 4, .inl (fun _ => 0))), ((q2 + 1 + 2), .inl (cI, 4, .inl (fun _ => 0))), ((q2 + 1 + 3), .inl (cI, 4, .inl (fun _ => 0))), ((q2 + 1 + 4), .inl (cI, 4, .inl (fun _ => 0))), ((q2 + 1 + 5), .inl (cI, 4, .inl (fun _ => 0))), (q3, .inl (cI, 161, .inl (fun _ => 0)))]) E 0 rfl rfl (by decide) (by decide) (by decide) (xst_s xL19 2 10 rfl) rfl dX7_init_64 ?_
  refine n_iconst (pc := 65) E dX7_init_65 ?_
  refine n_istore (pc := 66) (lv' := [(1, gI 0), (0, .ref h)]) E dX7_init_66 rfl (by decide) rfl ?_
  refine n_iload (pc := 67) E 0 dX7_init_67 rfl rfl ?_
  refine n_iconst (pc := 68) E dX7_init_68 ?_
  refine n_gt_f (pc := 69) (tgt := 87) (x := 0) (y := 3) E ⟨by decide, by decide⟩ ⟨by decide, by decide⟩ dX7_init_69 (by decide) (by decide) ?_
  refine n_aload (pc := 72) E 1 dX7_init_72 rfl rfl ?_
  refine n_get (pc := 73) (q0 := 0) (f := 1) (v := .ref q2) E inX7 rfl rfl (by decide) wn_36 rfl rfl dX7_init_73 ?_
  refine n_iconst (pc := 76) E dX7_init_76 ?_
  refine n_aald (pc := 77) (q0 := 8) (v := (q2 + 1 + 0)) E 3 rfl rfl rfl (by decide) (by decide) (by decide) rfl dX7_init_77 ?_
  refine n_iload (pc := 78) E 0 dX7_init_78 rfl rfl ?_
  refine n_iload (pc := 79) E 0 dX7_init_79 rfl rfl ?_
  refine n_iast (pc := 80) (q0 := 9) (f' := xst xL26 1) (ws' := [(h, .inr (7, [.ref q1, .ref q2, .ref q3, gI 0])), (q1, .inl (cT, 6, .inr (.inr (.inr (.inr (fun j => some (q1 + 1 + j))))))), ((q1 + 1 + 0), .inl (cI, 160, .inl (xst xL19 3))), ((q1 + 1 + 1), .inl (cI, 160, .inl (fun _ => 0))), ((q1 + 1 + 2), .inl (cI, 160, .inl (fun _ => 0))), ((q1 + 1 + 3), .inl (cI, 160, .inl (fun _ => 0))), ((q1 + 1 + 4), .inl (cI, 160, .inl (fun _ => 0))), ((q1 + 1 + 5), .inl (cI, 160, .inl (fun _ => 0))), (q2, .inl (cT, 6, .inr (.inr (.inr (.inr (fun j => some (q2 + 1 + j))))))), ((q2 + 1 + 0), .inl (cI, 4, .inl (xst xL26 1))), ((q2 + 1 + 1), .inl (cI, 4, .inl (fun _ => 0))), ((q2 + 1 + 2), .inl (cI, 4, .inl (fun _ => 0))), ((q2 + 1 + 3), .inl (cI, 4, .inl (fun _ => 0))), ((q2 + 1 + 4), .inl (cI, 4, .inl (fun _ => 0))), ((q2 + 1 + 5), .inl (cI, 4, .inl (fun _ => 0))), (q3, .inl (cI, 161, .inl (fun _ => 0)))]) E 0 rfl rfl (by decide) (by decide) (by decide) (xst_1 xL26 0 rfl) rfl dX7_init_80 ?_
  refine n_iinc (pc := 81) (lv' := [(1, gI 1), (0, .ref h)]) E 0 dX7_init_81 rfl (by decide) rfl ?_
  refine n_goto (pc := 84) (tgt := 67) E dX7_init_84 (by decide) ?_
  refine n_iload (pc := 67) E 0 dX7_init_67 rfl rfl ?_
  refine n_iconst (pc := 68) E dX7_init_68 ?_
  refine n_gt_f (pc := 69) (tgt := 87) (x := 1) (y := 3) E ⟨by decide, by decide⟩ ⟨by decide, by decide⟩ dX7_init_69 (by decide) (by decide) ?_
  refine n_aload (pc := 72) E 1 dX7_init_72 rfl rfl ?_
  refine n_get (pc := 73) (q0 := 0) (f := 1) (v := .ref q2) E inX7 rfl rfl (by decide) wn_36 rfl rfl dX7_init_73 ?_
  refine n_iconst (pc := 76) E dX7_init_76 ?_
  refine n_aald (pc := 77) (q0 := 8) (v := (q2 + 1 + 0)) E 3 rfl rfl rfl (by decide) (by decide) (by decide) rfl dX7_init_77 ?_
  refine n_iload (pc := 78) E 0 dX7_init_78 rfl rfl ?_
  refine n_iload (pc := 79) E 0 dX7_init_79 rfl rfl ?_
  refine n_iast (pc := 80) (q0 := 9) (f' := xst xL26 2) (ws' := [(h, .inr (7, [.ref q1, .ref q2, .ref q3, gI 0])), (q1, .inl (cT, 6, .inr (.inr (.inr (.inr (fun j => some (q1 + 1 + j))))))), ((q1 + 1 + 0), .inl (cI, 160, .inl (xst xL19 3))), ((q1 + 1 + 1), .inl (cI, 160, .inl (fun _ => 0))), ((q1 + 1 + 2), .inl (cI, 160, .inl (fun _ => 0))), ((q1 + 1 + 3), .inl (cI, 160, .inl (fun _ => 0))), ((q1 + 1 + 4), .inl (cI, 160, .inl (fun _ => 0))), ((q1 + 1 + 5), .inl (cI, 160, .inl (fun _ => 0))), (q2, .inl (cT, 6, .inr (.inr (.inr (.inr (fun j => some (q2 + 1 + j))))))), ((q2 + 1 + 0), .inl (cI, 4, .inl (xst xL26 2))), ((q2 + 1 + 1), .inl (cI, 4, .inl (fun _ => 0))), ((q2 + 1 + 2), .inl (cI, 4, .inl (fun _ => 0))), ((q2 + 1 + 3), .inl (cI, 4, .inl (fun _ => 0))), ((q2 + 1 + 4), .inl (cI, 4, .inl (fun _ => 0))), ((q2 + 1 + 5), .inl (cI, 4, .inl (fun _ => 0))), (q3, .inl (cI, 161, .inl (fun _ => 0)))]) E 0 rfl rfl (by decide) (by decide) (by decide) (xst_s xL26 1 1 rfl) rfl dX7_init_80 ?_
  refine n_iinc (pc := 81) (lv' := [(1, gI 2), (0, .ref h)]) E 0 dX7_init_81 rfl (by decide) rfl ?_
  refine n_goto (pc := 84) (tgt := 67) E dX7_init_84 (by decide) ?_
  refine n_iload (pc := 67) E 0 dX7_init_67 rfl rfl ?_
  refine n_iconst (pc := 68) E dX7_init_68 ?_
  refine n_gt_f (pc := 69) (tgt := 87) (x := 2) (y := 3) E ⟨by decide, by decide⟩ ⟨by decide, by decide⟩ dX7_init_69 (by decide) (by decide) ?_
  refine n_aload (pc := 72) E 1 dX7_init_72 rfl rfl ?_
  refine n_get (pc := 73) (q0 := 0) (f := 1) (v := .ref q2) E inX7 rfl rfl (by decide) wn_36 rfl rfl dX7_init_73 ?_
  refine n_iconst (pc := 76) E dX7_init_76 ?_
  refine n_aald (pc := 77) (q0 := 8) (v := (q2 + 1 + 0)) E 3 rfl rfl rfl (by decide) (by decide) (by decide) rfl dX7_init_77 ?_
  refine n_iload (pc := 78) E 0 dX7_init_78 rfl rfl ?_
  refine n_iload (pc := 79) E 0 dX7_init_79 rfl rfl ?_
  refine n_iast (pc := 80) (q0 := 9) (f' := xst xL26 3) (ws' := [(h, .inr (7, [.ref q1, .ref q2, .ref q3, gI 0])), (q1, .inl (cT, 6, .inr (.inr (.inr (.inr (fun j => some (q1 + 1 + j))))))), ((q1 + 1 + 0), .inl (cI, 160, .inl (xst xL19 3))), ((q1 + 1 + 1), .inl (cI, 160, .inl (fun _ => 0))), ((q1 + 1 + 2), .inl (cI, 160, .inl (fun _ => 0))), ((q1 + 1 + 3), .inl (cI, 160, .inl (fun _ => 0))), ((q1 + 1 + 4), .inl (cI, 160, .inl (fun _ => 0))), ((q1 + 1 + 5), .inl (cI, 160, .inl (fun _ => 0))), (q2, .inl (cT, 6, .inr (.inr (.inr (.inr (fun j => some (q2 + 1 + j))))))), ((q2 + 1 + 0), .inl (cI, 4, .inl (xst xL26 3))), ((q2 + 1 + 1), .inl (cI, 4, .inl (fun _ => 0))), ((q2 + 1 + 2), .inl (cI, 4, .inl (fun _ => 0))), ((q2 + 1 + 3), .inl (cI, 4, .inl (fun _ => 0))), ((q2 + 1 + 4), .inl (cI, 4, .inl (fun _ => 0))), ((q2 + 1 + 5), .inl (cI, 4, .inl (fun _ => 0))), (q3, .inl (cI, 161, .inl (fun _ => 0)))]) E 0 rfl rfl (by decide) (by decide) (by decide) (xst_s xL26 2 2 rfl) rfl dX7_init_80 ?_
  refine n_iinc (pc := 81) (lv' := [(1, gI 3), (0, .ref h)]) E 0 dX7_init_81 rfl (by decide) rfl ?_
  refine n_goto (pc := 84) (tgt := 67) E dX7_init_84 (by decide) ?_
  refine n_iload (pc := 67) E 0 dX7_init_67 rfl rfl ?_
  refine n_iconst (pc := 68) E dX7_init_68 ?_
  refine n_gt_f (pc := 69) (tgt := 87) (x := 3) (y := 3) E ⟨by decide, by decide⟩ ⟨by decide, by decide⟩ dX7_init_69 (by decide) (by decide) ?_
  refine n_aload (pc := 72) E 1 dX7_init_72 rfl rfl ?_
  refine n_get (pc := 73) (q0 := 0) (f := 1) (v := .ref q2) E inX7 rfl rfl (by decide) wn_36 rfl rfl dX7_init_73 ?_
  refine n_iconst (pc := 76) E dX7_init_76 ?_
  refine n_aald (pc := 77) (q0 := 8) (v := (q2 + 1 + 0)) E 3 rfl rfl rfl (by decide) (by decide) (by decide) rfl dX7_init_77 ?_
  refine n_iload (pc := 78) E 0 dX7_init_78 rfl rfl ?_
  refine n_iload (pc := 79) E 0 dX7_init_79 rfl rfl ?_
  refine n_iast (pc := 80) (q0 := 9) (f' := xst xL26 4) (ws' := [(h, .inr (7, [.ref q1, .ref q2, .ref q3, gI 0])), (q1, .inl (cT, 6, .inr (.inr (.inr (.inr (fun j => some (q1 + 1 + j))))))), ((q1 + 1 + 0), .inl (cI, 160, .inl (xst xL19 3))), ((q1 + 1 + 1), .inl (cI, 160, .inl (fun _ => 0))), ((q1 + 1 + 2), .inl (cI, 160, .inl (fun _ => 0))), ((q1 + 1 + 3), .inl (cI, 160, .inl (fun _ => 0))), ((q1 + 1 + 4), .inl (cI, 160, .inl (fun _ => 0))), ((q1 + 1 + 5), .inl (cI, 160, .inl (fun _ => 0))), (q2, .inl (cT, 6, .inr (.inr (.inr (.inr (fun j => some (q2 + 1 + j))))))), ((q2 + 1 + 0), .inl (cI, 4, .inl (xst xL26 4))), ((q2 + 1 + 1), .inl (cI, 4, .inl (fun _ => 0))), ((q2 + 1 + 2), .inl (cI, 4, .inl (fun _ => 0))), ((q2 + 1 + 3), .inl (cI, 4, .inl (fun _ => 0))), ((q2 + 1 + 4), .inl (cI, 4, .inl (fun _ => 0))), ((q2 + 1 + 5), .inl (cI, 4, .inl (fun _ => 0))), (q3, .inl (cI, 161, .inl (fun _ => 0)))]) E 0 rfl rfl (by decide) (by decide) (by decide) (xst_s xL26 3 3 rfl) rfl dX7_init_80 ?_
  refine n_iinc (pc := 81) (lv' := [(1, gI 4), (0, .ref h)]) E 0 dX7_init_81 rfl (by decide) rfl ?_
  refine n_goto (pc := 84) (tgt := 67) E dX7_init_84 (by decide) ?_
  refine n_iload (pc := 67) E 0 dX7_init_67 rfl rfl ?_
  refine n_iconst (pc := 68) E dX7_init_68 ?_
  refine n_gt_t (pc := 69) (tgt := 87) (x := 4) (y := 3) E ⟨by decide, by decide⟩ ⟨by decide, by decide⟩ dX7_init_69 (by decide) (by decide) ?_
  refine n_aload (pc := 87) E 1 dX7_init_87 rfl rfl ?_
  refine n_iconst (pc := 88) E dX7_init_88 ?_
  refine n_put (pc := 89) (q0 := 0) (f := 3) (ws' := [(h, .inr (7, [.ref q1, .ref q2, .ref q3, gI 1])), (q1, .inl (cT, 6, .inr (.inr (.inr (.inr (fun j => some (q1 + 1 + j))))))), ((q1 + 1 + 0), .inl (cI, 160, .inl (xst xL19 3))), ((q1 + 1 + 1), .inl (cI, 160, .inl (fun _ => 0))), ((q1 + 1 + 2), .inl (cI, 160, .inl (fun _ => 0))), ((q1 + 1 + 3), .inl (cI, 160, .inl (fun _ => 0))), ((q1 + 1 + 4), .inl (cI, 160, .inl (fun _ => 0))), ((q1 + 1 + 5), .inl (cI, 160, .inl (fun _ => 0))), (q2, .inl (cT, 6, .inr (.inr (.inr (.inr (fun j => some (q2 + 1 + j))))))), ((q2 + 1 + 0), .inl (cI, 4, .inl (xst xL26 4))), ((q2 + 1 + 1), .inl (cI, 4, .inl (fun _ => 0))), ((q2 + 1 + 2), .inl (cI, 4, .inl (fun _ => 0))), ((q2 + 1 + 3), .inl (cI, 4, .inl (fun _ => 0))), ((q2 + 1 + 4), .inl (cI, 4, .inl (fun _ => 0))), ((q2 + 1 + 5), .inl (cI, 4, .inl (fun _ => 0))), (q3, .inl (cI, 161, .inl (fun _ => 0)))]) E tyX7 tyX7_ok nmX7 inX7 rfl rfl (by decide) wn_38 rfl rfl (tyX7_ok 3 (by decide)) rfl rfl (Nat.le_of_ble_eq_true rfl) rfl dX7_init_89 ?_
  refine n_refs (q0 := 1) (n := 6) (f' := (fun j => some (([q1, (q1 + 1 + 0), (q1 + 1 + 1), (q1 + 1 + 2), (q1 + 1 + 3), (q1 + 1 + 4), (q1 + 1 + 5), q2, (q2 + 1 + 0), (q2 + 1 + 1), (q2 + 1 + 2), (q2 + 1 + 3), (q2 + 1 + 4), (q2 + 1 + 5), q3].getD (1 + j) 0)))) (ws' := [(h, .inr (7, [.ref q1, .ref q2, .ref q3, gI 1])), (q1, .inl (cT, 6, .inr (.inr (.inr (.inr (fun j => some (([q1, (q1 + 1 + 0), (q1 + 1 + 1), (q1 + 1 + 2), (q1 + 1 + 3), (q1 + 1 + 4), (q1 + 1 + 5), q2, (q2 + 1 + 0), (q2 + 1 + 1), (q2 + 1 + 2), (q2 + 1 + 3), (q2 + 1 + 4), (q2 + 1 + 5), q3].getD (1 + j) 0)))))))), ((q1 + 1 + 0), .inl (cI, 160, .inl (xst xL19 3))), ((q1 + 1 + 1), .inl (cI, 160, .inl (fun _ => 0))), ((q1 + 1 + 2), .inl (cI, 160, .inl (fun _ => 0))), ((q1 + 1 + 3), .inl (cI, 160, .inl (fun _ => 0))), ((q1 + 1 + 4), .inl (cI, 160, .inl (fun _ => 0))), ((q1 + 1 + 5), .inl (cI, 160, .inl (fun _ => 0))), (q2, .inl (cT, 6, .inr (.inr (.inr (.inr (fun j => some (q2 + 1 + j))))))), ((q2 + 1 + 0), .inl (cI, 4, .inl (xst xL26 4))), ((q2 + 1 + 1), .inl (cI, 4, .inl (fun _ => 0))), ((q2 + 1 + 2), .inl (cI, 4, .inl (fun _ => 0))), ((q2 + 1 + 3), .inl (cI, 4, .inl (fun _ => 0))), ((q2 + 1 + 4), .inl (cI, 4, .inl (fun _ => 0))), ((q2 + 1 + 5), .inl (cI, 4, .inl (fun _ => 0))), (q3, .inl (cI, 161, .inl (fun _ => 0)))]) rfl (fun j hj => ?_) rfl ?_
  · match j, hj with
    | 0, _ => rfl
    | 1, _ => rfl
    | 2, _ => rfl
    | 3, _ => rfl
    | 4, _ => rfl
    | 5, _ => rfl
    | j + 6, hj => exact absurd hj (by omega)
  refine n_refs (q0 := 8) (n := 6) (f' := (fun j => some (([q1, (q1 + 1 + 0), (q1 + 1 + 1), (q1 + 1 + 2), (q1 + 1 + 3), (q1 + 1 + 4), (q1 + 1 + 5), q2, (q2 + 1 + 0), (q2 + 1 + 1), (q2 + 1 + 2), (q2 + 1 + 3), (q2 + 1 + 4), (q2 + 1 + 5), q3].getD (8 + j) 0)))) (ws' := [(h, .inr (7, [.ref q1, .ref q2, .ref q3, gI 1])), (q1, .inl (cT, 6, .inr (.inr (.inr (.inr (fun j => some (([q1, (q1 + 1 + 0), (q1 + 1 + 1), (q1 + 1 + 2), (q1 + 1 + 3), (q1 + 1 + 4), (q1 + 1 + 5), q2, (q2 + 1 + 0), (q2 + 1 + 1), (q2 + 1 + 2), (q2 + 1 + 3), (q2 + 1 + 4), (q2 + 1 + 5), q3].getD (1 + j) 0)))))))), ((q1 + 1 + 0), .inl (cI, 160, .inl (xst xL19 3))), ((q1 + 1 + 1), .inl (cI, 160, .inl (fun _ => 0))), ((q1 + 1 + 2), .inl (cI, 160, .inl (fun _ => 0))), ((q1 + 1 + 3), .inl (cI, 160, .inl (fun _ => 0))), ((q1 + 1 + 4), .inl (cI, 160, .inl (fun _ => 0))), ((q1 + 1 + 5), .inl (cI, 160, .inl (fun _ => 0))), (q2, .inl (cT, 6, .inr (.inr (.inr (.inr (fun j => some (([q1, (q1 + 1 + 0), (q1 + 1 + 1), (q1 + 1 + 2), (q1 + 1 + 3), (q1 + 1 + 4), (q1 + 1 + 5), q2, (q2 + 1 + 0), (q2 + 1 + 1), (q2 + 1 + 2), (q2 + 1 + 3), (q2 + 1 + 4), (q2 + 1 + 5), q3].getD (8 + j) 0)))))))), ((q2 + 1 + 0), .inl (cI, 4, .inl (xst xL26 4))), ((q2 + 1 + 1), .inl (cI, 4, .inl (fun _ => 0))), ((q2 + 1 + 2), .inl (cI, 4, .inl (fun _ => 0))), ((q2 + 1 + 3), .inl (cI, 4, .inl (fun _ => 0))), ((q2 + 1 + 4), .inl (cI, 4, .inl (fun _ => 0))), ((q2 + 1 + 5), .inl (cI, 4, .inl (fun _ => 0))), (q3, .inl (cI, 161, .inl (fun _ => 0)))]) rfl (fun j hj => ?_) rfl ?_
  · match j, hj with
    | 0, _ => rfl
    | 1, _ => rfl
    | 2, _ => rfl
    | 3, _ => rfl
    | 4, _ => rfl
    | 5, _ => rfl
    | j + 6, hj => exact absurd hj (by omega)
  exact n_ret (pc := 92) E hAe (fun k => [q1, (q1 + 1 + 0), (q1 + 1 + 1), (q1 + 1 + 2), (q1 + 1 + 3), (q1 + 1 + 4), (q1 + 1 + 5), q2, (q2 + 1 + 0), (q2 + 1 + 1), (q2 + 1 + 2), (q2 + 1 + 3), (q2 + 1 + 4), (q2 + 1 + 5), q3].getD k 0) [0, 1, 2, 3, 4, 5, 6, 7, 8, 9, 10, 11, 12, 13, 14, 15] rfl rfl dX7_init_92
end
