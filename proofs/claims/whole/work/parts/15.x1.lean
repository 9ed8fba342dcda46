def f_J6_bitCount_0f7a4 (x0 : Int) : Int := gl (iwr (x0 - (iand (iushr x0 1) 1431655765))) (fun v4 => gl (iwr ((iand v4 858993459) + (iand (iushr v4 2) 858993459))) (fun v9 => gl (iand (iwr (v9 + (iushr v9 4))) 252645135) (fun v13 => gl (iwr (v13 + (iushr v13 8))) (fun v16 => gl (iwr (v16 + (iushr v16 16))) (fun v19 => (iand v19 63))))))
theorem f_J6_bitCount_0f7a4_e (x0 : Int) : f_J6_bitCount_0f7a4 x0 = gl (iwr (x0 - (iand (iushr x0 1) 1431655765))) (fun v4 => gl (iwr ((iand v4 858993459) + (iand (iushr v4 2) 858993459))) (fun v9 => gl (iand (iwr (v9 + (iushr v9 4))) 252645135) (fun v13 => gl (iwr (v13 + (iushr v13 8))) (fun v16 => gl (iwr (v16 + (iushr v16 16))) (fun v19 => (iand v19 63)))))) := rfl
set_option maxRecDepth 100000 in
set_option maxHeartbeats 4000000 in
theorem f_J6_bitCount_0f7a4_p (x0 : Int) (hx0 : in32 x0)  : (in32 (f_J6_bitCount_0f7a4 x0)) := by
  have hT := f_J6_bitCount_0f7a4_e x0
  have hb1 := iushr_rg x0 1
  have hb2 := iand_rg (iushr x0 1) 1431655765
  have hb3 := iwr_rg (x0 - (iand (iushr x0 1) 1431655765))
  obtain ⟨v4, hv4, hT⟩ := glx hT
  have hb5 := iand_rg v4 858993459
  have hb6 := iushr_rg v4 2
  have hb7 := iand_rg (iushr v4 2) 858993459
  have hb8 := iwr_rg ((iand v4 858993459) + (iand (iushr v4 2) 858993459))
  obtain ⟨v9, hv9, hT⟩ := glx hT
  have hb10 := iushr_rg v9 4
  have hb11 := iwr_rg (v9 + (iushr v9 4))
  have hb12 := iand_rg (iwr (v9 + (iushr v9 4))) 252645135
  obtain ⟨v13, hv13, hT⟩ := glx hT
  have hb14 := iushr_rg v13 8
  have hb15 := iwr_rg (v13 + (iushr v13 8))
  obtain ⟨v16, hv16, hT⟩ := glx hT
  have hb17 := iushr_rg v16 16
  have hb18 := iwr_rg (v16 + (iushr v16 16))
  obtain ⟨v19, hv19, hT⟩ := glx hT
  have hb20 := iand_rg v19 63
  rw [hT]
  exact (by omega)
set_option maxRecDepth 100000 in
set_option maxHeartbeats 4000000 in
theorem c_J6_bitCount_0f7a4 (l : Launch) (D : va_G) (a : Nat → Nat) (cI cJ cS cT : ClassId) (s0 : gMem) (x0 : Int) (hx0 : in32 x0)  : gC l yJ6_bitCount_0f7a4 cJ6_bitCount_0f7a4 1 (some .int) 1 64 D vwCl (gT cI cJ cS cT) (wdX a cI cJ cS cT) lgX kI in32 [gI x0] s0 ((f_J6_bitCount_0f7a4 x0), s0) := by
  refine gC_of (by decide +kernel) (hwdX a cI cJ cS cT) (Nat.le_of_ble_eq_true rfl) ?_
  intro A p e R s m args below meth c hR E
  subst hR
  have hT := f_J6_bitCount_0f7a4_e x0
  refine k_lv0 (lv' := [(0, gI x0)]) rfl ?_
  refine k_iloadn (pc := 0) E 0 dJ6_bitCount_0f7a4_0 rfl rfl ?_
  refine k_iloadn (pc := 1) E 0 dJ6_bitCount_0f7a4_1 rfl rfl ?_
  refine k_iconst (pc := 2) E dJ6_bitCount_0f7a4_2 ?_
  refine k_iushr (pc := 3) E dJ6_bitCount_0f7a4_3 ?_
  have hb1 := iushr_rg x0 1
  refine k_ldcw (pc := 4) (n := 1431655765) E dJ6_bitCount_0f7a4_4 wm_488 (by decide) ?_
  refine k_iand (pc := 7) E dJ6_bitCount_0f7a4_7 ?_
  have hb2 := iand_rg (iushr x0 1) 1431655765
  refine k_isub (pc := 8) E dJ6_bitCount_0f7a4_8 ?_
  refine k_st (st' := [gI (iwr (x0 - (iand (iushr x0 1) 1431655765)))]) (congrArg (fun q => q :: []) (gIw (x0 - (iand (iushr x0 1) 1431655765)))) ?_
  have hb3 := iwr_rg (x0 - (iand (iushr x0 1) 1431655765))
  obtain ⟨v4, hv4, hT⟩ := glx hT
  refine k_st (st' := [gI v4]) (by rw [hv4]) ?_
  refine k_istoren (pc := 9) (lv' := [(0, gI v4)]) E dJ6_bitCount_0f7a4_9 rfl (by decide) rfl ?_
  refine k_iloadn (pc := 10) E 0 dJ6_bitCount_0f7a4_10 rfl rfl ?_
  refine k_ldcw (pc := 11) (n := 858993459) E dJ6_bitCount_0f7a4_11 wm_489 (by decide) ?_
  refine k_iand (pc := 14) E dJ6_bitCount_0f7a4_14 ?_
  have hb5 := iand_rg v4 858993459
  refine k_iloadn (pc := 15) E 0 dJ6_bitCount_0f7a4_15 rfl rfl ?_
  refine k_iconst (pc := 16) E dJ6_bitCount_0f7a4_16 ?_
  refine k_iushr (pc := 17) E dJ6_bitCount_0f7a4_17 ?_
  have hb6 := iushr_rg v4 2
  refine k_ldcw (pc := 18) (n := 858993459) E dJ6_bitCount_0f7a4_18 wm_489 (by decide) ?_
  refine k_iand (pc := 21) E dJ6_bitCount_0f7a4_21 ?_
  have hb7 := iand_rg (iushr v4 2) 858993459
  refine k_iadd (pc := 22) E dJ6_bitCount_0f7a4_22 ?_
  refine k_st (st' := [gI (iwr ((iand v4 858993459) + (iand (iushr v4 2) 858993459)))]) (congrArg (fun q => q :: []) (gIw ((iand v4 858993459) + (iand (iushr v4 2) 858993459)))) ?_
  have hb8 := iwr_rg ((iand v4 858993459) + (iand (iushr v4 2) 858993459))
  obtain ⟨v9, hv9, hT⟩ := glx hT
  refine k_st (st' := [gI v9]) (by rw [hv9]) ?_
  refine k_istoren (pc := 23) (lv' := [(0, gI v9)]) E dJ6_bitCount_0f7a4_23 rfl (by decide) rfl ?_
  refine k_iloadn (pc := 24) E 0 dJ6_bitCount_0f7a4_24 rfl rfl ?_
  refine k_iloadn (pc := 25) E 0 dJ6_bitCount_0f7a4_25 rfl rfl ?_
  refine k_iconst (pc := 26) E dJ6_bitCount_0f7a4_26 ?_
  refine k_iushr (pc := 27) E dJ6_bitCount_0f7a4_27 ?_
  have hb10 := iushr_rg v9 4
  refine k_iadd (pc := 28) E dJ6_bitCount_0f7a4_28 ?_
  refine k_st (st' := [gI (iwr (v9 + (iushr v9 4)))]) (congrArg (fun q => q :: []) (gIw (v9 + (iushr v9 4)))) ?_
  have hb11 := iwr_rg (v9 + (iushr v9 4))
  refine k_ldcw (pc := 29) (n := 252645135) E dJ6_bitCount_0f7a4_29 wm_490 (by decide) ?_
  refine k_iand (pc := 32) E dJ6_bitCount_0f7a4_32 ?_
  have hb12 := iand_rg (iwr (v9 + (iushr v9 4))) 252645135
  obtain ⟨v13, hv13, hT⟩ := glx hT
  refine k_st (st' := [gI v13]) (by rw [hv13]) ?_
  refine k_istoren (pc := 33) (lv' := [(0, gI v13)]) E dJ6_bitCount_0f7a4_33 rfl (by decide) rfl ?_
  refine k_iloadn (pc := 34) E 0 dJ6_bitCount_0f7a4_34 rfl rfl ?_
  refine k_iloadn (pc := 35) E 0 dJ6_bitCount_0f7a4_35 rfl rfl ?_
  refine k_bipush (pc := 36) E dJ6_bitCount_0f7a4_36 (by decide) ?_
  refine k_iushr (pc := 38) E dJ6_bitCount_0f7a4_38 ?_
  have hb14 := iushr_rg v13 8
  refine k_iadd (pc := 39) E dJ6_bitCount_0f7a4_39 ?_
  refine k_st (st' := [gI (iwr (v13 + (iushr v13 8)))]) (congrArg (fun q => q :: []) (gIw (v13 + (iushr v13 8)))) ?_
  have hb15 := iwr_rg (v13 + (iushr v13 8))
  obtain ⟨v16, hv16, hT⟩ := glx hT
  refine k_st (st' := [gI v16]) (by rw [hv16]) ?_
  refine k_istoren (pc := 40) (lv' := [(0, gI v16)]) E dJ6_bitCount_0f7a4_40 rfl (by decide) rfl ?_
  refine k_iloadn (pc := 41) E 0 dJ6_bitCount_0f7a4_41 rfl rfl ?_
  refine k_iloadn (pc := 42) E 0 dJ6_bitCount_0f7a4_42 rfl rfl ?_
  refine k_bipush (pc := 43) E dJ6_bitCount_0f7a4_43 (by decide) ?_
  refine k_iushr (pc := 45) E dJ6_bitCount_0f7a4_45 ?_
  have hb17 := iushr_rg v16 16
  refine k_iadd (pc := 46) E dJ6_bitCount_0f7a4_46 ?_
  refine k_st (st' := [gI (iwr (v16 + (iushr v16 16)))]) (congrArg (fun q => q :: []) (gIw (v16 + (iushr v16 16)))) ?_
  have hb18 := iwr_rg (v16 + (iushr v16 16))
  obtain ⟨v19, hv19, hT⟩ := glx hT
  refine k_st (st' := [gI v19]) (by rw [hv19]) ?_
  refine k_istoren (pc := 47) (lv' := [(0, gI v19)]) E dJ6_bitCount_0f7a4_47 rfl (by decide) rfl ?_
  refine k_iloadn (pc := 48) E 0 dJ6_bitCount_0f7a4_48 rfl rfl ?_
  refine k_bipush (pc := 49) E dJ6_bitCount_0f7a4_49 (by decide) ?_
  refine k_iand (pc := 51) E dJ6_bitCount_0f7a4_51 ?_
  have hb20 := iand_rg v19 63
  exact k_rho (congrArg (fun q => (q, s0)) hT) (k_iret (pc := 52) E dJ6_bitCount_0f7a4_52 (by omega))

def f_X8_outside (x0 : Int) (x1 : Int) : Int := (gj (fun j2c => (if x0 < 0 then j2c else (if x0 < x1 then 0 else j2c))) (1))
theorem f_X8_outside_e (x0 : Int) (x1 : Int) : f_X8_outside x0 x1 = (gj (fun j2c => (if x0 < 0 then j2c else (if x0 < x1 then 0 else j2c))) (1)) := rfl
set_option maxRecDepth 100000 in
set_option maxHeartbeats 4000000 in
theorem f_X8_outside_p (x0 : Int) (x1 : Int) (hx0 : in32 x0) (hx1 : in32 x1)  : (((f_X8_outside x0 x1) = 0 ∨ (f_X8_outside x0 x1) = 1)) ∧ (((f_X8_outside x0 x1) = 0 ∧ 0 ≤ x0 ∧ x0 < x1) ∨ ((f_X8_outside x0 x1) = 1 ∧ (x0 < 0 ∨ x1 ≤ x0))) := by
  have hT := f_X8_outside_e x0 x1
  obtain ⟨j2c, hj2c, hT⟩ := gjx hT
  have j2 : (True) → (f_X8_outside x0 x1) = j2c  → (((f_X8_outside x0 x1) = 0 ∨ (f_X8_outside x0 x1) = 1)) ∧ (((f_X8_outside x0 x1) = 0 ∧ 0 ≤ x0 ∧ x0 < x1) ∨ ((f_X8_outside x0 x1) = 1 ∧ (x0 < 0 ∨ x1 ≤ x0))) := by
    intro  hq hT
    rw [hj2c] at hT
    rw [hT]
    exact ⟨(by first | exact Or.inl rfl | exact Or.inr rfl | omega), (by first | assumption | omega)⟩
  by_cases h1 : x0 < 0
  · replace hT := hT.trans (if_pos h1)
    exact j2  trivial hT
  · replace hT := hT.trans (if_neg h1)
    by_cases h3 : x0 < x1
    · replace hT := hT.trans (if_pos h3)
      rw [hT]
      exact ⟨(by first | exact Or.inl rfl | exact Or.inr rfl | omega), (by first | assumption | omega)⟩
    · replace hT := hT.trans (if_neg h3)
      exact j2  trivial hT
set_option maxRecDepth 100000 in
set_option maxHeartbeats 4000000 in
theorem c_X8_outside (l : Launch) (D : va_G) (a : Nat → Nat) (cI cJ cS cT : ClassId) (s0 : gMem) (x0 : Int) (x1 : Int) (hx0 : in32 x0) (hx1 : in32 x1)  : gC l yX8_outside cX8_outside 2 (some .boolean) 1 64 D vwCl (gT cI cJ cS cT) (wdX a cI cJ cS cT) lgX kI rgZ [gI x0, gI x1] s0 ((f_X8_outside x0 x1), s0) := by
  refine gC_of (by decide +kernel) (hwdX a cI cJ cS cT) (Nat.le_of_ble_eq_true rfl) ?_
  intro A p e R s m args below meth c hR E
  subst hR
  have hT := f_X8_outside_e x0 x1
  refine k_lv0 (lv' := [(0, gI x0), (1, gI x1)]) rfl ?_
  refine k_iloadn (pc := 0) E 0 dX8_outside_0 rfl rfl ?_
  obtain ⟨j2c, hj2c, hT⟩ := gjx hT
  have j2 : (True) → (f_X8_outside x0 x1) = j2c  → gK D vwCl (wdX a cI cJ cS cT) lgX A p l e { frames := 1, cells := 0, slots := 0, locals := 64 } s m args below meth c 2 (gQQ D vwCl (wdX a cI cJ cS cT) lgX A kI rgZ below args s) ((f_X8_outside x0 x1), s0) s0 9 [] [] := by
    intro  hq hT
    rw [hj2c] at hT
    refine k_iconst (pc := 9) E dX8_outside_9 ?_
    refine k_goto (pc := 10) (tgt := 14) E dX8_outside_10 (by decide) ?_
    exact k_rho (congrArg (fun q => (q, s0)) hT) (k_zret (pc := 14) E dX8_outside_14 (by first | exact Or.inl rfl | exact Or.inr rfl | omega))
  by_cases h1 : x0 < 0
  · replace hT := hT.trans (if_pos h1)
    refine k_if_lt_t (pc := 1) (tgt := 9) E (by omega) dX8_outside_1 (by decide) h1 ?_
    refine k_lv (lv' := []) [] rfl ?_
    exact j2  trivial hT
  · replace hT := hT.trans (if_neg h1)
    refine k_if_lt_f (pc := 1) (tgt := 9) E (by omega) dX8_outside_1 (by decide) h1 ?_
    refine k_iloadn (pc := 4) E 0 dX8_outside_4 rfl rfl ?_
    refine k_iloadn (pc := 5) E 1 dX8_outside_5 rfl rfl ?_
    by_cases h3 : x0 < x1
    · replace hT := hT.trans (if_pos h3)
      refine k_icmp_lt_t (pc := 6) (tgt := 13) E (by omega) (by omega) dX8_outside_6 (by decide) h3 ?_
      refine k_iconst (pc := 13) E dX8_outside_13 ?_
      exact k_rho (congrArg (fun q => (q, s0)) hT) (k_zret (pc := 14) E dX8_outside_14 (by first | exact Or.inl rfl | exact Or.inr rfl | omega))
    · replace hT := hT.trans (if_neg h3)
      refine k_icmp_lt_f (pc := 6) (tgt := 13) E (by omega) (by omega) dX8_outside_6 (by decide) h3 ?_
      refine k_lv (lv' := []) [] rfl ?_
      exact j2  trivial hT

def f_X8_noByte (x0 : Int) : Int := (f_X8_outside x0 256)
theorem f_X8_noByte_e (x0 : Int) : f_X8_noByte x0 = (f_X8_outside x0 256) := rfl
set_option maxRecDepth 100000 in
set_option maxHeartbeats 4000000 in
theorem f_X8_noByte_p (x0 : Int) (hx0 : in32 x0)  : (((f_X8_noByte x0) = 0 ∨ (f_X8_noByte x0) = 1)) ∧ (((f_X8_noByte x0) = 0 ∧ 0 ≤ x0 ∧ x0 < 256) ∨ ((f_X8_noByte x0) = 1 ∧ (x0 < 0 ∨ 256 ≤ x0))) := by
  have hT := f_X8_noByte_e x0
  have hp2 := f_X8_outside_p x0 256 (by omega) (by omega) 
  rw [hT]
  exact ⟨(by first | exact Or.inl rfl | exact Or.inr rfl | omega), (by first | assumption | omega)⟩
set_option maxRecDepth 100000 in
set_option maxHeartbeats 4000000 in
theorem c_X8_noByte (l : Launch) (D : va_G) (a : Nat → Nat) (cI cJ cS cT : ClassId) (s0 : gMem) (x0 : Int) (hx0 : in32 x0)  : gC l yX8_noByte cX8_noByte 1 (some .boolean) 2 128 D vwCl (gT cI cJ cS cT) (wdX a cI cJ cS cT) lgX kI rgZ [gI x0] s0 ((f_X8_noByte x0), s0) := by
  refine gC_of (by decide +kernel) (hwdX a cI cJ cS cT) (Nat.le_of_ble_eq_true rfl) ?_
  intro A p e R s m args below meth c hR E
  subst hR
  have hT := f_X8_noByte_e x0
  refine k_lv0 (lv' := [(0, gI x0)]) rfl ?_
  refine k_iloadn (pc := 0) E 0 dX8_noByte_0 rfl rfl ?_
  refine k_sipush (pc := 1) E dX8_noByte_1 (by decide) ?_
  refine k_mr (fun hm_s0 => ?_)
  refine k_callS (pc := 4) (np := 2) (As := [gI x0, gI 256]) (st := []) E (c_X8_outside l D a cI cJ cS cT s0 x0 256 (by omega) (by omega)) wm_310 wm_1 wm_308 wm_309 (by decide +kernel) ⟨by decide, by decide⟩ rfl (Nat.le_of_ble_eq_true rfl) dX8_noByte_4 (ro_kk (fun hr1 => ?_))
  have hp2 := f_X8_outside_p x0 256 (by omega) (by omega) 
  refine k_st (st' := [gI (f_X8_outside x0 256)]) rfl ?_
  exact k_rho (congrArg (fun q => (q, s0)) hT) (k_zret (pc := 7) E dX8_noByte_7 (by first | exact Or.inl rfl | exact Or.inr rfl | omega))

def f_X8_has (x0 : Int) (x1 : Int) : Int := (if (iand (ishr x0 x1) 1) = 1 then 1 else 0)
theorem f_X8_has_e (x0 : Int) (x1 : Int) : f_X8_has x0 x1 = (if (iand (ishr x0 x1) 1) = 1 then 1 else 0) := rfl
set_option maxRecDepth 100000 in
set_option maxHeartbeats 4000000 in
theorem f_X8_has_p (x0 : Int) (x1 : Int) (hx0 : in32 x0) (hx1 : in32 x1)  : (((f_X8_has x0 x1) = 0 ∨ (f_X8_has x0 x1) = 1)) ∧ (((f_X8_has x0 x1) = 0 ∧ ¬ iand (ishr x0 x1) 1 = 1) ∨ ((f_X8_has x0 x1) = 1 ∧ iand (ishr x0 x1) 1 = 1)) := by
  have hT := f_X8_has_e x0 x1
  have hb1 := ishr_rg x0 x1
  have hb2 := iand_rg (ishr x0 x1) 1
  have hb3 := iand1 (ishr x0 x1)
  by_cases h4 : (iand (ishr x0 x1) 1) = 1
  · replace hT := hT.trans (if_pos h4)
    rw [hT]
    exact ⟨(by first | exact Or.inl rfl | exact Or.inr rfl | omega), (by first | assumption | omega)⟩
  · replace hT := hT.trans (if_neg h4)
    rw [hT]
    exact ⟨(by first | exact Or.inl rfl | exact Or.inr rfl | omega), (by first | assumption | omega)⟩
set_option maxRecDepth 100000 in
set_option maxHeartbeats 4000000 in
theorem c_X8_has (l : Launch) (D : va_G) (a : Nat → Nat) (cI cJ cS cT : ClassId) (s0 : gMem) (x0 : Int) (x1 : Int) (hx0 : in32 x0) (hx1 : in32 x1)  : gC l yX8_has cX8_has 2 (some .boolean) 1 64 D vwCl (gT cI cJ cS cT) (wdX a cI cJ cS cT) lgX kI rgZ [gI x0, gI x1] s0 ((f_X8_has x0 x1), s0) := by
  refine gC_of (by decide +kernel) (hwdX a cI cJ cS cT) (Nat.le_of_ble_eq_true rfl) ?_
  intro A p e R s m args below meth c hR E
  subst hR
  have hT := f_X8_has_e x0 x1
  refine k_lv0 (lv' := [(0, gI x0), (1, gI x1)]) rfl ?_
  refine k_iloadn (pc := 0) E 0 dX8_has_0 rfl rfl ?_
  refine k_iloadn (pc := 1) E 1 dX8_has_1 rfl rfl ?_
  refine k_ishr (pc := 2) E dX8_has_2 ?_
  have hb1 := ishr_rg x0 x1
  refine k_iconst (pc := 3) E dX8_has_3 ?_
  refine k_iand (pc := 4) E dX8_has_4 ?_
  have hb2 := iand_rg (ishr x0 x1) 1
  have hb3 := iand1 (ishr x0 x1)
  refine k_iconst (pc := 5) E dX8_has_5 ?_
  by_cases h4 : (iand (ishr x0 x1) 1) = 1
  · replace hT := hT.trans (if_pos h4)
    refine k_icmp_ne_f (pc := 6) (tgt := 13) E (by omega) (by omega) dX8_has_6 (by decide) h4 ?_
    refine k_iconst (pc := 9) E dX8_has_9 ?_
    refine k_goto (pc := 10) (tgt := 14) E dX8_has_10 (by decide) ?_
    exact k_rho (congrArg (fun q => (q, s0)) hT) (k_zret (pc := 14) E dX8_has_14 (by first | exact Or.inl rfl | exact Or.inr rfl | omega))
  · replace hT := hT.trans (if_neg h4)
    refine k_icmp_ne_t (pc := 6) (tgt := 13) E (by omega) (by omega) dX8_has_6 (by decide) h4 ?_
    refine k_iconst (pc := 13) E dX8_has_13 ?_
    exact k_rho (congrArg (fun q => (q, s0)) hT) (k_zret (pc := 14) E dX8_has_14 (by first | exact Or.inl rfl | exact Or.inr rfl | omega))

def w_X8_gapsEvery_6 (c0 : Int) : Nat → Int → Int → Int × Int
  | 0, v1, v2 => (v1, v2)
  | n3 + 1, v1, v2 => (if v2 < 16 then (w_X8_gapsEvery_6 c0 n3 (ior v1 (ishl 1 v2)) (v2 + c0)) else (v1, v2))
theorem w_X8_gapsEvery_6_s (c0 : Int) (n3 : Nat) (v1 : Int) (v2 : Int)  : w_X8_gapsEvery_6 c0 (n3 + 1) v1 v2 = (if v2 < 16 then (w_X8_gapsEvery_6 c0 n3 (ior v1 (ishl 1 v2)) (v2 + c0)) else (v1, v2)) := rfl
def f_X8_gapsEvery (x0 : Int) : Int := (gl2 (w_X8_gapsEvery_6 x0 33 0 (x0 - 1)) (fun v24 v25 => v24))
theorem f_X8_gapsEvery_e (x0 : Int) : f_X8_gapsEvery x0 = (gl2 (w_X8_gapsEvery_6 x0 33 0 (x0 - 1)) (fun v24 v25 => v24)) := rfl
set_option maxRecDepth 100000 in
set_option maxHeartbeats 4000000 in
theorem f_X8_gapsEvery_p (x0 : Int) (hx0 : in32 x0) (hpre0 : 2 ≤ x0 ∧ x0 ≤ 16) : (in32 (f_X8_gapsEvery x0)) := by
  have hT := f_X8_gapsEvery_e x0
  have L10 : ∀ (n11 : Nat) (v8 : Int) (v9 : Int), ((in32 v8) ∧ (in32 v9) ∧ (0 ≤ v9 ∧ v9 ≤ 31)) → 32 - v9 < (n11 : Int) → (∀ (w12 : Int) (w13 : Int), (w_X8_gapsEvery_6 x0 n11 v8 v9) = (w12, w13) → ((in32 w12) ∧ (in32 w13) ∧ (0 ≤ w13 ∧ w13 ≤ 31)) → (in32 (f_X8_gapsEvery x0))) → (in32 (f_X8_gapsEvery x0)) := by
    intro n11; induction n11 with
    | zero =>
      intro v8 v9 hq hm hk
      exfalso
      obtain ⟨hq18, hq19, hq20⟩ := hq
      omega
    | succ n11 ih =>
      intro v8 v9 hq hm hk
      obtain ⟨hq21, hq22, hq23⟩ := hq
      have hT := w_X8_gapsEvery_6_s x0 n11 v8 v9
      by_cases h14 : v9 < 16
      · replace hT := hT.trans (if_pos h14)
        have hb15 := ishl_rg 1 v9
        have hb16 : 0 ≤ v9 ∧ v9 ≤ 15 → _ := fun q => ishl_1 q.1 q.2
        have hb17 := ior_rg v8 (ishl 1 v9)
        exact ih (ior v8 (ishl 1 v9)) (v9 + x0) ⟨(by omega), (by omega), (by first | assumption | omega)⟩ (by omega) (fun w12 w13 hw hi => hk w12 w13 (hT.trans hw) hi)
      · replace hT := hT.trans (if_neg h14)
        exact hk v8 v9 hT ⟨(by omega), (by omega), (by first | assumption | omega)⟩
  refine L10 33 0 (x0 - 1) ⟨(by omega), (by omega), (by first | assumption | omega)⟩ (by omega) (fun v24 v25 hw hq => ?_)
  obtain ⟨hq26, hq27, hq28⟩ := hq
  replace hT := gl2y hT hw
  rw [hT]
  exact (by omega)
set_option maxRecDepth 100000 in
set_option maxHeartbeats 4000000 in
theorem c_X8_gapsEvery (l : Launch) (D : va_G) (a : Nat → Nat) (cI cJ cS cT : ClassId) (s0 : gMem) (x0 : Int) (hx0 : in32 x0) (hpre0 : 2 ≤ x0 ∧ x0 ≤ 16) : gC l yX8_gapsEvery cX8_gapsEvery 3 (some .int) 1 64 D vwCl (gT cI cJ cS cT) (wdX a cI cJ cS cT) lgX kI in32 [gI x0] s0 ((f_X8_gapsEvery x0), s0) := by
  refine gC_of (by decide +kernel) (hwdX a cI cJ cS cT) (Nat.le_of_ble_eq_true rfl) ?_
  intro A p e R s m args below meth c hR E
  subst hR
  have hT := f_X8_gapsEvery_e x0
  refine k_lv0 (lv' := [(0, gI x0)]) rfl ?_
  refine k_iconst (pc := 0) E dX8_gapsEvery_0 ?_
  refine k_istoren (pc := 1) (lv' := [(1, gI 0), (0, gI x0)]) E dX8_gapsEvery_1 rfl (by decide) rfl ?_
  refine k_iloadn (pc := 2) E 1 dX8_gapsEvery_2 rfl rfl ?_
  refine k_iconst (pc := 3) E dX8_gapsEvery_3 ?_
  refine k_isub (pc := 4) E dX8_gapsEvery_4 ?_
  refine k_istoren (pc := 5) (lv' := [(2, gI (x0 - 1)), (1, gI 0), (0, gI x0)]) E dX8_gapsEvery_5 rfl (by decide) rfl ?_
  have L10 : ∀ (n11 : Nat) (v8 : Int) (v9 : Int), ((in32 v8) ∧ (in32 v9) ∧ (0 ≤ v9 ∧ v9 ≤ 31)) → 32 - v9 < (n11 : Int) → (∀ (w12 : Int) (w13 : Int), (w_X8_gapsEvery_6 x0 n11 v8 v9) = (w12, w13) → ((in32 w12) ∧ (in32 w13) ∧ (0 ≤ w13 ∧ w13 ≤ 31)) → gK D vwCl (wdX a cI cJ cS cT) lgX A p l e { frames := 1, cells := 0, slots := 0, locals := 64 } s m args below meth c 3 (gQQ D vwCl (wdX a cI cJ cS cT) lgX A kI in32 below args s) ((f_X8_gapsEvery x0), s0) s0 25 [(1, gI w12)] []) → gK D vwCl (wdX a cI cJ cS cT) lgX A p l e { frames := 1, cells := 0, slots := 0, locals := 64 } s m args below meth c 3 (gQQ D vwCl (wdX a cI cJ cS cT) lgX A kI in32 below args s) ((f_X8_gapsEvery x0), s0) s0 6 [(0, gI x0), (1, gI v8), (2, gI v9)] [] := by
    intro n11; induction n11 with
    | zero =>
      intro v8 v9 hq hm hk
      exfalso
      obtain ⟨hq18, hq19, hq20⟩ := hq
      omega
    | succ n11 ih =>
      intro v8 v9 hq hm hk
      obtain ⟨hq21, hq22, hq23⟩ := hq
      have hT := w_X8_gapsEvery_6_s x0 n11 v8 v9
      refine k_iloadn (pc := 6) E 2 dX8_gapsEvery_6 rfl rfl ?_
      refine k_bipush (pc := 7) E dX8_gapsEvery_7 (by decide) ?_
      by_cases h14 : v9 < 16
      · replace hT := hT.trans (if_pos h14)
        refine k_icmp_ge_f (pc := 9) (tgt := 25) E (by omega) (by omega) dX8_gapsEvery_9 (by decide) h14 ?_
        refine k_iloadn (pc := 12) E 1 dX8_gapsEvery_12 rfl rfl ?_
        refine k_iconst (pc := 13) E dX8_gapsEvery_13 ?_
        refine k_iloadn (pc := 14) E 2 dX8_gapsEvery_14 rfl rfl ?_
        refine k_ishl (pc := 15) E dX8_gapsEvery_15 ?_
        have hb15 := ishl_rg 1 v9
        have hb16 : 0 ≤ v9 ∧ v9 ≤ 15 → _ := fun q => ishl_1 q.1 q.2
        refine k_ior (pc := 16) E dX8_gapsEvery_16 ?_
        have hb17 := ior_rg v8 (ishl 1 v9)
        refine k_istoren (pc := 17) (lv' := [(1, gI (ior v8 (ishl 1 v9))), (0, gI x0), (2, gI v9)]) E dX8_gapsEvery_17 rfl (by decide) rfl ?_
        refine k_iloadn (pc := 18) E 2 dX8_gapsEvery_18 rfl rfl ?_
        refine k_iloadn (pc := 19) E 1 dX8_gapsEvery_19 rfl rfl ?_
        refine k_iadd (pc := 20) E dX8_gapsEvery_20 ?_
        refine k_istoren (pc := 21) (lv' := [(2, gI (v9 + x0)), (1, gI (ior v8 (ishl 1 v9))), (0, gI x0)]) E dX8_gapsEvery_21 rfl (by decide) rfl ?_
        refine k_goto (pc := 22) (tgt := 6) E dX8_gapsEvery_22 (by decide) ?_
        refine k_lv (lv' := [(0, gI x0), (1, gI (ior v8 (ishl 1 v9))), (2, gI (v9 + x0))]) [2, 1, 0] rfl ?_
        exact ih (ior v8 (ishl 1 v9)) (v9 + x0) ⟨(by omega), (by omega), (by first | assumption | omega)⟩ (by omega) (fun w12 w13 hw hi => hk w12 w13 (hT.trans hw) hi)
      · replace hT := hT.trans (if_neg h14)
        refine k_icmp_ge_t (pc := 9) (tgt := 25) E (by omega) (by omega) dX8_gapsEvery_9 (by decide) h14 ?_
        refine k_lv (lv' := [(1, gI v8)]) [1] rfl ?_
        exact hk v8 v9 hT ⟨(by omega), (by omega), (by first | assumption | omega)⟩
  refine k_lv (lv' := [(0, gI x0), (1, gI 0), (2, gI (x0 - 1))]) [2, 1, 0] rfl ?_
  refine L10 33 0 (x0 - 1) ⟨(by omega), (by omega), (by first | assumption | omega)⟩ (by omega) (fun v24 v25 hw hq => ?_)
  obtain ⟨hq26, hq27, hq28⟩ := hq
  replace hT := gl2y hT hw
  refine k_iloadn (pc := 25) E 0 dX8_gapsEvery_25 rfl rfl ?_
  exact k_rho (congrArg (fun q => (q, s0)) hT) (k_iret (pc := 26) E dX8_gapsEvery_26 (by omega))

def w_X8_commonDivisor_10 (c0 : Int) (c1 : Int) : Nat → Int → Int
  | 0, v3 => v3
  | n4 + 1, v3 => (if 1 < v3 then (gj (fun j10c => (if (c0 % v3) = 0 then (if (c1 % v3) = 0 then v3 else j10c) else j10c)) ((w_X8_commonDivisor_10 c0 c1 n4 (v3 + (-1))))) else v3)
theorem w_X8_commonDivisor_10_s (c0 : Int) (c1 : Int) (n4 : Nat) (v3 : Int)  : w_X8_commonDivisor_10 c0 c1 (n4 + 1) v3 = (if 1 < v3 then (gj (fun j10c => (if (c0 % v3) = 0 then (if (c1 % v3) = 0 then v3 else j10c) else j10c)) ((w_X8_commonDivisor_10 c0 c1 n4 (v3 + (-1))))) else v3) := rfl
def f_X8_commonDivisor (x0 : Int) (x1 : Int) : Int := (gl (w_X8_commonDivisor_10 x0 x1 21 (imax 1 (imax x0 x1))) (fun v33 => v33))
theorem f_X8_commonDivisor_e (x0 : Int) (x1 : Int) : f_X8_commonDivisor x0 x1 = (gl (w_X8_commonDivisor_10 x0 x1 21 (imax 1 (imax x0 x1))) (fun v33 => v33)) := rfl
set_option maxRecDepth 100000 in
set_option maxHeartbeats 4000000 in
theorem f_X8_commonDivisor_p (x0 : Int) (x1 : Int) (hx0 : in32 x0) (hx1 : in32 x1) (hpre0 : 0 ≤ x0 ∧ x0 ≤ 20) (hpre1 : 1 ≤ x1 ∧ x1 ≤ 20) : (in32 (f_X8_commonDivisor x0 x1)) ∧ (1 ≤ (f_X8_commonDivisor x0 x1) ∧ (f_X8_commonDivisor x0 x1) ≤ 20) := by
  have hT := f_X8_commonDivisor_e x0 x1
  have hp1 := imax_p x0 x1
  have hp2 := imax_p 1 (imax x0 x1)
  have L16 : ∀ (n17 : Nat) (v15 : Int), ((in32 v15) ∧ (1 ≤ v15 ∧ v15 ≤ 20)) → v15 < (n17 : Int) → (∀ (w18 : Int), (w_X8_commonDivisor_10 x0 x1 n17 v15) = w18 → ((in32 w18) ∧ (1 ≤ w18 ∧ w18 ≤ 20)) → (in32 (f_X8_commonDivisor x0 x1)) ∧ (1 ≤ (f_X8_commonDivisor x0 x1) ∧ (f_X8_commonDivisor x0 x1) ≤ 20)) → (in32 (f_X8_commonDivisor x0 x1)) ∧ (1 ≤ (f_X8_commonDivisor x0 x1) ∧ (f_X8_commonDivisor x0 x1) ≤ 20) := by
    intro n17; induction n17 with
    | zero =>
      intro v15 hq hm hk
      exfalso
      obtain ⟨hq29, hq30⟩ := hq
      omega
    | succ n17 ih =>
      intro v15 hq hm hk
      obtain ⟨hq31, hq32⟩ := hq
      have hT := w_X8_commonDivisor_10_s x0 x1 n17 v15
      by_cases h19 : 1 < v15
      · replace hT := hT.trans (if_pos h19)
        have hd20 : (0 : Int) ≤ x0 := (by omega)
        have hd21 : (0 : Int) < v15 := (by omega)
        have hb22 := rm_rg (x := x0) hd21
        obtain ⟨j24c, hj24c, hT⟩ := gjx hT
        have j24 : (True) → (w_X8_commonDivisor_10 x0 x1 (n17 + 1) v15) = j24c  → (in32 (f_X8_commonDivisor x0 x1)) ∧ (1 ≤ (f_X8_commonDivisor x0 x1) ∧ (f_X8_commonDivisor x0 x1) ≤ 20) := by
          intro  hq hT
          rw [hj24c] at hT
          exact ih (v15 + (-1)) ⟨(by omega), (by first | assumption | omega)⟩ (by omega) (fun w18 hw hi => hk w18 (hT.trans hw) hi)
        by_cases h23 : (x0 % v15) = 0
        · replace hT := hT.trans (if_pos h23)
          have hd25 : (0 : Int) ≤ x1 := (by omega)
          have hd26 : (0 : Int) < v15 := (by omega)
          have hb27 := rm_rg (x := x1) hd26
          by_cases h28 : (x1 % v15) = 0
          · replace hT := hT.trans (if_pos h28)
            exact hk v15 hT ⟨(by omega), (by first | assumption | omega)⟩
          · replace hT := hT.trans (if_neg h28)
            exact j24  trivial hT
        · replace hT := hT.trans (if_neg h23)
          exact j24  trivial hT
      · replace hT := hT.trans (if_neg h19)
        exact hk v15 hT ⟨(by omega), (by first | assumption | omega)⟩
  refine L16 21 (imax 1 (imax x0 x1)) ⟨(by omega), (by first | assumption | omega)⟩ (by omega) (fun v33 hw hq => ?_)
  obtain ⟨hq34, hq35⟩ := hq
  replace hT := gl1y hT hw
  rw [hT]
  exact ⟨(by omega), (by first | assumption | omega)⟩
set_option maxRecDepth 100000 in
set_option maxHeartbeats 4000000 in
theorem c_X8_commonDivisor (l : Launch) (D : va_G) (a : Nat → Nat) (cI cJ cS cT : ClassId) (s0 : gMem) (x0 : Int) (x1 : Int) (hx0 : in32 x0) (hx1 : in32 x1) (hpre0 : 0 ≤ x0 ∧ x0 ≤ 20) (hpre1 : 1 ≤ x1 ∧ x1 ≤ 20) : gC l yX8_commonDivisor cX8_commonDivisor 3 (some .int) 2 128 D vwCl (gT cI cJ cS cT) (wdX a cI cJ cS cT) lgX kI in32 [gI x0, gI x1] s0 ((f_X8_commonDivisor x0 x1), s0) := by
  refine gC_of (by decide +kernel) (hwdX a cI cJ cS cT) (Nat.le_of_ble_eq_true rfl) ?_
  intro A p e R s m args below meth c hR E
  subst hR
  have hT := f_X8_commonDivisor_e x0 x1
  refine k_lv0 (lv' := [(0, gI x0), (1, gI x1)]) rfl ?_
  refine k_iconst (pc := 0) E dX8_commonDivisor_0 ?_
  refine k_iloadn (pc := 1) E 0 dX8_commonDivisor_1 rfl rfl ?_
  refine k_iloadn (pc := 2) E 1 dX8_commonDivisor_2 rfl rfl ?_
  refine k_max (pc := 3) (st := [gI 1]) E (by omega) (by omega) wk_736 wk_528 wm_18 wk_529 (by decide) (Nat.le_of_ble_eq_true rfl) dX8_commonDivisor_3 ?_
  have hp1 := imax_p x0 x1
  refine k_max (pc := 6) (st := []) E (by omega) (by omega) wk_736 wk_528 wm_18 wk_529 (by decide) (Nat.le_of_ble_eq_true rfl) dX8_commonDivisor_6 ?_
  have hp2 := imax_p 1 (imax x0 x1)
  refine k_istoren (pc := 9) (lv' := [(2, gI (imax 1 (imax x0 x1))), (0, gI x0), (1, gI x1)]) E dX8_commonDivisor_9 rfl (by decide) rfl ?_
  have L16 : ∀ (n17 : Nat) (v15 : Int), ((in32 v15) ∧ (1 ≤ v15 ∧ v15 ≤ 20)) → v15 < (n17 : Int) → (∀ (w18 : Int), (w_X8_commonDivisor_10 x0 x1 n17 v15) = w18 → ((in32 w18) ∧ (1 ≤ w18 ∧ w18 ≤ 20)) → gK D vwCl (wdX a cI cJ cS cT) lgX A p l e { frames := 2, cells := 0, slots := 0, locals := 128 } s m args below meth c 3 (gQQ D vwCl (wdX a cI cJ cS cT) lgX A kI in32 below args s) ((f_X8_commonDivisor x0 x1), s0) s0 33 [(2, gI w18)] []) → gK D vwCl (wdX a cI cJ cS cT) lgX A p l e { frames := 2, cells := 0, slots := 0, locals := 128 } s m args below meth c 3 (gQQ D vwCl (wdX a cI cJ cS cT) lgX A kI in32 below args s) ((f_X8_commonDivisor x0 x1), s0) s0 10 [(0, gI x0), (1, gI x1), (2, gI v15)] [] := by
    intro n17; induction n17 with
    | zero =>
      intro v15 hq hm hk
      exfalso
      obtain ⟨hq29, hq30⟩ := hq
      omega
    | succ n17 ih =>
      intro v15 hq hm hk
      obtain ⟨hq31, hq32⟩ := hq
      have hT := w_X8_commonDivisor_10_s x0 x1 n17 v15
      refine k_iloadn (pc := 10) E 2 dX8_commonDivisor_10 rfl rfl ?_
      refine k_iconst (pc := 11) E dX8_commonDivisor_11 ?_
      by_cases h19 : 1 < v15
      · replace hT := hT.trans (if_pos h19)
        refine k_icmp_le_f (pc := 12) (tgt := 33) E (by omega) (by omega) dX8_commonDivisor_12 (by decide) h19 ?_
        refine k_iloadn (pc := 15) E 0 dX8_commonDivisor_15 rfl rfl ?_
        refine k_iloadn (pc := 16) E 2 dX8_commonDivisor_16 rfl rfl ?_
        have hd20 : (0 : Int) ≤ x0 := (by omega)
        have hd21 : (0 : Int) < v15 := (by omega)
        refine k_iremN (pc := 17) E (by omega) (by omega) hd20 hd21 dX8_commonDivisor_17 ?_
        have hb22 := rm_rg (x := x0) hd21
        obtain ⟨j24c, hj24c, hT⟩ := gjx hT
        have j24 : (True) → (w_X8_commonDivisor_10 x0 x1 (n17 + 1) v15) = j24c  → gK D vwCl (wdX a cI cJ cS cT) lgX A p l e { frames := 2, cells := 0, slots := 0, locals := 128 } s m args below meth c 3 (gQQ D vwCl (wdX a cI cJ cS cT) lgX A kI in32 below args s) ((f_X8_commonDivisor x0 x1), s0) s0 27 [(0, gI x0), (1, gI x1), (2, gI v15)] [] := by
          intro  hq hT
          rw [hj24c] at hT
          refine k_iinc (pc := 27) (lv' := [(2, gI (v15 + (-1))), (0, gI x0), (1, gI x1)]) E 2 dX8_commonDivisor_27 rfl (by decide) rfl ?_
          refine k_goto (pc := 30) (tgt := 10) E dX8_commonDivisor_30 (by decide) ?_
          refine k_lv (lv' := [(0, gI x0), (1, gI x1), (2, gI (v15 + (-1)))]) [1, 2, 0] rfl ?_
          exact ih (v15 + (-1)) ⟨(by omega), (by first | assumption | omega)⟩ (by omega) (fun w18 hw hi => hk w18 (hT.trans hw) hi)
        by_cases h23 : (x0 % v15) = 0
        · replace hT := hT.trans (if_pos h23)
          refine k_if_ne_f (pc := 18) (tgt := 27) E (by omega) dX8_commonDivisor_18 (by decide) h23 ?_
          refine k_iloadn (pc := 21) E 1 dX8_commonDivisor_21 rfl rfl ?_
          refine k_iloadn (pc := 22) E 2 dX8_commonDivisor_22 rfl rfl ?_
          have hd25 : (0 : Int) ≤ x1 := (by omega)
          have hd26 : (0 : Int) < v15 := (by omega)
          refine k_iremN (pc := 23) E (by omega) (by omega) hd25 hd26 dX8_commonDivisor_23 ?_
          have hb27 := rm_rg (x := x1) hd26
          by_cases h28 : (x1 % v15) = 0
          · replace hT := hT.trans (if_pos h28)
            refine k_if_eq_t (pc := 24) (tgt := 33) E (by omega) dX8_commonDivisor_24 (by decide) h28 ?_
            refine k_lv (lv' := [(2, gI v15)]) [2] rfl ?_
            exact hk v15 hT ⟨(by omega), (by first | assumption | omega)⟩
          · replace hT := hT.trans (if_neg h28)
            refine k_if_eq_f (pc := 24) (tgt := 33) E (by omega) dX8_commonDivisor_24 (by decide) h28 ?_
            exact j24  trivial hT
        · replace hT := hT.trans (if_neg h23)
          refine k_if_ne_t (pc := 18) (tgt := 27) E (by omega) dX8_commonDivisor_18 (by decide) h23 ?_
          exact j24  trivial hT
      · replace hT := hT.trans (if_neg h19)
        refine k_icmp_le_t (pc := 12) (tgt := 33) E (by omega) (by omega) dX8_commonDivisor_12 (by decide) h19 ?_
        refine k_lv (lv' := [(2, gI v15)]) [2] rfl ?_
        exact hk v15 hT ⟨(by omega), (by first | assumption | omega)⟩
  refine k_lv (lv' := [(0, gI x0), (1, gI x1), (2, gI (imax 1 (imax x0 x1)))]) [1, 2, 0] rfl ?_
  refine L16 21 (imax 1 (imax x0 x1)) ⟨(by omega), (by first | assumption | omega)⟩ (by omega) (fun v33 hw hq => ?_)
  obtain ⟨hq34, hq35⟩ := hq
  replace hT := gl1y hT hw
  refine k_iloadn (pc := 33) E 0 dX8_commonDivisor_33 rfl rfl ?_
  exact k_rho (congrArg (fun q => (q, s0)) hT) (k_iret (pc := 34) E dX8_commonDivisor_34 (by omega))

def f_X5_isMissing  (k : Nat) (s0 : gMem) : Int := (if (s0 (90 + k) 0) < 0 then 1 else 0)
theorem f_X5_isMissing_e  (k : Nat) (s0 : gMem) : f_X5_isMissing k s0 = (if (s0 (90 + k) 0) < 0 then 1 else 0) := rfl
set_option maxRecDepth 100000 in
set_option maxHeartbeats 4000000 in
theorem f_X5_isMissing_p  (k : Nat) (s0 : gMem)  (hk : k < 4) (hm_s0 : gMR lgX s0)  : (((f_X5_isMissing k s0) = 0 ∨ (f_X5_isMissing k s0) = 1)) ∧ (((f_X5_isMissing k s0) = 1 ∧ s0 (90 + k) 0 < 0) ∨ ((f_X5_isMissing k s0) = 0 ∧ 0 ≤ s0 (90 + k) 0)) := by
  have hT := f_X5_isMissing_e  k s0
  have hr1 := (hm_s0 (90 + k) 0).1 (shL1 (by omega))
  by_cases h2 : (s0 (90 + k) 0) < 0
  · replace hT := hT.trans (if_pos h2)
    rw [hT]
    exact ⟨(by first | exact Or.inl rfl | exact Or.inr rfl | omega), (by first | assumption | omega)⟩
  · replace hT := hT.trans (if_neg h2)
    rw [hT]
    exact ⟨(by first | exact Or.inl rfl | exact Or.inr rfl | omega), (by first | assumption | omega)⟩
set_option maxRecDepth 100000 in
set_option maxHeartbeats 4000000 in
theorem c_X5_isMissing (l : Launch) (D : va_G) (a : Nat → Nat) (cI cJ cS cT : ClassId) (k : Nat) (hk : k < 4) (s0 : gMem)    : gC l yX5_isMissing cX5_isMissing 1 (some .boolean) 1 64 D vwCl (gT cI cJ cS cT) (wdX a cI cJ cS cT) lgX kI rgZ [.ref (a (10 + k))] s0 ((f_X5_isMissing k s0), s0) := by
  refine gC_of (by decide +kernel) (hwdX a cI cJ cS cT) (Nat.le_of_ble_eq_true rfl) ?_
  intro A p e R s m args below meth c hR E
  subst hR
  have hT := f_X5_isMissing_e  k s0
  refine k_lv0 (lv' := [(0, .ref (a (10 + k)))]) rfl ?_
  refine k_mr (fun hm_s0 => ?_)
  refine k_aloadn (pc := 0) E 0 dX5_isMissing_0 rfl rfl ?_
  refine k_getfI (pc := 1) (q0 := (10 + k)) (f := 1) (k := (90 + k)) E inX5 (shO a cI cJ cS cT s0 (by omega)) rfl (by decide) wm_261 rfl rfl (shL1 (by omega)) dX5_isMissing_1 (fun hr1 => ?_)
  by_cases h2 : (s0 (90 + k) 0) < 0
  · replace hT := hT.trans (if_pos h2)
    refine k_if_ge_f (pc := 4) (tgt := 11) E (by omega) dX5_isMissing_4 (by decide) h2 ?_
    refine k_iconst (pc := 7) E dX5_isMissing_7 ?_
    refine k_goto (pc := 8) (tgt := 12) E dX5_isMissing_8 (by decide) ?_
    exact k_rho (congrArg (fun q => (q, s0)) hT) (k_zret (pc := 12) E dX5_isMissing_12 (by first | exact Or.inl rfl | exact Or.inr rfl | omega))
  · replace hT := hT.trans (if_neg h2)
    refine k_if_ge_t (pc := 4) (tgt := 11) E (by omega) dX5_isMissing_4 (by decide) h2 ?_
    refine k_iconst (pc := 11) E dX5_isMissing_11 ?_
    exact k_rho (congrArg (fun q => (q, s0)) hT) (k_zret (pc := 12) E dX5_isMissing_12 (by first | exact Or.inl rfl | exact Or.inr rfl | omega))

def f_X5_renew (x0 : Int) (x1 : Int) (k : Nat) (s0 : gMem) : gRes := gl (mfill s0 (14 + k) 40 0) (fun s1 => gl (mset s1 (90 + k) 0 x0) (fun s2 => gl (mset s2 (94 + k) 0 x1) (fun s3 => (0, s3))))
theorem f_X5_renew_e (x0 : Int) (x1 : Int) (k : Nat) (s0 : gMem) : f_X5_renew x0 x1 k s0 = gl (mfill s0 (14 + k) 40 0) (fun s1 => gl (mset s1 (90 + k) 0 x0) (fun s2 => gl (mset s2 (94 + k) 0 x1) (fun s3 => (0, s3)))) := rfl
set_option maxRecDepth 100000 in
set_option maxHeartbeats 4000000 in
theorem f_X5_renew_p (x0 : Int) (x1 : Int) (k : Nat) (s0 : gMem) (hx0 : in32 x0) (hx1 : in32 x1) (hk : k < 4) (hm_s0 : gMR lgX s0) (hpre0 : SSo s0) (hpre1 : SSi s0) (hpre2 : -1 ≤ x0 ∧ x0 ≤ 2) (hpre3 : 0 ≤ x1 ∧ x1 ≤ 40) (rZ : Int) (sZ : gMem) (hres : f_X5_renew x0 x1 k s0 = (rZ, sZ)) : (fr [14, 15, 16, 17, 90, 91, 92, 93, 94, 95, 96, 97] s0 sZ) ∧ (gMR lgX sZ) ∧ (True) ∧ (SSo sZ) ∧ (SSi sZ) := by
  have hT := f_X5_renew_e x0 x1 k s0
  have hf_s0 : fr [14, 15, 16, 17, 90, 91, 92, 93, 94, 95, 96, 97] s0 s0 := fr.rf _ _
  have hSSo_s0 := hpre0
  have hSSi_s0 := hpre1
  obtain ⟨s1, hs1, hT⟩ := glx hT
  have hf_s1 : fr [14, 15, 16, 17, 90, 91, 92, 93, 94, 95, 96, 97] s0 s1 := hs1 ▸ hf_s0.fill (memb 14 4 (by omega) (by decide))
  have hm_s1 : gMR lgX s1 := hs1 ▸ hm_s0.fill32 (scL (by omega)) (by omega)
  have hg_s1 : fr [14, 15, 16, 17] s0 s1 := hs1 ▸ (fr.rf _ _).fill (memb 14 4 (by omega) (by decide))
  have hSSo_s1 : SSo s1 := SSo_fr hSSo_s0 (fun k hk => hg_s1 k (dj (by decide) k hk))
  have hSSi_s1 : SSi s1 := SSi_fr hSSi_s0 (fun k hk => hg_s1 k (dj (by decide) k hk))
  obtain ⟨s2, hs2, hT⟩ := glx hT
  have hf_s2 : fr [14, 15, 16, 17, 90, 91, 92, 93, 94, 95, 96, 97] s0 s2 := hs2 ▸ hf_s1.set (memb 90 4 (by omega) (by decide))
  have hm_s2 : gMR lgX s2 := hs2 ▸ hm_s1.set32 (shL1 (by omega)) (by omega)
  have hg_s2 : fr [90, 91, 92, 93] s1 s2 := hs2 ▸ (fr.rf _ _).set (memb 90 4 (by omega) (by decide))
  have hSSo_s2 : SSo s2 := hs2 ▸ SSo_set hSSo_s1 (by omega)
  have hSSi_s2 : SSi s2 := SSi_fr hSSi_s1 (fun k hk => hg_s2 k (dj (by decide) k hk))
  obtain ⟨s3, hs3, hT⟩ := glx hT
  have hf_s3 : fr [14, 15, 16, 17, 90, 91, 92, 93, 94, 95, 96, 97] s0 s3 := hs3 ▸ hf_s2.set (memb 94 4 (by omega) (by decide))
  have hm_s3 : gMR lgX s3 := hs3 ▸ hm_s2.set32 (shL2 (by omega)) (by omega)
  have hg_s3 : fr [94, 95, 96, 97] s2 s3 := hs3 ▸ (fr.rf _ _).set (memb 94 4 (by omega) (by decide))
  have hSSo_s3 : SSo s3 := SSo_fr hSSo_s2 (fun k hk => hg_s3 k (dj (by decide) k hk))
  have hSSi_s3 : SSi s3 := hs3 ▸ SSi_set hSSi_s2 (by omega)
  obtain ⟨rfl, rfl⟩ := Prod.mk.inj (hT.symm.trans hres)
  exact ⟨hf_s3, hm_s3, trivial, hSSo_s3, hSSi_s3⟩
set_option maxRecDepth 100000 in
set_option maxHeartbeats 4000000 in
theorem c_X5_renew (l : Launch) (D : va_G) (a : Nat → Nat) (cI cJ cS cT : ClassId) (k : Nat) (hk : k < 4) (s0 : gMem) (x0 : Int) (x1 : Int) (hx0 : in32 x0) (hx1 : in32 x1) (hpre0 : SSo s0) (hpre1 : SSi s0) (hpre2 : -1 ≤ x0 ∧ x0 ≤ 2) (hpre3 : 0 ≤ x1 ∧ x1 ≤ 40) : gC l yX5_renew cX5_renew 3 none 2 128 D vwCl (gT cI cJ cS cT) (wdX a cI cJ cS cT) lgX kV rgV [.ref (a (10 + k)), gI x0, gI x1] s0 (f_X5_renew x0 x1 k s0) := by
  refine gC_of (by decide +kernel) (hwdX a cI cJ cS cT) (Nat.le_of_ble_eq_true rfl) ?_
  intro A p e R s m args below meth c hR E
  subst hR
  have hT := f_X5_renew_e x0 x1 k s0
  have hf_s0 : fr [14, 15, 16, 17, 90, 91, 92, 93, 94, 95, 96, 97] s0 s0 := fr.rf _ _
  refine k_lv0 (lv' := [(0, .ref (a (10 + k))), (1, gI x0), (2, gI x1)]) rfl ?_
  refine k_mr (fun hm_s0 => ?_)
  have hSSo_s0 := hpre0
  have hSSi_s0 := hpre1
  refine k_aloadn (pc := 0) E 0 dX5_renew_0 rfl rfl ?_
  refine k_getf (pc := 1) (q0 := (10 + k)) (f := 0) (v := .ref (a (14 + k))) E inX5 (shO a cI cJ cS cT s0 (by omega)) rfl (by decide) wm_259 rfl rfl dX5_renew_1 ?_
  refine k_iconst (pc := 4) E dX5_renew_4 ?_
  obtain ⟨s1, hs1, hT⟩ := glx hT
  have hf_s1 : fr [14, 15, 16, 17, 90, 91, 92, 93, 94, 95, 96, 97] s0 s1 := hs1 ▸ hf_s0.fill (memb 14 4 (by omega) (by decide))
  have hg_s1 : fr [14, 15, 16, 17] s0 s1 := hs1 ▸ (fr.rf _ _).fill (memb 14 4 (by omega) (by decide))
  have hSSo_s1 : SSo s1 := SSo_fr hSSo_s0 (fun k hk => hg_s1 k (dj (by decide) k hk))
  have hSSi_s1 : SSi s1 := SSi_fr hSSi_s0 (fun k hk => hg_s1 k (dj (by decide) k hk))
  refine k_callS (pc := 5) (np := 2) (As := [.ref (a (14 + k)), gI 0]) (st := []) E (c_fillI l D (hwdX a cI cJ cS cT) (q0 := (14 + k)) (k := (14 + k)) (n := 40) (fun σ => (scA a cI cJ cS cT σ (by omega))) (fun σ i v => (scS a cI cJ cS cT σ i v (by omega))) rfl (scL (by omega)) (by decide) s0 0 (by omega)) wm_146 wm_6 wm_792 wm_145 (by decide +kernel) ⟨by decide, by decide⟩ rfl (Nat.le_of_ble_eq_true rfl) dX5_renew_5 (ro_kk (fun _ => ?_))
  refine k_sg hs1.symm ?_
  refine k_st (st' := []) rfl ?_
  refine k_aloadn (pc := 8) E 0 dX5_renew_8 rfl rfl ?_
  refine k_iloadn (pc := 9) E 1 dX5_renew_9 rfl rfl ?_
  refine k_putfI (pc := 10) (q0 := (10 + k)) (f := 1) (k := (90 + k)) E tyX5 tyX5_ok nmX5 inX5 (shO a cI cJ cS cT s1 (by omega)) rfl (by decide) wm_261 rfl rfl rfl (Nat.le_of_ble_eq_true rfl) (shS1 a cI cJ cS cT s1 x0 (by omega)) (shL1 (by omega)) (by omega) dX5_renew_10 ?_
  obtain ⟨s2, hs2, hT⟩ := glx hT
  refine k_sg hs2.symm ?_
  have hf_s2 : fr [14, 15, 16, 17, 90, 91, 92, 93, 94, 95, 96, 97] s0 s2 := hs2 ▸ hf_s1.set (memb 90 4 (by omega) (by decide))
  have hg_s2 : fr [90, 91, 92, 93] s1 s2 := hs2 ▸ (fr.rf _ _).set (memb 90 4 (by omega) (by decide))
  have hSSo_s2 : SSo s2 := hs2 ▸ SSo_set hSSo_s1 (by omega)
  have hSSi_s2 : SSi s2 := SSi_fr hSSi_s1 (fun k hk => hg_s2 k (dj (by decide) k hk))
  refine k_aloadn (pc := 13) E 0 dX5_renew_13 rfl rfl ?_
  refine k_iloadn (pc := 14) E 2 dX5_renew_14 rfl rfl ?_
  refine k_putfI (pc := 15) (q0 := (10 + k)) (f := 2) (k := (94 + k)) E tyX5 tyX5_ok nmX5 inX5 (shO a cI cJ cS cT s2 (by omega)) rfl (by decide) wm_263 rfl rfl rfl (Nat.le_of_ble_eq_true rfl) (shS2 a cI cJ cS cT s2 x1 (by omega)) (shL2 (by omega)) (by omega) dX5_renew_15 ?_
  obtain ⟨s3, hs3, hT⟩ := glx hT
  refine k_sg hs3.symm ?_
  have hf_s3 : fr [14, 15, 16, 17, 90, 91, 92, 93, 94, 95, 96, 97] s0 s3 := hs3 ▸ hf_s2.set (memb 94 4 (by omega) (by decide))
  have hg_s3 : fr [94, 95, 96, 97] s2 s3 := hs3 ▸ (fr.rf _ _).set (memb 94 4 (by omega) (by decide))
  have hSSo_s3 : SSo s3 := SSo_fr hSSo_s2 (fun k hk => hg_s3 k (dj (by decide) k hk))
  have hSSi_s3 : SSi s3 := hs3 ▸ SSi_set hSSi_s2 (by omega)
  exact k_rho hT (k_vret (pc := 18) E dX5_renew_18)

def f_X5_write (x0 : Int) (x1 : Int) (k : Nat) (s0 : gMem) : gRes := (gl ((if (s0 (90 + k) 0) = 0 then ((Int32.ofInt x1).toInt8.toInt) else (if (s0 (90 + k) 0) = 1 then ((Int32.ofInt x1).toInt16.toInt) else x1))) (fun v5 => gl (mset s0 (14 + k) x0 v5) (fun s6 => (0, s6))))
theorem f_X5_write_e (x0 : Int) (x1 : Int) (k : Nat) (s0 : gMem) : f_X5_write x0 x1 k s0 = (gl ((if (s0 (90 + k) 0) = 0 then ((Int32.ofInt x1).toInt8.toInt) else (if (s0 (90 + k) 0) = 1 then ((Int32.ofInt x1).toInt16.toInt) else x1))) (fun v5 => gl (mset s0 (14 + k) x0 v5) (fun s6 => (0, s6)))) := rfl
set_option maxRecDepth 100000 in
set_option maxHeartbeats 4000000 in
theorem f_X5_write_p (x0 : Int) (x1 : Int) (k : Nat) (s0 : gMem) (hx0 : in32 x0) (hx1 : in32 x1) (hk : k < 4) (hm_s0 : gMR lgX s0) (hpre0 : SSi s0) (hpre1 : SSo s0) (hpre2 : 0 ≤ x0 ∧ x0 < 40) (rZ : Int) (sZ : gMem) (hres : f_X5_write x0 x1 k s0 = (rZ, sZ)) : (fr [14, 15, 16, 17] s0 sZ) ∧ (gMR lgX sZ) ∧ (True) := by
  have hT := f_X5_write_e x0 x1 k s0
  have hf_s0 : fr [14, 15, 16, 17] s0 s0 := fr.rf _ _
  have hr1 := (hm_s0 (90 + k) 0).1 (shL1 (by omega))
  have hi2 := hpre1 k (by omega) 0
  obtain ⟨z8, hz8, hT⟩ := gl1x hT
  have j4 : ∀ (v5 : Int), ((in32 v5)) → z8 = v5 → (fr [14, 15, 16, 17] s0 sZ) ∧ (gMR lgX sZ) ∧ (True) := by
    intro v5 hq hz
    have hq7 := hq
    replace hT := gl1y hT hz
    obtain ⟨s6, hs6, hT⟩ := glx hT
    have hf_s6 : fr [14, 15, 16, 17] s0 s6 := hs6 ▸ hf_s0.set (memb 14 4 (by omega) (by decide))
    have hm_s6 : gMR lgX s6 := hs6 ▸ hm_s0.set32 (scL (by omega)) (by omega)
    obtain ⟨rfl, rfl⟩ := Prod.mk.inj (hT.symm.trans hres)
    exact ⟨hf_s6, hm_s6, trivial⟩
  replace hT := hz8
  by_cases h3 : (s0 (90 + k) 0) = 0
  · replace hT := hT.trans (if_pos h3)
    have hb9 := i8_rg x1
    exact j4 ((Int32.ofInt x1).toInt8.toInt) (by omega) hT
  · replace hT := hT.trans (if_neg h3)
    have hr10 := (hm_s0 (90 + k) 0).1 (shL1 (by omega))
    have hi11 := hpre1 k (by omega) 0
    by_cases h12 : (s0 (90 + k) 0) = 1
    · replace hT := hT.trans (if_pos h12)
      have hb13 := i16_rg x1
      exact j4 ((Int32.ofInt x1).toInt16.toInt) (by omega) hT
    · replace hT := hT.trans (if_neg h12)
      exact j4 x1 (by omega) hT
set_option maxRecDepth 100000 in
set_option maxHeartbeats 4000000 in
theorem c_X5_write (l : Launch) (D : va_G) (a : Nat → Nat) (cI cJ cS cT : ClassId) (k : Nat) (hk : k < 4) (s0 : gMem) (x0 : Int) (x1 : Int) (hx0 : in32 x0) (hx1 : in32 x1) (hpre0 : SSi s0) (hpre1 : SSo s0) (hpre2 : 0 ≤ x0 ∧ x0 < 40) : gC l yX5_write cX5_write 3 none 1 64 D vwCl (gT cI cJ cS cT) (wdX a cI cJ cS cT) lgX kV rgV [.ref (a (10 + k)), gI x0, gI x1] s0 (f_X5_write x0 x1 k s0) := by
  refine gC_of (by decide +kernel) (hwdX a cI cJ cS cT) (Nat.le_of_ble_eq_true rfl) ?_
  intro A p e R s m args below meth c hR E
  subst hR
  have hT := f_X5_write_e x0 x1 k s0
  have hf_s0 : fr [14, 15, 16, 17] s0 s0 := fr.rf _ _
  refine k_lv0 (lv' := [(0, .ref (a (10 + k))), (1, gI x0), (2, gI x1)]) rfl ?_
  refine k_mr (fun hm_s0 => ?_)
  refine k_aloadn (pc := 0) E 0 dX5_write_0 rfl rfl ?_
  refine k_getf (pc := 1) (q0 := (10 + k)) (f := 0) (v := .ref (a (14 + k))) E inX5 (shO a cI cJ cS cT s0 (by omega)) rfl (by decide) wm_259 rfl rfl dX5_write_1 ?_
  refine k_iloadn (pc := 4) E 1 dX5_write_4 rfl rfl ?_
  refine k_aloadn (pc := 5) E 0 dX5_write_5 rfl rfl ?_
  refine k_getfI (pc := 6) (q0 := (10 + k)) (f := 1) (k := (90 + k)) E inX5 (shO a cI cJ cS cT s0 (by omega)) rfl (by decide) wm_261 rfl rfl (shL1 (by omega)) dX5_write_6 (fun hr1 => ?_)
  have hi2 := hpre1 k (by omega) 0
  obtain ⟨z8, hz8, hT⟩ := gl1x hT
  have j4 : ∀ (v5 : Int), ((in32 v5)) → z8 = v5 → gK D vwCl (wdX a cI cJ cS cT) lgX A p l e { frames := 1, cells := 0, slots := 0, locals := 64 } s m args below meth c 3 (gQQ D vwCl (wdX a cI cJ cS cT) lgX A kV rgV below args s) (f_X5_write x0 x1 k s0) s0 31 [] [gI v5, gI x0, .ref (a (14 + k))] := by
    intro v5 hq hz
    have hq7 := hq
    replace hT := gl1y hT hz
    refine k_iastore (pc := 31) (q0 := (14 + k)) (t0 := 0) (k := (14 + k)) (n := 40) E (scA a cI cJ cS cT s0 (by omega)) (scS a cI cJ cS cT s0 x0 v5 (by omega)) rfl (scL (by omega)) (by decide) (by omega) (by omega) (by omega) dX5_write_31 ?_
    obtain ⟨s6, hs6, hT⟩ := glx hT
    refine k_sg hs6.symm ?_
    have hf_s6 : fr [14, 15, 16, 17] s0 s6 := hs6 ▸ hf_s0.set (memb 14 4 (by omega) (by decide))
    exact k_rho hT (k_vret (pc := 32) E dX5_write_32)
  replace hT := hz8
  by_cases h3 : (s0 (90 + k) 0) = 0
  · replace hT := hT.trans (if_pos h3)
    refine k_if_ne_f (pc := 9) (tgt := 17) E (by omega) dX5_write_9 (by decide) h3 ?_
    refine k_iloadn (pc := 12) E 2 dX5_write_12 rfl rfl ?_
    refine k_i2b (pc := 13) E dX5_write_13 ?_
    have hb9 := i8_rg x1
    refine k_goto (pc := 14) (tgt := 31) E dX5_write_14 (by decide) ?_
    refine k_lv (lv' := []) [] rfl ?_
    exact j4 ((Int32.ofInt x1).toInt8.toInt) (by omega) hT
  · replace hT := hT.trans (if_neg h3)
    refine k_if_ne_t (pc := 9) (tgt := 17) E (by omega) dX5_write_9 (by decide) h3 ?_
    refine k_aloadn (pc := 17) E 0 dX5_write_17 rfl rfl ?_
    refine k_getfI (pc := 18) (q0 := (10 + k)) (f := 1) (k := (90 + k)) E inX5 (shO a cI cJ cS cT s0 (by omega)) rfl (by decide) wm_261 rfl rfl (shL1 (by omega)) dX5_write_18 (fun hr10 => ?_)
    have hi11 := hpre1 k (by omega) 0
    refine k_iconst (pc := 21) E dX5_write_21 ?_
    by_cases h12 : (s0 (90 + k) 0) = 1
    · replace hT := hT.trans (if_pos h12)
      refine k_icmp_ne_f (pc := 22) (tgt := 30) E (by omega) (by omega) dX5_write_22 (by decide) h12 ?_
      refine k_iloadn (pc := 25) E 2 dX5_write_25 rfl rfl ?_
      refine k_i2s (pc := 26) E dX5_write_26 ?_
      have hb13 := i16_rg x1
      refine k_goto (pc := 27) (tgt := 31) E dX5_write_27 (by decide) ?_
      refine k_lv (lv' := []) [] rfl ?_
      exact j4 ((Int32.ofInt x1).toInt16.toInt) (by omega) hT
    · replace hT := hT.trans (if_neg h12)
      refine k_icmp_ne_t (pc := 22) (tgt := 30) E (by omega) (by omega) dX5_write_22 (by decide) h12 ?_
      refine k_iloadn (pc := 30) E 2 dX5_write_30 rfl rfl ?_
      refine k_lv (lv' := []) [] rfl ?_
      exact j4 x1 (by omega) hT

def f_X5_holds (x0 : Int) (x1 : Int) (k : Nat) (s0 : gMem) : Int := (if x0 < 0 then 0 else (if x1 < 0 then 0 else (if (s0 (94 + k) 0) < x0 then 0 else (if ((s0 (94 + k) 0) - x0) < x1 then 0 else 1))))
theorem f_X5_holds_e (x0 : Int) (x1 : Int) (k : Nat) (s0 : gMem) : f_X5_holds x0 x1 k s0 = (if x0 < 0 then 0 else (if x1 < 0 then 0 else (if (s0 (94 + k) 0) < x0 then 0 else (if ((s0 (94 + k) 0) - x0) < x1 then 0 else 1)))) := rfl
set_option maxRecDepth 100000 in
set_option maxHeartbeats 4000000 in
theorem f_X5_holds_p (x0 : Int) (x1 : Int) (k : Nat) (s0 : gMem) (hx0 : in32 x0) (hx1 : in32 x1) (hk : k < 4) (hm_s0 : gMR lgX s0) (hpre0 : SSi s0) : (((f_X5_holds x0 x1 k s0) = 0 ∨ (f_X5_holds x0 x1 k s0) = 1)) ∧ (((f_X5_holds x0 x1 k s0) = 1 ∧ 0 ≤ x0 ∧ 0 ≤ x1 ∧ x0 + x1 ≤ s0 (94 + k) 0 ∧ x0 + x1 ≤ 40) ∨ (f_X5_holds x0 x1 k s0) = 0) := by
  have hT := f_X5_holds_e x0 x1 k s0
  by_cases h1 : x0 < 0
  · replace hT := hT.trans (if_pos h1)
    rw [hT]
    exact ⟨(by first | exact Or.inl rfl | exact Or.inr rfl | omega), (by first | assumption | omega)⟩
  · replace hT := hT.trans (if_neg h1)
    by_cases h2 : x1 < 0
    · replace hT := hT.trans (if_pos h2)
      rw [hT]
      exact ⟨(by first | exact Or.inl rfl | exact Or.inr rfl | omega), (by first | assumption | omega)⟩
    · replace hT := hT.trans (if_neg h2)
      have hr3 := (hm_s0 (94 + k) 0).1 (shL2 (by omega))
      have hi4 := hpre0 k (by omega) 0
      by_cases h5 : (s0 (94 + k) 0) < x0
      · replace hT := hT.trans (if_pos h5)
        rw [hT]
        exact ⟨(by first | exact Or.inl rfl | exact Or.inr rfl | omega), (by first | assumption | omega)⟩
      · replace hT := hT.trans (if_neg h5)
        have hr6 := (hm_s0 (94 + k) 0).1 (shL2 (by omega))
        have hi7 := hpre0 k (by omega) 0
        by_cases h8 : ((s0 (94 + k) 0) - x0) < x1
        · replace hT := hT.trans (if_pos h8)
          rw [hT]
          exact ⟨(by first | exact Or.inl rfl | exact Or.inr rfl | omega), (by first | assumption | omega)⟩
        · replace hT := hT.trans (if_neg h8)
          rw [hT]
          exact ⟨(by first | exact Or.inl rfl | exact Or.inr rfl | omega), (by first | assumption | omega)⟩
set_option maxRecDepth 100000 in
set_option maxHeartbeats 4000000 in
theorem c_X5_holds (l : Launch) (D : va_G) (a : Nat → Nat) (cI cJ cS cT : ClassId) (k : Nat) (hk : k < 4) (s0 : gMem) (x0 : Int) (x1 : Int) (hx0 : in32 x0) (hx1 : in32 x1) (hpre0 : SSi s0) : gC l yX5_holds cX5_holds 3 (some .boolean) 1 64 D vwCl (gT cI cJ cS cT) (wdX a cI cJ cS cT) lgX kI rgZ [.ref (a (10 + k)), gI x0, gI x1] s0 ((f_X5_holds x0 x1 k s0), s0) := by
  refine gC_of (by decide +kernel) (hwdX a cI cJ cS cT) (Nat.le_of_ble_eq_true rfl) ?_
  intro A p e R s m args below meth c hR E
  subst hR
  have hT := f_X5_holds_e x0 x1 k s0
  refine k_lv0 (lv' := [(0, .ref (a (10 + k))), (1, gI x0), (2, gI x1)]) rfl ?_
  refine k_mr (fun hm_s0 => ?_)
  refine k_iloadn (pc := 0) E 1 dX5_holds_0 rfl rfl ?_
  by_cases h1 : x0 < 0
  · replace hT := hT.trans (if_pos h1)
    refine k_if_lt_t (pc := 1) (tgt := 30) E (by omega) dX5_holds_1 (by decide) h1 ?_
    refine k_iconst (pc := 30) E dX5_holds_30 ?_
    exact k_rho (congrArg (fun q => (q, s0)) hT) (k_zret (pc := 31) E dX5_holds_31 (by first | exact Or.inl rfl | exact Or.inr rfl | omega))
  · replace hT := hT.trans (if_neg h1)
    refine k_if_lt_f (pc := 1) (tgt := 30) E (by omega) dX5_holds_1 (by decide) h1 ?_
    refine k_iloadn (pc := 4) E 2 dX5_holds_4 rfl rfl ?_
    by_cases h2 : x1 < 0
    · replace hT := hT.trans (if_pos h2)
      refine k_if_lt_t (pc := 5) (tgt := 30) E (by omega) dX5_holds_5 (by decide) h2 ?_
      refine k_iconst (pc := 30) E dX5_holds_30 ?_
      exact k_rho (congrArg (fun q => (q, s0)) hT) (k_zret (pc := 31) E dX5_holds_31 (by first | exact Or.inl rfl | exact Or.inr rfl | omega))
    · replace hT := hT.trans (if_neg h2)
      refine k_if_lt_f (pc := 5) (tgt := 30) E (by omega) dX5_holds_5 (by decide) h2 ?_
      refine k_iloadn (pc := 8) E 1 dX5_holds_8 rfl rfl ?_
      refine k_aloadn (pc := 9) E 0 dX5_holds_9 rfl rfl ?_
      refine k_getfI (pc := 10) (q0 := (10 + k)) (f := 2) (k := (94 + k)) E inX5 (shO a cI cJ cS cT s0 (by omega)) rfl (by decide) wm_263 rfl rfl (shL2 (by omega)) dX5_holds_10 (fun hr3 => ?_)
      have hi4 := hpre0 k (by omega) 0
      by_cases h5 : (s0 (94 + k) 0) < x0
      · replace hT := hT.trans (if_pos h5)
        refine k_icmp_gt_t (pc := 13) (tgt := 30) E (by omega) (by omega) dX5_holds_13 (by decide) h5 ?_
        refine k_iconst (pc := 30) E dX5_holds_30 ?_
        exact k_rho (congrArg (fun q => (q, s0)) hT) (k_zret (pc := 31) E dX5_holds_31 (by first | exact Or.inl rfl | exact Or.inr rfl | omega))
      · replace hT := hT.trans (if_neg h5)
        refine k_icmp_gt_f (pc := 13) (tgt := 30) E (by omega) (by omega) dX5_holds_13 (by decide) h5 ?_
        refine k_iloadn (pc := 16) E 2 dX5_holds_16 rfl rfl ?_
        refine k_aloadn (pc := 17) E 0 dX5_holds_17 rfl rfl ?_
        refine k_getfI (pc := 18) (q0 := (10 + k)) (f := 2) (k := (94 + k)) E inX5 (shO a cI cJ cS cT s0 (by omega)) rfl (by decide) wm_263 rfl rfl (shL2 (by omega)) dX5_holds_18 (fun hr6 => ?_)
        have hi7 := hpre0 k (by omega) 0
        refine k_iloadn (pc := 21) E 1 dX5_holds_21 rfl rfl ?_
        refine k_isub (pc := 22) E dX5_holds_22 ?_
        by_cases h8 : ((s0 (94 + k) 0) - x0) < x1
        · replace hT := hT.trans (if_pos h8)
          refine k_icmp_gt_t (pc := 23) (tgt := 30) E (by omega) (by omega) dX5_holds_23 (by decide) h8 ?_
          refine k_iconst (pc := 30) E dX5_holds_30 ?_
          exact k_rho (congrArg (fun q => (q, s0)) hT) (k_zret (pc := 31) E dX5_holds_31 (by first | exact Or.inl rfl | exact Or.inr rfl | omega))
        · replace hT := hT.trans (if_neg h8)
          refine k_icmp_gt_f (pc := 23) (tgt := 30) E (by omega) (by omega) dX5_holds_23 (by decide) h8 ?_
          refine k_iconst (pc := 26) E dX5_holds_26 ?_
          refine k_goto (pc := 27) (tgt := 31) E dX5_holds_27 (by decide) ?_
          exact k_rho (congrArg (fun q => (q, s0)) hT) (k_zret (pc := 31) E dX5_holds_31 (by first | exact Or.inl rfl | exact Or.inr rfl | omega))

def t_X5_firstUnlike_2 (k : Nat)  (c1 : Int) (s0 : gMem) : Nat → Int → Int
  | 0, v1 => 0
  | n2 + 1, v1 => (if v1 < 16 then (if (s0 (14 + k) v1) = (iand (ishr c1 v1) 1) then (t_X5_firstUnlike_2 k c1 s0 n2 (v1 + 1)) else v1) else (-1))
theorem t_X5_firstUnlike_2_s (k : Nat)  (c1 : Int) (s0 : gMem) (n2 : Nat) (v1 : Int)  : t_X5_firstUnlike_2 k  c1 s0 (n2 + 1) v1 = (if v1 < 16 then (if (s0 (14 + k) v1) = (iand (ishr c1 v1) 1) then (t_X5_firstUnlike_2 k c1 s0 n2 (v1 + 1)) else v1) else (-1)) := rfl
def f_X5_firstUnlike (x0 : Int) (k : Nat) (s0 : gMem) : Int := (t_X5_firstUnlike_2 k x0 s0 17 0)
theorem f_X5_firstUnlike_e (x0 : Int) (k : Nat) (s0 : gMem) : f_X5_firstUnlike x0 k s0 = (t_X5_firstUnlike_2 k x0 s0 17 0) := rfl
set_option maxRecDepth 100000 in
set_option maxHeartbeats 4000000 in
theorem f_X5_firstUnlike_p (x0 : Int) (k : Nat) (s0 : gMem) (hx0 : in32 x0) (hk : k < 4) (hm_s0 : gMR lgX s0)  : (in32 (f_X5_firstUnlike x0 k s0)) ∧ (-1 ≤ (f_X5_firstUnlike x0 k s0) ∧ (f_X5_firstUnlike x0 k s0) ≤ 15) := by
  have hT := f_X5_firstUnlike_e x0 k s0
  have L10 : ∀ (n11 : Nat) (v9 : Int), ((in32 v9) ∧ (0 ≤ v9 ∧ v9 ≤ 16)) → 16 - v9 < (n11 : Int) → (f_X5_firstUnlike x0 k s0) = (t_X5_firstUnlike_2 k x0 s0 n11 v9) → (in32 (f_X5_firstUnlike x0 k s0)) ∧ (-1 ≤ (f_X5_firstUnlike x0 k s0) ∧ (f_X5_firstUnlike x0 k s0) ≤ 15) := by
    intro n11; induction n11 with
    | zero =>
      intro v9 hq hm hT
      exfalso
      obtain ⟨hq19, hq20⟩ := hq
      omega
    | succ n11 ih =>
      intro v9 hq hm hT
      obtain ⟨hq21, hq22⟩ := hq
      replace hT := hT.trans (t_X5_firstUnlike_2_s k  x0 s0 n11 v9)
      by_cases h13 : v9 < 16
      · replace hT := hT.trans (if_pos h13)
        have hr14 := (hm_s0 (14 + k) v9).1 (scL (by omega))
        have hb15 := ishr_rg x0 v9
        have hb16 := iand_rg (ishr x0 v9) 1
        have hb17 := iand1 (ishr x0 v9)
        by_cases h18 : (s0 (14 + k) v9) = (iand (ishr x0 v9) 1)
        · replace hT := hT.trans (if_pos h18)
          exact ih (v9 + 1) ⟨(by omega), (by first | assumption | omega)⟩ (by omega) hT
        · replace hT := hT.trans (if_neg h18)
          rw [hT]
          exact ⟨(by omega), (by first | assumption | omega)⟩
      · replace hT := hT.trans (if_neg h13)
        rw [hT]
        exact ⟨(by omega), (by first | assumption | omega)⟩
  exact L10 17 0 ⟨(by omega), (by first | assumption | omega)⟩ (by omega) hT
set_option maxRecDepth 100000 in
set_option maxHeartbeats 4000000 in
theorem c_X5_firstUnlike (l : Launch) (D : va_G) (a : Nat → Nat) (cI cJ cS cT : ClassId) (k : Nat) (hk : k < 4) (s0 : gMem) (x0 : Int) (hx0 : in32 x0)  : gC l yX5_firstUnlike cX5_firstUnlike 3 (some .int) 1 64 D vwCl (gT cI cJ cS cT) (wdX a cI cJ cS cT) lgX kI in32 [.ref (a (10 + k)), gI x0] s0 ((f_X5_firstUnlike x0 k s0), s0) := by
  refine gC_of (by decide +kernel) (hwdX a cI cJ cS cT) (Nat.le_of_ble_eq_true rfl) ?_
  intro A p e R s m args below meth c hR E
  subst hR
  have hT := f_X5_firstUnlike_e x0 k s0
  refine k_lv0 (lv' := [(0, .ref (a (10 + k))), (1, gI x0)]) rfl ?_
  refine k_mr (fun hm_s0 => ?_)
  refine k_iconst (pc := 0) E dX5_firstUnlike_0 ?_
  refine k_istoren (pc := 1) (lv' := [(2, gI 0), (0, .ref (a (10 + k))), (1, gI x0)]) E dX5_firstUnlike_1 rfl (by decide) rfl ?_
  have L10 : ∀ (n11 : Nat) (v9 : Int), ((in32 v9) ∧ (0 ≤ v9 ∧ v9 ≤ 16)) → 16 - v9 < (n11 : Int) → (f_X5_firstUnlike x0 k s0) = (t_X5_firstUnlike_2 k x0 s0 n11 v9) → gK D vwCl (wdX a cI cJ cS cT) lgX A p l e { frames := 1, cells := 0, slots := 0, locals := 64 } s m args below meth c 3 (gQQ D vwCl (wdX a cI cJ cS cT) lgX A kI in32 below args s) ((f_X5_firstUnlike x0 k s0), s0) s0 2 [(0, .ref (a (10 + k))), (1, gI x0), (2, gI v9)] [] := by
    intro n11; induction n11 with
    | zero =>
      intro v9 hq hm hT
      exfalso
      obtain ⟨hq19, hq20⟩ := hq
      omega
    | succ n11 ih =>
      intro v9 hq hm hT
      obtain ⟨hq21, hq22⟩ := hq
      replace hT := hT.trans (t_X5_firstUnlike_2_s k  x0 s0 n11 v9)
      refine k_iloadn (pc := 2) E 2 dX5_firstUnlike_2 rfl rfl ?_
      refine k_bipush (pc := 3) E dX5_firstUnlike_3 (by decide) ?_
      by_cases h13 : v9 < 16
      · replace hT := hT.trans (if_pos h13)
        refine k_icmp_ge_f (pc := 5) (tgt := 30) E (by omega) (by omega) dX5_firstUnlike_5 (by decide) h13 ?_
        refine k_aloadn (pc := 8) E 0 dX5_firstUnlike_8 rfl rfl ?_
        refine k_getf (pc := 9) (q0 := (10 + k)) (f := 0) (v := .ref (a (14 + k))) E inX5 (shO a cI cJ cS cT s0 (by omega)) rfl (by decide) wm_259 rfl rfl dX5_firstUnlike_9 ?_
        refine k_iloadn (pc := 12) E 2 dX5_firstUnlike_12 rfl rfl ?_
        refine k_iaload (pc := 13) (q0 := (14 + k)) (t0 := 0) (k := (14 + k)) (n := 40) E (scA a cI cJ cS cT s0 (by omega)) rfl (scL (by omega)) (by decide) (by omega) (by omega) dX5_firstUnlike_13 (fun hr14 => ?_)
        refine k_iloadn (pc := 14) E 1 dX5_firstUnlike_14 rfl rfl ?_
        refine k_iloadn (pc := 15) E 2 dX5_firstUnlike_15 rfl rfl ?_
        refine k_ishr (pc := 16) E dX5_firstUnlike_16 ?_
        have hb15 := ishr_rg x0 v9
        refine k_iconst (pc := 17) E dX5_firstUnlike_17 ?_
        refine k_iand (pc := 18) E dX5_firstUnlike_18 ?_
        have hb16 := iand_rg (ishr x0 v9) 1
        have hb17 := iand1 (ishr x0 v9)
        by_cases h18 : (s0 (14 + k) v9) = (iand (ishr x0 v9) 1)
        · replace hT := hT.trans (if_pos h18)
          refine k_icmp_eq_t (pc := 19) (tgt := 24) E (by omega) (by omega) dX5_firstUnlike_19 (by decide) h18 ?_
          refine k_iinc (pc := 24) (lv' := [(2, gI (v9 + 1)), (0, .ref (a (10 + k))), (1, gI x0)]) E 2 dX5_firstUnlike_24 rfl (by decide) rfl ?_
          refine k_goto (pc := 27) (tgt := 2) E dX5_firstUnlike_27 (by decide) ?_
          refine k_lv (lv' := [(0, .ref (a (10 + k))), (1, gI x0), (2, gI (v9 + 1))]) [1, 2, 0] rfl ?_
          exact ih (v9 + 1) ⟨(by omega), (by first | assumption | omega)⟩ (by omega) hT
        · replace hT := hT.trans (if_neg h18)
          refine k_icmp_eq_f (pc := 19) (tgt := 24) E (by omega) (by omega) dX5_firstUnlike_19 (by decide) h18 ?_
          refine k_iloadn (pc := 22) E 2 dX5_firstUnlike_22 rfl rfl ?_
          exact k_rho (congrArg (fun q => (q, s0)) hT) (k_iret (pc := 23) E dX5_firstUnlike_23 (by omega))
      · replace hT := hT.trans (if_neg h13)
        refine k_icmp_ge_t (pc := 5) (tgt := 30) E (by omega) (by omega) dX5_firstUnlike_5 (by decide) h13 ?_
        refine k_iconst (pc := 30) E dX5_firstUnlike_30 ?_
        exact k_rho (congrArg (fun q => (q, s0)) hT) (k_iret (pc := 31) E dX5_firstUnlike_31 (by omega))
  refine k_lv (lv' := [(0, .ref (a (10 + k))), (1, gI x0), (2, gI 0)]) [1, 2, 0] rfl ?_
  exact L10 17 0 ⟨(by omega), (by first | assumption | omega)⟩ (by omega) hT
