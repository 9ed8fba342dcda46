def f_X9_in (x0 : Int) (x1 : Int) (x2 : Int) : Int := (if x0 < x1 then 0 else (if x2 < x0 then 0 else 1))
theorem f_X9_in_e (x0 : Int) (x1 : Int) (x2 : Int) : f_X9_in x0 x1 x2 = (if x0 < x1 then 0 else (if x2 < x0 then 0 else 1)) := rfl
set_option maxRecDepth 100000 in
set_option maxHeartbeats 4000000 in
theorem f_X9_in_p (x0 : Int) (x1 : Int) (x2 : Int) (hx0 : in32 x0) (hx1 : in32 x1) (hx2 : in32 x2)  : (((f_X9_in x0 x1 x2) = 0 ∨ (f_X9_in x0 x1 x2) = 1)) ∧ (((f_X9_in x0 x1 x2) = 0 ∧ (x0 < x1 ∨ x2 < x0)) ∨ ((f_X9_in x0 x1 x2) = 1 ∧ x1 ≤ x0 ∧ x0 ≤ x2)) := by
  have hT := f_X9_in_e x0 x1 x2
  by_cases h1 : x0 < x1
  · replace hT := hT.trans (if_pos h1)
    rw [hT]
    exact ⟨(by first | exact Or.inl rfl | exact Or.inr rfl | omega), (by first | assumption | omega)⟩
  · replace hT := hT.trans (if_neg h1)
    by_cases h2 : x2 < x0
    · replace hT := hT.trans (if_pos h2)
      rw [hT]
      exact ⟨(by first | exact Or.inl rfl | exact Or.inr rfl | omega), (by first | assumption | omega)⟩
    · replace hT := hT.trans (if_neg h2)
      rw [hT]
      exact ⟨(by first | exact Or.inl rfl | exact Or.inr rfl | omega), (by first | assumption | omega)⟩
set_option maxRecDepth 100000 in
set_option maxHeartbeats 4000000 in
theorem c_X9_in (l : Launch) (D : va_G) (a : Nat → Nat) (cI cJ cS cT : ClassId) (s0 : gMem) (x0 : Int) (x1 : Int) (x2 : Int) (hx0 : in32 x0) (hx1 : in32 x1) (hx2 : in32 x2)  : gC l yX9_in cX9_in 3 (some .boolean) 1 64 D vwCl (gT cI cJ cS cT) (wdM a cI cJ) lgM kI rgZ [gI x0, gI x1, gI x2] s0 ((f_X9_in x0 x1 x2), s0) := by
  refine gC_of (by decide +kernel) (hwdM a cI cJ) (Nat.le_of_ble_eq_true rfl) ?_
  intro A p e R s m args below meth c hR E
  subst hR
  have hT := f_X9_in_e x0 x1 x2
  refine k_lv0 (lv' := [(0, gI x0), (1, gI x1), (2, gI x2)]) rfl ?_
  refine k_iloadn (pc := 0) E 0 dX9_in_0 rfl rfl ?_
  refine k_iloadn (pc := 1) E 1 dX9_in_1 rfl rfl ?_
  by_cases h1 : x0 < x1
  · replace hT := hT.trans (if_pos h1)
    refine k_icmp_lt_t (pc := 2) (tgt := 14) E (by omega) (by omega) dX9_in_2 (by decide) h1 ?_
    refine k_iconst (pc := 14) E dX9_in_14 ?_
    exact k_rho (congrArg (fun q => (q, s0)) hT) (k_zret (pc := 15) E dX9_in_15 (by first | exact Or.inl rfl | exact Or.inr rfl | omega))
  · replace hT := hT.trans (if_neg h1)
    refine k_icmp_lt_f (pc := 2) (tgt := 14) E (by omega) (by omega) dX9_in_2 (by decide) h1 ?_
    refine k_iloadn (pc := 5) E 0 dX9_in_5 rfl rfl ?_
    refine k_iloadn (pc := 6) E 2 dX9_in_6 rfl rfl ?_
    by_cases h2 : x2 < x0
    · replace hT := hT.trans (if_pos h2)
      refine k_icmp_gt_t (pc := 7) (tgt := 14) E (by omega) (by omega) dX9_in_7 (by decide) h2 ?_
      refine k_iconst (pc := 14) E dX9_in_14 ?_
      exact k_rho (congrArg (fun q => (q, s0)) hT) (k_zret (pc := 15) E dX9_in_15 (by first | exact Or.inl rfl | exact Or.inr rfl | omega))
    · replace hT := hT.trans (if_neg h2)
      refine k_icmp_gt_f (pc := 7) (tgt := 14) E (by omega) (by omega) dX9_in_7 (by decide) h2 ?_
      refine k_iconst (pc := 10) E dX9_in_10 ?_
      refine k_goto (pc := 11) (tgt := 15) E dX9_in_11 (by decide) ?_
      exact k_rho (congrArg (fun q => (q, s0)) hT) (k_zret (pc := 15) E dX9_in_15 (by first | exact Or.inl rfl | exact Or.inr rfl | omega))

def f_X9_within (x0 : Int) (x1 : Int) (x2 : Int) : Int := (if x0 < x1 then x1 else (if x2 < x0 then x2 else x0))
theorem f_X9_within_e (x0 : Int) (x1 : Int) (x2 : Int) : f_X9_within x0 x1 x2 = (if x0 < x1 then x1 else (if x2 < x0 then x2 else x0)) := rfl
set_option maxRecDepth 100000 in
set_option maxHeartbeats 4000000 in
theorem f_X9_within_p (x0 : Int) (x1 : Int) (x2 : Int) (hx0 : in32 x0) (hx1 : in32 x1) (hx2 : in32 x2)  : (in32 (f_X9_within x0 x1 x2)) ∧ ((x0 < x1 ∧ (f_X9_within x0 x1 x2) = x1) ∨ (x1 ≤ x0 ∧ x2 < x0 ∧ (f_X9_within x0 x1 x2) = x2) ∨ (x1 ≤ x0 ∧ x0 ≤ x2 ∧ (f_X9_within x0 x1 x2) = x0)) := by
  have hT := f_X9_within_e x0 x1 x2
  by_cases h1 : x0 < x1
  · replace hT := hT.trans (if_pos h1)
    rw [hT]
    exact ⟨(by omega), (by first | assumption | omega)⟩
  · replace hT := hT.trans (if_neg h1)
    by_cases h2 : x2 < x0
    · replace hT := hT.trans (if_pos h2)
      rw [hT]
      exact ⟨(by omega), (by first | assumption | omega)⟩
    · replace hT := hT.trans (if_neg h2)
      rw [hT]
      exact ⟨(by omega), (by first | assumption | omega)⟩
set_option maxRecDepth 100000 in
set_option maxHeartbeats 4000000 in
theorem c_X9_within (l : Launch) (D : va_G) (a : Nat → Nat) (cI cJ cS cT : ClassId) (s0 : gMem) (x0 : Int) (x1 : Int) (x2 : Int) (hx0 : in32 x0) (hx1 : in32 x1) (hx2 : in32 x2)  : gC l yX9_within cX9_within 3 (some .int) 1 64 D vwCl (gT cI cJ cS cT) (wdM a cI cJ) lgM kI in32 [gI x0, gI x1, gI x2] s0 ((f_X9_within x0 x1 x2), s0) := by
  refine gC_of (by decide +kernel) (hwdM a cI cJ) (Nat.le_of_ble_eq_true rfl) ?_
  intro A p e R s m args below meth c hR E
  subst hR
  have hT := f_X9_within_e x0 x1 x2
  refine k_lv0 (lv' := [(0, gI x0), (1, gI x1), (2, gI x2)]) rfl ?_
  refine k_iloadn (pc := 0) E 0 dX9_within_0 rfl rfl ?_
  refine k_iloadn (pc := 1) E 1 dX9_within_1 rfl rfl ?_
  by_cases h1 : x0 < x1
  · replace hT := hT.trans (if_pos h1)
    refine k_icmp_ge_f (pc := 2) (tgt := 9) E (by omega) (by omega) dX9_within_2 (by decide) h1 ?_
    refine k_iloadn (pc := 5) E 1 dX9_within_5 rfl rfl ?_
    refine k_goto (pc := 6) (tgt := 19) E dX9_within_6 (by decide) ?_
    exact k_rho (congrArg (fun q => (q, s0)) hT) (k_iret (pc := 19) E dX9_within_19 (by omega))
  · replace hT := hT.trans (if_neg h1)
    refine k_icmp_ge_t (pc := 2) (tgt := 9) E (by omega) (by omega) dX9_within_2 (by decide) h1 ?_
    refine k_iloadn (pc := 9) E 0 dX9_within_9 rfl rfl ?_
    refine k_iloadn (pc := 10) E 2 dX9_within_10 rfl rfl ?_
    by_cases h2 : x2 < x0
    · replace hT := hT.trans (if_pos h2)
      refine k_icmp_le_f (pc := 11) (tgt := 18) E (by omega) (by omega) dX9_within_11 (by decide) h2 ?_
      refine k_iloadn (pc := 14) E 2 dX9_within_14 rfl rfl ?_
      refine k_goto (pc := 15) (tgt := 19) E dX9_within_15 (by decide) ?_
      exact k_rho (congrArg (fun q => (q, s0)) hT) (k_iret (pc := 19) E dX9_within_19 (by omega))
    · replace hT := hT.trans (if_neg h2)
      refine k_icmp_le_t (pc := 11) (tgt := 18) E (by omega) (by omega) dX9_within_11 (by decide) h2 ?_
      refine k_iloadn (pc := 18) E 0 dX9_within_18 rfl rfl ?_
      exact k_rho (congrArg (fun q => (q, s0)) hT) (k_iret (pc := 19) E dX9_within_19 (by omega))

def f_X9_isPlace (x0 : Int) : Int := (f_X9_in x0 0 15)
theorem f_X9_isPlace_e (x0 : Int) : f_X9_isPlace x0 = (f_X9_in x0 0 15) := rfl
set_option maxRecDepth 100000 in
set_option maxHeartbeats 4000000 in
theorem f_X9_isPlace_p (x0 : Int) (hx0 : in32 x0)  : (((f_X9_isPlace x0) = 0 ∨ (f_X9_isPlace x0) = 1)) ∧ (((f_X9_isPlace x0) = 0 ∧ (x0 < 0 ∨ 15 < x0)) ∨ ((f_X9_isPlace x0) = 1 ∧ 0 ≤ x0 ∧ x0 ≤ 15)) := by
  have hT := f_X9_isPlace_e x0
  have hp2 := f_X9_in_p x0 0 15 (by omega) (by omega) (by omega) 
  rw [hT]
  exact ⟨(by first | exact Or.inl rfl | exact Or.inr rfl | omega), (by first | assumption | omega)⟩
set_option maxRecDepth 100000 in
set_option maxHeartbeats 4000000 in
theorem c_X9_isPlace (l : Launch) (D : va_G) (a : Nat → Nat) (cI cJ cS cT : ClassId) (s0 : gMem) (x0 : Int) (hx0 : in32 x0)  : gC l yX9_isPlace cX9_isPlace 1 (some .boolean) 2 128 D vwCl (gT cI cJ cS cT) (wdM a cI cJ) lgM kI rgZ [gI x0] s0 ((f_X9_isPlace x0), s0) := by
  refine gC_of (by decide +kernel) (hwdM a cI cJ) (Nat.le_of_ble_eq_true rfl) ?_
  intro A p e R s m args below meth c hR E
  subst hR
  have hT := f_X9_isPlace_e x0
  refine k_lv0 (lv' := [(0, gI x0)]) rfl ?_
  refine k_iloadn (pc := 0) E 0 dX9_isPlace_0 rfl rfl ?_
  refine k_iconst (pc := 1) E dX9_isPlace_1 ?_
  refine k_bipush (pc := 2) E dX9_isPlace_2 (by decide) ?_
  refine k_mr (fun hm_s0 => ?_)
  refine k_callS (pc := 4) (np := 3) (As := [gI x0, gI 0, gI 15]) (st := []) E (c_X9_in l D a cI cJ cS cT s0 x0 0 15 (by omega) (by omega) (by omega)) wm_861 wm_11 wm_859 wm_860 (by decide +kernel) ⟨by decide, by decide⟩ rfl (Nat.le_of_ble_eq_true rfl) dX9_isPlace_4 (ro_kk (fun hr1 => ?_))
  have hp2 := f_X9_in_p x0 0 15 (by omega) (by omega) (by omega) 
  refine k_st (st' := [gI (f_X9_in x0 0 15)]) rfl ?_
  exact k_rho (congrArg (fun q => (q, s0)) hT) (k_zret (pc := 7) E dX9_isPlace_7 (by first | exact Or.inl rfl | exact Or.inr rfl | omega))

def f_X9_isSide (x0 : Int) : Int := (f_X9_in x0 0 2)
theorem f_X9_isSide_e (x0 : Int) : f_X9_isSide x0 = (f_X9_in x0 0 2) := rfl
set_option maxRecDepth 100000 in
set_option maxHeartbeats 4000000 in
theorem f_X9_isSide_p (x0 : Int) (hx0 : in32 x0)  : (((f_X9_isSide x0) = 0 ∨ (f_X9_isSide x0) = 1)) ∧ (((f_X9_isSide x0) = 0 ∧ (x0 < 0 ∨ 2 < x0)) ∨ ((f_X9_isSide x0) = 1 ∧ 0 ≤ x0 ∧ x0 ≤ 2)) := by
  have hT := f_X9_isSide_e x0
  have hp2 := f_X9_in_p x0 0 2 (by omega) (by omega) (by omega) 
  rw [hT]
  exact ⟨(by first | exact Or.inl rfl | exact Or.inr rfl | omega), (by first | assumption | omega)⟩
set_option maxRecDepth 100000 in
set_option maxHeartbeats 4000000 in
theorem c_X9_isSide (l : Launch) (D : va_G) (a : Nat → Nat) (cI cJ cS cT : ClassId) (s0 : gMem) (x0 : Int) (hx0 : in32 x0)  : gC l yX9_isSide cX9_isSide 1 (some .boolean) 2 128 D vwCl (gT cI cJ cS cT) (wdM a cI cJ) lgM kI rgZ [gI x0] s0 ((f_X9_isSide x0), s0) := by
  refine gC_of (by decide +kernel) (hwdM a cI cJ) (Nat.le_of_ble_eq_true rfl) ?_
  intro A p e R s m args below meth c hR E
  subst hR
  have hT := f_X9_isSide_e x0
  refine k_lv0 (lv' := [(0, gI x0)]) rfl ?_
  refine k_iloadn (pc := 0) E 0 dX9_isSide_0 rfl rfl ?_
  refine k_iconst (pc := 1) E dX9_isSide_1 ?_
  refine k_iconst (pc := 2) E dX9_isSide_2 ?_
  refine k_mr (fun hm_s0 => ?_)
  refine k_callS (pc := 3) (np := 3) (As := [gI x0, gI 0, gI 2]) (st := []) E (c_X9_in l D a cI cJ cS cT s0 x0 0 2 (by omega) (by omega) (by omega)) wm_861 wm_11 wm_859 wm_860 (by decide +kernel) ⟨by decide, by decide⟩ rfl (Nat.le_of_ble_eq_true rfl) dX9_isSide_3 (ro_kk (fun hr1 => ?_))
  have hp2 := f_X9_in_p x0 0 2 (by omega) (by omega) (by omega) 
  refine k_st (st' := [gI (f_X9_in x0 0 2)]) rfl ?_
  exact k_rho (congrArg (fun q => (q, s0)) hT) (k_zret (pc := 6) E dX9_isSide_6 (by first | exact Or.inl rfl | exact Or.inr rfl | omega))

def w_X9_ones_4 (c0 : Int) : Nat → Int → Int → Int × Int
  | 0, v1, v2 => (v1, v2)
  | n3 + 1, v1, v2 => (if v2 < 16 then gl (v1 + (iand (ishr c0 v2) 1)) (fun v8 => (w_X9_ones_4 c0 n3 v8 (v2 + 1))) else (v1, v2))
theorem w_X9_ones_4_s (c0 : Int) (n3 : Nat) (v1 : Int) (v2 : Int)  : w_X9_ones_4 c0 (n3 + 1) v1 v2 = (if v2 < 16 then gl (v1 + (iand (ishr c0 v2) 1)) (fun v8 => (w_X9_ones_4 c0 n3 v8 (v2 + 1))) else (v1, v2)) := rfl
def f_X9_ones (x0 : Int) : Int := (gl2 (w_X9_ones_4 x0 17 0 0) (fun v28 v29 => v28))
theorem f_X9_ones_e (x0 : Int) : f_X9_ones x0 = (gl2 (w_X9_ones_4 x0 17 0 0) (fun v28 v29 => v28)) := rfl
set_option maxRecDepth 100000 in
set_option maxHeartbeats 4000000 in
theorem f_X9_ones_p (x0 : Int) (hx0 : in32 x0)  : (in32 (f_X9_ones x0)) ∧ (0 ≤ (f_X9_ones x0) ∧ (f_X9_ones x0) ≤ 16) := by
  have hT := f_X9_ones_e x0
  have L11 : ∀ (n12 : Nat) (v9 : Int) (v10 : Int), ((in32 v9) ∧ (in32 v10) ∧ (0 ≤ v10 ∧ v10 ≤ 16) ∧ (0 ≤ v9 ∧ v9 ≤ v10)) → 16 - v10 < (n12 : Int) → (∀ (w13 : Int) (w14 : Int), (w_X9_ones_4 x0 n12 v9 v10) = (w13, w14) → ((in32 w13) ∧ (in32 w14) ∧ (0 ≤ w14 ∧ w14 ≤ 16) ∧ (0 ≤ w13 ∧ w13 ≤ w14)) → (in32 (f_X9_ones x0)) ∧ (0 ≤ (f_X9_ones x0) ∧ (f_X9_ones x0) ≤ 16)) → (in32 (f_X9_ones x0)) ∧ (0 ≤ (f_X9_ones x0) ∧ (f_X9_ones x0) ≤ 16) := by
    intro n12; induction n12 with
    | zero =>
      intro v9 v10 hq hm hk
      exfalso
      obtain ⟨hq20, hq21, hq22, hq23⟩ := hq
      omega
    | succ n12 ih =>
      intro v9 v10 hq hm hk
      obtain ⟨hq24, hq25, hq26, hq27⟩ := hq
      have hT := w_X9_ones_4_s x0 n12 v9 v10
      by_cases h15 : v10 < 16
      · replace hT := hT.trans (if_pos h15)
        have hb16 := ishr_rg x0 v10
        have hb17 := iand_rg (ishr x0 v10) 1
        have hb18 := iand1 (ishr x0 v10)
        obtain ⟨v19, hv19, hT⟩ := glx hT
        exact ih v19 (v10 + 1) ⟨(by omega), (by omega), (by first | assumption | omega), (by first | assumption | omega)⟩ (by omega) (fun w13 w14 hw hi => hk w13 w14 (hT.trans hw) hi)
      · replace hT := hT.trans (if_neg h15)
        exact hk v9 v10 hT ⟨(by omega), (by omega), (by first | assumption | omega), (by first | assumption | omega)⟩
  refine L11 17 0 0 ⟨(by omega), (by omega), (by first | assumption | omega), (by first | assumption | omega)⟩ (by omega) (fun v28 v29 hw hq => ?_)
  obtain ⟨hq30, hq31, hq32, hq33⟩ := hq
  replace hT := gl2y hT hw
  rw [hT]
  exact ⟨(by omega), (by first | assumption | omega)⟩
set_option maxRecDepth 100000 in
set_option maxHeartbeats 4000000 in
theorem c_X9_ones (l : Launch) (D : va_G) (a : Nat → Nat) (cI cJ cS cT : ClassId) (s0 : gMem) (x0 : Int) (hx0 : in32 x0)  : gC l yX9_ones cX9_ones 3 (some .int) 1 64 D vwCl (gT cI cJ cS cT) (wdM a cI cJ) lgM kI in32 [gI x0] s0 ((f_X9_ones x0), s0) := by
  refine gC_of (by decide +kernel) (hwdM a cI cJ) (Nat.le_of_ble_eq_true rfl) ?_
  intro A p e R s m args below meth c hR E
  subst hR
  have hT := f_X9_ones_e x0
  refine k_lv0 (lv' := [(0, gI x0)]) rfl ?_
  refine k_iconst (pc := 0) E dX9_ones_0 ?_
  refine k_istoren (pc := 1) (lv' := [(1, gI 0), (0, gI x0)]) E dX9_ones_1 rfl (by decide) rfl ?_
  refine k_iconst (pc := 2) E dX9_ones_2 ?_
  refine k_istoren (pc := 3) (lv' := [(2, gI 0), (1, gI 0), (0, gI x0)]) E dX9_ones_3 rfl (by decide) rfl ?_
  have L11 : ∀ (n12 : Nat) (v9 : Int) (v10 : Int), ((in32 v9) ∧ (in32 v10) ∧ (0 ≤ v10 ∧ v10 ≤ 16) ∧ (0 ≤ v9 ∧ v9 ≤ v10)) → 16 - v10 < (n12 : Int) → (∀ (w13 : Int) (w14 : Int), (w_X9_ones_4 x0 n12 v9 v10) = (w13, w14) → ((in32 w13) ∧ (in32 w14) ∧ (0 ≤ w14 ∧ w14 ≤ 16) ∧ (0 ≤ w13 ∧ w13 ≤ w14)) → gK D vwCl (wdM a cI cJ) lgM A p l e { frames := 1, cells := 0, slots := 0, locals := 64 } s m args below meth c 3 (gQQ D vwCl (wdM a cI cJ) lgM A kI in32 below args s) ((f_X9_ones x0), s0) s0 24 [(1, gI w13)] []) → gK D vwCl (wdM a cI cJ) lgM A p l e { frames := 1, cells := 0, slots := 0, locals := 64 } s m args below meth c 3 (gQQ D vwCl (wdM a cI cJ) lgM A kI in32 below args s) ((f_X9_ones x0), s0) s0 4 [(0, gI x0), (1, gI v9), (2, gI v10)] [] := by
    intro n12; induction n12 with
    | zero =>
      intro v9 v10 hq hm hk
      exfalso
      obtain ⟨hq20, hq21, hq22, hq23⟩ := hq
      omega
    | succ n12 ih =>
      intro v9 v10 hq hm hk
      obtain ⟨hq24, hq25, hq26, hq27⟩ := hq
      have hT := w_X9_ones_4_s x0 n12 v9 v10
      refine k_iloadn (pc := 4) E 2 dX9_ones_4 rfl rfl ?_
      refine k_bipush (pc := 5) E dX9_ones_5 (by decide) ?_
      by_cases h15 : v10 < 16
      · replace hT := hT.trans (if_pos h15)
        refine k_icmp_ge_f (pc := 7) (tgt := 24) E (by omega) (by omega) dX9_ones_7 (by decide) h15 ?_
        refine k_iloadn (pc := 10) E 1 dX9_ones_10 rfl rfl ?_
        refine k_iloadn (pc := 11) E 0 dX9_ones_11 rfl rfl ?_
        refine k_iloadn (pc := 12) E 2 dX9_ones_12 rfl rfl ?_
        refine k_ishr (pc := 13) E dX9_ones_13 ?_
        have hb16 := ishr_rg x0 v10
        refine k_iconst (pc := 14) E dX9_ones_14 ?_
        refine k_iand (pc := 15) E dX9_ones_15 ?_
        have hb17 := iand_rg (ishr x0 v10) 1
        have hb18 := iand1 (ishr x0 v10)
        refine k_iadd (pc := 16) E dX9_ones_16 ?_
        obtain ⟨v19, hv19, hT⟩ := glx hT
        refine k_st (st' := [gI v19]) (by rw [hv19]) ?_
        refine k_istoren (pc := 17) (lv' := [(1, gI v19), (0, gI x0), (2, gI v10)]) E dX9_ones_17 rfl (by decide) rfl ?_
        refine k_iinc (pc := 18) (lv' := [(2, gI (v10 + 1)), (1, gI v19), (0, gI x0)]) E 2 dX9_ones_18 rfl (by decide) rfl ?_
        refine k_goto (pc := 21) (tgt := 4) E dX9_ones_21 (by decide) ?_
        refine k_lv (lv' := [(0, gI x0), (1, gI v19), (2, gI (v10 + 1))]) [2, 1, 0] rfl ?_
        exact ih v19 (v10 + 1) ⟨(by omega), (by omega), (by first | assumption | omega), (by first | assumption | omega)⟩ (by omega) (fun w13 w14 hw hi => hk w13 w14 (hT.trans hw) hi)
      · replace hT := hT.trans (if_neg h15)
        refine k_icmp_ge_t (pc := 7) (tgt := 24) E (by omega) (by omega) dX9_ones_7 (by decide) h15 ?_
        refine k_lv (lv' := [(1, gI v9)]) [1] rfl ?_
        exact hk v9 v10 hT ⟨(by omega), (by omega), (by first | assumption | omega), (by first | assumption | omega)⟩
  refine k_lv (lv' := [(0, gI x0), (1, gI 0), (2, gI 0)]) [2, 1, 0] rfl ?_
  refine L11 17 0 0 ⟨(by omega), (by omega), (by first | assumption | omega), (by first | assumption | omega)⟩ (by omega) (fun v28 v29 hw hq => ?_)
  obtain ⟨hq30, hq31, hq32, hq33⟩ := hq
  replace hT := gl2y hT hw
  refine k_iloadn (pc := 24) E 0 dX9_ones_24 rfl rfl ?_
  exact k_rho (congrArg (fun q => (q, s0)) hT) (k_iret (pc := 25) E dX9_ones_25 (by omega))

def f_X9_isIn (x0 : Int) (x1 : Int) : Int := (if (iand (ishr x0 x1) 1) = 1 then 1 else 0)
theorem f_X9_isIn_e (x0 : Int) (x1 : Int) : f_X9_isIn x0 x1 = (if (iand (ishr x0 x1) 1) = 1 then 1 else 0) := rfl
set_option maxRecDepth 100000 in
set_option maxHeartbeats 4000000 in
theorem f_X9_isIn_p (x0 : Int) (x1 : Int) (hx0 : in32 x0) (hx1 : in32 x1)  : (((f_X9_isIn x0 x1) = 0 ∨ (f_X9_isIn x0 x1) = 1)) ∧ (((f_X9_isIn x0 x1) = 0 ∧ ¬ iand (ishr x0 x1) 1 = 1) ∨ ((f_X9_isIn x0 x1) = 1 ∧ iand (ishr x0 x1) 1 = 1)) := by
  have hT := f_X9_isIn_e x0 x1
  have hb1 := ishr_rg x0 x1
  have hb2 := iand_rg (ishr x0 x1) 1
  have hb3 := iand1 (ishr x0 x1)
  by_cases h4 : (iand (ishr x0 x1) 1) = 1
  · replace hT := hT.trans (if_pos h4)
    rw [hT]
    exact ⟨(by first | exact Or.inl rfl | exact Or.inr rfl | omega), (by first | assumption | omega)⟩
  · replace hT := hT.trans (if_neg h4)
    rw [hT]
    exact ⟨(by first | exact Or.inl rfl | exact Or.inr rfl | omega), (by first | assumption | omega)⟩
set_option maxRecDepth 100000 in
set_option maxHeartbeats 4000000 in
theorem c_X9_isIn (l : Launch) (D : va_G) (a : Nat → Nat) (cI cJ cS cT : ClassId) (s0 : gMem) (x0 : Int) (x1 : Int) (hx0 : in32 x0) (hx1 : in32 x1)  : gC l yX9_isIn cX9_isIn 2 (some .boolean) 1 64 D vwCl (gT cI cJ cS cT) (wdM a cI cJ) lgM kI rgZ [gI x0, gI x1] s0 ((f_X9_isIn x0 x1), s0) := by
  refine gC_of (by decide +kernel) (hwdM a cI cJ) (Nat.le_of_ble_eq_true rfl) ?_
  intro A p e R s m args below meth c hR E
  subst hR
  have hT := f_X9_isIn_e x0 x1
  refine k_lv0 (lv' := [(0, gI x0), (1, gI x1)]) rfl ?_
  refine k_iloadn (pc := 0) E 0 dX9_isIn_0 rfl rfl ?_
  refine k_iloadn (pc := 1) E 1 dX9_isIn_1 rfl rfl ?_
  refine k_ishr (pc := 2) E dX9_isIn_2 ?_
  have hb1 := ishr_rg x0 x1
  refine k_iconst (pc := 3) E dX9_isIn_3 ?_
  refine k_iand (pc := 4) E dX9_isIn_4 ?_
  have hb2 := iand_rg (ishr x0 x1) 1
  have hb3 := iand1 (ishr x0 x1)
  refine k_iconst (pc := 5) E dX9_isIn_5 ?_
  by_cases h4 : (iand (ishr x0 x1) 1) = 1
  · replace hT := hT.trans (if_pos h4)
    refine k_icmp_ne_f (pc := 6) (tgt := 13) E (by omega) (by omega) dX9_isIn_6 (by decide) h4 ?_
    refine k_iconst (pc := 9) E dX9_isIn_9 ?_
    refine k_goto (pc := 10) (tgt := 14) E dX9_isIn_10 (by decide) ?_
    exact k_rho (congrArg (fun q => (q, s0)) hT) (k_zret (pc := 14) E dX9_isIn_14 (by first | exact Or.inl rfl | exact Or.inr rfl | omega))
  · replace hT := hT.trans (if_neg h4)
    refine k_icmp_ne_t (pc := 6) (tgt := 13) E (by omega) (by omega) dX9_isIn_6 (by decide) h4 ?_
    refine k_iconst (pc := 13) E dX9_isIn_13 ?_
    exact k_rho (congrArg (fun q => (q, s0)) hT) (k_zret (pc := 14) E dX9_isIn_14 (by first | exact Or.inl rfl | exact Or.inr rfl | omega))

def f_X9_count (x0 : Int) (s0 : gMem) : Int := (if x0 = 0 then (s0 2 x0) else (if x0 = 1 then (s0 2 x0) else (if x0 = 2 then (s0 2 x0) else (if x0 = 3 then (s0 2 x0) else (if x0 = 4 then (s0 7 0) else (if x0 = 5 then (s0 8 0) else (if x0 = 6 then (s0 4 0) else (-2))))))))
theorem f_X9_count_e (x0 : Int) (s0 : gMem) : f_X9_count x0 s0 = (if x0 = 0 then (s0 2 x0) else (if x0 = 1 then (s0 2 x0) else (if x0 = 2 then (s0 2 x0) else (if x0 = 3 then (s0 2 x0) else (if x0 = 4 then (s0 7 0) else (if x0 = 5 then (s0 8 0) else (if x0 = 6 then (s0 4 0) else (-2)))))))) := rfl
set_option maxRecDepth 100000 in
set_option maxHeartbeats 4000000 in
theorem f_X9_count_p (x0 : Int) (s0 : gMem) (hx0 : in32 x0) (hm_s0 : gMR lgM s0)  : (in32 (f_X9_count x0 s0)) := by
  have hT := f_X9_count_e x0 s0
  by_cases h1 : x0 = 0
  · replace hT := hT.trans (if_pos h1)
    have hr8 := (hm_s0 2 x0).1 rfl
    rw [hT]
    exact (by omega)
  · replace hT := hT.trans (if_neg h1)
    by_cases h2 : x0 = 1
    · replace hT := hT.trans (if_pos h2)
      have hr9 := (hm_s0 2 x0).1 rfl
      rw [hT]
      exact (by omega)
    · replace hT := hT.trans (if_neg h2)
      by_cases h3 : x0 = 2
      · replace hT := hT.trans (if_pos h3)
        have hr10 := (hm_s0 2 x0).1 rfl
        rw [hT]
        exact (by omega)
      · replace hT := hT.trans (if_neg h3)
        by_cases h4 : x0 = 3
        · replace hT := hT.trans (if_pos h4)
          have hr11 := (hm_s0 2 x0).1 rfl
          rw [hT]
          exact (by omega)
        · replace hT := hT.trans (if_neg h4)
          by_cases h5 : x0 = 4
          · replace hT := hT.trans (if_pos h5)
            have hr12 := (hm_s0 7 0).1 rfl
            rw [hT]
            exact (by omega)
          · replace hT := hT.trans (if_neg h5)
            by_cases h6 : x0 = 5
            · replace hT := hT.trans (if_pos h6)
              have hr13 := (hm_s0 8 0).1 rfl
              rw [hT]
              exact (by omega)
            · replace hT := hT.trans (if_neg h6)
              by_cases h7 : x0 = 6
              · replace hT := hT.trans (if_pos h7)
                have hr14 := (hm_s0 4 0).1 rfl
                rw [hT]
                exact (by omega)
              · replace hT := hT.trans (if_neg h7)
                rw [hT]
                exact (by omega)
set_option maxRecDepth 100000 in
set_option maxHeartbeats 4000000 in
theorem c_X9_count (l : Launch) (D : va_G) (a : Nat → Nat) (cI cJ cS cT : ClassId) (s0 : gMem) (x0 : Int) (hx0 : in32 x0)  : gC l yX9_count cX9_count 2 (some .int) 1 64 D vwCl (gT cI cJ cS cT) (wdM a cI cJ) lgM kI in32 [.ref (a 0), gI x0] s0 ((f_X9_count x0 s0), s0) := by
  refine gC_of (by decide +kernel) (hwdM a cI cJ) (Nat.le_of_ble_eq_true rfl) ?_
  intro A p e R s m args below meth c hR E
  subst hR
  have hT := f_X9_count_e x0 s0
  refine k_lv0 (lv' := [(0, .ref (a 0)), (1, gI x0)]) rfl ?_
  refine k_mr (fun hm_s0 => ?_)
  refine k_iloadn (pc := 0) E 1 dX9_count_0 rfl rfl ?_
  by_cases h1 : x0 = 0
  · replace hT := hT.trans (if_pos h1)
    refine k_tabIn (pc := 1) (tgt := 44) E dX9_count_1 (by omega) (by omega) (by omega) (by rw [h1]; rfl) (by decide) ?_
    refine k_aloadn (pc := 44) E 0 dX9_count_44 rfl rfl ?_
    refine k_getf (pc := 45) (q0 := 0) (f := 2) (v := .ref (a 3)) E inX9 rfl rfl (by decide) wm_900 rfl rfl dX9_count_45 ?_
    refine k_iloadn (pc := 48) E 1 dX9_count_48 rfl rfl ?_
    refine k_iaload (pc := 49) (q0 := 3) (t0 := 0) (k := 2) (n := 4) E rfl rfl rfl (by decide) (by omega) (by omega) dX9_count_49 (fun hr8 => ?_)
    exact k_rho (congrArg (fun q => (q, s0)) hT) (k_iret (pc := 50) E dX9_count_50 (by omega))
  · replace hT := hT.trans (if_neg h1)
    by_cases h2 : x0 = 1
    · replace hT := hT.trans (if_pos h2)
      refine k_tabIn (pc := 1) (tgt := 44) E dX9_count_1 (by omega) (by omega) (by omega) (by rw [h2]; rfl) (by decide) ?_
      refine k_aloadn (pc := 44) E 0 dX9_count_44 rfl rfl ?_
      refine k_getf (pc := 45) (q0 := 0) (f := 2) (v := .ref (a 3)) E inX9 rfl rfl (by decide) wm_900 rfl rfl dX9_count_45 ?_
      refine k_iloadn (pc := 48) E 1 dX9_count_48 rfl rfl ?_
      refine k_iaload (pc := 49) (q0 := 3) (t0 := 0) (k := 2) (n := 4) E rfl rfl rfl (by decide) (by omega) (by omega) dX9_count_49 (fun hr9 => ?_)
      exact k_rho (congrArg (fun q => (q, s0)) hT) (k_iret (pc := 50) E dX9_count_50 (by omega))
    · replace hT := hT.trans (if_neg h2)
      by_cases h3 : x0 = 2
      · replace hT := hT.trans (if_pos h3)
        refine k_tabIn (pc := 1) (tgt := 44) E dX9_count_1 (by omega) (by omega) (by omega) (by rw [h3]; rfl) (by decide) ?_
        refine k_aloadn (pc := 44) E 0 dX9_count_44 rfl rfl ?_
        refine k_getf (pc := 45) (q0 := 0) (f := 2) (v := .ref (a 3)) E inX9 rfl rfl (by decide) wm_900 rfl rfl dX9_count_45 ?_
        refine k_iloadn (pc := 48) E 1 dX9_count_48 rfl rfl ?_
        refine k_iaload (pc := 49) (q0 := 3) (t0 := 0) (k := 2) (n := 4) E rfl rfl rfl (by decide) (by omega) (by omega) dX9_count_49 (fun hr10 => ?_)
        exact k_rho (congrArg (fun q => (q, s0)) hT) (k_iret (pc := 50) E dX9_count_50 (by omega))
      · replace hT := hT.trans (if_neg h3)
        by_cases h4 : x0 = 3
        · replace hT := hT.trans (if_pos h4)
          refine k_tabIn (pc := 1) (tgt := 44) E dX9_count_1 (by omega) (by omega) (by omega) (by rw [h4]; rfl) (by decide) ?_
          refine k_aloadn (pc := 44) E 0 dX9_count_44 rfl rfl ?_
          refine k_getf (pc := 45) (q0 := 0) (f := 2) (v := .ref (a 3)) E inX9 rfl rfl (by decide) wm_900 rfl rfl dX9_count_45 ?_
          refine k_iloadn (pc := 48) E 1 dX9_count_48 rfl rfl ?_
          refine k_iaload (pc := 49) (q0 := 3) (t0 := 0) (k := 2) (n := 4) E rfl rfl rfl (by decide) (by omega) (by omega) dX9_count_49 (fun hr11 => ?_)
          exact k_rho (congrArg (fun q => (q, s0)) hT) (k_iret (pc := 50) E dX9_count_50 (by omega))
        · replace hT := hT.trans (if_neg h4)
          by_cases h5 : x0 = 4
          · replace hT := hT.trans (if_pos h5)
            refine k_tabIn (pc := 1) (tgt := 51) E dX9_count_1 (by omega) (by omega) (by omega) (by rw [h5]; rfl) (by decide) ?_
            refine k_aloadn (pc := 51) E 0 dX9_count_51 rfl rfl ?_
            refine k_getfI (pc := 52) (q0 := 0) (f := 7) (k := 7) E inX9 rfl rfl (by decide) wm_905 rfl rfl rfl dX9_count_52 (fun hr12 => ?_)
            exact k_rho (congrArg (fun q => (q, s0)) hT) (k_iret (pc := 55) E dX9_count_55 (by omega))
          · replace hT := hT.trans (if_neg h5)
            by_cases h6 : x0 = 5
            · replace hT := hT.trans (if_pos h6)
              refine k_tabIn (pc := 1) (tgt := 56) E dX9_count_1 (by omega) (by omega) (by omega) (by rw [h6]; rfl) (by decide) ?_
              refine k_aloadn (pc := 56) E 0 dX9_count_56 rfl rfl ?_
              refine k_getfI (pc := 57) (q0 := 0) (f := 8) (k := 8) E inX9 rfl rfl (by decide) wm_906 rfl rfl rfl dX9_count_57 (fun hr13 => ?_)
              exact k_rho (congrArg (fun q => (q, s0)) hT) (k_iret (pc := 60) E dX9_count_60 (by omega))
            · replace hT := hT.trans (if_neg h6)
              by_cases h7 : x0 = 6
              · replace hT := hT.trans (if_pos h7)
                refine k_tabIn (pc := 1) (tgt := 61) E dX9_count_1 (by omega) (by omega) (by omega) (by rw [h7]; rfl) (by decide) ?_
                refine k_aloadn (pc := 61) E 0 dX9_count_61 rfl rfl ?_
                refine k_getfI (pc := 62) (q0 := 0) (f := 4) (k := 4) E inX9 rfl rfl (by decide) wm_902 rfl rfl rfl dX9_count_62 (fun hr14 => ?_)
                exact k_rho (congrArg (fun q => (q, s0)) hT) (k_iret (pc := 65) E dX9_count_65 (by omega))
              · replace hT := hT.trans (if_neg h7)
                refine k_tabOut (pc := 1) (tgt := 66) E dX9_count_1 (by omega) (by omega) (by decide) ?_
                refine k_bipush (pc := 66) E dX9_count_66 (by decide) ?_
                exact k_rho (congrArg (fun q => (q, s0)) hT) (k_iret (pc := 68) E dX9_count_68 (by omega))

def f_X9_set (x0 : Int) (x1 : Int) (s0 : gMem) : gRes := (if (f_X9_in x0 0 3) = 0 then ((-5), s0) else (gl ((if x0 < 2 then 65535 else 2)) (fun v6 => (if (f_X9_in x1 0 v6) = 0 then ((-7), s0) else gl (mset s0 2 x0 x1) (fun s11 => ((s0 2 x0), s11))))))
theorem f_X9_set_e (x0 : Int) (x1 : Int) (s0 : gMem) : f_X9_set x0 x1 s0 = (if (f_X9_in x0 0 3) = 0 then ((-5), s0) else (gl ((if x0 < 2 then 65535 else 2)) (fun v6 => (if (f_X9_in x1 0 v6) = 0 then ((-7), s0) else gl (mset s0 2 x0 x1) (fun s11 => ((s0 2 x0), s11)))))) := rfl
set_option maxRecDepth 100000 in
set_option maxHeartbeats 4000000 in
theorem f_X9_set_p (x0 : Int) (x1 : Int) (s0 : gMem) (hx0 : in32 x0) (hx1 : in32 x1) (hm_s0 : gMR lgM s0)  (rZ : Int) (sZ : gMem) (hres : f_X9_set x0 x1 s0 = (rZ, sZ)) : (fr [2] s0 sZ) ∧ (gMR lgM sZ) ∧ (in32 rZ) := by
  have hT := f_X9_set_e x0 x1 s0
  have hf_s0 : fr [2] s0 s0 := fr.rf _ _
  have hp2 := f_X9_in_p x0 0 3 (by omega) (by omega) (by omega) 
  by_cases h3 : (f_X9_in x0 0 3) = 0
  · replace hT := hT.trans (if_pos h3)
    obtain ⟨rfl, rfl⟩ := Prod.mk.inj (hT.symm.trans hres)
    exact ⟨hf_s0, hm_s0, (by omega)⟩
  · replace hT := hT.trans (if_neg h3)
    obtain ⟨z13, hz13, hT⟩ := gl1x hT
    have j5 : ∀ (v6 : Int), ((in32 v6)) → z13 = v6 → (fr [2] s0 sZ) ∧ (gMR lgM sZ) ∧ (in32 rZ) := by
      intro v6 hq hz
      have hq12 := hq
      replace hT := gl1y hT hz
      have hp8 := f_X9_in_p x1 0 v6 (by omega) (by omega) (by omega) 
      by_cases h9 : (f_X9_in x1 0 v6) = 0
      · replace hT := hT.trans (if_pos h9)
        obtain ⟨rfl, rfl⟩ := Prod.mk.inj (hT.symm.trans hres)
        exact ⟨hf_s0, hm_s0, (by omega)⟩
      · replace hT := hT.trans (if_neg h9)
        have hr10 := (hm_s0 2 x0).1 rfl
        obtain ⟨s11, hs11, hT⟩ := glx hT
        have hf_s11 : fr [2] s0 s11 := hs11 ▸ hf_s0.set (by decide)
        have hm_s11 : gMR lgM s11 := hs11 ▸ hm_s0.set32 rfl (by omega)
        obtain ⟨rfl, rfl⟩ := Prod.mk.inj (hT.symm.trans hres)
        exact ⟨hf_s11, hm_s11, (by omega)⟩
    replace hT := hz13
    by_cases h4 : x0 < 2
    · replace hT := hT.trans (if_pos h4)
      exact j5 65535 (by omega) hT
    · replace hT := hT.trans (if_neg h4)
      exact j5 2 (by omega) hT
set_option maxRecDepth 100000 in
set_option maxHeartbeats 4000000 in
theorem c_X9_set (l : Launch) (D : va_G) (a : Nat → Nat) (cI cJ cS cT : ClassId) (s0 : gMem) (x0 : Int) (x1 : Int) (hx0 : in32 x0) (hx1 : in32 x1)  : gC l yX9_set cX9_set 4 (some .int) 2 128 D vwCl (gT cI cJ cS cT) (wdM a cI cJ) lgM kI in32 [.ref (a 0), gI x0, gI x1] s0 (f_X9_set x0 x1 s0) := by
  refine gC_of (by decide +kernel) (hwdM a cI cJ) (Nat.le_of_ble_eq_true rfl) ?_
  intro A p e R s m args below meth c hR E
  subst hR
  have hT := f_X9_set_e x0 x1 s0
  have hf_s0 : fr [2] s0 s0 := fr.rf _ _
  refine k_lv0 (lv' := [(0, .ref (a 0)), (1, gI x0), (2, gI x1)]) rfl ?_
  refine k_mr (fun hm_s0 => ?_)
  refine k_iloadn (pc := 0) E 1 dX9_set_0 rfl rfl ?_
  refine k_iconst (pc := 1) E dX9_set_1 ?_
  refine k_iconst (pc := 2) E dX9_set_2 ?_
  refine k_mr (fun hm_s0 => ?_)
  refine k_callS (pc := 3) (np := 3) (As := [gI x0, gI 0, gI 3]) (st := []) E (c_X9_in l D a cI cJ cS cT s0 x0 0 3 (by omega) (by omega) (by omega)) wm_861 wm_11 wm_859 wm_860 (by decide +kernel) ⟨by decide, by decide⟩ rfl (Nat.le_of_ble_eq_true rfl) dX9_set_3 (ro_kk (fun hr1 => ?_))
  have hp2 := f_X9_in_p x0 0 3 (by omega) (by omega) (by omega) 
  refine k_st (st' := [gI (f_X9_in x0 0 3)]) rfl ?_
  by_cases h3 : (f_X9_in x0 0 3) = 0
  · replace hT := hT.trans (if_pos h3)
    refine k_if_ne_f (pc := 6) (tgt := 12) E (by omega) dX9_set_6 (by decide) h3 ?_
    refine k_bipush (pc := 9) E dX9_set_9 (by decide) ?_
    exact k_rho hT (k_iret (pc := 11) E dX9_set_11 (by omega))
  · replace hT := hT.trans (if_neg h3)
    refine k_if_ne_t (pc := 6) (tgt := 12) E (by omega) dX9_set_6 (by decide) h3 ?_
    refine k_iloadn (pc := 12) E 2 dX9_set_12 rfl rfl ?_
    refine k_iconst (pc := 13) E dX9_set_13 ?_
    refine k_iloadn (pc := 14) E 1 dX9_set_14 rfl rfl ?_
    refine k_iconst (pc := 15) E dX9_set_15 ?_
    obtain ⟨z13, hz13, hT⟩ := gl1x hT
    have j5 : ∀ (v6 : Int), ((in32 v6)) → z13 = v6 → gK D vwCl (wdM a cI cJ) lgM A p l e { frames := 2, cells := 0, slots := 0, locals := 128 } s m args below meth c 4 (gQQ D vwCl (wdM a cI cJ) lgM A kI in32 below args s) (f_X9_set x0 x1 s0) s0 25 [(0, .ref (a 0)), (1, gI x0), (2, gI x1)] [gI v6, gI 0, gI x1] := by
      intro v6 hq hz
      have hq12 := hq
      replace hT := gl1y hT hz
      refine k_mr (fun hm_s0 => ?_)
      refine k_callS (pc := 25) (np := 3) (As := [gI x1, gI 0, gI v6]) (st := []) E (c_X9_in l D a cI cJ cS cT s0 x1 0 v6 (by omega) (by omega) (by omega)) wm_861 wm_11 wm_859 wm_860 (by decide +kernel) ⟨by decide, by decide⟩ rfl (Nat.le_of_ble_eq_true rfl) dX9_set_25 (ro_kk (fun hr7 => ?_))
      have hp8 := f_X9_in_p x1 0 v6 (by omega) (by omega) (by omega) 
      refine k_st (st' := [gI (f_X9_in x1 0 v6)]) rfl ?_
      by_cases h9 : (f_X9_in x1 0 v6) = 0
      · replace hT := hT.trans (if_pos h9)
        refine k_if_ne_f (pc := 28) (tgt := 34) E (by omega) dX9_set_28 (by decide) h9 ?_
        refine k_bipush (pc := 31) E dX9_set_31 (by decide) ?_
        exact k_rho hT (k_iret (pc := 33) E dX9_set_33 (by omega))
      · replace hT := hT.trans (if_neg h9)
        refine k_if_ne_t (pc := 28) (tgt := 34) E (by omega) dX9_set_28 (by decide) h9 ?_
        refine k_aloadn (pc := 34) E 0 dX9_set_34 rfl rfl ?_
        refine k_getf (pc := 35) (q0 := 0) (f := 2) (v := .ref (a 3)) E inX9 rfl rfl (by decide) wm_900 rfl rfl dX9_set_35 ?_
        refine k_iloadn (pc := 38) E 1 dX9_set_38 rfl rfl ?_
        refine k_iaload (pc := 39) (q0 := 3) (t0 := 0) (k := 2) (n := 4) E rfl rfl rfl (by decide) (by omega) (by omega) dX9_set_39 (fun hr10 => ?_)
        refine k_istoren (pc := 40) (lv' := [(3, gI (s0 2 x0)), (0, .ref (a 0)), (1, gI x0), (2, gI x1)]) E dX9_set_40 rfl (by decide) rfl ?_
        refine k_aloadn (pc := 41) E 1 dX9_set_41 rfl rfl ?_
        refine k_getf (pc := 42) (q0 := 0) (f := 2) (v := .ref (a 3)) E inX9 rfl rfl (by decide) wm_900 rfl rfl dX9_set_42 ?_
        refine k_iloadn (pc := 45) E 2 dX9_set_45 rfl rfl ?_
        refine k_iloadn (pc := 46) E 3 dX9_set_46 rfl rfl ?_
        refine k_iastore (pc := 47) (q0 := 3) (t0 := 0) (k := 2) (n := 4) E rfl rfl rfl rfl (by decide) (by omega) (by omega) (by omega) dX9_set_47 ?_
        obtain ⟨s11, hs11, hT⟩ := glx hT
        refine k_sg hs11.symm ?_
        have hf_s11 : fr [2] s0 s11 := hs11 ▸ hf_s0.set (by decide)
        refine k_iloadn (pc := 48) E 0 dX9_set_48 rfl rfl ?_
        exact k_rho hT (k_iret (pc := 49) E dX9_set_49 (by omega))
    replace hT := hz13
    by_cases h4 : x0 < 2
    · replace hT := hT.trans (if_pos h4)
      refine k_icmp_ge_f (pc := 16) (tgt := 24) E (by omega) (by omega) dX9_set_16 (by decide) h4 ?_
      refine k_ldc (pc := 19) (n := 65535) E dX9_set_19 wm_1021 (by decide) ?_
      refine k_goto (pc := 21) (tgt := 25) E dX9_set_21 (by decide) ?_
      exact j5 65535 (by omega) hT
    · replace hT := hT.trans (if_neg h4)
      refine k_icmp_ge_t (pc := 16) (tgt := 24) E (by omega) (by omega) dX9_set_16 (by decide) h4 ?_
      refine k_iconst (pc := 24) E dX9_set_24 ?_
      exact j5 2 (by omega) hT

def f_X9_isByte (x0 : Int) : Int := (f_X9_in x0 0 255)
theorem f_X9_isByte_e (x0 : Int) : f_X9_isByte x0 = (f_X9_in x0 0 255) := rfl
set_option maxRecDepth 100000 in
set_option maxHeartbeats 4000000 in
theorem f_X9_isByte_p (x0 : Int) (hx0 : in32 x0)  : (((f_X9_isByte x0) = 0 ∨ (f_X9_isByte x0) = 1)) ∧ (((f_X9_isByte x0) = 0 ∧ (x0 < 0 ∨ 255 < x0)) ∨ ((f_X9_isByte x0) = 1 ∧ 0 ≤ x0 ∧ x0 ≤ 255)) := by
  have hT := f_X9_isByte_e x0
  have hp2 := f_X9_in_p x0 0 255 (by omega) (by omega) (by omega) 
  rw [hT]
  exact ⟨(by first | exact Or.inl rfl | exact Or.inr rfl | omega), (by first | assumption | omega)⟩
set_option maxRecDepth 100000 in
set_option maxHeartbeats 4000000 in
theorem c_X9_isByte (l : Launch) (D : va_G) (a : Nat → Nat) (cI cJ cS cT : ClassId) (s0 : gMem) (x0 : Int) (hx0 : in32 x0)  : gC l yX9_isByte cX9_isByte 1 (some .boolean) 2 128 D vwCl (gT cI cJ cS cT) (wdM a cI cJ) lgM kI rgZ [gI x0] s0 ((f_X9_isByte x0), s0) := by
  refine gC_of (by decide +kernel) (hwdM a cI cJ) (Nat.le_of_ble_eq_true rfl) ?_
  intro A p e R s m args below meth c hR E
  subst hR
  have hT := f_X9_isByte_e x0
  refine k_lv0 (lv' := [(0, gI x0)]) rfl ?_
  refine k_iloadn (pc := 0) E 0 dX9_isByte_0 rfl rfl ?_
  refine k_iconst (pc := 1) E dX9_isByte_1 ?_
  refine k_sipush (pc := 2) E dX9_isByte_2 (by decide) ?_
  refine k_mr (fun hm_s0 => ?_)
  refine k_callS (pc := 5) (np := 3) (As := [gI x0, gI 0, gI 255]) (st := []) E (c_X9_in l D a cI cJ cS cT s0 x0 0 255 (by omega) (by omega) (by omega)) wm_861 wm_11 wm_859 wm_860 (by decide +kernel) ⟨by decide, by decide⟩ rfl (Nat.le_of_ble_eq_true rfl) dX9_isByte_5 (ro_kk (fun hr1 => ?_))
  have hp2 := f_X9_in_p x0 0 255 (by omega) (by omega) (by omega) 
  refine k_st (st' := [gI (f_X9_in x0 0 255)]) rfl ?_
  exact k_rho (congrArg (fun q => (q, s0)) hT) (k_zret (pc := 8) E dX9_isByte_8 (by first | exact Or.inl rfl | exact Or.inr rfl | omega))

def w_X9_feed_68 (c1 : Int) (c2 : Int) (c3 : Int) (c4 : Int) (c5 : Int) (c6 : Int) : Nat → Int → gMem → Int × gMem
  | 0, v21, s22 => (v21, s22)
  | n23 + 1, v21, s22 => (if v21 < c1 then (gl ((if v21 = 0 then c2 else (if v21 = 1 then c3 else (if v21 = 2 then c4 else (if v21 = 3 then c5 else c6))))) (fun v28 => gl (mset s22 3 (s22 4 0) v28) (fun s29 => gl (mset s29 4 0 ((s29 4 0) + 1)) (fun s32 => (w_X9_feed_68 c1 c2 c3 c4 c5 c6 n23 (v21 + 1) s32))))) else (v21, s22))
theorem w_X9_feed_68_s (c1 : Int) (c2 : Int) (c3 : Int) (c4 : Int) (c5 : Int) (c6 : Int) (n23 : Nat) (v21 : Int) (s22 : gMem) : w_X9_feed_68 c1 c2 c3 c4 c5 c6 (n23 + 1) v21 s22 = (if v21 < c1 then (gl ((if v21 = 0 then c2 else (if v21 = 1 then c3 else (if v21 = 2 then c4 else (if v21 = 3 then c5 else c6))))) (fun v28 => gl (mset s22 3 (s22 4 0) v28) (fun s29 => gl (mset s29 4 0 ((s29 4 0) + 1)) (fun s32 => (w_X9_feed_68 c1 c2 c3 c4 c5 c6 n23 (v21 + 1) s32))))) else (v21, s22)) := rfl
def f_X9_feed (x0 : Int) (x1 : Int) (x2 : Int) (x3 : Int) (x4 : Int) (x5 : Int) (s0 : gMem) : gRes := (if (f_X9_in x0 1 5) = 0 then ((-2), s0) else (if (f_X9_isByte x1) = 0 then ((-2), s0) else (if (f_X9_isByte x2) = 0 then ((-2), s0) else (if (f_X9_isByte x3) = 0 then ((-2), s0) else (if (f_X9_isByte x4) = 0 then ((-2), s0) else (if (f_X9_isByte x5) = 0 then ((-2), s0) else (if 160 < ((s0 4 0) + x0) then ((-4), s0) else (gl2 (w_X9_feed_68 x0 x1 x2 x3 x4 x5 6 0 s0) (fun v66 s67 => ((s67 4 0), s67))))))))))
theorem f_X9_feed_e (x0 : Int) (x1 : Int) (x2 : Int) (x3 : Int) (x4 : Int) (x5 : Int) (s0 : gMem) : f_X9_feed x0 x1 x2 x3 x4 x5 s0 = (if (f_X9_in x0 1 5) = 0 then ((-2), s0) else (if (f_X9_isByte x1) = 0 then ((-2), s0) else (if (f_X9_isByte x2) = 0 then ((-2), s0) else (if (f_X9_isByte x3) = 0 then ((-2), s0) else (if (f_X9_isByte x4) = 0 then ((-2), s0) else (if (f_X9_isByte x5) = 0 then ((-2), s0) else (if 160 < ((s0 4 0) + x0) then ((-4), s0) else (gl2 (w_X9_feed_68 x0 x1 x2 x3 x4 x5 6 0 s0) (fun v66 s67 => ((s67 4 0), s67)))))))))) := rfl
set_option maxRecDepth 100000 in
set_option maxHeartbeats 4000000 in
theorem f_X9_feed_p (x0 : Int) (x1 : Int) (x2 : Int) (x3 : Int) (x4 : Int) (x5 : Int) (s0 : gMem) (hx0 : in32 x0) (hx1 : in32 x1) (hx2 : in32 x2) (hx3 : in32 x3) (hx4 : in32 x4) (hx5 : in32 x5) (hm_s0 : gMR lgM s0) (hpre0 : 0 ≤ s0 4 0 ∧ s0 4 0 ≤ 160) (rZ : Int) (sZ : gMem) (hres : f_X9_feed x0 x1 x2 x3 x4 x5 s0 = (rZ, sZ)) : (fr [3, 4] s0 sZ) ∧ (gMR lgM sZ) ∧ (in32 rZ) := by
  have hT := f_X9_feed_e x0 x1 x2 x3 x4 x5 s0
  have hf_s0 : fr [3, 4] s0 s0 := fr.rf _ _
  have hp2 := f_X9_in_p x0 1 5 (by omega) (by omega) (by omega) 
  by_cases h3 : (f_X9_in x0 1 5) = 0
  · replace hT := hT.trans (if_pos h3)
    obtain ⟨rfl, rfl⟩ := Prod.mk.inj (hT.symm.trans hres)
    exact ⟨hf_s0, hm_s0, (by omega)⟩
  · replace hT := hT.trans (if_neg h3)
    have hp5 := f_X9_isByte_p x1 (by omega) 
    by_cases h6 : (f_X9_isByte x1) = 0
    · replace hT := hT.trans (if_pos h6)
      obtain ⟨rfl, rfl⟩ := Prod.mk.inj (hT.symm.trans hres)
      exact ⟨hf_s0, hm_s0, (by omega)⟩
    · replace hT := hT.trans (if_neg h6)
      have hp8 := f_X9_isByte_p x2 (by omega) 
      by_cases h9 : (f_X9_isByte x2) = 0
      · replace hT := hT.trans (if_pos h9)
        obtain ⟨rfl, rfl⟩ := Prod.mk.inj (hT.symm.trans hres)
        exact ⟨hf_s0, hm_s0, (by omega)⟩
      · replace hT := hT.trans (if_neg h9)
        have hp11 := f_X9_isByte_p x3 (by omega) 
        by_cases h12 : (f_X9_isByte x3) = 0
        · replace hT := hT.trans (if_pos h12)
          obtain ⟨rfl, rfl⟩ := Prod.mk.inj (hT.symm.trans hres)
          exact ⟨hf_s0, hm_s0, (by omega)⟩
        · replace hT := hT.trans (if_neg h12)
          have hp14 := f_X9_isByte_p x4 (by omega) 
          by_cases h15 : (f_X9_isByte x4) = 0
          · replace hT := hT.trans (if_pos h15)
            obtain ⟨rfl, rfl⟩ := Prod.mk.inj (hT.symm.trans hres)
            exact ⟨hf_s0, hm_s0, (by omega)⟩
          · replace hT := hT.trans (if_neg h15)
            have hp17 := f_X9_isByte_p x5 (by omega) 
            by_cases h18 : (f_X9_isByte x5) = 0
            · replace hT := hT.trans (if_pos h18)
              obtain ⟨rfl, rfl⟩ := Prod.mk.inj (hT.symm.trans hres)
              exact ⟨hf_s0, hm_s0, (by omega)⟩
            · replace hT := hT.trans (if_neg h18)
              have hr19 := (hm_s0 4 0).1 rfl
              by_cases h20 : 160 < ((s0 4 0) + x0)
              · replace hT := hT.trans (if_pos h20)
                obtain ⟨rfl, rfl⟩ := Prod.mk.inj (hT.symm.trans hres)
                exact ⟨hf_s0, hm_s0, (by omega)⟩
              · replace hT := hT.trans (if_neg h20)
                have L41 : ∀ (n42 : Nat) (v39 : Int) (s40 : gMem), ((in32 v39) ∧ (fr [3, 4] s0 s40) ∧ (gMR lgM s40) ∧ (0 ≤ v39 ∧ v39 ≤ x0) ∧ (s40 4 0 = s0 4 0 + v39)) → x0 - v39 < (n42 : Int) → (∀ (w43 : Int) (s44 : gMem), (w_X9_feed_68 x0 x1 x2 x3 x4 x5 n42 v39 s40) = (w43, s44) → ((in32 w43) ∧ (fr [3, 4] s0 s44) ∧ (gMR lgM s44) ∧ (0 ≤ w43 ∧ w43 ≤ x0) ∧ (s44 4 0 = s0 4 0 + w43)) → (fr [3, 4] s0 sZ) ∧ (gMR lgM sZ) ∧ (in32 rZ)) → (fr [3, 4] s0 sZ) ∧ (gMR lgM sZ) ∧ (in32 rZ) := by
                  intro n42; induction n42 with
                  | zero =>
                    intro v39 s40 hq hm hk
                    exfalso
                    obtain ⟨hq60, hf_s40, hm_s40, hq61, hq62⟩ := hq
                    omega
                  | succ n42 ih =>
                    intro v39 s40 hq hm hk
                    obtain ⟨hq63, hf_s40, hm_s40, hq64, hq65⟩ := hq
                    have hT := w_X9_feed_68_s x0 x1 x2 x3 x4 x5 n42 v39 s40
                    by_cases h45 : v39 < x0
                    · replace hT := hT.trans (if_pos h45)
                      have hr46 := (hm_s40 4 0).1 rfl
                      obtain ⟨z56, hz56, hT⟩ := gl1x hT
                      have j48 : ∀ (v49 : Int), ((in32 v49)) → z56 = v49 → (fr [3, 4] s0 sZ) ∧ (gMR lgM sZ) ∧ (in32 rZ) := by
                        intro v49 hq hz
                        have hq55 := hq
                        replace hT := gl1y hT hz
                        obtain ⟨s50, hs50, hT⟩ := glx hT
                        have hf_s50 : fr [3, 4] s0 s50 := hs50 ▸ hf_s40.set (by decide)
                        have hm_s50 : gMR lgM s50 := hs50 ▸ hm_s40.set32 rfl (by omega)
                        have ht51 : s50 4 0 = s40 4 0 := by rw [hs50]; exact mset_ne _ _ _ _ _ (by decide)
                        have hr52 := (hm_s50 4 0).1 rfl
                        obtain ⟨s53, hs53, hT⟩ := glx hT
                        have hf_s53 : fr [3, 4] s0 s53 := hs53 ▸ hf_s50.set (by decide)
                        have hm_s53 : gMR lgM s53 := hs53 ▸ hm_s50.set32 rfl (by omega)
                        have ht54 : s53 4 0 = ((s50 4 0) + 1) := by rw [hs53]; exact mset_eq _ _ _ _
                        exact ih (v39 + 1) s53 ⟨(by omega), hf_s53, hm_s53, (by first | assumption | omega), (by first | assumption | omega)⟩ (by omega) (fun w43 s44 hw hi => hk w43 s44 (hT.trans hw) hi)
                      replace hT := hz56
                      by_cases h47 : v39 = 0
                      · replace hT := hT.trans (if_pos h47)
                        exact j48 x1 (by omega) hT
                      · replace hT := hT.trans (if_neg h47)
                        by_cases h57 : v39 = 1
                        · replace hT := hT.trans (if_pos h57)
                          exact j48 x2 (by omega) hT
                        · replace hT := hT.trans (if_neg h57)
                          by_cases h58 : v39 = 2
                          · replace hT := hT.trans (if_pos h58)
                            exact j48 x3 (by omega) hT
                          · replace hT := hT.trans (if_neg h58)
                            by_cases h59 : v39 = 3
                            · replace hT := hT.trans (if_pos h59)
                              exact j48 x4 (by omega) hT
                            · replace hT := hT.trans (if_neg h59)
                              exact j48 x5 (by omega) hT
                    · replace hT := hT.trans (if_neg h45)
                      exact hk v39 s40 hT ⟨(by omega), hf_s40, hm_s40, (by first | assumption | omega), (by first | assumption | omega)⟩
                refine L41 6 0 s0 ⟨(by omega), hf_s0, hm_s0, (by first | assumption | omega), (by first | assumption | omega)⟩ (by omega) (fun v66 s67 hw hq => ?_)
                obtain ⟨hq68, hf_s67, hm_s67, hq69, hq70⟩ := hq
                replace hT := gl2y hT hw
                have hr71 := (hm_s67 4 0).1 rfl
                obtain ⟨rfl, rfl⟩ := Prod.mk.inj (hT.symm.trans hres)
                exact ⟨hf_s67, hm_s67, (by omega)⟩
set_option maxRecDepth 100000 in
set_option maxHeartbeats 4000000 in
theorem c_X9_feed (l : Launch) (D : va_G) (a : Nat → Nat) (cI cJ cS cT : ClassId) (s0 : gMem) (x0 : Int) (x1 : Int) (x2 : Int) (x3 : Int) (x4 : Int) (x5 : Int) (hx0 : in32 x0) (hx1 : in32 x1) (hx2 : in32 x2) (hx3 : in32 x3) (hx4 : in32 x4) (hx5 : in32 x5) (hpre0 : 0 ≤ s0 4 0 ∧ s0 4 0 ≤ 160) : gC l yX9_feed cX9_feed 8 (some .int) 3 192 D vwCl (gT cI cJ cS cT) (wdM a cI cJ) lgM kI in32 [.ref (a 0), gI x0, gI x1, gI x2, gI x3, gI x4, gI x5] s0 (f_X9_feed x0 x1 x2 x3 x4 x5 s0) := by
  refine gC_of (by decide +kernel) (hwdM a cI cJ) (Nat.le_of_ble_eq_true rfl) ?_
  intro A p e R s m args below meth c hR E
  subst hR
  have hT := f_X9_feed_e x0 x1 x2 x3 x4 x5 s0
  have hf_s0 : fr [3, 4] s0 s0 := fr.rf _ _
  refine k_lv0 (lv' := [(0, .ref (a 0)), (1, gI x0), (2, gI x1), (3, gI x2), (4, gI x3), (5, gI x4), (6, gI x5)]) rfl ?_
  refine k_mr (fun hm_s0 => ?_)
  refine k_iloadn (pc := 0) E 1 dX9_feed_0 rfl rfl ?_
  refine k_iconst (pc := 1) E dX9_feed_1 ?_
  refine k_iconst (pc := 2) E dX9_feed_2 ?_
  refine k_mr (fun hm_s0 => ?_)
  refine k_callS (pc := 3) (np := 3) (As := [gI x0, gI 1, gI 5]) (st := []) E (c_X9_in l D a cI cJ cS cT s0 x0 1 5 (by omega) (by omega) (by omega)) wm_861 wm_11 wm_859 wm_860 (by decide +kernel) ⟨by decide, by decide⟩ rfl (Nat.le_of_ble_eq_true rfl) dX9_feed_3 (ro_kk (fun hr1 => ?_))
  have hp2 := f_X9_in_p x0 1 5 (by omega) (by omega) (by omega) 
  refine k_st (st' := [gI (f_X9_in x0 1 5)]) rfl ?_
  by_cases h3 : (f_X9_in x0 1 5) = 0
  · replace hT := hT.trans (if_pos h3)
    refine k_if_eq_t (pc := 6) (tgt := 47) E (by omega) dX9_feed_6 (by decide) h3 ?_
    refine k_bipush (pc := 47) E dX9_feed_47 (by decide) ?_
    exact k_rho hT (k_iret (pc := 49) E dX9_feed_49 (by omega))
  · replace hT := hT.trans (if_neg h3)
    refine k_if_eq_f (pc := 6) (tgt := 47) E (by omega) dX9_feed_6 (by decide) h3 ?_
    refine k_iloadn (pc := 9) E 2 dX9_feed_9 rfl rfl ?_
    refine k_mr (fun hm_s0 => ?_)
    refine k_callS (pc := 10) (np := 1) (As := [gI x1]) (st := []) E (c_X9_isByte l D a cI cJ cS cT s0 x1 (by omega)) wm_1028 wm_11 wm_1026 wm_1027 (by decide +kernel) ⟨by decide, by decide⟩ rfl (Nat.le_of_ble_eq_true rfl) dX9_feed_10 (ro_kk (fun hr4 => ?_))
    have hp5 := f_X9_isByte_p x1 (by omega) 
    refine k_st (st' := [gI (f_X9_isByte x1)]) rfl ?_
    by_cases h6 : (f_X9_isByte x1) = 0
    · replace hT := hT.trans (if_pos h6)
      refine k_if_eq_t (pc := 13) (tgt := 47) E (by omega) dX9_feed_13 (by decide) h6 ?_
      refine k_bipush (pc := 47) E dX9_feed_47 (by decide) ?_
      exact k_rho hT (k_iret (pc := 49) E dX9_feed_49 (by omega))
    · replace hT := hT.trans (if_neg h6)
      refine k_if_eq_f (pc := 13) (tgt := 47) E (by omega) dX9_feed_13 (by decide) h6 ?_
      refine k_iloadn (pc := 16) E 3 dX9_feed_16 rfl rfl ?_
      refine k_mr (fun hm_s0 => ?_)
      refine k_callS (pc := 17) (np := 1) (As := [gI x2]) (st := []) E (c_X9_isByte l D a cI cJ cS cT s0 x2 (by omega)) wm_1028 wm_11 wm_1026 wm_1027 (by decide +kernel) ⟨by decide, by decide⟩ rfl (Nat.le_of_ble_eq_true rfl) dX9_feed_17 (ro_kk (fun hr7 => ?_))
      have hp8 := f_X9_isByte_p x2 (by omega) 
      refine k_st (st' := [gI (f_X9_isByte x2)]) rfl ?_
      by_cases h9 : (f_X9_isByte x2) = 0
      · replace hT := hT.trans (if_pos h9)
        refine k_if_eq_t (pc := 20) (tgt := 47) E (by omega) dX9_feed_20 (by decide) h9 ?_
        refine k_bipush (pc := 47) E dX9_feed_47 (by decide) ?_
        exact k_rho hT (k_iret (pc := 49) E dX9_feed_49 (by omega))
      · replace hT := hT.trans (if_neg h9)
        refine k_if_eq_f (pc := 20) (tgt := 47) E (by omega) dX9_feed_20 (by decide) h9 ?_
        refine k_iload (pc := 23) E 4 dX9_feed_23 rfl ?_
        refine k_mr (fun hm_s0 => ?_)
        refine k_callS (pc := 25) (np := 1) (As := [gI x3]) (st := []) E (c_X9_isByte l D a cI cJ cS cT s0 x3 (by omega)) wm_1028 wm_11 wm_1026 wm_1027 (by decide +kernel) ⟨by decide, by decide⟩ rfl (Nat.le_of_ble_eq_true rfl) dX9_feed_25 (ro_kk (fun hr10 => ?_))
        have hp11 := f_X9_isByte_p x3 (by omega) 
        refine k_st (st' := [gI (f_X9_isByte x3)]) rfl ?_
        by_cases h12 : (f_X9_isByte x3) = 0
        · replace hT := hT.trans (if_pos h12)
          refine k_if_eq_t (pc := 28) (tgt := 47) E (by omega) dX9_feed_28 (by decide) h12 ?_
          refine k_bipush (pc := 47) E dX9_feed_47 (by decide) ?_
          exact k_rho hT (k_iret (pc := 49) E dX9_feed_49 (by omega))
        · replace hT := hT.trans (if_neg h12)
          refine k_if_eq_f (pc := 28) (tgt := 47) E (by omega) dX9_feed_28 (by decide) h12 ?_
          refine k_iload (pc := 31) E 5 dX9_feed_31 rfl ?_
          refine k_mr (fun hm_s0 => ?_)
          refine k_callS (pc := 33) (np := 1) (As := [gI x4]) (st := []) E (c_X9_isByte l D a cI cJ cS cT s0 x4 (by omega)) wm_1028 wm_11 wm_1026 wm_1027 (by decide +kernel) ⟨by decide, by decide⟩ rfl (Nat.le_of_ble_eq_true rfl) dX9_feed_33 (ro_kk (fun hr13 => ?_))
          have hp14 := f_X9_isByte_p x4 (by omega) 
          refine k_st (st' := [gI (f_X9_isByte x4)]) rfl ?_
          by_cases h15 : (f_X9_isByte x4) = 0
          · replace hT := hT.trans (if_pos h15)
            refine k_if_eq_t (pc := 36) (tgt := 47) E (by omega) dX9_feed_36 (by decide) h15 ?_
            refine k_bipush (pc := 47) E dX9_feed_47 (by decide) ?_
            exact k_rho hT (k_iret (pc := 49) E dX9_feed_49 (by omega))
          · replace hT := hT.trans (if_neg h15)
            refine k_if_eq_f (pc := 36) (tgt := 47) E (by omega) dX9_feed_36 (by decide) h15 ?_
            refine k_iload (pc := 39) E 6 dX9_feed_39 rfl ?_
            refine k_mr (fun hm_s0 => ?_)
            refine k_callS (pc := 41) (np := 1) (As := [gI x5]) (st := []) E (c_X9_isByte l D a cI cJ cS cT s0 x5 (by omega)) wm_1028 wm_11 wm_1026 wm_1027 (by decide +kernel) ⟨by decide, by decide⟩ rfl (Nat.le_of_ble_eq_true rfl) dX9_feed_41 (ro_kk (fun hr16 => ?_))
            have hp17 := f_X9_isByte_p x5 (by omega) 
            refine k_st (st' := [gI (f_X9_isByte x5)]) rfl ?_
            by_cases h18 : (f_X9_isByte x5) = 0
            · replace hT := hT.trans (if_pos h18)
              refine k_if_ne_f (pc := 44) (tgt := 50) E (by omega) dX9_feed_44 (by decide) h18 ?_
              refine k_bipush (pc := 47) E dX9_feed_47 (by decide) ?_
              exact k_rho hT (k_iret (pc := 49) E dX9_feed_49 (by omega))
            · replace hT := hT.trans (if_neg h18)
              refine k_if_ne_t (pc := 44) (tgt := 50) E (by omega) dX9_feed_44 (by decide) h18 ?_
              refine k_aloadn (pc := 50) E 0 dX9_feed_50 rfl rfl ?_
              refine k_getfI (pc := 51) (q0 := 0) (f := 4) (k := 4) E inX9 rfl rfl (by decide) wm_902 rfl rfl rfl dX9_feed_51 (fun hr19 => ?_)
              refine k_iloadn (pc := 54) E 1 dX9_feed_54 rfl rfl ?_
              refine k_iadd (pc := 55) E dX9_feed_55 ?_
              refine k_sipush (pc := 56) E dX9_feed_56 (by decide) ?_
              by_cases h20 : 160 < ((s0 4 0) + x0)
              · replace hT := hT.trans (if_pos h20)
                refine k_icmp_le_f (pc := 59) (tgt := 65) E (by omega) (by omega) dX9_feed_59 (by decide) h20 ?_
                refine k_bipush (pc := 62) E dX9_feed_62 (by decide) ?_
                exact k_rho hT (k_iret (pc := 64) E dX9_feed_64 (by omega))
              · replace hT := hT.trans (if_neg h20)
                refine k_icmp_le_t (pc := 59) (tgt := 65) E (by omega) (by omega) dX9_feed_59 (by decide) h20 ?_
                refine k_iconst (pc := 65) E dX9_feed_65 ?_
                refine k_istore (pc := 66) (lv' := [(7, gI 0), (0, .ref (a 0)), (1, gI x0), (2, gI x1), (3, gI x2), (4, gI x3), (5, gI x4), (6, gI x5)]) E dX9_feed_66 (by decide) rfl ?_
                have L41 : ∀ (n42 : Nat) (v39 : Int) (s40 : gMem), ((in32 v39) ∧ (fr [3, 4] s0 s40) ∧ (0 ≤ v39 ∧ v39 ≤ x0) ∧ (s40 4 0 = s0 4 0 + v39)) → x0 - v39 < (n42 : Int) → (∀ (w43 : Int) (s44 : gMem), (w_X9_feed_68 x0 x1 x2 x3 x4 x5 n42 v39 s40) = (w43, s44) → ((in32 w43) ∧ (fr [3, 4] s0 s44) ∧ (0 ≤ w43 ∧ w43 ≤ x0) ∧ (s44 4 0 = s0 4 0 + w43)) → gK D vwCl (wdM a cI cJ) lgM A p l e { frames := 3, cells := 0, slots := 0, locals := 192 } s m args below meth c 8 (gQQ D vwCl (wdM a cI cJ) lgM A kI in32 below args s) (f_X9_feed x0 x1 x2 x3 x4 x5 s0) s44 142 [(0, .ref (a 0))] []) → gK D vwCl (wdM a cI cJ) lgM A p l e { frames := 3, cells := 0, slots := 0, locals := 192 } s m args below meth c 8 (gQQ D vwCl (wdM a cI cJ) lgM A kI in32 below args s) (f_X9_feed x0 x1 x2 x3 x4 x5 s0) s40 68 [(0, .ref (a 0)), (1, gI x0), (2, gI x1), (3, gI x2), (4, gI x3), (5, gI x4), (6, gI x5), (7, gI v39)] [] := by
                  intro n42; induction n42 with
                  | zero =>
                    intro v39 s40 hq hm hk
                    exfalso
                    obtain ⟨hq60, hf_s40, hq61, hq62⟩ := hq
                    omega
                  | succ n42 ih =>
                    intro v39 s40 hq hm hk
                    obtain ⟨hq63, hf_s40, hq64, hq65⟩ := hq
                    have hT := w_X9_feed_68_s x0 x1 x2 x3 x4 x5 n42 v39 s40
                    refine k_iload (pc := 68) E 7 dX9_feed_68 rfl ?_
                    refine k_iloadn (pc := 70) E 1 dX9_feed_70 rfl rfl ?_
                    by_cases h45 : v39 < x0
                    · replace hT := hT.trans (if_pos h45)
                      refine k_icmp_ge_f (pc := 71) (tgt := 142) E (by omega) (by omega) dX9_feed_71 (by decide) h45 ?_
                      refine k_aloadn (pc := 74) E 0 dX9_feed_74 rfl rfl ?_
                      refine k_getf (pc := 75) (q0 := 0) (f := 3) (v := .ref (a 4)) E inX9 rfl rfl (by decide) wm_901 rfl rfl dX9_feed_75 ?_
                      refine k_aloadn (pc := 78) E 0 dX9_feed_78 rfl rfl ?_
                      refine k_getfI (pc := 79) (q0 := 0) (f := 4) (k := 4) E inX9 rfl rfl (by decide) wm_902 rfl rfl rfl dX9_feed_79 (fun hr46 => ?_)
                      refine k_iload (pc := 82) E 7 dX9_feed_82 rfl ?_
                      obtain ⟨z56, hz56, hT⟩ := gl1x hT
                      have j48 : ∀ (v49 : Int), ((in32 v49)) → z56 = v49 → gK D vwCl (wdM a cI cJ) lgM A p l e { frames := 3, cells := 0, slots := 0, locals := 192 } s m args below meth c 8 (gQQ D vwCl (wdM a cI cJ) lgM A kI in32 below args s) (f_X9_feed x0 x1 x2 x3 x4 x5 s0) s40 125 [(0, .ref (a 0)), (1, gI x0), (2, gI x1), (3, gI x2), (4, gI x3), (5, gI x4), (6, gI x5), (7, gI v39)] [gI v49, gI (s40 4 0), .ref (a 4)] := by
                        intro v49 hq hz
                        have hq55 := hq
                        replace hT := gl1y hT hz
                        refine k_iastore (pc := 125) (q0 := 4) (t0 := 0) (k := 3) (n := 160) E rfl rfl rfl rfl (by decide) (by omega) (by omega) (by omega) dX9_feed_125 ?_
                        obtain ⟨s50, hs50, hT⟩ := glx hT
                        refine k_sg hs50.symm ?_
                        have hf_s50 : fr [3, 4] s0 s50 := hs50 ▸ hf_s40.set (by decide)
                        have ht51 : s50 4 0 = s40 4 0 := by rw [hs50]; exact mset_ne _ _ _ _ _ (by decide)
                        refine k_aloadn (pc := 126) E 0 dX9_feed_126 rfl rfl ?_
                        refine k_dup (pc := 127) E dX9_feed_127 rfl ?_
                        refine k_getfI (pc := 128) (q0 := 0) (f := 4) (k := 4) E inX9 rfl rfl (by decide) wm_902 rfl rfl rfl dX9_feed_128 (fun hr52 => ?_)
                        refine k_iconst (pc := 131) E dX9_feed_131 ?_
                        refine k_iadd (pc := 132) E dX9_feed_132 ?_
                        refine k_putfI (pc := 133) (q0 := 0) (f := 4) (k := 4) E tyX9 tyX9_ok nmX9 inX9 rfl rfl (by decide) wm_902 rfl rfl rfl (Nat.le_of_ble_eq_true rfl) rfl rfl (by omega) dX9_feed_133 ?_
                        obtain ⟨s53, hs53, hT⟩ := glx hT
                        refine k_sg hs53.symm ?_
                        have hf_s53 : fr [3, 4] s0 s53 := hs53 ▸ hf_s50.set (by decide)
                        have ht54 : s53 4 0 = ((s50 4 0) + 1) := by rw [hs53]; exact mset_eq _ _ _ _
                        refine k_iinc (pc := 136) (lv' := [(7, gI (v39 + 1)), (0, .ref (a 0)), (1, gI x0), (2, gI x1), (3, gI x2), (4, gI x3), (5, gI x4), (6, gI x5)]) E 7 dX9_feed_136 rfl (by decide) rfl ?_
                        refine k_goto (pc := 139) (tgt := 68) E dX9_feed_139 (by decide) ?_
                        refine k_lv (lv' := [(0, .ref (a 0)), (1, gI x0), (2, gI x1), (3, gI x2), (4, gI x3), (5, gI x4), (6, gI x5), (7, gI (v39 + 1))]) [1, 2, 3, 4, 5, 6, 7, 0] rfl ?_
                        exact ih (v39 + 1) s53 ⟨(by omega), hf_s53, (by first | assumption | omega), (by first | assumption | omega)⟩ (by omega) (fun w43 s44 hw hi => hk w43 s44 (hT.trans hw) hi)
                      replace hT := hz56
                      by_cases h47 : v39 = 0
                      · replace hT := hT.trans (if_pos h47)
                        refine k_if_ne_f (pc := 84) (tgt := 91) E (by omega) dX9_feed_84 (by decide) h47 ?_
                        refine k_iloadn (pc := 87) E 2 dX9_feed_87 rfl rfl ?_
                        refine k_goto (pc := 88) (tgt := 125) E dX9_feed_88 (by decide) ?_
                        exact j48 x1 (by omega) hT
                      · replace hT := hT.trans (if_neg h47)
                        refine k_if_ne_t (pc := 84) (tgt := 91) E (by omega) dX9_feed_84 (by decide) h47 ?_
                        refine k_iload (pc := 91) E 7 dX9_feed_91 rfl ?_
                        refine k_iconst (pc := 93) E dX9_feed_93 ?_
                        by_cases h57 : v39 = 1
                        · replace hT := hT.trans (if_pos h57)
                          refine k_icmp_ne_f (pc := 94) (tgt := 101) E (by omega) (by omega) dX9_feed_94 (by decide) h57 ?_
                          refine k_iloadn (pc := 97) E 3 dX9_feed_97 rfl rfl ?_
                          refine k_goto (pc := 98) (tgt := 125) E dX9_feed_98 (by decide) ?_
                          exact j48 x2 (by omega) hT
                        · replace hT := hT.trans (if_neg h57)
                          refine k_icmp_ne_t (pc := 94) (tgt := 101) E (by omega) (by omega) dX9_feed_94 (by decide) h57 ?_
                          refine k_iload (pc := 101) E 7 dX9_feed_101 rfl ?_
                          refine k_iconst (pc := 103) E dX9_feed_103 ?_
                          by_cases h58 : v39 = 2
                          · replace hT := hT.trans (if_pos h58)
                            refine k_icmp_ne_f (pc := 104) (tgt := 112) E (by omega) (by omega) dX9_feed_104 (by decide) h58 ?_
                            refine k_iload (pc := 107) E 4 dX9_feed_107 rfl ?_
                            refine k_goto (pc := 109) (tgt := 125) E dX9_feed_109 (by decide) ?_
                            exact j48 x3 (by omega) hT
                          · replace hT := hT.trans (if_neg h58)
                            refine k_icmp_ne_t (pc := 104) (tgt := 112) E (by omega) (by omega) dX9_feed_104 (by decide) h58 ?_
                            refine k_iload (pc := 112) E 7 dX9_feed_112 rfl ?_
                            refine k_iconst (pc := 114) E dX9_feed_114 ?_
                            by_cases h59 : v39 = 3
                            · replace hT := hT.trans (if_pos h59)
                              refine k_icmp_ne_f (pc := 115) (tgt := 123) E (by omega) (by omega) dX9_feed_115 (by decide) h59 ?_
                              refine k_iload (pc := 118) E 5 dX9_feed_118 rfl ?_
                              refine k_goto (pc := 120) (tgt := 125) E dX9_feed_120 (by decide) ?_
                              exact j48 x4 (by omega) hT
                            · replace hT := hT.trans (if_neg h59)
                              refine k_icmp_ne_t (pc := 115) (tgt := 123) E (by omega) (by omega) dX9_feed_115 (by decide) h59 ?_
                              refine k_iload (pc := 123) E 6 dX9_feed_123 rfl ?_
                              exact j48 x5 (by omega) hT
                    · replace hT := hT.trans (if_neg h45)
                      refine k_icmp_ge_t (pc := 71) (tgt := 142) E (by omega) (by omega) dX9_feed_71 (by decide) h45 ?_
                      refine k_lv (lv' := [(0, .ref (a 0))]) [0] rfl ?_
                      exact hk v39 s40 hT ⟨(by omega), hf_s40, (by first | assumption | omega), (by first | assumption | omega)⟩
                refine k_lv (lv' := [(0, .ref (a 0)), (1, gI x0), (2, gI x1), (3, gI x2), (4, gI x3), (5, gI x4), (6, gI x5), (7, gI 0)]) [1, 2, 3, 4, 5, 6, 7, 0] rfl ?_
                refine L41 6 0 s0 ⟨(by omega), hf_s0, (by first | assumption | omega), (by first | assumption | omega)⟩ (by omega) (fun v66 s67 hw hq => ?_)
                obtain ⟨hq68, hf_s67, hq69, hq70⟩ := hq
                replace hT := gl2y hT hw
                refine k_aloadn (pc := 142) E 0 dX9_feed_142 rfl rfl ?_
                refine k_getfI (pc := 143) (q0 := 0) (f := 4) (k := 4) E inX9 rfl rfl (by decide) wm_902 rfl rfl rfl dX9_feed_143 (fun hr71 => ?_)
                exact k_rho hT (k_iret (pc := 146) E dX9_feed_146 (by omega))
