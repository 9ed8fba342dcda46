theorem wm_38 : Cond.fieldLink RX7 23 "AGapEveryTwenty$Texts" "many" "I" ∈ gBIG := gm (List.mem_of_getElem? (i := 92) (by decide +kernel)) (by decide +kernel)
theorem wm_57 : Cond.fieldLink RX3 15 "AGapEveryTwenty$Reader" "code" "[I" ∈ gBIG := gm (List.mem_of_getElem? (i := 111) (by decide +kernel)) (by decide +kernel)
theorem wm_63 : Cond.fieldLink RX3 28 "AGapEveryTwenty$Reader" "codes" "I" ∈ gBIG := gm (List.mem_of_getElem? (i := 117) (by decide +kernel)) (by decide +kernel)
theorem wm_64 : Cond.fieldLink RX3 25 "AGapEveryTwenty$Reader" "at" "I" ∈ gBIG := gm (List.mem_of_getElem? (i := 118) (by decide +kernel)) (by decide +kernel)
theorem wm_65 : Cond.fieldLink RX3 47 "AGapEveryTwenty$Reader" "token" "I" ∈ gBIG := gm (List.mem_of_getElem? (i := 119) (by decide +kernel)) (by decide +kernel)
theorem wm_66 : Cond.fieldLink RX3 44 "AGapEveryTwenty$Reader" "tokenAt" "I" ∈ gBIG := gm (List.mem_of_getElem? (i := 120) (by decide +kernel)) (by decide +kernel)
theorem wm_67 : Cond.fieldLink RX3 76 "AGapEveryTwenty$Reader" "number" "I" ∈ gBIG := gm (List.mem_of_getElem? (i := 121) (by decide +kernel)) (by decide +kernel)
theorem wm_68 : Cond.fieldLink RX3 31 "AGapEveryTwenty$Reader" "fault" "I" ∈ gBIG := gm (List.mem_of_getElem? (i := 122) (by decide +kernel)) (by decide +kernel)
theorem wm_411 : Cond.methodLink RX3 86 yX3_isDigit ∈ gBIG := gm (List.mem_of_getElem? (i := 465) (by decide +kernel)) (by decide +kernel)
theorem wm_412 : Cond.static yX3_isDigit ∈ gBIG := gm (List.mem_of_getElem? (i := 466) (by decide +kernel)) (by decide +kernel)
theorem wm_413 : Cond.code yX3_isDigit cX3_isDigit 1 (some .boolean) ∈ gBIG := gm (List.mem_of_getElem? (i := 467) (by decide +kernel)) (by decide +kernel)
theorem wm_465 : Cond.methodLink RX7 27 arraycopyName ∈ gBIG := gm (List.mem_of_getElem? (i := 519) (by decide +kernel)) (by decide +kernel)
def RCO (s : gMem) : Prop := ∀ j, -15 ≤ s 34 j ∧ s 34 j ≤ 9999
theorem RCO_set {s : gMem} {i v : Int} (h : RCO s) (hv : -15 ≤ v ∧ v ≤ 9999) : RCO (mset s 34 i v) := fun j => by
  rw [mset_at]
  split
  · exact hv
  · exact h j
theorem RCO_fr {s s1 : gMem} (h : RCO s) (e : ∀ k ∈ [34], s1 k = s k) : RCO s1 := fun j => by rw [e 34 (by decide)]; exact h j
def RBE (s : gMem) : Prop := ∀ j, 0 ≤ s 35 j ∧ s 35 j ≤ 160
theorem RBE_set {s : gMem} {i v : Int} (h : RBE s) (hv : 0 ≤ v ∧ v ≤ 160) : RBE (mset s 35 i v) := fun j => by
  rw [mset_at]
  split
  · exact hv
  · exact h j
theorem RBE_fr {s s1 : gMem} (h : RBE s) (e : ∀ k ∈ [35], s1 k = s k) : RBE s1 := fun j => by rw [e 35 (by decide)]; exact h j
def TK (s : gMem) : Prop := (0 ≤ s 55 0 ∧ s 55 0 ≤ 267) ∧ (s 55 0 = 2 → 0 ≤ s 57 0 ∧ s 57 0 ≤ 9999) ∧ (0 ≤ s 52 0 ∧ s 52 0 ≤ 160) ∧ (0 ≤ s 54 0 ∧ s 54 0 ≤ s 52 0) ∧ (0 ≤ s 53 0 ∧ s 53 0 ≤ 160) ∧ (0 ≤ s 56 0 ∧ s 56 0 ≤ 160) ∧ (-1 ≤ s 58 0 ∧ s 58 0 ≤ 160)
theorem TK_fr {s s1 : gMem} (h : TK s) (e : ∀ k ∈ [52, 53, 54, 55, 56, 57, 58], s1 k = s k) : TK s1 := by
  unfold TK
  rw [e 52 (by decide), e 53 (by decide), e 54 (by decide), e 55 (by decide), e 56 (by decide), e 57 (by decide), e 58 (by decide)]
  exact h
/-! reading a text: the class -/
theorem iwr_in {x : Int} (h : -2147483648 ≤ x ∧ x ≤ 2147483647) : iwr x = x := iwr_of (by omega)

def f_X3_isLetter (x0 : Int) : Int := (if x0 < 97 then 0 else (if 122 < x0 then 0 else 1))
theorem f_X3_isLetter_e (x0 : Int) : f_X3_isLetter x0 = (if x0 < 97 then 0 else (if 122 < x0 then 0 else 1)) := rfl
set_option maxRecDepth 100000 in
set_option maxHeartbeats 4000000 in
theorem f_X3_isLetter_p (x0 : Int) (hx0 : in32 x0)  : (((f_X3_isLetter x0) = 0 ∨ (f_X3_isLetter x0) = 1)) ∧ (((f_X3_isLetter x0) = 0 ∧ (x0 < 97 ∨ 122 < x0)) ∨ ((f_X3_isLetter x0) = 1 ∧ 97 ≤ x0 ∧ x0 ≤ 122)) := by
  have hT := f_X3_isLetter_e x0
  by_cases h1 : x0 < 97
  · replace hT := hT.trans (if_pos h1)
    rw [hT]
    exact ⟨(by first | exact Or.inl rfl | exact Or.inr rfl | omega), (by first | assumption | omega)⟩
  · replace hT := hT.trans (if_neg h1)
    by_cases h2 : 122 < x0
    · replace hT := hT.trans (if_pos h2)
      rw [hT]
      exact ⟨(by first | exact Or.inl rfl | exact Or.inr rfl | omega), (by first | assumption | omega)⟩
    · replace hT := hT.trans (if_neg h2)
      rw [hT]
      exact ⟨(by first | exact Or.inl rfl | exact Or.inr rfl | omega), (by first | assumption | omega)⟩
set_option maxRecDepth 100000 in
set_option maxHeartbeats 4000000 in
theorem c_X3_isLetter (l : Launch) (D : va_G) (a : Nat → Nat) (cI cJ cS cT : ClassId) (s0 : gMem) (x0 : Int) (hx0 : in32 x0)  : gC l yX3_isLetter cX3_isLetter 1 (some .boolean) 1 64 D vwCl (gT cI cJ cS cT) (wdX a cI cJ cS cT) lgX kI rgZ [gI x0] s0 ((f_X3_isLetter x0), s0) := by
  refine gC_of (by decide +kernel) (hwdX a cI cJ cS cT) (Nat.le_of_ble_eq_true rfl) ?_
  intro A p e R s m args below meth c hR E
  subst hR
  have hT := f_X3_isLetter_e x0
  refine k_lv0 (lv' := [(0, gI x0)]) rfl ?_
  refine k_iloadn (pc := 0) E 0 dX3_isLetter_0 rfl rfl ?_
  refine k_bipush (pc := 1) E dX3_isLetter_1 (by decide) ?_
  by_cases h1 : x0 < 97
  · replace hT := hT.trans (if_pos h1)
    refine k_icmp_lt_t (pc := 3) (tgt := 16) E (by omega) (by omega) dX3_isLetter_3 (by decide) h1 ?_
    refine k_iconst (pc := 16) E dX3_isLetter_16 ?_
    exact k_rho (congrArg (fun q => (q, s0)) hT) (k_zret (pc := 17) E dX3_isLetter_17 (by first | exact Or.inl rfl | exact Or.inr rfl | omega))
  · replace hT := hT.trans (if_neg h1)
    refine k_icmp_lt_f (pc := 3) (tgt := 16) E (by omega) (by omega) dX3_isLetter_3 (by decide) h1 ?_
    refine k_iloadn (pc := 6) E 0 dX3_isLetter_6 rfl rfl ?_
    refine k_bipush (pc := 7) E dX3_isLetter_7 (by decide) ?_
    by_cases h2 : 122 < x0
    · replace hT := hT.trans (if_pos h2)
      refine k_icmp_gt_t (pc := 9) (tgt := 16) E (by omega) (by omega) dX3_isLetter_9 (by decide) h2 ?_
      refine k_iconst (pc := 16) E dX3_isLetter_16 ?_
      exact k_rho (congrArg (fun q => (q, s0)) hT) (k_zret (pc := 17) E dX3_isLetter_17 (by first | exact Or.inl rfl | exact Or.inr rfl | omega))
    · replace hT := hT.trans (if_neg h2)
      refine k_icmp_gt_f (pc := 9) (tgt := 16) E (by omega) (by omega) dX3_isLetter_9 (by decide) h2 ?_
      refine k_iconst (pc := 12) E dX3_isLetter_12 ?_
      refine k_goto (pc := 13) (tgt := 17) E dX3_isLetter_13 (by decide) ?_
      exact k_rho (congrArg (fun q => (q, s0)) hT) (k_zret (pc := 17) E dX3_isLetter_17 (by first | exact Or.inl rfl | exact Or.inr rfl | omega))

def f_X3_isDigit (x0 : Int) : Int := (if x0 < 48 then 0 else (if 57 < x0 then 0 else 1))
theorem f_X3_isDigit_e (x0 : Int) : f_X3_isDigit x0 = (if x0 < 48 then 0 else (if 57 < x0 then 0 else 1)) := rfl
set_option maxRecDepth 100000 in
set_option maxHeartbeats 4000000 in
theorem f_X3_isDigit_p (x0 : Int) (hx0 : in32 x0)  : (((f_X3_isDigit x0) = 0 ∨ (f_X3_isDigit x0) = 1)) ∧ (((f_X3_isDigit x0) = 0 ∧ (x0 < 48 ∨ 57 < x0)) ∨ ((f_X3_isDigit x0) = 1 ∧ 48 ≤ x0 ∧ x0 ≤ 57)) := by
  have hT := f_X3_isDigit_e x0
  by_cases h1 : x0 < 48
  · replace hT := hT.trans (if_pos h1)
    rw [hT]
    exact ⟨(by first | exact Or.inl rfl | exact Or.inr rfl | omega), (by first | assumption | omega)⟩
  · replace hT := hT.trans (if_neg h1)
    by_cases h2 : 57 < x0
    · replace hT := hT.trans (if_pos h2)
      rw [hT]
      exact ⟨(by first | exact Or.inl rfl | exact Or.inr rfl | omega), (by first | assumption | omega)⟩
    · replace hT := hT.trans (if_neg h2)
      rw [hT]
      exact ⟨(by first | exact Or.inl rfl | exact Or.inr rfl | omega), (by first | assumption | omega)⟩
set_option maxRecDepth 100000 in
set_option maxHeartbeats 4000000 in
theorem c_X3_isDigit (l : Launch) (D : va_G) (a : Nat → Nat) (cI cJ cS cT : ClassId) (s0 : gMem) (x0 : Int) (hx0 : in32 x0)  : gC l yX3_isDigit cX3_isDigit 1 (some .boolean) 1 64 D vwCl (gT cI cJ cS cT) (wdX a cI cJ cS cT) lgX kI rgZ [gI x0] s0 ((f_X3_isDigit x0), s0) := by
  refine gC_of (by decide +kernel) (hwdX a cI cJ cS cT) (Nat.le_of_ble_eq_true rfl) ?_
  intro A p e R s m args below meth c hR E
  subst hR
  have hT := f_X3_isDigit_e x0
  refine k_lv0 (lv' := [(0, gI x0)]) rfl ?_
  refine k_iloadn (pc := 0) E 0 dX3_isDigit_0 rfl rfl ?_
  refine k_bipush (pc := 1) E dX3_isDigit_1 (by decide) ?_
  by_cases h1 : x0 < 48
  · replace hT := hT.trans (if_pos h1)
    refine k_icmp_lt_t (pc := 3) (tgt := 16) E (by omega) (by omega) dX3_isDigit_3 (by decide) h1 ?_
    refine k_iconst (pc := 16) E dX3_isDigit_16 ?_
    exact k_rho (congrArg (fun q => (q, s0)) hT) (k_zret (pc := 17) E dX3_isDigit_17 (by first | exact Or.inl rfl | exact Or.inr rfl | omega))
  · replace hT := hT.trans (if_neg h1)
    refine k_icmp_lt_f (pc := 3) (tgt := 16) E (by omega) (by omega) dX3_isDigit_3 (by decide) h1 ?_
    refine k_iloadn (pc := 6) E 0 dX3_isDigit_6 rfl rfl ?_
    refine k_bipush (pc := 7) E dX3_isDigit_7 (by decide) ?_
    by_cases h2 : 57 < x0
    · replace hT := hT.trans (if_pos h2)
      refine k_icmp_gt_t (pc := 9) (tgt := 16) E (by omega) (by omega) dX3_isDigit_9 (by decide) h2 ?_
      refine k_iconst (pc := 16) E dX3_isDigit_16 ?_
      exact k_rho (congrArg (fun q => (q, s0)) hT) (k_zret (pc := 17) E dX3_isDigit_17 (by first | exact Or.inl rfl | exact Or.inr rfl | omega))
    · replace hT := hT.trans (if_neg h2)
      refine k_icmp_gt_f (pc := 9) (tgt := 16) E (by omega) (by omega) dX3_isDigit_9 (by decide) h2 ?_
      refine k_iconst (pc := 12) E dX3_isDigit_12 ?_
      refine k_goto (pc := 13) (tgt := 17) E dX3_isDigit_13 (by decide) ?_
      exact k_rho (congrArg (fun q => (q, s0)) hT) (k_zret (pc := 17) E dX3_isDigit_17 (by first | exact Or.inl rfl | exact Or.inr rfl | omega))

def f_X3_isSign (x0 : Int) : Int := (gj (fun j2c => (if x0 = 40 then j2c else (if x0 = 41 then j2c else (if x0 = 59 then j2c else (if x0 = 43 then j2c else (if x0 = 45 then j2c else (if x0 = 42 then j2c else (if x0 = 60 then j2c else (if x0 = 61 then j2c else 0))))))))) (1))
theorem f_X3_isSign_e (x0 : Int) : f_X3_isSign x0 = (gj (fun j2c => (if x0 = 40 then j2c else (if x0 = 41 then j2c else (if x0 = 59 then j2c else (if x0 = 43 then j2c else (if x0 = 45 then j2c else (if x0 = 42 then j2c else (if x0 = 60 then j2c else (if x0 = 61 then j2c else 0))))))))) (1)) := rfl
set_option maxRecDepth 100000 in
set_option maxHeartbeats 4000000 in
theorem f_X3_isSign_p (x0 : Int) (hx0 : in32 x0)  : (((f_X3_isSign x0) = 0 ∨ (f_X3_isSign x0) = 1)) ∧ ((f_X3_isSign x0) = 1 → 40 ≤ x0 ∧ x0 ≤ 61) := by
  have hT := f_X3_isSign_e x0
  obtain ⟨j2c, hj2c, hT⟩ := gjx hT
  have j2 : (True) → (f_X3_isSign x0) = j2c  → (((f_X3_isSign x0) = 0 ∨ (f_X3_isSign x0) = 1)) ∧ ((f_X3_isSign x0) = 1 → 40 ≤ x0 ∧ x0 ≤ 61) := by
    intro  hq hT
    rw [hj2c] at hT
    rw [hT]
    exact ⟨(by first | exact Or.inl rfl | exact Or.inr rfl | omega), (by first | assumption | omega)⟩
  by_cases h1 : x0 = 40
  · replace hT := hT.trans (if_pos h1)
    exact j2  trivial hT
  · replace hT := hT.trans (if_neg h1)
    by_cases h3 : x0 = 41
    · replace hT := hT.trans (if_pos h3)
      exact j2  trivial hT
    · replace hT := hT.trans (if_neg h3)
      by_cases h4 : x0 = 59
      · replace hT := hT.trans (if_pos h4)
        exact j2  trivial hT
      · replace hT := hT.trans (if_neg h4)
        by_cases h5 : x0 = 43
        · replace hT := hT.trans (if_pos h5)
          exact j2  trivial hT
        · replace hT := hT.trans (if_neg h5)
          by_cases h6 : x0 = 45
          · replace hT := hT.trans (if_pos h6)
            exact j2  trivial hT
          · replace hT := hT.trans (if_neg h6)
            by_cases h7 : x0 = 42
            · replace hT := hT.trans (if_pos h7)
              exact j2  trivial hT
            · replace hT := hT.trans (if_neg h7)
              by_cases h8 : x0 = 60
              · replace hT := hT.trans (if_pos h8)
                exact j2  trivial hT
              · replace hT := hT.trans (if_neg h8)
                by_cases h9 : x0 = 61
                · replace hT := hT.trans (if_pos h9)
                  exact j2  trivial hT
                · replace hT := hT.trans (if_neg h9)
                  rw [hT]
                  exact ⟨(by first | exact Or.inl rfl | exact Or.inr rfl | omega), (by first | assumption | omega)⟩
set_option maxRecDepth 100000 in
set_option maxHeartbeats 4000000 in
theorem c_X3_isSign (l : Launch) (D : va_G) (a : Nat → Nat) (cI cJ cS cT : ClassId) (s0 : gMem) (x0 : Int) (hx0 : in32 x0)  : gC l yX3_isSign cX3_isSign 1 (some .boolean) 1 64 D vwCl (gT cI cJ cS cT) (wdX a cI cJ cS cT) lgX kI rgZ [gI x0] s0 ((f_X3_isSign x0), s0) := by
  refine gC_of (by decide +kernel) (hwdX a cI cJ cS cT) (Nat.le_of_ble_eq_true rfl) ?_
  intro A p e R s m args below meth c hR E
  subst hR
  have hT := f_X3_isSign_e x0
  refine k_lv0 (lv' := [(0, gI x0)]) rfl ?_
  refine k_iloadn (pc := 0) E 0 dX3_isSign_0 rfl rfl ?_
  refine k_bipush (pc := 1) E dX3_isSign_1 (by decide) ?_
  obtain ⟨j2c, hj2c, hT⟩ := gjx hT
  have j2 : (True) → (f_X3_isSign x0) = j2c  → gK D vwCl (wdX a cI cJ cS cT) lgX A p l e { frames := 1, cells := 0, slots := 0, locals := 64 } s m args below meth c 1 (gQQ D vwCl (wdX a cI cJ cS cT) lgX A kI rgZ below args s) ((f_X3_isSign x0), s0) s0 48 [] [] := by
    intro  hq hT
    rw [hj2c] at hT
    refine k_iconst (pc := 48) E dX3_isSign_48 ?_
    refine k_goto (pc := 49) (tgt := 53) E dX3_isSign_49 (by decide) ?_
    exact k_rho (congrArg (fun q => (q, s0)) hT) (k_zret (pc := 53) E dX3_isSign_53 (by first | exact Or.inl rfl | exact Or.inr rfl | omega))
  by_cases h1 : x0 = 40
  · replace hT := hT.trans (if_pos h1)
    refine k_icmp_eq_t (pc := 3) (tgt := 48) E (by omega) (by omega) dX3_isSign_3 (by decide) h1 ?_
    refine k_lv (lv' := []) [] rfl ?_
    exact j2  trivial hT
  · replace hT := hT.trans (if_neg h1)
    refine k_icmp_eq_f (pc := 3) (tgt := 48) E (by omega) (by omega) dX3_isSign_3 (by decide) h1 ?_
    refine k_iloadn (pc := 6) E 0 dX3_isSign_6 rfl rfl ?_
    refine k_bipush (pc := 7) E dX3_isSign_7 (by decide) ?_
    by_cases h3 : x0 = 41
    · replace hT := hT.trans (if_pos h3)
      refine k_icmp_eq_t (pc := 9) (tgt := 48) E (by omega) (by omega) dX3_isSign_9 (by decide) h3 ?_
      refine k_lv (lv' := []) [] rfl ?_
      exact j2  trivial hT
    · replace hT := hT.trans (if_neg h3)
      refine k_icmp_eq_f (pc := 9) (tgt := 48) E (by omega) (by omega) dX3_isSign_9 (by decide) h3 ?_
      refine k_iloadn (pc := 12) E 0 dX3_isSign_12 rfl rfl ?_
      refine k_bipush (pc := 13) E dX3_isSign_13 (by decide) ?_
      by_cases h4 : x0 = 59
      · replace hT := hT.trans (if_pos h4)
        refine k_icmp_eq_t (pc := 15) (tgt := 48) E (by omega) (by omega) dX3_isSign_15 (by decide) h4 ?_
        refine k_lv (lv' := []) [] rfl ?_
        exact j2  trivial hT
      · replace hT := hT.trans (if_neg h4)
        refine k_icmp_eq_f (pc := 15) (tgt := 48) E (by omega) (by omega) dX3_isSign_15 (by decide) h4 ?_
        refine k_iloadn (pc := 18) E 0 dX3_isSign_18 rfl rfl ?_
        refine k_bipush (pc := 19) E dX3_isSign_19 (by decide) ?_
        by_cases h5 : x0 = 43
        · replace hT := hT.trans (if_pos h5)
          refine k_icmp_eq_t (pc := 21) (tgt := 48) E (by omega) (by omega) dX3_isSign_21 (by decide) h5 ?_
          refine k_lv (lv' := []) [] rfl ?_
          exact j2  trivial hT
        · replace hT := hT.trans (if_neg h5)
          refine k_icmp_eq_f (pc := 21) (tgt := 48) E (by omega) (by omega) dX3_isSign_21 (by decide) h5 ?_
          refine k_iloadn (pc := 24) E 0 dX3_isSign_24 rfl rfl ?_
          refine k_bipush (pc := 25) E dX3_isSign_25 (by decide) ?_
          by_cases h6 : x0 = 45
          · replace hT := hT.trans (if_pos h6)
            refine k_icmp_eq_t (pc := 27) (tgt := 48) E (by omega) (by omega) dX3_isSign_27 (by decide) h6 ?_
            refine k_lv (lv' := []) [] rfl ?_
            exact j2  trivial hT
          · replace hT := hT.trans (if_neg h6)
            refine k_icmp_eq_f (pc := 27) (tgt := 48) E (by omega) (by omega) dX3_isSign_27 (by decide) h6 ?_
            refine k_iloadn (pc := 30) E 0 dX3_isSign_30 rfl rfl ?_
            refine k_bipush (pc := 31) E dX3_isSign_31 (by decide) ?_
            by_cases h7 : x0 = 42
            · replace hT := hT.trans (if_pos h7)
              refine k_icmp_eq_t (pc := 33) (tgt := 48) E (by omega) (by omega) dX3_isSign_33 (by decide) h7 ?_
              refine k_lv (lv' := []) [] rfl ?_
              exact j2  trivial hT
            · replace hT := hT.trans (if_neg h7)
              refine k_icmp_eq_f (pc := 33) (tgt := 48) E (by omega) (by omega) dX3_isSign_33 (by decide) h7 ?_
              refine k_iloadn (pc := 36) E 0 dX3_isSign_36 rfl rfl ?_
              refine k_bipush (pc := 37) E dX3_isSign_37 (by decide) ?_
              by_cases h8 : x0 = 60
              · replace hT := hT.trans (if_pos h8)
                refine k_icmp_eq_t (pc := 39) (tgt := 48) E (by omega) (by omega) dX3_isSign_39 (by decide) h8 ?_
                refine k_lv (lv' := []) [] rfl ?_
                exact j2  trivial hT
              · replace hT := hT.trans (if_neg h8)
                refine k_icmp_eq_f (pc := 39) (tgt := 48) E (by omega) (by omega) dX3_isSign_39 (by decide) h8 ?_
                refine k_iloadn (pc := 42) E 0 dX3_isSign_42 rfl rfl ?_
                refine k_bipush (pc := 43) E dX3_isSign_43 (by decide) ?_
                by_cases h9 : x0 = 61
                · replace hT := hT.trans (if_pos h9)
                  refine k_icmp_ne_f (pc := 45) (tgt := 52) E (by omega) (by omega) dX3_isSign_45 (by decide) h9 ?_
                  refine k_lv (lv' := []) [] rfl ?_
                  exact j2  trivial hT
                · replace hT := hT.trans (if_neg h9)
                  refine k_icmp_ne_t (pc := 45) (tgt := 52) E (by omega) (by omega) dX3_isSign_45 (by decide) h9 ?_
                  refine k_iconst (pc := 52) E dX3_isSign_52 ?_
                  exact k_rho (congrArg (fun q => (q, s0)) hT) (k_zret (pc := 53) E dX3_isSign_53 (by first | exact Or.inl rfl | exact Or.inr rfl | omega))

def f_X3_fail  (s0 : gMem) : gRes := (gl ((if (s0 58 0) < 0 then gl (mset s0 58 0 (s0 56 0)) (fun s22 => s22) else s0)) (fun s4 => gl (mset s4 55 0 1) (fun s5 => (0, s5))))
theorem f_X3_fail_e  (s0 : gMem) : f_X3_fail s0 = (gl ((if (s0 58 0) < 0 then gl (mset s0 58 0 (s0 56 0)) (fun s22 => s22) else s0)) (fun s4 => gl (mset s4 55 0 1) (fun s5 => (0, s5)))) := rfl
set_option maxRecDepth 100000 in
set_option maxHeartbeats 4000000 in
theorem f_X3_fail_p  (s0 : gMem)  (hm_s0 : gMR lgX s0) (hpre0 : TK s0) (rZ : Int) (sZ : gMem) (hres : f_X3_fail s0 = (rZ, sZ)) : (fr [55, 58] s0 sZ) ∧ (gMR lgX sZ) ∧ (True) ∧ (TK sZ) ∧ (sZ 55 0 = 1) := by
  have hT := f_X3_fail_e  s0
  have hf_s0 : fr [55, 58] s0 s0 := fr.rf _ _
  obtain ⟨kt1, kt2, kt3, kt4, kt5, kt6, kt7⟩ := id hpre0
  have hr1 := (hm_s0 58 0).1 rfl
  obtain ⟨z20, hz20, hT⟩ := gl1x hT
  have j3 : ∀ (s4 : gMem), ((fr [55, 58] s0 s4) ∧ (gMR lgX s4) ∧ (s4 52 0 = s0 52 0) ∧ (s4 53 0 = s0 53 0) ∧ (s4 54 0 = s0 54 0) ∧ (s4 55 0 = s0 55 0) ∧ (s4 56 0 = s0 56 0) ∧ (s4 57 0 = s0 57 0) ∧ (-1 ≤ s4 58 0 ∧ s4 58 0 ≤ 160)) → z20 = s4 → (fr [55, 58] s0 sZ) ∧ (gMR lgX sZ) ∧ (True) ∧ (TK sZ) ∧ (sZ 55 0 = 1) := by
    intro s4 hq hz
    obtain ⟨hf_s4, hm_s4, hq13, hq14, hq15, hq16, hq17, hq18, hq19⟩ := hq
    replace hT := gl1y hT hz
    obtain ⟨s5, hs5, hT⟩ := glx hT
    have hf_s5 : fr [55, 58] s0 s5 := hs5 ▸ hf_s4.set (by decide)
    have hm_s5 : gMR lgX s5 := hs5 ▸ hm_s4.set32 rfl (by omega)
    have ht6 : s5 52 0 = s4 52 0 := by rw [hs5]; exact mset_ne _ _ _ _ _ (by decide)
    have ht7 : s5 53 0 = s4 53 0 := by rw [hs5]; exact mset_ne _ _ _ _ _ (by decide)
    have ht8 : s5 54 0 = s4 54 0 := by rw [hs5]; exact mset_ne _ _ _ _ _ (by decide)
    have ht9 : s5 55 0 = 1 := by rw [hs5]; exact mset_eq _ _ _ _
    have ht10 : s5 56 0 = s4 56 0 := by rw [hs5]; exact mset_ne _ _ _ _ _ (by decide)
    have ht11 : s5 57 0 = s4 57 0 := by rw [hs5]; exact mset_ne _ _ _ _ _ (by decide)
    have ht12 : s5 58 0 = s4 58 0 := by rw [hs5]; exact mset_ne _ _ _ _ _ (by decide)
    obtain ⟨rfl, rfl⟩ := Prod.mk.inj (hT.symm.trans hres)
    exact ⟨hf_s5, hm_s5, trivial, (by unfold TK; omega), (by first | assumption | omega)⟩
  replace hT := hz20
  by_cases h2 : (s0 58 0) < 0
  · replace hT := hT.trans (if_pos h2)
    have hr21 := (hm_s0 56 0).1 rfl
    obtain ⟨s22, hs22, hT⟩ := glx hT
    have hf_s22 : fr [55, 58] s0 s22 := hs22 ▸ hf_s0.set (by decide)
    have hm_s22 : gMR lgX s22 := hs22 ▸ hm_s0.set32 rfl (by omega)
    have ht23 : s22 52 0 = s0 52 0 := by rw [hs22]; exact mset_ne _ _ _ _ _ (by decide)
    have ht24 : s22 53 0 = s0 53 0 := by rw [hs22]; exact mset_ne _ _ _ _ _ (by decide)
    have ht25 : s22 54 0 = s0 54 0 := by rw [hs22]; exact mset_ne _ _ _ _ _ (by decide)
    have ht26 : s22 55 0 = s0 55 0 := by rw [hs22]; exact mset_ne _ _ _ _ _ (by decide)
    have ht27 : s22 56 0 = s0 56 0 := by rw [hs22]; exact mset_ne _ _ _ _ _ (by decide)
    have ht28 : s22 57 0 = s0 57 0 := by rw [hs22]; exact mset_ne _ _ _ _ _ (by decide)
    have ht29 : s22 58 0 = (s0 56 0) := by rw [hs22]; exact mset_eq _ _ _ _
    exact j3 s22 ⟨hf_s22, hm_s22, (by first | assumption | omega), (by first | assumption | omega), (by first | assumption | omega), (by first | assumption | omega), (by first | assumption | omega), (by first | assumption | omega), (by first | assumption | omega)⟩ hT
  · replace hT := hT.trans (if_neg h2)
    exact j3 s0 ⟨hf_s0, hm_s0, (by first | assumption | omega), (by first | assumption | omega), (by first | assumption | omega), (by first | assumption | omega), (by first | assumption | omega), (by first | assumption | omega), (by first | assumption | omega)⟩ hT
set_option maxRecDepth 100000 in
set_option maxHeartbeats 4000000 in
theorem c_X3_fail (l : Launch) (D : va_G) (a : Nat → Nat) (cI cJ cS cT : ClassId) (s0 : gMem)   (hpre0 : TK s0) : gC l yX3_fail cX3_fail 1 none 1 64 D vwCl (gT cI cJ cS cT) (wdX a cI cJ cS cT) lgX kV rgV [.ref (a 2)] s0 (f_X3_fail s0) := by
  refine gC_of (by decide +kernel) (hwdX a cI cJ cS cT) (Nat.le_of_ble_eq_true rfl) ?_
  intro A p e R s m args below meth c hR E
  subst hR
  have hT := f_X3_fail_e  s0
  have hf_s0 : fr [55, 58] s0 s0 := fr.rf _ _
  refine k_lv0 (lv' := [(0, .ref (a 2))]) rfl ?_
  refine k_mr (fun hm_s0 => ?_)
  obtain ⟨kt1, kt2, kt3, kt4, kt5, kt6, kt7⟩ := id hpre0
  refine k_aloadn (pc := 0) E 0 dX3_fail_0 rfl rfl ?_
  refine k_getfI (pc := 1) (q0 := 2) (f := 9) (k := 58) E inX3 rfl rfl (by decide) wm_68 rfl rfl rfl dX3_fail_1 (fun hr1 => ?_)
  obtain ⟨z20, hz20, hT⟩ := gl1x hT
  have j3 : ∀ (s4 : gMem), ((fr [55, 58] s0 s4) ∧ (s4 52 0 = s0 52 0) ∧ (s4 53 0 = s0 53 0) ∧ (s4 54 0 = s0 54 0) ∧ (s4 55 0 = s0 55 0) ∧ (s4 56 0 = s0 56 0) ∧ (s4 57 0 = s0 57 0) ∧ (-1 ≤ s4 58 0 ∧ s4 58 0 ≤ 160)) → z20 = s4 → gK D vwCl (wdX a cI cJ cS cT) lgX A p l e { frames := 1, cells := 0, slots := 0, locals := 64 } s m args below meth c 1 (gQQ D vwCl (wdX a cI cJ cS cT) lgX A kV rgV below args s) (f_X3_fail s0) s4 15 [(0, .ref (a 2))] [] := by
    intro s4 hq hz
    obtain ⟨hf_s4, hq13, hq14, hq15, hq16, hq17, hq18, hq19⟩ := hq
    replace hT := gl1y hT hz
    refine k_aloadn (pc := 15) E 0 dX3_fail_15 rfl rfl ?_
    refine k_iconst (pc := 16) E dX3_fail_16 ?_
    refine k_putfI (pc := 17) (q0 := 2) (f := 6) (k := 55) E tyX3 tyX3_ok nmX3 inX3 rfl rfl (by decide) wm_65 rfl rfl rfl (Nat.le_of_ble_eq_true rfl) rfl rfl (by omega) dX3_fail_17 ?_
    obtain ⟨s5, hs5, hT⟩ := glx hT
    refine k_sg hs5.symm ?_
    have hf_s5 : fr [55, 58] s0 s5 := hs5 ▸ hf_s4.set (by decide)
    have ht6 : s5 52 0 = s4 52 0 := by rw [hs5]; exact mset_ne _ _ _ _ _ (by decide)
    have ht7 : s5 53 0 = s4 53 0 := by rw [hs5]; exact mset_ne _ _ _ _ _ (by decide)
    have ht8 : s5 54 0 = s4 54 0 := by rw [hs5]; exact mset_ne _ _ _ _ _ (by decide)
    have ht9 : s5 55 0 = 1 := by rw [hs5]; exact mset_eq _ _ _ _
    have ht10 : s5 56 0 = s4 56 0 := by rw [hs5]; exact mset_ne _ _ _ _ _ (by decide)
    have ht11 : s5 57 0 = s4 57 0 := by rw [hs5]; exact mset_ne _ _ _ _ _ (by decide)
    have ht12 : s5 58 0 = s4 58 0 := by rw [hs5]; exact mset_ne _ _ _ _ _ (by decide)
    exact k_rho hT (k_vret (pc := 20) E dX3_fail_20)
  replace hT := hz20
  by_cases h2 : (s0 58 0) < 0
  · replace hT := hT.trans (if_pos h2)
    refine k_if_ge_f (pc := 4) (tgt := 15) E (by omega) dX3_fail_4 (by decide) h2 ?_
    refine k_aloadn (pc := 7) E 0 dX3_fail_7 rfl rfl ?_
    refine k_aloadn (pc := 8) E 0 dX3_fail_8 rfl rfl ?_
    refine k_getfI (pc := 9) (q0 := 2) (f := 7) (k := 56) E inX3 rfl rfl (by decide) wm_66 rfl rfl rfl dX3_fail_9 (fun hr21 => ?_)
    refine k_putfI (pc := 12) (q0 := 2) (f := 9) (k := 58) E tyX3 tyX3_ok nmX3 inX3 rfl rfl (by decide) wm_68 rfl rfl rfl (Nat.le_of_ble_eq_true rfl) rfl rfl (by omega) dX3_fail_12 ?_
    obtain ⟨s22, hs22, hT⟩ := glx hT
    refine k_sg hs22.symm ?_
    have hf_s22 : fr [55, 58] s0 s22 := hs22 ▸ hf_s0.set (by decide)
    have ht23 : s22 52 0 = s0 52 0 := by rw [hs22]; exact mset_ne _ _ _ _ _ (by decide)
    have ht24 : s22 53 0 = s0 53 0 := by rw [hs22]; exact mset_ne _ _ _ _ _ (by decide)
    have ht25 : s22 54 0 = s0 54 0 := by rw [hs22]; exact mset_ne _ _ _ _ _ (by decide)
    have ht26 : s22 55 0 = s0 55 0 := by rw [hs22]; exact mset_ne _ _ _ _ _ (by decide)
    have ht27 : s22 56 0 = s0 56 0 := by rw [hs22]; exact mset_ne _ _ _ _ _ (by decide)
    have ht28 : s22 57 0 = s0 57 0 := by rw [hs22]; exact mset_ne _ _ _ _ _ (by decide)
    have ht29 : s22 58 0 = (s0 56 0) := by rw [hs22]; exact mset_eq _ _ _ _
    exact j3 s22 ⟨hf_s22, (by first | assumption | omega), (by first | assumption | omega), (by first | assumption | omega), (by first | assumption | omega), (by first | assumption | omega), (by first | assumption | omega), (by first | assumption | omega)⟩ hT
  · replace hT := hT.trans (if_neg h2)
    refine k_if_ge_t (pc := 4) (tgt := 15) E (by omega) dX3_fail_4 (by decide) h2 ?_
    exact j3 s0 ⟨hf_s0, (by first | assumption | omega), (by first | assumption | omega), (by first | assumption | omega), (by first | assumption | omega), (by first | assumption | omega), (by first | assumption | omega), (by first | assumption | omega)⟩ hT

def f_X3_emit (x0 : Int) (s0 : gMem) : gRes := (if (s0 53 0) < 160 then gl (mset s0 34 (s0 53 0) x0) (fun s4 => gl (mset s4 53 0 ((s4 53 0) + 1)) (fun s13 => (0, s13))) else (0, s0))
theorem f_X3_emit_e (x0 : Int) (s0 : gMem) : f_X3_emit x0 s0 = (if (s0 53 0) < 160 then gl (mset s0 34 (s0 53 0) x0) (fun s4 => gl (mset s4 53 0 ((s4 53 0) + 1)) (fun s13 => (0, s13))) else (0, s0)) := rfl
set_option maxRecDepth 100000 in
set_option maxHeartbeats 4000000 in
theorem f_X3_emit_p (x0 : Int) (s0 : gMem) (hx0 : in32 x0) (hm_s0 : gMR lgX s0) (hpre0 : TK s0) (hpre1 : RCO s0) (hpre2 : -15 ≤ x0 ∧ x0 ≤ 9999) (rZ : Int) (sZ : gMem) (hres : f_X3_emit x0 s0 = (rZ, sZ)) : (fr [34, 53] s0 sZ) ∧ (gMR lgX sZ) ∧ (True) ∧ (TK sZ) ∧ (RCO sZ) := by
  have hT := f_X3_emit_e x0 s0
  have hf_s0 : fr [34, 53] s0 s0 := fr.rf _ _
  have hRCO_s0 := hpre1
  obtain ⟨kt1, kt2, kt3, kt4, kt5, kt6, kt7⟩ := id hpre0
  have hr1 := (hm_s0 53 0).1 rfl
  by_cases h2 : (s0 53 0) < 160
  · replace hT := hT.trans (if_pos h2)
    have hr3 := (hm_s0 53 0).1 rfl
    obtain ⟨s4, hs4, hT⟩ := glx hT
    have hf_s4 : fr [34, 53] s0 s4 := hs4 ▸ hf_s0.set (by decide)
    have hm_s4 : gMR lgX s4 := hs4 ▸ hm_s0.set32 rfl (by omega)
    have hg_s4 : fr [34] s0 s4 := hs4 ▸ (fr.rf _ _).set (by decide)
    have hRCO_s4 : RCO s4 := hs4 ▸ RCO_set hRCO_s0 (by omega)
    have ht5 : s4 52 0 = s0 52 0 := by rw [hs4]; exact mset_ne _ _ _ _ _ (by decide)
    have ht6 : s4 53 0 = s0 53 0 := by rw [hs4]; exact mset_ne _ _ _ _ _ (by decide)
    have ht7 : s4 54 0 = s0 54 0 := by rw [hs4]; exact mset_ne _ _ _ _ _ (by decide)
    have ht8 : s4 55 0 = s0 55 0 := by rw [hs4]; exact mset_ne _ _ _ _ _ (by decide)
    have ht9 : s4 56 0 = s0 56 0 := by rw [hs4]; exact mset_ne _ _ _ _ _ (by decide)
    have ht10 : s4 57 0 = s0 57 0 := by rw [hs4]; exact mset_ne _ _ _ _ _ (by decide)
    have ht11 : s4 58 0 = s0 58 0 := by rw [hs4]; exact mset_ne _ _ _ _ _ (by decide)
    have hr12 := (hm_s4 53 0).1 rfl
    obtain ⟨s13, hs13, hT⟩ := glx hT
    have hf_s13 : fr [34, 53] s0 s13 := hs13 ▸ hf_s4.set (by decide)
    have hm_s13 : gMR lgX s13 := hs13 ▸ hm_s4.set32 rfl (by omega)
    have hg_s13 : fr [53] s4 s13 := hs13 ▸ (fr.rf _ _).set (by decide)
    have hRCO_s13 : RCO s13 := RCO_fr hRCO_s4 (fun k hk => hg_s13 k (dj (by decide) k hk))
    have ht14 : s13 52 0 = s4 52 0 := by rw [hs13]; exact mset_ne _ _ _ _ _ (by decide)
    have ht15 : s13 53 0 = ((s4 53 0) + 1) := by rw [hs13]; exact mset_eq _ _ _ _
    have ht16 : s13 54 0 = s4 54 0 := by rw [hs13]; exact mset_ne _ _ _ _ _ (by decide)
    have ht17 : s13 55 0 = s4 55 0 := by rw [hs13]; exact mset_ne _ _ _ _ _ (by decide)
    have ht18 : s13 56 0 = s4 56 0 := by rw [hs13]; exact mset_ne _ _ _ _ _ (by decide)
    have ht19 : s13 57 0 = s4 57 0 := by rw [hs13]; exact mset_ne _ _ _ _ _ (by decide)
    have ht20 : s13 58 0 = s4 58 0 := by rw [hs13]; exact mset_ne _ _ _ _ _ (by decide)
    obtain ⟨rfl, rfl⟩ := Prod.mk.inj (hT.symm.trans hres)
    exact ⟨hf_s13, hm_s13, trivial, (by unfold TK; omega), hRCO_s13⟩
  · replace hT := hT.trans (if_neg h2)
    obtain ⟨rfl, rfl⟩ := Prod.mk.inj (hT.symm.trans hres)
    exact ⟨hf_s0, hm_s0, trivial, (by unfold TK; omega), hRCO_s0⟩
set_option maxRecDepth 100000 in
set_option maxHeartbeats 4000000 in
theorem c_X3_emit (l : Launch) (D : va_G) (a : Nat → Nat) (cI cJ cS cT : ClassId) (s0 : gMem) (x0 : Int) (hx0 : in32 x0) (hpre0 : TK s0) (hpre1 : RCO s0) (hpre2 : -15 ≤ x0 ∧ x0 ≤ 9999) : gC l yX3_emit cX3_emit 2 none 1 64 D vwCl (gT cI cJ cS cT) (wdX a cI cJ cS cT) lgX kV rgV [.ref (a 2), gI x0] s0 (f_X3_emit x0 s0) := by
  refine gC_of (by decide +kernel) (hwdX a cI cJ cS cT) (Nat.le_of_ble_eq_true rfl) ?_
  intro A p e R s m args below meth c hR E
  subst hR
  have hT := f_X3_emit_e x0 s0
  have hf_s0 : fr [34, 53] s0 s0 := fr.rf _ _
  refine k_lv0 (lv' := [(0, .ref (a 2)), (1, gI x0)]) rfl ?_
  refine k_mr (fun hm_s0 => ?_)
  have hRCO_s0 := hpre1
  obtain ⟨kt1, kt2, kt3, kt4, kt5, kt6, kt7⟩ := id hpre0
  refine k_aloadn (pc := 0) E 0 dX3_emit_0 rfl rfl ?_
  refine k_getfI (pc := 1) (q0 := 2) (f := 4) (k := 53) E inX3 rfl rfl (by decide) wm_63 rfl rfl rfl dX3_emit_1 (fun hr1 => ?_)
  refine k_sipush (pc := 4) E dX3_emit_4 (by decide) ?_
  by_cases h2 : (s0 53 0) < 160
  · replace hT := hT.trans (if_pos h2)
    refine k_icmp_ge_f (pc := 7) (tgt := 30) E (by omega) (by omega) dX3_emit_7 (by decide) h2 ?_
    refine k_aloadn (pc := 10) E 0 dX3_emit_10 rfl rfl ?_
    refine k_getf (pc := 11) (q0 := 2) (f := 1) (v := .ref (a 34)) E inX3 rfl rfl (by decide) wm_57 rfl rfl dX3_emit_11 ?_
    refine k_aloadn (pc := 14) E 0 dX3_emit_14 rfl rfl ?_
    refine k_getfI (pc := 15) (q0 := 2) (f := 4) (k := 53) E inX3 rfl rfl (by decide) wm_63 rfl rfl rfl dX3_emit_15 (fun hr3 => ?_)
    refine k_iloadn (pc := 18) E 1 dX3_emit_18 rfl rfl ?_
    refine k_iastore (pc := 19) (q0 := 34) (t0 := 0) (k := 34) (n := 160) E rfl rfl rfl rfl (by decide) (by omega) (by omega) (by omega) dX3_emit_19 ?_
    obtain ⟨s4, hs4, hT⟩ := glx hT
    refine k_sg hs4.symm ?_
    have hf_s4 : fr [34, 53] s0 s4 := hs4 ▸ hf_s0.set (by decide)
    have hg_s4 : fr [34] s0 s4 := hs4 ▸ (fr.rf _ _).set (by decide)
    have hRCO_s4 : RCO s4 := hs4 ▸ RCO_set hRCO_s0 (by omega)
    have ht5 : s4 52 0 = s0 52 0 := by rw [hs4]; exact mset_ne _ _ _ _ _ (by decide)
    have ht6 : s4 53 0 = s0 53 0 := by rw [hs4]; exact mset_ne _ _ _ _ _ (by decide)
    have ht7 : s4 54 0 = s0 54 0 := by rw [hs4]; exact mset_ne _ _ _ _ _ (by decide)
    have ht8 : s4 55 0 = s0 55 0 := by rw [hs4]; exact mset_ne _ _ _ _ _ (by decide)
    have ht9 : s4 56 0 = s0 56 0 := by rw [hs4]; exact mset_ne _ _ _ _ _ (by decide)
    have ht10 : s4 57 0 = s0 57 0 := by rw [hs4]; exact mset_ne _ _ _ _ _ (by decide)
    have ht11 : s4 58 0 = s0 58 0 := by rw [hs4]; exact mset_ne _ _ _ _ _ (by decide)
    refine k_aloadn (pc := 20) E 0 dX3_emit_20 rfl rfl ?_
    refine k_dup (pc := 21) E dX3_emit_21 rfl ?_
    refine k_getfI (pc := 22) (q0 := 2) (f := 4) (k := 53) E inX3 rfl rfl (by decide) wm_63 rfl rfl rfl dX3_emit_22 (fun hr12 => ?_)
    refine k_iconst (pc := 25) E dX3_emit_25 ?_
    refine k_iadd (pc := 26) E dX3_emit_26 ?_
    refine k_putfI (pc := 27) (q0 := 2) (f := 4) (k := 53) E tyX3 tyX3_ok nmX3 inX3 rfl rfl (by decide) wm_63 rfl rfl rfl (Nat.le_of_ble_eq_true rfl) rfl rfl (by omega) dX3_emit_27 ?_
    obtain ⟨s13, hs13, hT⟩ := glx hT
    refine k_sg hs13.symm ?_
    have hf_s13 : fr [34, 53] s0 s13 := hs13 ▸ hf_s4.set (by decide)
    have hg_s13 : fr [53] s4 s13 := hs13 ▸ (fr.rf _ _).set (by decide)
    have hRCO_s13 : RCO s13 := RCO_fr hRCO_s4 (fun k hk => hg_s13 k (dj (by decide) k hk))
    have ht14 : s13 52 0 = s4 52 0 := by rw [hs13]; exact mset_ne _ _ _ _ _ (by decide)
    have ht15 : s13 53 0 = ((s4 53 0) + 1) := by rw [hs13]; exact mset_eq _ _ _ _
    have ht16 : s13 54 0 = s4 54 0 := by rw [hs13]; exact mset_ne _ _ _ _ _ (by decide)
    have ht17 : s13 55 0 = s4 55 0 := by rw [hs13]; exact mset_ne _ _ _ _ _ (by decide)
    have ht18 : s13 56 0 = s4 56 0 := by rw [hs13]; exact mset_ne _ _ _ _ _ (by decide)
    have ht19 : s13 57 0 = s4 57 0 := by rw [hs13]; exact mset_ne _ _ _ _ _ (by decide)
    have ht20 : s13 58 0 = s4 58 0 := by rw [hs13]; exact mset_ne _ _ _ _ _ (by decide)
    exact k_rho hT (k_vret (pc := 30) E dX3_emit_30)
  · replace hT := hT.trans (if_neg h2)
    refine k_icmp_ge_t (pc := 7) (tgt := 30) E (by omega) (by omega) dX3_emit_7 (by decide) h2 ?_
    exact k_rho hT (k_vret (pc := 30) E dX3_emit_30)

def w_X3_nextNumber_5  : Nat → gMem → gMem
  | 0, s7 => s7
  | n8 + 1, s7 => (if (s7 54 0) < (s7 52 0) then (if (f_X3_isDigit (s7 33 (s7 54 0))) = 0 then s7 else gl (mset s7 57 0 (iwr ((iwr ((s7 57 0) * 10)) + ((s7 33 (s7 54 0)) - 48)))) (fun s22 => gl (mset s22 54 0 ((s22 54 0) + 1)) (fun s29 => (w_X3_nextNumber_5 n8 s29)))) else s7)
theorem w_X3_nextNumber_5_s  (n8 : Nat)  (s7 : gMem) : w_X3_nextNumber_5  (n8 + 1) s7 = (if (s7 54 0) < (s7 52 0) then (if (f_X3_isDigit (s7 33 (s7 54 0))) = 0 then s7 else gl (mset s7 57 0 (iwr ((iwr ((s7 57 0) * 10)) + ((s7 33 (s7 54 0)) - 48)))) (fun s22 => gl (mset s22 54 0 ((s22 54 0) + 1)) (fun s29 => (w_X3_nextNumber_5 n8 s29)))) else s7) := rfl
def f_X3_nextNumber  (s0 : gMem) : gRes := gl (mset s0 57 0 0) (fun s1 => (gl (w_X3_nextNumber_5 161 s1) (fun  s75 => (gl ((if 4 < ((s75 54 0) - (s75 56 0)) then 1 else 2)) (fun v85 => gl (mset s75 55 0 v85) (fun s86 => (0, s86)))))))
theorem f_X3_nextNumber_e  (s0 : gMem) : f_X3_nextNumber s0 = gl (mset s0 57 0 0) (fun s1 => (gl (w_X3_nextNumber_5 161 s1) (fun  s75 => (gl ((if 4 < ((s75 54 0) - (s75 56 0)) then 1 else 2)) (fun v85 => gl (mset s75 55 0 v85) (fun s86 => (0, s86))))))) := rfl
set_option maxRecDepth 100000 in
set_option maxHeartbeats 4000000 in
theorem f_X3_nextNumber_p  (s0 : gMem)  (hm_s0 : gMR lgX s0) (hpre0 : 0 ≤ s0 52 0 ∧ s0 52 0 ≤ 160) (hpre1 : 0 ≤ s0 54 0 ∧ s0 54 0 ≤ s0 52 0) (hpre2 : s0 56 0 = s0 54 0) (rZ : Int) (sZ : gMem) (hres : f_X3_nextNumber s0 = (rZ, sZ)) : (fr [54, 55, 57] s0 sZ) ∧ (gMR lgX sZ) ∧ (True) ∧ (s0 54 0 ≤ sZ 54 0 ∧ sZ 54 0 ≤ s0 52 0) ∧ (sZ 55 0 = 1 ∨ (sZ 55 0 = 2 ∧ 0 ≤ sZ 57 0 ∧ sZ 57 0 ≤ 9999)) := by
  have hT := f_X3_nextNumber_e  s0
  have hf_s0 : fr [54, 55, 57] s0 s0 := fr.rf _ _
  obtain ⟨s1, hs1, hT⟩ := glx hT
  have hf_s1 : fr [54, 55, 57] s0 s1 := hs1 ▸ hf_s0.set (by decide)
  have hm_s1 : gMR lgX s1 := hs1 ▸ hm_s0.set32 rfl (by omega)
  have ht2 : s1 52 0 = s0 52 0 := by rw [hs1]; exact mset_ne _ _ _ _ _ (by decide)
  have ht3 : s1 54 0 = s0 54 0 := by rw [hs1]; exact mset_ne _ _ _ _ _ (by decide)
  have ht4 : s1 55 0 = s0 55 0 := by rw [hs1]; exact mset_ne _ _ _ _ _ (by decide)
  have ht5 : s1 56 0 = s0 56 0 := by rw [hs1]; exact mset_ne _ _ _ _ _ (by decide)
  have ht6 : s1 57 0 = 0 := by rw [hs1]; exact mset_eq _ _ _ _
  have L36 : ∀ (n37 : Nat)  (s35 : gMem), ((fr [54, 55, 57] s0 s35) ∧ (gMR lgX s35) ∧ (s35 52 0 = s1 52 0) ∧ (s35 55 0 = s1 55 0) ∧ (s35 56 0 = s1 56 0) ∧ (s0 54 0 ≤ s35 54 0 ∧ s35 54 0 ≤ s0 52 0) ∧ ((s35 54 0 - s0 54 0 = 0 → s35 57 0 = 0) ∧ (s35 54 0 - s0 54 0 = 1 → 0 ≤ s35 57 0 ∧ s35 57 0 ≤ 9) ∧ (s35 54 0 - s0 54 0 = 2 → 0 ≤ s35 57 0 ∧ s35 57 0 ≤ 99) ∧ (s35 54 0 - s0 54 0 = 3 → 0 ≤ s35 57 0 ∧ s35 57 0 ≤ 999) ∧ (s35 54 0 - s0 54 0 = 4 → 0 ≤ s35 57 0 ∧ s35 57 0 ≤ 9999))) → s0 52 0 - s35 54 0 < (n37 : Int) → (∀  (s38 : gMem), (w_X3_nextNumber_5 n37 s35) = s38 → ((fr [54, 55, 57] s0 s38) ∧ (gMR lgX s38) ∧ (s38 52 0 = s1 52 0) ∧ (s38 55 0 = s1 55 0) ∧ (s38 56 0 = s1 56 0) ∧ (s0 54 0 ≤ s38 54 0 ∧ s38 54 0 ≤ s0 52 0) ∧ ((s38 54 0 - s0 54 0 = 0 → s38 57 0 = 0) ∧ (s38 54 0 - s0 54 0 = 1 → 0 ≤ s38 57 0 ∧ s38 57 0 ≤ 9) ∧ (s38 54 0 - s0 54 0 = 2 → 0 ≤ s38 57 0 ∧ s38 57 0 ≤ 99) ∧ (s38 54 0 - s0 54 0 = 3 → 0 ≤ s38 57 0 ∧ s38 57 0 ≤ 999) ∧ (s38 54 0 - s0 54 0 = 4 → 0 ≤ s38 57 0 ∧ s38 57 0 ≤ 9999))) → (fr [54, 55, 57] s0 sZ) ∧ (gMR lgX sZ) ∧ (True) ∧ (s0 54 0 ≤ sZ 54 0 ∧ sZ 54 0 ≤ s0 52 0) ∧ (sZ 55 0 = 1 ∨ (sZ 55 0 = 2 ∧ 0 ≤ sZ 57 0 ∧ sZ 57 0 ≤ 9999))) → (fr [54, 55, 57] s0 sZ) ∧ (gMR lgX sZ) ∧ (True) ∧ (s0 54 0 ≤ sZ 54 0 ∧ sZ 54 0 ≤ s0 52 0) ∧ (sZ 55 0 = 1 ∨ (sZ 55 0 = 2 ∧ 0 ≤ sZ 57 0 ∧ sZ 57 0 ≤ 9999)) := by
    intro n37; induction n37 with
    | zero =>
      intro  s35 hq hm hk
      exfalso
      obtain ⟨hf_s35, hm_s35, hq65, hq66, hq67, hq68, hq69⟩ := hq
      omega
    | succ n37 ih =>
      intro  s35 hq hm hk
      obtain ⟨hf_s35, hm_s35, hq70, hq71, hq72, hq73, hq74⟩ := hq
      have hT := w_X3_nextNumber_5_s  n37  s35
      have hr39 := (hm_s35 54 0).1 rfl
      have hr40 := (hm_s35 52 0).1 rfl
      by_cases h41 : (s35 54 0) < (s35 52 0)
      · replace hT := hT.trans (if_pos h41)
        have hr42 := (hm_s35 54 0).1 rfl
        have hr43 := (hm_s35 33 (s35 54 0)).1 rfl
        have hp45 := f_X3_isDigit_p (s35 33 (s35 54 0)) (by omega) 
        by_cases h46 : (f_X3_isDigit (s35 33 (s35 54 0))) = 0
        · replace hT := hT.trans (if_pos h46)
          exact hk  s35 hT ⟨hf_s35, hm_s35, (by first | assumption | omega), (by first | assumption | omega), (by first | assumption | omega), (by first | assumption | omega), (by first | assumption | omega)⟩
        · replace hT := hT.trans (if_neg h46)
          have hr47 := (hm_s35 57 0).1 rfl
          have kw1 := fun q => iwr_in (x := (s35 57 0) * 10) q
          have hb48 := iwr_rg ((s35 57 0) * 10)
          have hr49 := (hm_s35 54 0).1 rfl
          have hr50 := (hm_s35 33 (s35 54 0)).1 rfl
          have kw2 := fun q => iwr_in (x := (iwr ((s35 57 0) * 10)) + ((s35 33 (s35 54 0)) - 48)) q
          have hb51 := iwr_rg ((iwr ((s35 57 0) * 10)) + ((s35 33 (s35 54 0)) - 48))
          obtain ⟨s52, hs52, hT⟩ := glx hT
          have hf_s52 : fr [54, 55, 57] s0 s52 := hs52 ▸ hf_s35.set (by decide)
          have hm_s52 : gMR lgX s52 := hs52 ▸ hm_s35.set32 rfl (by omega)
          have ht53 : s52 52 0 = s35 52 0 := by rw [hs52]; exact mset_ne _ _ _ _ _ (by decide)
          have ht54 : s52 54 0 = s35 54 0 := by rw [hs52]; exact mset_ne _ _ _ _ _ (by decide)
          have ht55 : s52 55 0 = s35 55 0 := by rw [hs52]; exact mset_ne _ _ _ _ _ (by decide)
          have ht56 : s52 56 0 = s35 56 0 := by rw [hs52]; exact mset_ne _ _ _ _ _ (by decide)
          have ht57 : s52 57 0 = (iwr ((iwr ((s35 57 0) * 10)) + ((s35 33 (s35 54 0)) - 48))) := by rw [hs52]; exact mset_eq _ _ _ _
          have hr58 := (hm_s52 54 0).1 rfl
          obtain ⟨s59, hs59, hT⟩ := glx hT
          have hf_s59 : fr [54, 55, 57] s0 s59 := hs59 ▸ hf_s52.set (by decide)
          have hm_s59 : gMR lgX s59 := hs59 ▸ hm_s52.set32 rfl (by omega)
          have ht60 : s59 52 0 = s52 52 0 := by rw [hs59]; exact mset_ne _ _ _ _ _ (by decide)
          have ht61 : s59 54 0 = ((s52 54 0) + 1) := by rw [hs59]; exact mset_eq _ _ _ _
          have ht62 : s59 55 0 = s52 55 0 := by rw [hs59]; exact mset_ne _ _ _ _ _ (by decide)
          have ht63 : s59 56 0 = s52 56 0 := by rw [hs59]; exact mset_ne _ _ _ _ _ (by decide)
          have ht64 : s59 57 0 = s52 57 0 := by rw [hs59]; exact mset_ne _ _ _ _ _ (by decide)
          exact ih  s59 ⟨hf_s59, hm_s59, (by first | assumption | omega), (by first | assumption | omega), (by first | assumption | omega), (by first | assumption | omega), (by first | assumption | omega)⟩ (by omega) (fun  s38 hw hi => hk  s38 (hT.trans hw) hi)
      · replace hT := hT.trans (if_neg h41)
        exact hk  s35 hT ⟨hf_s35, hm_s35, (by first | assumption | omega), (by first | assumption | omega), (by first | assumption | omega), (by first | assumption | omega), (by first | assumption | omega)⟩
  refine L36 161  s1 ⟨hf_s1, hm_s1, (by first | assumption | omega), (by first | assumption | omega), (by first | assumption | omega), (by first | assumption | omega), (by first | assumption | omega)⟩ (by omega) (fun  s75 hw hq => ?_)
  obtain ⟨hf_s75, hm_s75, hq76, hq77, hq78, hq79, hq80⟩ := hq
  replace hT := gl1y hT hw
  have hr81 := (hm_s75 54 0).1 rfl
  have hr82 := (hm_s75 56 0).1 rfl
  obtain ⟨z93, hz93, hT⟩ := gl1x hT
  have j84 : ∀ (v85 : Int), ((in32 v85)) → z93 = v85 → (fr [54, 55, 57] s0 sZ) ∧ (gMR lgX sZ) ∧ (True) ∧ (s0 54 0 ≤ sZ 54 0 ∧ sZ 54 0 ≤ s0 52 0) ∧ (sZ 55 0 = 1 ∨ (sZ 55 0 = 2 ∧ 0 ≤ sZ 57 0 ∧ sZ 57 0 ≤ 9999)) := by
    intro v85 hq hz
    have hq92 := hq
    replace hT := gl1y hT hz
    obtain ⟨s86, hs86, hT⟩ := glx hT
    have hf_s86 : fr [54, 55, 57] s0 s86 := hs86 ▸ hf_s75.set (by decide)
    have hm_s86 : gMR lgX s86 := hs86 ▸ hm_s75.set32 rfl (by omega)
    have ht87 : s86 52 0 = s75 52 0 := by rw [hs86]; exact mset_ne _ _ _ _ _ (by decide)
    have ht88 : s86 54 0 = s75 54 0 := by rw [hs86]; exact mset_ne _ _ _ _ _ (by decide)
    have ht89 : s86 55 0 = v85 := by rw [hs86]; exact mset_eq _ _ _ _
    have ht90 : s86 56 0 = s75 56 0 := by rw [hs86]; exact mset_ne _ _ _ _ _ (by decide)
    have ht91 : s86 57 0 = s75 57 0 := by rw [hs86]; exact mset_ne _ _ _ _ _ (by decide)
    obtain ⟨rfl, rfl⟩ := Prod.mk.inj (hT.symm.trans hres)
    exact ⟨hf_s86, hm_s86, trivial, (by first | assumption | omega), (by first | assumption | omega)⟩
  replace hT := hz93
  by_cases h83 : 4 < ((s75 54 0) - (s75 56 0))
  · replace hT := hT.trans (if_pos h83)
    exact j84 1 (by omega) hT
  · replace hT := hT.trans (if_neg h83)
    exact j84 2 (by omega) hT
set_option maxRecDepth 100000 in
set_option maxHeartbeats 4000000 in
theorem c_X3_nextNumber (l : Launch) (D : va_G) (a : Nat → Nat) (cI cJ cS cT : ClassId) (s0 : gMem)   (hpre0 : 0 ≤ s0 52 0 ∧ s0 52 0 ≤ 160) (hpre1 : 0 ≤ s0 54 0 ∧ s0 54 0 ≤ s0 52 0) (hpre2 : s0 56 0 = s0 54 0) : gC l yX3_nextNumber cX3_nextNumber 1 none 2 128 D vwCl (gT cI cJ cS cT) (wdX a cI cJ cS cT) lgX kV rgV [.ref (a 2)] s0 (f_X3_nextNumber s0) := by
  refine gC_of (by decide +kernel) (hwdX a cI cJ cS cT) (Nat.le_of_ble_eq_true rfl) ?_
  intro A p e R s m args below meth c hR E
  subst hR
  have hT := f_X3_nextNumber_e  s0
  have hf_s0 : fr [54, 55, 57] s0 s0 := fr.rf _ _
  refine k_lv0 (lv' := [(0, .ref (a 2))]) rfl ?_
  refine k_mr (fun hm_s0 => ?_)
  refine k_aloadn (pc := 0) E 0 dX3_nextNumber_0 rfl rfl ?_
  refine k_iconst (pc := 1) E dX3_nextNumber_1 ?_
  refine k_putfI (pc := 2) (q0 := 2) (f := 8) (k := 57) E tyX3 tyX3_ok nmX3 inX3 rfl rfl (by decide) wm_67 rfl rfl rfl (Nat.le_of_ble_eq_true rfl) rfl rfl (by omega) dX3_nextNumber_2 ?_
  obtain ⟨s1, hs1, hT⟩ := glx hT
  refine k_sg hs1.symm ?_
  have hf_s1 : fr [54, 55, 57] s0 s1 := hs1 ▸ hf_s0.set (by decide)
  have ht2 : s1 52 0 = s0 52 0 := by rw [hs1]; exact mset_ne _ _ _ _ _ (by decide)
  have ht3 : s1 54 0 = s0 54 0 := by rw [hs1]; exact mset_ne _ _ _ _ _ (by decide)
  have ht4 : s1 55 0 = s0 55 0 := by rw [hs1]; exact mset_ne _ _ _ _ _ (by decide)
  have ht5 : s1 56 0 = s0 56 0 := by rw [hs1]; exact mset_ne _ _ _ _ _ (by decide)
  have ht6 : s1 57 0 = 0 := by rw [hs1]; exact mset_eq _ _ _ _
  have L36 : ∀ (n37 : Nat)  (s35 : gMem), ((fr [54, 55, 57] s0 s35) ∧ (s35 52 0 = s1 52 0) ∧ (s35 55 0 = s1 55 0) ∧ (s35 56 0 = s1 56 0) ∧ (s0 54 0 ≤ s35 54 0 ∧ s35 54 0 ≤ s0 52 0) ∧ ((s35 54 0 - s0 54 0 = 0 → s35 57 0 = 0) ∧ (s35 54 0 - s0 54 0 = 1 → 0 ≤ s35 57 0 ∧ s35 57 0 ≤ 9) ∧ (s35 54 0 - s0 54 0 = 2 → 0 ≤ s35 57 0 ∧ s35 57 0 ≤ 99) ∧ (s35 54 0 - s0 54 0 = 3 → 0 ≤ s35 57 0 ∧ s35 57 0 ≤ 999) ∧ (s35 54 0 - s0 54 0 = 4 → 0 ≤ s35 57 0 ∧ s35 57 0 ≤ 9999))) → s0 52 0 - s35 54 0 < (n37 : Int) → (∀  (s38 : gMem), (w_X3_nextNumber_5 n37 s35) = s38 → ((fr [54, 55, 57] s0 s38) ∧ (s38 52 0 = s1 52 0) ∧ (s38 55 0 = s1 55 0) ∧ (s38 56 0 = s1 56 0) ∧ (s0 54 0 ≤ s38 54 0 ∧ s38 54 0 ≤ s0 52 0) ∧ ((s38 54 0 - s0 54 0 = 0 → s38 57 0 = 0) ∧ (s38 54 0 - s0 54 0 = 1 → 0 ≤ s38 57 0 ∧ s38 57 0 ≤ 9) ∧ (s38 54 0 - s0 54 0 = 2 → 0 ≤ s38 57 0 ∧ s38 57 0 ≤ 99) ∧ (s38 54 0 - s0 54 0 = 3 → 0 ≤ s38 57 0 ∧ s38 57 0 ≤ 999) ∧ (s38 54 0 - s0 54 0 = 4 → 0 ≤ s38 57 0 ∧ s38 57 0 ≤ 9999))) → gK D vwCl (wdX a cI cJ cS cT) lgX A p l e { frames := 2, cells := 0, slots := 0, locals := 128 } s m args below meth c 1 (gQQ D vwCl (wdX a cI cJ cS cT) lgX A kV rgV below args s) (f_X3_nextNumber s0) s38 68 [(0, .ref (a 2))] []) → gK D vwCl (wdX a cI cJ cS cT) lgX A p l e { frames := 2, cells := 0, slots := 0, locals := 128 } s m args below meth c 1 (gQQ D vwCl (wdX a cI cJ cS cT) lgX A kV rgV below args s) (f_X3_nextNumber s0) s35 5 [(0, .ref (a 2))] [] := by
    intro n37; induction n37 with
    | zero =>
      intro  s35 hq hm hk
      exfalso
      obtain ⟨hf_s35, hq65, hq66, hq67, hq68, hq69⟩ := hq
      omega
    | succ n37 ih =>
      intro  s35 hq hm hk
      obtain ⟨hf_s35, hq70, hq71, hq72, hq73, hq74⟩ := hq
      have hT := w_X3_nextNumber_5_s  n37  s35
      refine k_aloadn (pc := 5) E 0 dX3_nextNumber_5 rfl rfl ?_
      refine k_getfI (pc := 6) (q0 := 2) (f := 5) (k := 54) E inX3 rfl rfl (by decide) wm_64 rfl rfl rfl dX3_nextNumber_6 (fun hr39 => ?_)
      refine k_aloadn (pc := 9) E 0 dX3_nextNumber_9 rfl rfl ?_
      refine k_getfI (pc := 10) (q0 := 2) (f := 3) (k := 52) E inX3 rfl rfl (by decide) wm_61 rfl rfl rfl dX3_nextNumber_10 (fun hr40 => ?_)
      by_cases h41 : (s35 54 0) < (s35 52 0)
      · replace hT := hT.trans (if_pos h41)
        refine k_icmp_ge_f (pc := 13) (tgt := 68) E (by omega) (by omega) dX3_nextNumber_13 (by decide) h41 ?_
        refine k_aloadn (pc := 16) E 0 dX3_nextNumber_16 rfl rfl ?_
        refine k_getf (pc := 17) (q0 := 2) (f := 0) (v := .ref (a 33)) E inX3 rfl rfl (by decide) wm_56 rfl rfl dX3_nextNumber_17 ?_
        refine k_aloadn (pc := 20) E 0 dX3_nextNumber_20 rfl rfl ?_
        refine k_getfI (pc := 21) (q0 := 2) (f := 5) (k := 54) E inX3 rfl rfl (by decide) wm_64 rfl rfl rfl dX3_nextNumber_21 (fun hr42 => ?_)
        refine k_iaload (pc := 24) (q0 := 33) (t0 := 0) (k := 33) (n := 160) E rfl rfl rfl (by decide) (by omega) (by omega) dX3_nextNumber_24 (fun hr43 => ?_)
        refine k_mr (fun hm_s35 => ?_)
        refine k_callS (pc := 25) (np := 1) (As := [gI (s35 33 (s35 54 0))]) (st := []) E (c_X3_isDigit l D a cI cJ cS cT s35 (s35 33 (s35 54 0)) (by omega)) wm_413 wm_3 wm_411 wm_412 (by decide +kernel) ⟨by decide, by decide⟩ rfl (Nat.le_of_ble_eq_true rfl) dX3_nextNumber_25 (ro_kk (fun hr44 => ?_))
        have hp45 := f_X3_isDigit_p (s35 33 (s35 54 0)) (by omega) 
        refine k_st (st' := [gI (f_X3_isDigit (s35 33 (s35 54 0)))]) rfl ?_
        by_cases h46 : (f_X3_isDigit (s35 33 (s35 54 0))) = 0
        · replace hT := hT.trans (if_pos h46)
          refine k_if_eq_t (pc := 28) (tgt := 68) E (by omega) dX3_nextNumber_28 (by decide) h46 ?_
          exact hk  s35 hT ⟨hf_s35, (by first | assumption | omega), (by first | assumption | omega), (by first | assumption | omega), (by first | assumption | omega), (by first | assumption | omega)⟩
        · replace hT := hT.trans (if_neg h46)
          refine k_if_eq_f (pc := 28) (tgt := 68) E (by omega) dX3_nextNumber_28 (by decide) h46 ?_
          refine k_aloadn (pc := 31) E 0 dX3_nextNumber_31 rfl rfl ?_
          refine k_aloadn (pc := 32) E 0 dX3_nextNumber_32 rfl rfl ?_
          refine k_getfI (pc := 33) (q0 := 2) (f := 8) (k := 57) E inX3 rfl rfl (by decide) wm_67 rfl rfl rfl dX3_nextNumber_33 (fun hr47 => ?_)
          refine k_bipush (pc := 36) E dX3_nextNumber_36 (by decide) ?_
          have kw1 := fun q => iwr_in (x := (s35 57 0) * 10) q
          refine k_imul (pc := 38) E dX3_nextNumber_38 ?_
          refine k_st (st' := [gI (iwr ((s35 57 0) * 10)), .ref (a 2)]) (congrArg (fun q => q :: [.ref (a 2)]) (gIw ((s35 57 0) * 10))) ?_
          have hb48 := iwr_rg ((s35 57 0) * 10)
          refine k_aloadn (pc := 39) E 0 dX3_nextNumber_39 rfl rfl ?_
          refine k_getf (pc := 40) (q0 := 2) (f := 0) (v := .ref (a 33)) E inX3 rfl rfl (by decide) wm_56 rfl rfl dX3_nextNumber_40 ?_
          refine k_aloadn (pc := 43) E 0 dX3_nextNumber_43 rfl rfl ?_
          refine k_getfI (pc := 44) (q0 := 2) (f := 5) (k := 54) E inX3 rfl rfl (by decide) wm_64 rfl rfl rfl dX3_nextNumber_44 (fun hr49 => ?_)
          refine k_iaload (pc := 47) (q0 := 33) (t0 := 0) (k := 33) (n := 160) E rfl rfl rfl (by decide) (by omega) (by omega) dX3_nextNumber_47 (fun hr50 => ?_)
          refine k_bipush (pc := 48) E dX3_nextNumber_48 (by decide) ?_
          refine k_isub (pc := 50) E dX3_nextNumber_50 ?_
          have kw2 := fun q => iwr_in (x := (iwr ((s35 57 0) * 10)) + ((s35 33 (s35 54 0)) - 48)) q
          refine k_iadd (pc := 51) E dX3_nextNumber_51 ?_
          refine k_st (st' := [gI (iwr ((iwr ((s35 57 0) * 10)) + ((s35 33 (s35 54 0)) - 48))), .ref (a 2)]) (congrArg (fun q => q :: [.ref (a 2)]) (gIw ((iwr ((s35 57 0) * 10)) + ((s35 33 (s35 54 0)) - 48)))) ?_
          have hb51 := iwr_rg ((iwr ((s35 57 0) * 10)) + ((s35 33 (s35 54 0)) - 48))
          refine k_putfI (pc := 52) (q0 := 2) (f := 8) (k := 57) E tyX3 tyX3_ok nmX3 inX3 rfl rfl (by decide) wm_67 rfl rfl rfl (Nat.le_of_ble_eq_true rfl) rfl rfl (by omega) dX3_nextNumber_52 ?_
          obtain ⟨s52, hs52, hT⟩ := glx hT
          refine k_sg hs52.symm ?_
          have hf_s52 : fr [54, 55, 57] s0 s52 := hs52 ▸ hf_s35.set (by decide)
          have ht53 : s52 52 0 = s35 52 0 := by rw [hs52]; exact mset_ne _ _ _ _ _ (by decide)
          have ht54 : s52 54 0 = s35 54 0 := by rw [hs52]; exact mset_ne _ _ _ _ _ (by decide)
          have ht55 : s52 55 0 = s35 55 0 := by rw [hs52]; exact mset_ne _ _ _ _ _ (by decide)
          have ht56 : s52 56 0 = s35 56 0 := by rw [hs52]; exact mset_ne _ _ _ _ _ (by decide)
          have ht57 : s52 57 0 = (iwr ((iwr ((s35 57 0) * 10)) + ((s35 33 (s35 54 0)) - 48))) := by rw [hs52]; exact mset_eq _ _ _ _
          refine k_aloadn (pc := 55) E 0 dX3_nextNumber_55 rfl rfl ?_
          refine k_dup (pc := 56) E dX3_nextNumber_56 rfl ?_
          refine k_getfI (pc := 57) (q0 := 2) (f := 5) (k := 54) E inX3 rfl rfl (by decide) wm_64 rfl rfl rfl dX3_nextNumber_57 (fun hr58 => ?_)
          refine k_iconst (pc := 60) E dX3_nextNumber_60 ?_
          refine k_iadd (pc := 61) E dX3_nextNumber_61 ?_
          refine k_putfI (pc := 62) (q0 := 2) (f := 5) (k := 54) E tyX3 tyX3_ok nmX3 inX3 rfl rfl (by decide) wm_64 rfl rfl rfl (Nat.le_of_ble_eq_true rfl) rfl rfl (by omega) dX3_nextNumber_62 ?_
          obtain ⟨s59, hs59, hT⟩ := glx hT
          refine k_sg hs59.symm ?_
          have hf_s59 : fr [54, 55, 57] s0 s59 := hs59 ▸ hf_s52.set (by decide)
          have ht60 : s59 52 0 = s52 52 0 := by rw [hs59]; exact mset_ne _ _ _ _ _ (by decide)
          have ht61 : s59 54 0 = ((s52 54 0) + 1) := by rw [hs59]; exact mset_eq _ _ _ _
          have ht62 : s59 55 0 = s52 55 0 := by rw [hs59]; exact mset_ne _ _ _ _ _ (by decide)
          have ht63 : s59 56 0 = s52 56 0 := by rw [hs59]; exact mset_ne _ _ _ _ _ (by decide)
          have ht64 : s59 57 0 = s52 57 0 := by rw [hs59]; exact mset_ne _ _ _ _ _ (by decide)
          refine k_goto (pc := 65) (tgt := 5) E dX3_nextNumber_65 (by decide) ?_
          exact ih  s59 ⟨hf_s59, (by first | assumption | omega), (by first | assumption | omega), (by first | assumption | omega), (by first | assumption | omega), (by first | assumption | omega)⟩ (by omega) (fun  s38 hw hi => hk  s38 (hT.trans hw) hi)
      · replace hT := hT.trans (if_neg h41)
        refine k_icmp_ge_t (pc := 13) (tgt := 68) E (by omega) (by omega) dX3_nextNumber_13 (by decide) h41 ?_
        exact hk  s35 hT ⟨hf_s35, (by first | assumption | omega), (by first | assumption | omega), (by first | assumption | omega), (by first | assumption | omega), (by first | assumption | omega)⟩
  refine L36 161  s1 ⟨hf_s1, (by first | assumption | omega), (by first | assumption | omega), (by first | assumption | omega), (by first | assumption | omega), (by first | assumption | omega)⟩ (by omega) (fun  s75 hw hq => ?_)
  obtain ⟨hf_s75, hq76, hq77, hq78, hq79, hq80⟩ := hq
  replace hT := gl1y hT hw
  refine k_aloadn (pc := 68) E 0 dX3_nextNumber_68 rfl rfl ?_
  refine k_aloadn (pc := 69) E 0 dX3_nextNumber_69 rfl rfl ?_
  refine k_getfI (pc := 70) (q0 := 2) (f := 5) (k := 54) E inX3 rfl rfl (by decide) wm_64 rfl rfl rfl dX3_nextNumber_70 (fun hr81 => ?_)
  refine k_aloadn (pc := 73) E 0 dX3_nextNumber_73 rfl rfl ?_
  refine k_getfI (pc := 74) (q0 := 2) (f := 7) (k := 56) E inX3 rfl rfl (by decide) wm_66 rfl rfl rfl dX3_nextNumber_74 (fun hr82 => ?_)
  refine k_isub (pc := 77) E dX3_nextNumber_77 ?_
  refine k_iconst (pc := 78) E dX3_nextNumber_78 ?_
  obtain ⟨z93, hz93, hT⟩ := gl1x hT
  have j84 : ∀ (v85 : Int), ((in32 v85)) → z93 = v85 → gK D vwCl (wdX a cI cJ cS cT) lgX A p l e { frames := 2, cells := 0, slots := 0, locals := 128 } s m args below meth c 1 (gQQ D vwCl (wdX a cI cJ cS cT) lgX A kV rgV below args s) (f_X3_nextNumber s0) s75 87 [] [gI v85, .ref (a 2)] := by
    intro v85 hq hz
    have hq92 := hq
    replace hT := gl1y hT hz
    refine k_putfI (pc := 87) (q0 := 2) (f := 6) (k := 55) E tyX3 tyX3_ok nmX3 inX3 rfl rfl (by decide) wm_65 rfl rfl rfl (Nat.le_of_ble_eq_true rfl) rfl rfl (by omega) dX3_nextNumber_87 ?_
    obtain ⟨s86, hs86, hT⟩ := glx hT
    refine k_sg hs86.symm ?_
    have hf_s86 : fr [54, 55, 57] s0 s86 := hs86 ▸ hf_s75.set (by decide)
    have ht87 : s86 52 0 = s75 52 0 := by rw [hs86]; exact mset_ne _ _ _ _ _ (by decide)
    have ht88 : s86 54 0 = s75 54 0 := by rw [hs86]; exact mset_ne _ _ _ _ _ (by decide)
    have ht89 : s86 55 0 = v85 := by rw [hs86]; exact mset_eq _ _ _ _
    have ht90 : s86 56 0 = s75 56 0 := by rw [hs86]; exact mset_ne _ _ _ _ _ (by decide)
    have ht91 : s86 57 0 = s75 57 0 := by rw [hs86]; exact mset_ne _ _ _ _ _ (by decide)
    exact k_rho hT (k_vret (pc := 90) E dX3_nextNumber_90)
  replace hT := hz93
  by_cases h83 : 4 < ((s75 54 0) - (s75 56 0))
  · replace hT := hT.trans (if_pos h83)
    refine k_icmp_le_f (pc := 79) (tgt := 86) E (by omega) (by omega) dX3_nextNumber_79 (by decide) h83 ?_
    refine k_iconst (pc := 82) E dX3_nextNumber_82 ?_
    refine k_goto (pc := 83) (tgt := 87) E dX3_nextNumber_83 (by decide) ?_
    refine k_lv (lv' := []) [] rfl ?_
    exact j84 1 (by omega) hT
  · replace hT := hT.trans (if_neg h83)
    refine k_icmp_le_t (pc := 79) (tgt := 86) E (by omega) (by omega) dX3_nextNumber_79 (by decide) h83 ?_
    refine k_iconst (pc := 86) E dX3_nextNumber_86 ?_
    refine k_lv (lv' := []) [] rfl ?_
    exact j84 2 (by omega) hT

def f_X7_add  (s0 : gMem) : gRes := gl (mcpy s0 34 0 (19 + (s0 51 0).toNat) 0 160) (fun s3 => gl (mcpy s3 35 0 (26 + (s3 51 0).toNat) 0 4) (fun s7 => gl (mset s7 51 0 ((s7 51 0) + 1)) (fun s11 => (((s11 51 0) - 1), s11))))
theorem f_X7_add_e  (s0 : gMem) : f_X7_add s0 = gl (mcpy s0 34 0 (19 + (s0 51 0).toNat) 0 160) (fun s3 => gl (mcpy s3 35 0 (26 + (s3 51 0).toNat) 0 4) (fun s7 => gl (mset s7 51 0 ((s7 51 0) + 1)) (fun s11 => (((s11 51 0) - 1), s11)))) := rfl
set_option maxRecDepth 100000 in
set_option maxHeartbeats 4000000 in
theorem f_X7_add_p  (s0 : gMem)  (hm_s0 : gMR lgX s0) (hpre0 : CD s0) (hpre1 : BG s0) (hpre2 : RCO s0) (hpre3 : RBE s0) (hpre4 : MY s0) (hpre5 : 0 ≤ s0 51 0 ∧ s0 51 0 ≤ 5) (rZ : Int) (sZ : gMem) (hres : f_X7_add s0 = (rZ, sZ)) : (fr [19, 20, 21, 22, 23, 24, 26, 27, 28, 29, 30, 31, 51] s0 sZ) ∧ (gMR lgX sZ) ∧ (in32 rZ) ∧ (CD sZ) ∧ (BG sZ) ∧ (MY sZ) ∧ (sZ 51 0 = s0 51 0 + 1) ∧ (rZ = s0 51 0) := by
  have hT := f_X7_add_e  s0
  have hf_s0 : fr [19, 20, 21, 22, 23, 24, 26, 27, 28, 29, 30, 31, 51] s0 s0 := fr.rf _ _
  have hCD_s0 := hpre0
  have hBG_s0 := hpre1
  have hRCO_s0 := hpre2
  have hRBE_s0 := hpre3
  have hMY_s0 := hpre4
  have hr1 := (hm_s0 51 0).1 rfl
  have hi2 := hMY_s0 0
  obtain ⟨s3, hs3, hT⟩ := glx hT
  have hf_s3 : fr [19, 20, 21, 22, 23, 24, 26, 27, 28, 29, 30, 31, 51] s0 s3 := hs3 ▸ hf_s0.cpy (memb 19 6 (by omega) (by decide))
  have hm_s3 : gMR lgX s3 := hs3 ▸ hm_s0.cpy32 rfl (coL (by omega))
  have hg_s3 : fr [19, 20, 21, 22, 23, 24] s0 s3 := hs3 ▸ (fr.rf _ _).cpy (memb 19 6 (by omega) (by decide))
  have hCD_s3 : CD s3 := by
    intro t ht j
    rw [hs3]
    by_cases e : 19 + t = (19 + (s0 51 0).toNat)
    · (rw [e, mcpy_at]; split; exact hRCO_s0 _; rw [← e]; exact hCD_s0 t ht j)
    · rw [mcpy_ne _ _ _ _ _ _ _ e]; exact hCD_s0 t ht j
  have hBG_s3 : BG s3 := BG_fr hBG_s0 (fun k hk => hg_s3 k (dj (by decide) k hk))
  have hRCO_s3 : RCO s3 := RCO_fr hRCO_s0 (fun k hk => hg_s3 k (dj (by decide) k hk))
  have hRBE_s3 : RBE s3 := RBE_fr hRBE_s0 (fun k hk => hg_s3 k (dj (by decide) k hk))
  have hMY_s3 : MY s3 := MY_fr hMY_s0 (fun k hk => hg_s3 k (dj (by decide) k hk))
  have ht4 : s3 51 0 = s0 51 0 := by rw [hs3]; exact mcpy_ne _ _ _ _ _ _ _ (by omega)
  have hr5 := (hm_s3 51 0).1 rfl
  have hi6 := hMY_s3 0
  obtain ⟨s7, hs7, hT⟩ := glx hT
  have hf_s7 : fr [19, 20, 21, 22, 23, 24, 26, 27, 28, 29, 30, 31, 51] s0 s7 := hs7 ▸ hf_s3.cpy (memb 26 6 (by omega) (by decide))
  have hm_s7 : gMR lgX s7 := hs7 ▸ hm_s3.cpy32 rfl (beL (by omega))
  have hg_s7 : fr [26, 27, 28, 29, 30, 31] s3 s7 := hs7 ▸ (fr.rf _ _).cpy (memb 26 6 (by omega) (by decide))
  have hCD_s7 : CD s7 := CD_fr hCD_s3 (fun k hk => hg_s7 k (dj (by decide) k hk))
  have hBG_s7 : BG s7 := by
    intro t ht j
    rw [hs7]
    by_cases e : 26 + t = (26 + (s3 51 0).toNat)
    · (rw [e, mcpy_at]; split; exact hRBE_s3 _; rw [← e]; exact hBG_s3 t ht j)
    · rw [mcpy_ne _ _ _ _ _ _ _ e]; exact hBG_s3 t ht j
  have hRCO_s7 : RCO s7 := RCO_fr hRCO_s3 (fun k hk => hg_s7 k (dj (by decide) k hk))
  have hRBE_s7 : RBE s7 := RBE_fr hRBE_s3 (fun k hk => hg_s7 k (dj (by decide) k hk))
  have hMY_s7 : MY s7 := MY_fr hMY_s3 (fun k hk => hg_s7 k (dj (by decide) k hk))
  have ht8 : s7 51 0 = s3 51 0 := by rw [hs7]; exact mcpy_ne _ _ _ _ _ _ _ (by omega)
  have hr9 := (hm_s7 51 0).1 rfl
  have hi10 := hMY_s7 0
  obtain ⟨s11, hs11, hT⟩ := glx hT
  have hf_s11 : fr [19, 20, 21, 22, 23, 24, 26, 27, 28, 29, 30, 31, 51] s0 s11 := hs11 ▸ hf_s7.set (by decide)
  have hm_s11 : gMR lgX s11 := hs11 ▸ hm_s7.set32 rfl (by omega)
  have hg_s11 : fr [51] s7 s11 := hs11 ▸ (fr.rf _ _).set (by decide)
  have hCD_s11 : CD s11 := CD_fr hCD_s7 (fun k hk => hg_s11 k (dj (by decide) k hk))
  have hBG_s11 : BG s11 := BG_fr hBG_s7 (fun k hk => hg_s11 k (dj (by decide) k hk))
  have hRCO_s11 : RCO s11 := RCO_fr hRCO_s7 (fun k hk => hg_s11 k (dj (by decide) k hk))
  have hRBE_s11 : RBE s11 := RBE_fr hRBE_s7 (fun k hk => hg_s11 k (dj (by decide) k hk))
  have hMY_s11 : MY s11 := hs11 ▸ MY_set hMY_s7 (by omega)
  have ht12 : s11 51 0 = ((s7 51 0) + 1) := by rw [hs11]; exact mset_eq _ _ _ _
  have hr13 := (hm_s11 51 0).1 rfl
  have hi14 := hMY_s11 0
  obtain ⟨rfl, rfl⟩ := Prod.mk.inj (hT.symm.trans hres)
  exact ⟨hf_s11, hm_s11, (by omega), hCD_s11, hBG_s11, hMY_s11, (by first | assumption | omega), (by first | assumption | omega)⟩
set_option maxRecDepth 100000 in
set_option maxHeartbeats 4000000 in
theorem c_X7_add (l : Launch) (D : va_G) (a : Nat → Nat) (cI cJ cS cT : ClassId) (s0 : gMem)   (hpre0 : CD s0) (hpre1 : BG s0) (hpre2 : RCO s0) (hpre3 : RBE s0) (hpre4 : MY s0) (hpre5 : 0 ≤ s0 51 0 ∧ s0 51 0 ≤ 5) : gC l yX7_add cX7_add 3 (some .int) 2 128 D vwCl (gT cI cJ cS cT) (wdX a cI cJ cS cT) lgX kI in32 [.ref (a 1), .ref (a 34), .ref (a 35)] s0 (f_X7_add s0) := by
  refine gC_of (by decide +kernel) (hwdX a cI cJ cS cT) (Nat.le_of_ble_eq_true rfl) ?_
  intro A p e R s m args below meth c hR E
  subst hR
  have hT := f_X7_add_e  s0
  have hf_s0 : fr [19, 20, 21, 22, 23, 24, 26, 27, 28, 29, 30, 31, 51] s0 s0 := fr.rf _ _
  refine k_lv0 (lv' := [(0, .ref (a 1)), (1, .ref (a 34)), (2, .ref (a 35))]) rfl ?_
  refine k_mr (fun hm_s0 => ?_)
  have hCD_s0 := hpre0
  have hBG_s0 := hpre1
  have hRCO_s0 := hpre2
  have hRBE_s0 := hpre3
  have hMY_s0 := hpre4
  refine k_aloadn (pc := 0) E 1 dX7_add_0 rfl rfl ?_
  refine k_iconst (pc := 1) E dX7_add_1 ?_
  refine k_aloadn (pc := 2) E 0 dX7_add_2 rfl rfl ?_
  refine k_getf (pc := 3) (q0 := 1) (f := 0) (v := .ref (a 18)) E inX7 rfl rfl (by decide) wm_35 rfl rfl dX7_add_3 ?_
  refine k_aloadn (pc := 6) E 0 dX7_add_6 rfl rfl ?_
  refine k_getfI (pc := 7) (q0 := 1) (f := 3) (k := 51) E inX7 rfl rfl (by decide) wm_38 rfl rfl rfl dX7_add_7 (fun hr1 => ?_)
  have hi2 := hMY_s0 0
  refine k_aaloadA (pc := 10) (q0 := 18) (t0 := 3) (b := 19) (n := 6) E rfl rfl (by decide) (by omega) (by omega) dX7_add_10 ?_
  refine k_iconst (pc := 11) E dX7_add_11 ?_
  refine k_sipush (pc := 12) E dX7_add_12 (by decide) ?_
  refine k_copyi (pc := 15) (q0 := 34) (q1 := (19 + (s0 51 0).toNat)) (k0 := 34) (k1 := (19 + (s0 51 0).toNat)) (n0 := 160) (n1 := 160) E wm_465 wm_467 wm_466 wm_16 rfl (coA a cI cJ cS cT s0 (by omega)) (coC a cI cJ cS cT s0 34 0 0 160 (by omega)) rfl rfl (coL (by omega)) (by decide) (by decide) (by omega) (by omega) (by omega) (by omega) (by omega) (by decide) (Nat.le_of_ble_eq_true rfl) dX7_add_15 ?_
  obtain ⟨s3, hs3, hT⟩ := glx hT
  refine k_sg hs3.symm ?_
  have hf_s3 : fr [19, 20, 21, 22, 23, 24, 26, 27, 28, 29, 30, 31, 51] s0 s3 := hs3 ▸ hf_s0.cpy (memb 19 6 (by omega) (by decide))
  have hg_s3 : fr [19, 20, 21, 22, 23, 24] s0 s3 := hs3 ▸ (fr.rf _ _).cpy (memb 19 6 (by omega) (by decide))
  have hCD_s3 : CD s3 := by
    intro t ht j
    rw [hs3]
    by_cases e : 19 + t = (19 + (s0 51 0).toNat)
    · (rw [e, mcpy_at]; split; exact hRCO_s0 _; rw [← e]; exact hCD_s0 t ht j)
    · rw [mcpy_ne _ _ _ _ _ _ _ e]; exact hCD_s0 t ht j
  have hBG_s3 : BG s3 := BG_fr hBG_s0 (fun k hk => hg_s3 k (dj (by decide) k hk))
  have hRCO_s3 : RCO s3 := RCO_fr hRCO_s0 (fun k hk => hg_s3 k (dj (by decide) k hk))
  have hRBE_s3 : RBE s3 := RBE_fr hRBE_s0 (fun k hk => hg_s3 k (dj (by decide) k hk))
  have hMY_s3 : MY s3 := MY_fr hMY_s0 (fun k hk => hg_s3 k (dj (by decide) k hk))
  have ht4 : s3 51 0 = s0 51 0 := by rw [hs3]; exact mcpy_ne _ _ _ _ _ _ _ (by omega)
  refine k_aloadn (pc := 18) E 2 dX7_add_18 rfl rfl ?_
  refine k_iconst (pc := 19) E dX7_add_19 ?_
  refine k_aloadn (pc := 20) E 0 dX7_add_20 rfl rfl ?_
  refine k_getf (pc := 21) (q0 := 1) (f := 1) (v := .ref (a 25)) E inX7 rfl rfl (by decide) wm_36 rfl rfl dX7_add_21 ?_
  refine k_aloadn (pc := 24) E 0 dX7_add_24 rfl rfl ?_
  refine k_getfI (pc := 25) (q0 := 1) (f := 3) (k := 51) E inX7 rfl rfl (by decide) wm_38 rfl rfl rfl dX7_add_25 (fun hr5 => ?_)
  have hi6 := hMY_s3 0
  refine k_aaloadA (pc := 28) (q0 := 25) (t0 := 3) (b := 26) (n := 6) E rfl rfl (by decide) (by omega) (by omega) dX7_add_28 ?_
  refine k_iconst (pc := 29) E dX7_add_29 ?_
  refine k_iconst (pc := 30) E dX7_add_30 ?_
  refine k_copyi (pc := 31) (q0 := 35) (q1 := (26 + (s3 51 0).toNat)) (k0 := 35) (k1 := (26 + (s3 51 0).toNat)) (n0 := 4) (n1 := 4) E wm_465 wm_467 wm_466 wm_16 rfl (beA a cI cJ cS cT s3 (by omega)) (beC a cI cJ cS cT s3 35 0 0 4 (by omega)) rfl rfl (beL (by omega)) (by decide) (by decide) (by omega) (by omega) (by omega) (by omega) (by omega) (by decide) (Nat.le_of_ble_eq_true rfl) dX7_add_31 ?_
  obtain ⟨s7, hs7, hT⟩ := glx hT
  refine k_sg hs7.symm ?_
  have hf_s7 : fr [19, 20, 21, 22, 23, 24, 26, 27, 28, 29, 30, 31, 51] s0 s7 := hs7 ▸ hf_s3.cpy (memb 26 6 (by omega) (by decide))
  have hg_s7 : fr [26, 27, 28, 29, 30, 31] s3 s7 := hs7 ▸ (fr.rf _ _).cpy (memb 26 6 (by omega) (by decide))
  have hCD_s7 : CD s7 := CD_fr hCD_s3 (fun k hk => hg_s7 k (dj (by decide) k hk))
  have hBG_s7 : BG s7 := by
    intro t ht j
    rw [hs7]
    by_cases e : 26 + t = (26 + (s3 51 0).toNat)
    · (rw [e, mcpy_at]; split; exact hRBE_s3 _; rw [← e]; exact hBG_s3 t ht j)
    · rw [mcpy_ne _ _ _ _ _ _ _ e]; exact hBG_s3 t ht j
  have hRCO_s7 : RCO s7 := RCO_fr hRCO_s3 (fun k hk => hg_s7 k (dj (by decide) k hk))
  have hRBE_s7 : RBE s7 := RBE_fr hRBE_s3 (fun k hk => hg_s7 k (dj (by decide) k hk))
  have hMY_s7 : MY s7 := MY_fr hMY_s3 (fun k hk => hg_s7 k (dj (by decide) k hk))
  have ht8 : s7 51 0 = s3 51 0 := by rw [hs7]; exact mcpy_ne _ _ _ _ _ _ _ (by omega)
  refine k_aloadn (pc := 34) E 0 dX7_add_34 rfl rfl ?_
  refine k_dup (pc := 35) E dX7_add_35 rfl ?_
  refine k_getfI (pc := 36) (q0 := 1) (f := 3) (k := 51) E inX7 rfl rfl (by decide) wm_38 rfl rfl rfl dX7_add_36 (fun hr9 => ?_)
  have hi10 := hMY_s7 0
  refine k_iconst (pc := 39) E dX7_add_39 ?_
  refine k_iadd (pc := 40) E dX7_add_40 ?_
  refine k_putfI (pc := 41) (q0 := 1) (f := 3) (k := 51) E tyX7 tyX7_ok nmX7 inX7 rfl rfl (by decide) wm_38 rfl rfl rfl (Nat.le_of_ble_eq_true rfl) rfl rfl (by omega) dX7_add_41 ?_
  obtain ⟨s11, hs11, hT⟩ := glx hT
  refine k_sg hs11.symm ?_
  have hf_s11 : fr [19, 20, 21, 22, 23, 24, 26, 27, 28, 29, 30, 31, 51] s0 s11 := hs11 ▸ hf_s7.set (by decide)
  have hg_s11 : fr [51] s7 s11 := hs11 ▸ (fr.rf _ _).set (by decide)
  have hCD_s11 : CD s11 := CD_fr hCD_s7 (fun k hk => hg_s11 k (dj (by decide) k hk))
  have hBG_s11 : BG s11 := BG_fr hBG_s7 (fun k hk => hg_s11 k (dj (by decide) k hk))
  have hRCO_s11 : RCO s11 := RCO_fr hRCO_s7 (fun k hk => hg_s11 k (dj (by decide) k hk))
  have hRBE_s11 : RBE s11 := RBE_fr hRBE_s7 (fun k hk => hg_s11 k (dj (by decide) k hk))
  have hMY_s11 : MY s11 := hs11 ▸ MY_set hMY_s7 (by omega)
  have ht12 : s11 51 0 = ((s7 51 0) + 1) := by rw [hs11]; exact mset_eq _ _ _ _
  refine k_aloadn (pc := 44) E 0 dX7_add_44 rfl rfl ?_
  refine k_getfI (pc := 45) (q0 := 1) (f := 3) (k := 51) E inX7 rfl rfl (by decide) wm_38 rfl rfl rfl dX7_add_45 (fun hr13 => ?_)
  have hi14 := hMY_s11 0
  refine k_iconst (pc := 48) E dX7_add_48 ?_
  refine k_isub (pc := 49) E dX7_add_49 ?_
  exact k_rho hT (k_iret (pc := 50) E dX7_add_50 (by omega))
