theorem wp_0 : Cond.selects RX3 yX3_next yX3_next ∈ gBIG := gm (List.mem_of_getElem? (i := 0) (by decide +kernel)) (by decide +kernel)
theorem wp_1 : Cond.selects RX3 yX3_nextWord yX3_nextWord ∈ gBIG := gm (List.mem_of_getElem? (i := 1) (by decide +kernel)) (by decide +kernel)
theorem wp_2 : Cond.selects RX3 yX3_stands yX3_stands ∈ gBIG := gm (List.mem_of_getElem? (i := 2) (by decide +kernel)) (by decide +kernel)
theorem wp_3 : Cond.selects RX3 yX3_nextNumber yX3_nextNumber ∈ gBIG := gm (List.mem_of_getElem? (i := 3) (by decide +kernel)) (by decide +kernel)
theorem wp_5 : Cond.selects RX3 yX3_fail yX3_fail ∈ gBIG := gm (List.mem_of_getElem? (i := 5) (by decide +kernel)) (by decide +kernel)
theorem wm_333 : Cond.methodLink RX3 34 yX3_next ∈ gBIG := gm (List.mem_of_getElem? (i := 387) (by decide +kernel)) (by decide +kernel)
theorem wm_335 : Cond.instanceMethod yX3_next ∈ gBIG := gm (List.mem_of_getElem? (i := 389) (by decide +kernel)) (by decide +kernel)
theorem wm_336 : Cond.code yX3_next cX3_next 1 none ∈ gBIG := gm (List.mem_of_getElem? (i := 390) (by decide +kernel)) (by decide +kernel)
theorem wm_337 : Cond.methodLink RX3 79 yX3_isLetter ∈ gBIG := gm (List.mem_of_getElem? (i := 391) (by decide +kernel)) (by decide +kernel)
theorem wm_338 : Cond.static yX3_isLetter ∈ gBIG := gm (List.mem_of_getElem? (i := 392) (by decide +kernel)) (by decide +kernel)
theorem wm_339 : Cond.code yX3_isLetter cX3_isLetter 1 (some .boolean) ∈ gBIG := gm (List.mem_of_getElem? (i := 393) (by decide +kernel)) (by decide +kernel)
theorem wm_340 : Cond.methodLink RX3 83 yX3_nextWord ∈ gBIG := gm (List.mem_of_getElem? (i := 394) (by decide +kernel)) (by decide +kernel)
theorem wm_342 : Cond.instanceMethod yX3_nextWord ∈ gBIG := gm (List.mem_of_getElem? (i := 396) (by decide +kernel)) (by decide +kernel)
theorem wm_343 : Cond.code yX3_nextWord cX3_nextWord 2 none ∈ gBIG := gm (List.mem_of_getElem? (i := 397) (by decide +kernel)) (by decide +kernel)
theorem wm_344 : Cond.methodLink RX3 95 yX3_word ∈ gBIG := gm (List.mem_of_getElem? (i := 398) (by decide +kernel)) (by decide +kernel)
theorem wm_345 : Cond.static yX3_word ∈ gBIG := gm (List.mem_of_getElem? (i := 399) (by decide +kernel)) (by decide +kernel)
theorem wm_346 : Cond.code yX3_word cX3_word 1 (some (.object "java/lang/String")) ∈ gBIG := gm (List.mem_of_getElem? (i := 400) (by decide +kernel)) (by decide +kernel)
theorem wm_359 : Cond.methodLink RX3 99 yX3_stands ∈ gBIG := gm (List.mem_of_getElem? (i := 413) (by decide +kernel)) (by decide +kernel)
theorem wm_361 : Cond.instanceMethod yX3_stands ∈ gBIG := gm (List.mem_of_getElem? (i := 415) (by decide +kernel)) (by decide +kernel)
theorem wm_362 : Cond.code yX3_stands cX3_stands 3 (some .boolean) ∈ gBIG := gm (List.mem_of_getElem? (i := 416) (by decide +kernel)) (by decide +kernel)
theorem wm_363 : Cond.methodLink RX3 103 yJ0_length_8abf5 ∈ gBIG := gm (List.mem_of_getElem? (i := 417) (by decide +kernel)) (by decide +kernel)
theorem wm_364 : Cond.instanceMethod yJ0_length_8abf5 ∈ gBIG := gm (List.mem_of_getElem? (i := 418) (by decide +kernel)) (by decide +kernel)
theorem wm_365 : Cond.selects RJ0 yJ0_length_8abf5 yJ0_length_8abf5 ∈ gBIG := gm (List.mem_of_getElem? (i := 419) (by decide +kernel)) (by decide +kernel)
theorem wm_366 : Cond.code yJ0_length_8abf5 cJ0_length_8abf5 1 (some .int) ∈ gBIG := gm (List.mem_of_getElem? (i := 420) (by decide +kernel)) (by decide +kernel)
theorem wm_373 : Cond.methodLink RX3 109 yJ0_charAt_5068e ∈ gBIG := gm (List.mem_of_getElem? (i := 427) (by decide +kernel)) (by decide +kernel)
theorem wm_374 : Cond.instanceMethod yJ0_charAt_5068e ∈ gBIG := gm (List.mem_of_getElem? (i := 428) (by decide +kernel)) (by decide +kernel)
theorem wm_375 : Cond.selects RJ0 yJ0_charAt_5068e yJ0_charAt_5068e ∈ gBIG := gm (List.mem_of_getElem? (i := 429) (by decide +kernel)) (by decide +kernel)
theorem wm_376 : Cond.code yJ0_charAt_5068e cJ0_charAt_5068e 2 (some .char) ∈ gBIG := gm (List.mem_of_getElem? (i := 430) (by decide +kernel)) (by decide +kernel)
theorem wm_414 : Cond.methodLink RX3 89 yX3_nextNumber ∈ gBIG := gm (List.mem_of_getElem? (i := 468) (by decide +kernel)) (by decide +kernel)
theorem wm_416 : Cond.instanceMethod yX3_nextNumber ∈ gBIG := gm (List.mem_of_getElem? (i := 470) (by decide +kernel)) (by decide +kernel)
theorem wm_417 : Cond.code yX3_nextNumber cX3_nextNumber 1 none ∈ gBIG := gm (List.mem_of_getElem? (i := 471) (by decide +kernel)) (by decide +kernel)
theorem wm_418 : Cond.methodLink RX3 92 yX3_isSign ∈ gBIG := gm (List.mem_of_getElem? (i := 472) (by decide +kernel)) (by decide +kernel)
theorem wm_419 : Cond.static yX3_isSign ∈ gBIG := gm (List.mem_of_getElem? (i := 473) (by decide +kernel)) (by decide +kernel)
theorem wm_420 : Cond.code yX3_isSign cX3_isSign 1 (some .boolean) ∈ gBIG := gm (List.mem_of_getElem? (i := 474) (by decide +kernel)) (by decide +kernel)
theorem wm_425 : Cond.methodLink RX3 50 yX3_fail ∈ gBIG := gm (List.mem_of_getElem? (i := 479) (by decide +kernel)) (by decide +kernel)
theorem wm_427 : Cond.instanceMethod yX3_fail ∈ gBIG := gm (List.mem_of_getElem? (i := 481) (by decide +kernel)) (by decide +kernel)
theorem wm_428 : Cond.code yX3_fail cX3_fail 1 none ∈ gBIG := gm (List.mem_of_getElem? (i := 482) (by decide +kernel)) (by decide +kernel)
/-! reading a text: the class: words and tokens -/

def f_X3_word (x0 : Int) : Int := (if x0 = 0 then 0 else (if x0 = 1 then 1 else (if x0 = 2 then 2 else (if x0 = 3 then 3 else (if x0 = 4 then 4 else (if x0 = 5 then 5 else (if x0 = 6 then 6 else (if x0 = 7 then 7 else (if x0 = 8 then 8 else (if x0 = 9 then 9 else (if x0 = 10 then 10 else 11)))))))))))
theorem f_X3_word_e (x0 : Int) : f_X3_word x0 = (if x0 = 0 then 0 else (if x0 = 1 then 1 else (if x0 = 2 then 2 else (if x0 = 3 then 3 else (if x0 = 4 then 4 else (if x0 = 5 then 5 else (if x0 = 6 then 6 else (if x0 = 7 then 7 else (if x0 = 8 then 8 else (if x0 = 9 then 9 else (if x0 = 10 then 10 else 11))))))))))) := rfl
set_option maxRecDepth 100000 in
set_option maxHeartbeats 4000000 in
theorem f_X3_word_p (x0 : Int) (hx0 : in32 x0)  : (rg12 (f_X3_word x0)) := by
  have hT := f_X3_word_e x0
  by_cases h1 : x0 = 0
  · replace hT := hT.trans (if_pos h1)
    rw [hT]
    exact (by omega)
  · replace hT := hT.trans (if_neg h1)
    by_cases h2 : x0 = 1
    · replace hT := hT.trans (if_pos h2)
      rw [hT]
      exact (by omega)
    · replace hT := hT.trans (if_neg h2)
      by_cases h3 : x0 = 2
      · replace hT := hT.trans (if_pos h3)
        rw [hT]
        exact (by omega)
      · replace hT := hT.trans (if_neg h3)
        by_cases h4 : x0 = 3
        · replace hT := hT.trans (if_pos h4)
          rw [hT]
          exact (by omega)
        · replace hT := hT.trans (if_neg h4)
          by_cases h5 : x0 = 4
          · replace hT := hT.trans (if_pos h5)
            rw [hT]
            exact (by omega)
          · replace hT := hT.trans (if_neg h5)
            by_cases h6 : x0 = 5
            · replace hT := hT.trans (if_pos h6)
              rw [hT]
              exact (by omega)
            · replace hT := hT.trans (if_neg h6)
              by_cases h7 : x0 = 6
              · replace hT := hT.trans (if_pos h7)
                rw [hT]
                exact (by omega)
              · replace hT := hT.trans (if_neg h7)
                by_cases h8 : x0 = 7
                · replace hT := hT.trans (if_pos h8)
                  rw [hT]
                  exact (by omega)
                · replace hT := hT.trans (if_neg h8)
                  by_cases h9 : x0 = 8
                  · replace hT := hT.trans (if_pos h9)
                    rw [hT]
                    exact (by omega)
                  · replace hT := hT.trans (if_neg h9)
                    by_cases h10 : x0 = 9
                    · replace hT := hT.trans (if_pos h10)
                      rw [hT]
                      exact (by omega)
                    · replace hT := hT.trans (if_neg h10)
                      by_cases h11 : x0 = 10
                      · replace hT := hT.trans (if_pos h11)
                        rw [hT]
                        exact (by omega)
                      · replace hT := hT.trans (if_neg h11)
                        rw [hT]
                        exact (by omega)
set_option maxRecDepth 100000 in
set_option maxHeartbeats 4000000 in
theorem c_X3_word (l : Launch) (D : va_G) (a : Nat → Nat) (cI cJ cS cT : ClassId) (adK adV : Nat → Nat) (kA : Nat) (s0 : gMem) (x0 : Int) (hx0 : in32 x0)  : gCS l yX3_word cX3_word 1 (some (.object "java/lang/String")) 1 64 D vwCl (gT cI cJ cS cT) (wdX a cI cJ cS cT) lgX (kS adK) rg12 [gI x0] s0 ((f_X3_word x0), s0) adK adV kA := by
  refine gCS_of (by decide +kernel) (hwdX a cI cJ cS cT) (Nat.le_of_ble_eq_true rfl) ?_
  intro A p e R s m args below meth c hR E HX
  subst hR
  have hT := f_X3_word_e x0
  refine k_lv0 (lv' := [(0, gI x0)]) rfl ?_
  refine k_iloadn (pc := 0) E 0 dX3_word_0 rfl rfl ?_
  by_cases h1 : x0 = 0
  · replace hT := hT.trans (if_pos h1)
    refine k_tabIn (pc := 1) (tgt := 60) E dX3_word_1 (by omega) (by omega) (by omega) (by rw [h1]; rfl) (by decide) ?_
    refine k_ldcS (pc := 60) E (HX.1 0 (by decide)) dX3_word_60 ?_
    exact k_rho (congrArg (fun q => (q, s0)) hT) (k_aret (pc := 62) E dX3_word_62 (by omega))
  · replace hT := hT.trans (if_neg h1)
    by_cases h2 : x0 = 1
    · replace hT := hT.trans (if_pos h2)
      refine k_tabIn (pc := 1) (tgt := 63) E dX3_word_1 (by omega) (by omega) (by omega) (by rw [h2]; rfl) (by decide) ?_
      refine k_ldcS (pc := 63) E (HX.1 1 (by decide)) dX3_word_63 ?_
      exact k_rho (congrArg (fun q => (q, s0)) hT) (k_aret (pc := 65) E dX3_word_65 (by omega))
    · replace hT := hT.trans (if_neg h2)
      by_cases h3 : x0 = 2
      · replace hT := hT.trans (if_pos h3)
        refine k_tabIn (pc := 1) (tgt := 66) E dX3_word_1 (by omega) (by omega) (by omega) (by rw [h3]; rfl) (by decide) ?_
        refine k_ldcS (pc := 66) E (HX.1 2 (by decide)) dX3_word_66 ?_
        exact k_rho (congrArg (fun q => (q, s0)) hT) (k_aret (pc := 68) E dX3_word_68 (by omega))
      · replace hT := hT.trans (if_neg h3)
        by_cases h4 : x0 = 3
        · replace hT := hT.trans (if_pos h4)
          refine k_tabIn (pc := 1) (tgt := 69) E dX3_word_1 (by omega) (by omega) (by omega) (by rw [h4]; rfl) (by decide) ?_
          refine k_ldcS (pc := 69) E (HX.1 3 (by decide)) dX3_word_69 ?_
          exact k_rho (congrArg (fun q => (q, s0)) hT) (k_aret (pc := 71) E dX3_word_71 (by omega))
        · replace hT := hT.trans (if_neg h4)
          by_cases h5 : x0 = 4
          · replace hT := hT.trans (if_pos h5)
            refine k_tabIn (pc := 1) (tgt := 72) E dX3_word_1 (by omega) (by omega) (by omega) (by rw [h5]; rfl) (by decide) ?_
            refine k_ldcS (pc := 72) E (HX.1 4 (by decide)) dX3_word_72 ?_
            exact k_rho (congrArg (fun q => (q, s0)) hT) (k_aret (pc := 74) E dX3_word_74 (by omega))
          · replace hT := hT.trans (if_neg h5)
            by_cases h6 : x0 = 5
            · replace hT := hT.trans (if_pos h6)
              refine k_tabIn (pc := 1) (tgt := 75) E dX3_word_1 (by omega) (by omega) (by omega) (by rw [h6]; rfl) (by decide) ?_
              refine k_ldcS (pc := 75) E (HX.1 5 (by decide)) dX3_word_75 ?_
              exact k_rho (congrArg (fun q => (q, s0)) hT) (k_aret (pc := 77) E dX3_word_77 (by omega))
            · replace hT := hT.trans (if_neg h6)
              by_cases h7 : x0 = 6
              · replace hT := hT.trans (if_pos h7)
                refine k_tabIn (pc := 1) (tgt := 78) E dX3_word_1 (by omega) (by omega) (by omega) (by rw [h7]; rfl) (by decide) ?_
                refine k_ldcS (pc := 78) E (HX.1 6 (by decide)) dX3_word_78 ?_
                exact k_rho (congrArg (fun q => (q, s0)) hT) (k_aret (pc := 80) E dX3_word_80 (by omega))
              · replace hT := hT.trans (if_neg h7)
                by_cases h8 : x0 = 7
                · replace hT := hT.trans (if_pos h8)
                  refine k_tabIn (pc := 1) (tgt := 81) E dX3_word_1 (by omega) (by omega) (by omega) (by rw [h8]; rfl) (by decide) ?_
                  refine k_ldcS (pc := 81) E (HX.1 7 (by decide)) dX3_word_81 ?_
                  exact k_rho (congrArg (fun q => (q, s0)) hT) (k_aret (pc := 83) E dX3_word_83 (by omega))
                · replace hT := hT.trans (if_neg h8)
                  by_cases h9 : x0 = 8
                  · replace hT := hT.trans (if_pos h9)
                    refine k_tabIn (pc := 1) (tgt := 84) E dX3_word_1 (by omega) (by omega) (by omega) (by rw [h9]; rfl) (by decide) ?_
                    refine k_ldcS (pc := 84) E (HX.1 8 (by decide)) dX3_word_84 ?_
                    exact k_rho (congrArg (fun q => (q, s0)) hT) (k_aret (pc := 86) E dX3_word_86 (by omega))
                  · replace hT := hT.trans (if_neg h9)
                    by_cases h10 : x0 = 9
                    · replace hT := hT.trans (if_pos h10)
                      refine k_tabIn (pc := 1) (tgt := 87) E dX3_word_1 (by omega) (by omega) (by omega) (by rw [h10]; rfl) (by decide) ?_
                      refine k_ldcS (pc := 87) E (HX.1 9 (by decide)) dX3_word_87 ?_
                      exact k_rho (congrArg (fun q => (q, s0)) hT) (k_aret (pc := 89) E dX3_word_89 (by omega))
                    · replace hT := hT.trans (if_neg h10)
                      by_cases h11 : x0 = 10
                      · replace hT := hT.trans (if_pos h11)
                        refine k_tabIn (pc := 1) (tgt := 90) E dX3_word_1 (by omega) (by omega) (by omega) (by rw [h11]; rfl) (by decide) ?_
                        refine k_ldcS (pc := 90) E (HX.1 10 (by decide)) dX3_word_90 ?_
                        exact k_rho (congrArg (fun q => (q, s0)) hT) (k_aret (pc := 92) E dX3_word_92 (by omega))
                      · replace hT := hT.trans (if_neg h11)
                        refine k_tabOut (pc := 1) (tgt := 93) E dX3_word_1 (by omega) (by omega) (by decide) ?_
                        refine k_ldcS (pc := 93) E (HX.1 11 (by decide)) dX3_word_93 ?_
                        exact k_rho (congrArg (fun q => (q, s0)) hT) (k_aret (pc := 95) E dX3_word_95 (by omega))

def t_X3_stands_20 (x0 : Int) (s0 : gMem) : Nat → Int → Int
  | 0, v5 => 0
  | n6 + 1, v5 => (if v5 < (xlen x0) then (if (s0 33 ((s0 56 0) + v5)) = (xch x0 v5) then (t_X3_stands_20 x0 s0 n6 (v5 + 1)) else 0) else 1)
theorem t_X3_stands_20_s (x0 : Int) (s0 : gMem) (n6 : Nat) (v5 : Int)  : t_X3_stands_20 x0 s0 (n6 + 1) v5 = (if v5 < (xlen x0) then (if (s0 33 ((s0 56 0) + v5)) = (xch x0 v5) then (t_X3_stands_20 x0 s0 n6 (v5 + 1)) else 0) else 1) := rfl
def f_X3_stands (x0 : Int) (s0 : gMem) : Int := (if (xlen x0) = ((s0 54 0) - (s0 56 0)) then (t_X3_stands_20 x0 s0 7 0) else 0)
theorem f_X3_stands_e (x0 : Int) (s0 : gMem) : f_X3_stands x0 s0 = (if (xlen x0) = ((s0 54 0) - (s0 56 0)) then (t_X3_stands_20 x0 s0 7 0) else 0) := rfl
set_option maxRecDepth 100000 in
set_option maxHeartbeats 4000000 in
theorem f_X3_stands_p (x0 : Int) (s0 : gMem) (hx0 : rg12 x0) (hm_s0 : gMR lgX s0) (hpre0 : 0 ≤ s0 56 0 ∧ s0 56 0 ≤ s0 54 0) (hpre1 : s0 54 0 ≤ 160) : (((f_X3_stands x0 s0) = 0 ∨ (f_X3_stands x0 s0) = 1)) := by
  have hT := f_X3_stands_e x0 s0
  have kx := xlen_p x0 hx0
  have hp1 := xlen_p x0 (by omega)
  have hr2 := (hm_s0 54 0).1 rfl
  have hr3 := (hm_s0 56 0).1 rfl
  by_cases h4 : (xlen x0) = ((s0 54 0) - (s0 56 0))
  · replace hT := hT.trans (if_pos h4)
    have L14 : ∀ (n15 : Nat) (v13 : Int), ((in32 v13) ∧ (0 ≤ v13 ∧ v13 ≤ xlen x0)) → xlen x0 - v13 < (n15 : Int) → (f_X3_stands x0 s0) = (t_X3_stands_20 x0 s0 n15 v13) → (((f_X3_stands x0 s0) = 0 ∨ (f_X3_stands x0 s0) = 1)) := by
      intro n15; induction n15 with
      | zero =>
        intro v13 hq hm hT
        exfalso
        obtain ⟨hq23, hq24⟩ := hq
        omega
      | succ n15 ih =>
        intro v13 hq hm hT
        obtain ⟨hq25, hq26⟩ := hq
        replace hT := hT.trans (t_X3_stands_20_s x0 s0 n15 v13)
        have hp17 := xlen_p x0 (by omega)
        by_cases h18 : v13 < (xlen x0)
        · replace hT := hT.trans (if_pos h18)
          have hr19 := (hm_s0 56 0).1 rfl
          have hr20 := (hm_s0 33 ((s0 56 0) + v13)).1 rfl
          have hp21 := xch_p x0 v13 (by omega) (by omega)
          by_cases h22 : (s0 33 ((s0 56 0) + v13)) = (xch x0 v13)
          · replace hT := hT.trans (if_pos h22)
            exact ih (v13 + 1) ⟨(by omega), (by first | assumption | omega)⟩ (by omega) hT
          · replace hT := hT.trans (if_neg h22)
            rw [hT]
            exact (by first | exact Or.inl rfl | exact Or.inr rfl | omega)
        · replace hT := hT.trans (if_neg h18)
          rw [hT]
          exact (by first | exact Or.inl rfl | exact Or.inr rfl | omega)
    exact L14 7 0 ⟨(by omega), (by first | assumption | omega)⟩ (by omega) hT
  · replace hT := hT.trans (if_neg h4)
    rw [hT]
    exact (by first | exact Or.inl rfl | exact Or.inr rfl | omega)
set_option maxRecDepth 100000 in
set_option maxHeartbeats 4000000 in
theorem c_X3_stands (l : Launch) (D : va_G) (a : Nat → Nat) (cI cJ cS cT : ClassId) (adK adV : Nat → Nat) (kA : Nat) (s0 : gMem) (x0 : Int) (hx0 : rg12 x0) (hpre0 : 0 ≤ s0 56 0 ∧ s0 56 0 ≤ s0 54 0) (hpre1 : s0 54 0 ≤ 160) : gCS l yX3_stands cX3_stands 3 (some .boolean) 5 320 D vwCl (gT cI cJ cS cT) (wdX a cI cJ cS cT) lgX kI rgZ [.ref (a 2), .ref (adK x0.toNat)] s0 ((f_X3_stands x0 s0), s0) adK adV kA := by
  refine gCS_of (by decide +kernel) (hwdX a cI cJ cS cT) (Nat.le_of_ble_eq_true rfl) ?_
  intro A p e R s m args below meth c hR E HX
  subst hR
  have hT := f_X3_stands_e x0 s0
  refine k_lv0 (lv' := [(0, .ref (a 2)), (1, .ref (adK x0.toNat))]) rfl ?_
  refine k_mr (fun hm_s0 => ?_)
  have kx := xlen_p x0 hx0
  refine k_aloadn (pc := 0) E 1 dX3_stands_0 rfl rfl ?_
  refine k_callVS (pc := 1) (np := 0) (As := []) (st := []) E HX (C := "java/lang/String") (fun H locs hS => vk_recv HX.2.1 (tn12 (by omega)) hS) (c_strlen l D a cI cJ cS cT adK adV kA s0 x0 (by omega)) wm_366 wm_12 wm_363 wm_364 wm_365 (by decide +kernel) ⟨by decide, by decide⟩ rfl (Nat.le_of_ble_eq_true rfl) dX3_stands_1 (ro_kk (fun _ => ?_))
  have hp1 := xlen_p x0 (by omega)
  refine k_st (st' := [gI (xlen x0)]) rfl ?_
  refine k_aloadn (pc := 4) E 0 dX3_stands_4 rfl rfl ?_
  refine k_getfI (pc := 5) (q0 := 2) (f := 5) (k := 54) E inX3 rfl rfl (by decide) wm_64 rfl rfl rfl dX3_stands_5 (fun hr2 => ?_)
  refine k_aloadn (pc := 8) E 0 dX3_stands_8 rfl rfl ?_
  refine k_getfI (pc := 9) (q0 := 2) (f := 7) (k := 56) E inX3 rfl rfl (by decide) wm_66 rfl rfl rfl dX3_stands_9 (fun hr3 => ?_)
  refine k_isub (pc := 12) E dX3_stands_12 ?_
  by_cases h4 : (xlen x0) = ((s0 54 0) - (s0 56 0))
  · replace hT := hT.trans (if_pos h4)
    refine k_icmp_eq_t (pc := 13) (tgt := 18) E (by omega) (by omega) dX3_stands_13 (by decide) h4 ?_
    refine k_iconst (pc := 18) E dX3_stands_18 ?_
    refine k_istoren (pc := 19) (lv' := [(2, gI 0), (0, .ref (a 2)), (1, .ref (adK x0.toNat))]) E dX3_stands_19 rfl (by decide) rfl ?_
    have L14 : ∀ (n15 : Nat) (v13 : Int), ((in32 v13) ∧ (0 ≤ v13 ∧ v13 ≤ xlen x0)) → xlen x0 - v13 < (n15 : Int) → (f_X3_stands x0 s0) = (t_X3_stands_20 x0 s0 n15 v13) → gK D vwCl (wdX a cI cJ cS cT) lgX A p l e { frames := 5, cells := 0, slots := 0, locals := 320 } s m args below meth c 3 (gQQ D vwCl (wdX a cI cJ cS cT) lgX A kI rgZ below args s) ((f_X3_stands x0 s0), s0) s0 20 [(0, .ref (a 2)), (1, .ref (adK x0.toNat)), (2, gI v13)] [] := by
      intro n15; induction n15 with
      | zero =>
        intro v13 hq hm hT
        exfalso
        obtain ⟨hq23, hq24⟩ := hq
        omega
      | succ n15 ih =>
        intro v13 hq hm hT
        obtain ⟨hq25, hq26⟩ := hq
        replace hT := hT.trans (t_X3_stands_20_s x0 s0 n15 v13)
        refine k_iloadn (pc := 20) E 2 dX3_stands_20 rfl rfl ?_
        refine k_aloadn (pc := 21) E 1 dX3_stands_21 rfl rfl ?_
        refine k_callVS (pc := 22) (np := 0) (As := []) (st := [gI v13]) E HX (C := "java/lang/String") (fun H locs hS => vk_recv HX.2.1 (tn12 (by omega)) hS) (c_strlen l D a cI cJ cS cT adK adV kA s0 x0 (by omega)) wm_366 wm_12 wm_363 wm_364 wm_365 (by decide +kernel) ⟨by decide, by decide⟩ rfl (Nat.le_of_ble_eq_true rfl) dX3_stands_22 (ro_kk (fun _ => ?_))
        have hp17 := xlen_p x0 (by omega)
        refine k_st (st' := [gI (xlen x0), gI v13]) rfl ?_
        by_cases h18 : v13 < (xlen x0)
        · replace hT := hT.trans (if_pos h18)
          refine k_icmp_ge_f (pc := 25) (tgt := 55) E (by omega) (by omega) dX3_stands_25 (by decide) h18 ?_
          refine k_aloadn (pc := 28) E 0 dX3_stands_28 rfl rfl ?_
          refine k_getf (pc := 29) (q0 := 2) (f := 0) (v := .ref (a 33)) E inX3 rfl rfl (by decide) wm_56 rfl rfl dX3_stands_29 ?_
          refine k_aloadn (pc := 32) E 0 dX3_stands_32 rfl rfl ?_
          refine k_getfI (pc := 33) (q0 := 2) (f := 7) (k := 56) E inX3 rfl rfl (by decide) wm_66 rfl rfl rfl dX3_stands_33 (fun hr19 => ?_)
          refine k_iloadn (pc := 36) E 2 dX3_stands_36 rfl rfl ?_
          refine k_iadd (pc := 37) E dX3_stands_37 ?_
          refine k_iaload (pc := 38) (q0 := 33) (t0 := 0) (k := 33) (n := 160) E rfl rfl rfl (by decide) (by omega) (by omega) dX3_stands_38 (fun hr20 => ?_)
          refine k_aloadn (pc := 39) E 1 dX3_stands_39 rfl rfl ?_
          refine k_iloadn (pc := 40) E 2 dX3_stands_40 rfl rfl ?_
          refine k_callVS (pc := 41) (np := 1) (As := [gI v13]) (st := [gI (s0 33 ((s0 56 0) + v13))]) E HX (C := "java/lang/String") (fun H locs hS => vk_recv HX.2.1 (tn12 (by omega)) hS) (c_strat l D a cI cJ cS cT adK adV kA s0 x0 (by omega) v13 (by omega) (by omega)) wm_376 wm_12 wm_373 wm_374 wm_375 (by decide +kernel) ⟨by decide, by decide⟩ rfl (Nat.le_of_ble_eq_true rfl) dX3_stands_41 (ro_kk (fun _ => ?_))
          have hp21 := xch_p x0 v13 (by omega) (by omega)
          refine k_st (st' := [gI (xch x0 v13), gI (s0 33 ((s0 56 0) + v13))]) rfl ?_
          by_cases h22 : (s0 33 ((s0 56 0) + v13)) = (xch x0 v13)
          · replace hT := hT.trans (if_pos h22)
            refine k_icmp_eq_t (pc := 44) (tgt := 49) E (by omega) (by omega) dX3_stands_44 (by decide) h22 ?_
            refine k_iinc (pc := 49) (lv' := [(2, gI (v13 + 1)), (0, .ref (a 2)), (1, .ref (adK x0.toNat))]) E 2 dX3_stands_49 rfl (by decide) rfl ?_
            refine k_goto (pc := 52) (tgt := 20) E dX3_stands_52 (by decide) ?_
            refine k_lv (lv' := [(0, .ref (a 2)), (1, .ref (adK x0.toNat)), (2, gI (v13 + 1))]) [1, 2, 0] rfl ?_
            exact ih (v13 + 1) ⟨(by omega), (by first | assumption | omega)⟩ (by omega) hT
          · replace hT := hT.trans (if_neg h22)
            refine k_icmp_eq_f (pc := 44) (tgt := 49) E (by omega) (by omega) dX3_stands_44 (by decide) h22 ?_
            refine k_iconst (pc := 47) E dX3_stands_47 ?_
            exact k_rho (congrArg (fun q => (q, s0)) hT) (k_zret (pc := 48) E dX3_stands_48 (by first | exact Or.inl rfl | exact Or.inr rfl | omega))
        · replace hT := hT.trans (if_neg h18)
          refine k_icmp_ge_t (pc := 25) (tgt := 55) E (by omega) (by omega) dX3_stands_25 (by decide) h18 ?_
          refine k_iconst (pc := 55) E dX3_stands_55 ?_
          exact k_rho (congrArg (fun q => (q, s0)) hT) (k_zret (pc := 56) E dX3_stands_56 (by first | exact Or.inl rfl | exact Or.inr rfl | omega))
    refine k_lv (lv' := [(0, .ref (a 2)), (1, .ref (adK x0.toNat)), (2, gI 0)]) [1, 2, 0] rfl ?_
    exact L14 7 0 ⟨(by omega), (by first | assumption | omega)⟩ (by omega) hT
  · replace hT := hT.trans (if_neg h4)
    refine k_icmp_eq_f (pc := 13) (tgt := 18) E (by omega) (by omega) dX3_stands_13 (by decide) h4 ?_
    refine k_iconst (pc := 16) E dX3_stands_16 ?_
    exact k_rho (congrArg (fun q => (q, s0)) hT) (k_zret (pc := 17) E dX3_stands_17 (by first | exact Or.inl rfl | exact Or.inr rfl | omega))

def w_X3_nextWord_0  : Nat → gMem → gMem
  | 0, s1 => s1
  | n2 + 1, s1 => (if (s1 54 0) < (s1 52 0) then (if (f_X3_isLetter (s1 33 (s1 54 0))) = 0 then s1 else gl (mset s1 54 0 ((s1 54 0) + 1)) (fun s12 => (w_X3_nextWord_0 n2 s12))) else s1)
theorem w_X3_nextWord_0_s  (n2 : Nat)  (s1 : gMem) : w_X3_nextWord_0  (n2 + 1) s1 = (if (s1 54 0) < (s1 52 0) then (if (f_X3_isLetter (s1 33 (s1 54 0))) = 0 then s1 else gl (mset s1 54 0 ((s1 54 0) + 1)) (fun s12 => (w_X3_nextWord_0 n2 s12))) else s1) := rfl
def w_X3_nextWord_46  : Nat → Int → gMem → Int × gMem
  | 0, v71, s72 => (v71, s72)
  | n73 + 1, v71, s72 => (if v71 < 12 then (gl ((if (f_X3_stands (f_X3_word v71) s72) = 0 then s72 else gl (mset s72 55 0 (256 + v71)) (fun s90 => s90))) (fun s81 => (w_X3_nextWord_46 n73 (v71 + 1) s81))) else (v71, s72))
theorem w_X3_nextWord_46_s  (n73 : Nat) (v71 : Int) (s72 : gMem) : w_X3_nextWord_46  (n73 + 1) v71 s72 = (if v71 < 12 then (gl ((if (f_X3_stands (f_X3_word v71) s72) = 0 then s72 else gl (mset s72 55 0 (256 + v71)) (fun s90 => s90))) (fun s81 => (w_X3_nextWord_46 n73 (v71 + 1) s81))) else (v71, s72)) := rfl
def f_X3_nextWord  (s0 : gMem) : gRes := (gl (w_X3_nextWord_0 161 s0) (fun  s55 => gl (mset s55 55 0 1) (fun s63 => (gl2 (w_X3_nextWord_46 13 0 s63) (fun v146 s147 => (0, s147))))))
theorem f_X3_nextWord_e  (s0 : gMem) : f_X3_nextWord s0 = (gl (w_X3_nextWord_0 161 s0) (fun  s55 => gl (mset s55 55 0 1) (fun s63 => (gl2 (w_X3_nextWord_46 13 0 s63) (fun v146 s147 => (0, s147)))))) := rfl
set_option maxRecDepth 100000 in
set_option maxHeartbeats 4000000 in
theorem f_X3_nextWord_p  (s0 : gMem)  (hm_s0 : gMR lgX s0) (hpre0 : TK s0) (hpre1 : s0 56 0 = s0 54 0) (rZ : Int) (sZ : gMem) (hres : f_X3_nextWord s0 = (rZ, sZ)) : (fr [54, 55] s0 sZ) ∧ (gMR lgX sZ) ∧ (True) ∧ (TK sZ) := by
  have hT := f_X3_nextWord_e  s0
  have hf_s0 : fr [54, 55] s0 s0 := fr.rf _ _
  obtain ⟨kt1, kt2, kt3, kt4, kt5, kt6, kt7⟩ := id hpre0
  have L21 : ∀ (n22 : Nat)  (s20 : gMem), ((fr [54, 55] s0 s20) ∧ (gMR lgX s20) ∧ (s20 52 0 = s0 52 0) ∧ (s20 53 0 = s0 53 0) ∧ (s20 55 0 = s0 55 0) ∧ (s20 56 0 = s0 56 0) ∧ (s20 57 0 = s0 57 0) ∧ (s20 58 0 = s0 58 0) ∧ (s0 54 0 ≤ s20 54 0 ∧ s20 54 0 ≤ s0 52 0)) → s0 52 0 - s20 54 0 < (n22 : Int) → (∀  (s23 : gMem), (w_X3_nextWord_0 n22 s20) = s23 → ((fr [54, 55] s0 s23) ∧ (gMR lgX s23) ∧ (s23 52 0 = s0 52 0) ∧ (s23 53 0 = s0 53 0) ∧ (s23 55 0 = s0 55 0) ∧ (s23 56 0 = s0 56 0) ∧ (s23 57 0 = s0 57 0) ∧ (s23 58 0 = s0 58 0) ∧ (s0 54 0 ≤ s23 54 0 ∧ s23 54 0 ≤ s0 52 0)) → (fr [54, 55] s0 sZ) ∧ (gMR lgX sZ) ∧ (True) ∧ (TK sZ)) → (fr [54, 55] s0 sZ) ∧ (gMR lgX sZ) ∧ (True) ∧ (TK sZ) := by
    intro n22; induction n22 with
    | zero =>
      intro  s20 hq hm hk
      exfalso
      obtain ⟨hf_s20, hm_s20, hq41, hq42, hq43, hq44, hq45, hq46, hq47⟩ := hq
      omega
    | succ n22 ih =>
      intro  s20 hq hm hk
      obtain ⟨hf_s20, hm_s20, hq48, hq49, hq50, hq51, hq52, hq53, hq54⟩ := hq
      have hT := w_X3_nextWord_0_s  n22  s20
      have hr24 := (hm_s20 54 0).1 rfl
      have hr25 := (hm_s20 52 0).1 rfl
      by_cases h26 : (s20 54 0) < (s20 52 0)
      · replace hT := hT.trans (if_pos h26)
        have hr27 := (hm_s20 54 0).1 rfl
        have hr28 := (hm_s20 33 (s20 54 0)).1 rfl
        have hp30 := f_X3_isLetter_p (s20 33 (s20 54 0)) (by omega) 
        by_cases h31 : (f_X3_isLetter (s20 33 (s20 54 0))) = 0
        · replace hT := hT.trans (if_pos h31)
          exact hk  s20 hT ⟨hf_s20, hm_s20, (by first | assumption | omega), (by first | assumption | omega), (by first | assumption | omega), (by first | assumption | omega), (by first | assumption | omega), (by first | assumption | omega), (by first | assumption | omega)⟩
        · replace hT := hT.trans (if_neg h31)
          have hr32 := (hm_s20 54 0).1 rfl
          obtain ⟨s33, hs33, hT⟩ := glx hT
          have hf_s33 : fr [54, 55] s0 s33 := hs33 ▸ hf_s20.set (by decide)
          have hm_s33 : gMR lgX s33 := hs33 ▸ hm_s20.set32 rfl (by omega)
          have ht34 : s33 52 0 = s20 52 0 := by rw [hs33]; exact mset_ne _ _ _ _ _ (by decide)
          have ht35 : s33 53 0 = s20 53 0 := by rw [hs33]; exact mset_ne _ _ _ _ _ (by decide)
          have ht36 : s33 54 0 = ((s20 54 0) + 1) := by rw [hs33]; exact mset_eq _ _ _ _
          have ht37 : s33 55 0 = s20 55 0 := by rw [hs33]; exact mset_ne _ _ _ _ _ (by decide)
          have ht38 : s33 56 0 = s20 56 0 := by rw [hs33]; exact mset_ne _ _ _ _ _ (by decide)
          have ht39 : s33 57 0 = s20 57 0 := by rw [hs33]; exact mset_ne _ _ _ _ _ (by decide)
          have ht40 : s33 58 0 = s20 58 0 := by rw [hs33]; exact mset_ne _ _ _ _ _ (by decide)
          exact ih  s33 ⟨hf_s33, hm_s33, (by first | assumption | omega), (by first | assumption | omega), (by first | assumption | omega), (by first | assumption | omega), (by first | assumption | omega), (by first | assumption | omega), (by first | assumption | omega)⟩ (by omega) (fun  s23 hw hi => hk  s23 (hT.trans hw) hi)
      · replace hT := hT.trans (if_neg h26)
        exact hk  s20 hT ⟨hf_s20, hm_s20, (by first | assumption | omega), (by first | assumption | omega), (by first | assumption | omega), (by first | assumption | omega), (by first | assumption | omega), (by first | assumption | omega), (by first | assumption | omega)⟩
  refine L21 161  s0 ⟨hf_s0, hm_s0, (by first | assumption | omega), (by first | assumption | omega), (by first | assumption | omega), (by first | assumption | omega), (by first | assumption | omega), (by first | assumption | omega), (by first | assumption | omega)⟩ (by omega) (fun  s55 hw hq => ?_)
  obtain ⟨hf_s55, hm_s55, hq56, hq57, hq58, hq59, hq60, hq61, hq62⟩ := hq
  replace hT := gl1y hT hw
  obtain ⟨s63, hs63, hT⟩ := glx hT
  have hf_s63 : fr [54, 55] s0 s63 := hs63 ▸ hf_s55.set (by decide)
  have hm_s63 : gMR lgX s63 := hs63 ▸ hm_s55.set32 rfl (by omega)
  have ht64 : s63 52 0 = s55 52 0 := by rw [hs63]; exact mset_ne _ _ _ _ _ (by decide)
  have ht65 : s63 53 0 = s55 53 0 := by rw [hs63]; exact mset_ne _ _ _ _ _ (by decide)
  have ht66 : s63 54 0 = s55 54 0 := by rw [hs63]; exact mset_ne _ _ _ _ _ (by decide)
  have ht67 : s63 55 0 = 1 := by rw [hs63]; exact mset_eq _ _ _ _
  have ht68 : s63 56 0 = s55 56 0 := by rw [hs63]; exact mset_ne _ _ _ _ _ (by decide)
  have ht69 : s63 57 0 = s55 57 0 := by rw [hs63]; exact mset_ne _ _ _ _ _ (by decide)
  have ht70 : s63 58 0 = s55 58 0 := by rw [hs63]; exact mset_ne _ _ _ _ _ (by decide)
  have L100 : ∀ (n101 : Nat) (v98 : Int) (s99 : gMem), ((in32 v98) ∧ (fr [54, 55] s0 s99) ∧ (gMR lgX s99) ∧ (s99 52 0 = s63 52 0) ∧ (s99 53 0 = s63 53 0) ∧ (s99 54 0 = s63 54 0) ∧ (s99 56 0 = s63 56 0) ∧ (s99 57 0 = s63 57 0) ∧ (s99 58 0 = s63 58 0) ∧ (0 ≤ v98 ∧ v98 ≤ 12) ∧ (1 ≤ s99 55 0 ∧ s99 55 0 ≤ 267 ∧ s99 55 0 ≠ 2)) → 12 - v98 < (n101 : Int) → (∀ (w102 : Int) (s103 : gMem), (w_X3_nextWord_46 n101 v98 s99) = (w102, s103) → ((in32 w102) ∧ (fr [54, 55] s0 s103) ∧ (gMR lgX s103) ∧ (s103 52 0 = s63 52 0) ∧ (s103 53 0 = s63 53 0) ∧ (s103 54 0 = s63 54 0) ∧ (s103 56 0 = s63 56 0) ∧ (s103 57 0 = s63 57 0) ∧ (s103 58 0 = s63 58 0) ∧ (0 ≤ w102 ∧ w102 ≤ 12) ∧ (1 ≤ s103 55 0 ∧ s103 55 0 ≤ 267 ∧ s103 55 0 ≠ 2)) → (fr [54, 55] s0 sZ) ∧ (gMR lgX sZ) ∧ (True) ∧ (TK sZ)) → (fr [54, 55] s0 sZ) ∧ (gMR lgX sZ) ∧ (True) ∧ (TK sZ) := by
    intro n101; induction n101 with
    | zero =>
      intro v98 s99 hq hm hk
      exfalso
      obtain ⟨hq128, hf_s99, hm_s99, hq129, hq130, hq131, hq132, hq133, hq134, hq135, hq136⟩ := hq
      omega
    | succ n101 ih =>
      intro v98 s99 hq hm hk
      obtain ⟨hq137, hf_s99, hm_s99, hq138, hq139, hq140, hq141, hq142, hq143, hq144, hq145⟩ := hq
      have hT := w_X3_nextWord_46_s  n101 v98 s99
      by_cases h104 : v98 < 12
      · replace hT := hT.trans (if_pos h104)
        have hp106 := f_X3_word_p v98 (by omega) 
        have hp108 := f_X3_stands_p (f_X3_word v98) s99 (by omega) hm_s99 (by first | assumption | omega) (by first | assumption | omega)
        obtain ⟨z119, hz119, hT⟩ := gl1x hT
        have j110 : ∀ (s111 : gMem), ((fr [54, 55] s0 s111) ∧ (gMR lgX s111) ∧ (s111 52 0 = s99 52 0) ∧ (s111 53 0 = s99 53 0) ∧ (s111 54 0 = s99 54 0) ∧ (s111 56 0 = s99 56 0) ∧ (s111 57 0 = s99 57 0) ∧ (s111 58 0 = s99 58 0) ∧ (1 ≤ s111 55 0 ∧ s111 55 0 ≤ 267 ∧ s111 55 0 ≠ 2)) → z119 = s111 → (fr [54, 55] s0 sZ) ∧ (gMR lgX sZ) ∧ (True) ∧ (TK sZ) := by
          intro s111 hq hz
          obtain ⟨hf_s111, hm_s111, hq112, hq113, hq114, hq115, hq116, hq117, hq118⟩ := hq
          replace hT := gl1y hT hz
          exact ih (v98 + 1) s111 ⟨(by omega), hf_s111, hm_s111, (by first | assumption | omega), (by first | assumption | omega), (by first | assumption | omega), (by first | assumption | omega), (by first | assumption | omega), (by first | assumption | omega), (by first | assumption | omega), (by first | assumption | omega)⟩ (by omega) (fun w102 s103 hw hi => hk w102 s103 (hT.trans hw) hi)
        replace hT := hz119
        by_cases h109 : (f_X3_stands (f_X3_word v98) s99) = 0
        · replace hT := hT.trans (if_pos h109)
          exact j110 s99 ⟨hf_s99, hm_s99, (by first | assumption | omega), (by first | assumption | omega), (by first | assumption | omega), (by first | assumption | omega), (by first | assumption | omega), (by first | assumption | omega), (by first | assumption | omega)⟩ hT
        · replace hT := hT.trans (if_neg h109)
          obtain ⟨s120, hs120, hT⟩ := glx hT
          have hf_s120 : fr [54, 55] s0 s120 := hs120 ▸ hf_s99.set (by decide)
          have hm_s120 : gMR lgX s120 := hs120 ▸ hm_s99.set32 rfl (by omega)
          have ht121 : s120 52 0 = s99 52 0 := by rw [hs120]; exact mset_ne _ _ _ _ _ (by decide)
          have ht122 : s120 53 0 = s99 53 0 := by rw [hs120]; exact mset_ne _ _ _ _ _ (by decide)
          have ht123 : s120 54 0 = s99 54 0 := by rw [hs120]; exact mset_ne _ _ _ _ _ (by decide)
          have ht124 : s120 55 0 = (256 + v98) := by rw [hs120]; exact mset_eq _ _ _ _
          have ht125 : s120 56 0 = s99 56 0 := by rw [hs120]; exact mset_ne _ _ _ _ _ (by decide)
          have ht126 : s120 57 0 = s99 57 0 := by rw [hs120]; exact mset_ne _ _ _ _ _ (by decide)
          have ht127 : s120 58 0 = s99 58 0 := by rw [hs120]; exact mset_ne _ _ _ _ _ (by decide)
          exact j110 s120 ⟨hf_s120, hm_s120, (by first | assumption | omega), (by first | assumption | omega), (by first | assumption | omega), (by first | assumption | omega), (by first | assumption | omega), (by first | assumption | omega), (by first | assumption | omega)⟩ hT
      · replace hT := hT.trans (if_neg h104)
        exact hk v98 s99 hT ⟨(by omega), hf_s99, hm_s99, (by first | assumption | omega), (by first | assumption | omega), (by first | assumption | omega), (by first | assumption | omega), (by first | assumption | omega), (by first | assumption | omega), (by first | assumption | omega), (by first | assumption | omega)⟩
  refine L100 13 0 s63 ⟨(by omega), hf_s63, hm_s63, (by first | assumption | omega), (by first | assumption | omega), (by first | assumption | omega), (by first | assumption | omega), (by first | assumption | omega), (by first | assumption | omega), (by first | assumption | omega), (by first | assumption | omega)⟩ (by omega) (fun v146 s147 hw hq => ?_)
  obtain ⟨hq148, hf_s147, hm_s147, hq149, hq150, hq151, hq152, hq153, hq154, hq155, hq156⟩ := hq
  replace hT := gl2y hT hw
  obtain ⟨rfl, rfl⟩ := Prod.mk.inj (hT.symm.trans hres)
  exact ⟨hf_s147, hm_s147, trivial, (by unfold TK; omega)⟩
set_option maxRecDepth 100000 in
set_option maxHeartbeats 4000000 in
theorem c_X3_nextWord (l : Launch) (D : va_G) (a : Nat → Nat) (cI cJ cS cT : ClassId) (adK adV : Nat → Nat) (kA : Nat) (s0 : gMem)   (hpre0 : TK s0) (hpre1 : s0 56 0 = s0 54 0) : gCS l yX3_nextWord cX3_nextWord 2 none 6 384 D vwCl (gT cI cJ cS cT) (wdX a cI cJ cS cT) lgX kV rgV [.ref (a 2)] s0 (f_X3_nextWord s0) adK adV kA := by
  refine gCS_of (by decide +kernel) (hwdX a cI cJ cS cT) (Nat.le_of_ble_eq_true rfl) ?_
  intro A p e R s m args below meth c hR E HX
  subst hR
  have hT := f_X3_nextWord_e  s0
  have hf_s0 : fr [54, 55] s0 s0 := fr.rf _ _
  refine k_lv0 (lv' := [(0, .ref (a 2))]) rfl ?_
  refine k_mr (fun hm_s0 => ?_)
  obtain ⟨kt1, kt2, kt3, kt4, kt5, kt6, kt7⟩ := id hpre0
  have L21 : ∀ (n22 : Nat)  (s20 : gMem), ((fr [54, 55] s0 s20) ∧ (s20 52 0 = s0 52 0) ∧ (s20 53 0 = s0 53 0) ∧ (s20 55 0 = s0 55 0) ∧ (s20 56 0 = s0 56 0) ∧ (s20 57 0 = s0 57 0) ∧ (s20 58 0 = s0 58 0) ∧ (s0 54 0 ≤ s20 54 0 ∧ s20 54 0 ≤ s0 52 0)) → s0 52 0 - s20 54 0 < (n22 : Int) → (∀  (s23 : gMem), (w_X3_nextWord_0 n22 s20) = s23 → ((fr [54, 55] s0 s23) ∧ (s23 52 0 = s0 52 0) ∧ (s23 53 0 = s0 53 0) ∧ (s23 55 0 = s0 55 0) ∧ (s23 56 0 = s0 56 0) ∧ (s23 57 0 = s0 57 0) ∧ (s23 58 0 = s0 58 0) ∧ (s0 54 0 ≤ s23 54 0 ∧ s23 54 0 ≤ s0 52 0)) → gK D vwCl (wdX a cI cJ cS cT) lgX A p l e { frames := 6, cells := 0, slots := 0, locals := 384 } s m args below meth c 2 (gQQ D vwCl (wdX a cI cJ cS cT) lgX A kV rgV below args s) (f_X3_nextWord s0) s23 39 [(0, .ref (a 2))] []) → gK D vwCl (wdX a cI cJ cS cT) lgX A p l e { frames := 6, cells := 0, slots := 0, locals := 384 } s m args below meth c 2 (gQQ D vwCl (wdX a cI cJ cS cT) lgX A kV rgV below args s) (f_X3_nextWord s0) s20 0 [(0, .ref (a 2))] [] := by
    intro n22; induction n22 with
    | zero =>
      intro  s20 hq hm hk
      exfalso
      obtain ⟨hf_s20, hq41, hq42, hq43, hq44, hq45, hq46, hq47⟩ := hq
      omega
    | succ n22 ih =>
      intro  s20 hq hm hk
      obtain ⟨hf_s20, hq48, hq49, hq50, hq51, hq52, hq53, hq54⟩ := hq
      have hT := w_X3_nextWord_0_s  n22  s20
      refine k_aloadn (pc := 0) E 0 dX3_nextWord_0 rfl rfl ?_
      refine k_getfI (pc := 1) (q0 := 2) (f := 5) (k := 54) E inX3 rfl rfl (by decide) wm_64 rfl rfl rfl dX3_nextWord_1 (fun hr24 => ?_)
      refine k_aloadn (pc := 4) E 0 dX3_nextWord_4 rfl rfl ?_
      refine k_getfI (pc := 5) (q0 := 2) (f := 3) (k := 52) E inX3 rfl rfl (by decide) wm_61 rfl rfl rfl dX3_nextWord_5 (fun hr25 => ?_)
      by_cases h26 : (s20 54 0) < (s20 52 0)
      · replace hT := hT.trans (if_pos h26)
        refine k_icmp_ge_f (pc := 8) (tgt := 39) E (by omega) (by omega) dX3_nextWord_8 (by decide) h26 ?_
        refine k_aloadn (pc := 11) E 0 dX3_nextWord_11 rfl rfl ?_
        refine k_getf (pc := 12) (q0 := 2) (f := 0) (v := .ref (a 33)) E inX3 rfl rfl (by decide) wm_56 rfl rfl dX3_nextWord_12 ?_
        refine k_aloadn (pc := 15) E 0 dX3_nextWord_15 rfl rfl ?_
        refine k_getfI (pc := 16) (q0 := 2) (f := 5) (k := 54) E inX3 rfl rfl (by decide) wm_64 rfl rfl rfl dX3_nextWord_16 (fun hr27 => ?_)
        refine k_iaload (pc := 19) (q0 := 33) (t0 := 0) (k := 33) (n := 160) E rfl rfl rfl (by decide) (by omega) (by omega) dX3_nextWord_19 (fun hr28 => ?_)
        refine k_mr (fun hm_s20 => ?_)
        refine k_callS (pc := 20) (np := 1) (As := [gI (s20 33 (s20 54 0))]) (st := []) E (c_X3_isLetter l D a cI cJ cS cT s20 (s20 33 (s20 54 0)) (by omega)) wm_339 wm_3 wm_337 wm_338 (by decide +kernel) ⟨by decide, by decide⟩ rfl (Nat.le_of_ble_eq_true rfl) dX3_nextWord_20 (ro_kk (fun hr29 => ?_))
        have hp30 := f_X3_isLetter_p (s20 33 (s20 54 0)) (by omega) 
        refine k_st (st' := [gI (f_X3_isLetter (s20 33 (s20 54 0)))]) rfl ?_
        by_cases h31 : (f_X3_isLetter (s20 33 (s20 54 0))) = 0
        · replace hT := hT.trans (if_pos h31)
          refine k_if_eq_t (pc := 23) (tgt := 39) E (by omega) dX3_nextWord_23 (by decide) h31 ?_
          exact hk  s20 hT ⟨hf_s20, (by first | assumption | omega), (by first | assumption | omega), (by first | assumption | omega), (by first | assumption | omega), (by first | assumption | omega), (by first | assumption | omega), (by first | assumption | omega)⟩
        · replace hT := hT.trans (if_neg h31)
          refine k_if_eq_f (pc := 23) (tgt := 39) E (by omega) dX3_nextWord_23 (by decide) h31 ?_
          refine k_aloadn (pc := 26) E 0 dX3_nextWord_26 rfl rfl ?_
          refine k_dup (pc := 27) E dX3_nextWord_27 rfl ?_
          refine k_getfI (pc := 28) (q0 := 2) (f := 5) (k := 54) E inX3 rfl rfl (by decide) wm_64 rfl rfl rfl dX3_nextWord_28 (fun hr32 => ?_)
          refine k_iconst (pc := 31) E dX3_nextWord_31 ?_
          refine k_iadd (pc := 32) E dX3_nextWord_32 ?_
          refine k_putfI (pc := 33) (q0 := 2) (f := 5) (k := 54) E tyX3 tyX3_ok nmX3 inX3 rfl rfl (by decide) wm_64 rfl rfl rfl (Nat.le_of_ble_eq_true rfl) rfl rfl (by omega) dX3_nextWord_33 ?_
          obtain ⟨s33, hs33, hT⟩ := glx hT
          refine k_sg hs33.symm ?_
          have hf_s33 : fr [54, 55] s0 s33 := hs33 ▸ hf_s20.set (by decide)
          have ht34 : s33 52 0 = s20 52 0 := by rw [hs33]; exact mset_ne _ _ _ _ _ (by decide)
          have ht35 : s33 53 0 = s20 53 0 := by rw [hs33]; exact mset_ne _ _ _ _ _ (by decide)
          have ht36 : s33 54 0 = ((s20 54 0) + 1) := by rw [hs33]; exact mset_eq _ _ _ _
          have ht37 : s33 55 0 = s20 55 0 := by rw [hs33]; exact mset_ne _ _ _ _ _ (by decide)
          have ht38 : s33 56 0 = s20 56 0 := by rw [hs33]; exact mset_ne _ _ _ _ _ (by decide)
          have ht39 : s33 57 0 = s20 57 0 := by rw [hs33]; exact mset_ne _ _ _ _ _ (by decide)
          have ht40 : s33 58 0 = s20 58 0 := by rw [hs33]; exact mset_ne _ _ _ _ _ (by decide)
          refine k_goto (pc := 36) (tgt := 0) E dX3_nextWord_36 (by decide) ?_
          exact ih  s33 ⟨hf_s33, (by first | assumption | omega), (by first | assumption | omega), (by first | assumption | omega), (by first | assumption | omega), (by first | assumption | omega), (by first | assumption | omega), (by first | assumption | omega)⟩ (by omega) (fun  s23 hw hi => hk  s23 (hT.trans hw) hi)
      · replace hT := hT.trans (if_neg h26)
        refine k_icmp_ge_t (pc := 8) (tgt := 39) E (by omega) (by omega) dX3_nextWord_8 (by decide) h26 ?_
        exact hk  s20 hT ⟨hf_s20, (by first | assumption | omega), (by first | assumption | omega), (by first | assumption | omega), (by first | assumption | omega), (by first | assumption | omega), (by first | assumption | omega), (by first | assumption | omega)⟩
  refine L21 161  s0 ⟨hf_s0, (by first | assumption | omega), (by first | assumption | omega), (by first | assumption | omega), (by first | assumption | omega), (by first | assumption | omega), (by first | assumption | omega), (by first | assumption | omega)⟩ (by omega) (fun  s55 hw hq => ?_)
  obtain ⟨hf_s55, hq56, hq57, hq58, hq59, hq60, hq61, hq62⟩ := hq
  replace hT := gl1y hT hw
  refine k_aloadn (pc := 39) E 0 dX3_nextWord_39 rfl rfl ?_
  refine k_iconst (pc := 40) E dX3_nextWord_40 ?_
  refine k_putfI (pc := 41) (q0 := 2) (f := 6) (k := 55) E tyX3 tyX3_ok nmX3 inX3 rfl rfl (by decide) wm_65 rfl rfl rfl (Nat.le_of_ble_eq_true rfl) rfl rfl (by omega) dX3_nextWord_41 ?_
  obtain ⟨s63, hs63, hT⟩ := glx hT
  refine k_sg hs63.symm ?_
  have hf_s63 : fr [54, 55] s0 s63 := hs63 ▸ hf_s55.set (by decide)
  have ht64 : s63 52 0 = s55 52 0 := by rw [hs63]; exact mset_ne _ _ _ _ _ (by decide)
  have ht65 : s63 53 0 = s55 53 0 := by rw [hs63]; exact mset_ne _ _ _ _ _ (by decide)
  have ht66 : s63 54 0 = s55 54 0 := by rw [hs63]; exact mset_ne _ _ _ _ _ (by decide)
  have ht67 : s63 55 0 = 1 := by rw [hs63]; exact mset_eq _ _ _ _
  have ht68 : s63 56 0 = s55 56 0 := by rw [hs63]; exact mset_ne _ _ _ _ _ (by decide)
  have ht69 : s63 57 0 = s55 57 0 := by rw [hs63]; exact mset_ne _ _ _ _ _ (by decide)
  have ht70 : s63 58 0 = s55 58 0 := by rw [hs63]; exact mset_ne _ _ _ _ _ (by decide)
  refine k_iconst (pc := 44) E dX3_nextWord_44 ?_
  refine k_istoren (pc := 45) (lv' := [(1, gI 0), (0, .ref (a 2))]) E dX3_nextWord_45 rfl (by decide) rfl ?_
  have L100 : ∀ (n101 : Nat) (v98 : Int) (s99 : gMem), ((in32 v98) ∧ (fr [54, 55] s0 s99) ∧ (s99 52 0 = s63 52 0) ∧ (s99 53 0 = s63 53 0) ∧ (s99 54 0 = s63 54 0) ∧ (s99 56 0 = s63 56 0) ∧ (s99 57 0 = s63 57 0) ∧ (s99 58 0 = s63 58 0) ∧ (0 ≤ v98 ∧ v98 ≤ 12) ∧ (1 ≤ s99 55 0 ∧ s99 55 0 ≤ 267 ∧ s99 55 0 ≠ 2)) → 12 - v98 < (n101 : Int) → (∀ (w102 : Int) (s103 : gMem), (w_X3_nextWord_46 n101 v98 s99) = (w102, s103) → ((in32 w102) ∧ (fr [54, 55] s0 s103) ∧ (s103 52 0 = s63 52 0) ∧ (s103 53 0 = s63 53 0) ∧ (s103 54 0 = s63 54 0) ∧ (s103 56 0 = s63 56 0) ∧ (s103 57 0 = s63 57 0) ∧ (s103 58 0 = s63 58 0) ∧ (0 ≤ w102 ∧ w102 ≤ 12) ∧ (1 ≤ s103 55 0 ∧ s103 55 0 ≤ 267 ∧ s103 55 0 ≠ 2)) → gK D vwCl (wdX a cI cJ cS cT) lgX A p l e { frames := 6, cells := 0, slots := 0, locals := 384 } s m args below meth c 2 (gQQ D vwCl (wdX a cI cJ cS cT) lgX A kV rgV below args s) (f_X3_nextWord s0) s103 78 [] []) → gK D vwCl (wdX a cI cJ cS cT) lgX A p l e { frames := 6, cells := 0, slots := 0, locals := 384 } s m args below meth c 2 (gQQ D vwCl (wdX a cI cJ cS cT) lgX A kV rgV below args s) (f_X3_nextWord s0) s99 46 [(0, .ref (a 2)), (1, gI v98)] [] := by
    intro n101; induction n101 with
    | zero =>
      intro v98 s99 hq hm hk
      exfalso
      obtain ⟨hq128, hf_s99, hq129, hq130, hq131, hq132, hq133, hq134, hq135, hq136⟩ := hq
      omega
    | succ n101 ih =>
      intro v98 s99 hq hm hk
      obtain ⟨hq137, hf_s99, hq138, hq139, hq140, hq141, hq142, hq143, hq144, hq145⟩ := hq
      have hT := w_X3_nextWord_46_s  n101 v98 s99
      refine k_iloadn (pc := 46) E 1 dX3_nextWord_46 rfl rfl ?_
      refine k_bipush (pc := 47) E dX3_nextWord_47 (by decide) ?_
      by_cases h104 : v98 < 12
      · replace hT := hT.trans (if_pos h104)
        refine k_icmp_ge_f (pc := 49) (tgt := 78) E (by omega) (by omega) dX3_nextWord_49 (by decide) h104 ?_
        refine k_aloadn (pc := 52) E 0 dX3_nextWord_52 rfl rfl ?_
        refine k_iloadn (pc := 53) E 1 dX3_nextWord_53 rfl rfl ?_
        refine k_callSX (pc := 54) (np := 1) (As := [gI v98]) (st := [.ref (a 2)]) E HX (c_X3_word l D a cI cJ cS cT adK adV kA s99 v98 (by omega)) wm_346 wm_3 wm_344 wm_345 (by decide +kernel) ⟨by decide, by decide⟩ rfl (Nat.le_of_ble_eq_true rfl) dX3_nextWord_54 (ro_kk (fun hr105 => ?_))
        refine k_st (st' := [.ref (adK (f_X3_word v98).toNat), .ref (a 2)]) rfl ?_
        refine k_callVX (pc := 57) (np := 1) (As := [.ref (adK (f_X3_word v98).toNat)]) (st := []) (q0 := 2) E HX rfl rfl (c_X3_stands l D a cI cJ cS cT adK adV kA s99 (f_X3_word v98) (by omega) (by first | assumption | omega) (by first | assumption | omega)) wm_362 wm_3 wm_359 wm_361 wp_2 (by decide +kernel) ⟨by decide, by decide⟩ rfl (Nat.le_of_ble_eq_true rfl) dX3_nextWord_57 (ro_kk (fun hr107 => ?_))
        refine k_st (st' := [gI (f_X3_stands (f_X3_word v98) s99)]) rfl ?_
        obtain ⟨z119, hz119, hT⟩ := gl1x hT
        have j110 : ∀ (s111 : gMem), ((fr [54, 55] s0 s111) ∧ (s111 52 0 = s99 52 0) ∧ (s111 53 0 = s99 53 0) ∧ (s111 54 0 = s99 54 0) ∧ (s111 56 0 = s99 56 0) ∧ (s111 57 0 = s99 57 0) ∧ (s111 58 0 = s99 58 0) ∧ (1 ≤ s111 55 0 ∧ s111 55 0 ≤ 267 ∧ s111 55 0 ≠ 2)) → z119 = s111 → gK D vwCl (wdX a cI cJ cS cT) lgX A p l e { frames := 6, cells := 0, slots := 0, locals := 384 } s m args below meth c 2 (gQQ D vwCl (wdX a cI cJ cS cT) lgX A kV rgV below args s) (f_X3_nextWord s0) s111 72 [(0, .ref (a 2)), (1, gI v98)] [] := by
          intro s111 hq hz
          obtain ⟨hf_s111, hq112, hq113, hq114, hq115, hq116, hq117, hq118⟩ := hq
          replace hT := gl1y hT hz
          refine k_iinc (pc := 72) (lv' := [(1, gI (v98 + 1)), (0, .ref (a 2))]) E 1 dX3_nextWord_72 rfl (by decide) rfl ?_
          refine k_goto (pc := 75) (tgt := 46) E dX3_nextWord_75 (by decide) ?_
          refine k_lv (lv' := [(0, .ref (a 2)), (1, gI (v98 + 1))]) [1, 0] rfl ?_
          exact ih (v98 + 1) s111 ⟨(by omega), hf_s111, (by first | assumption | omega), (by first | assumption | omega), (by first | assumption | omega), (by first | assumption | omega), (by first | assumption | omega), (by first | assumption | omega), (by first | assumption | omega), (by first | assumption | omega)⟩ (by omega) (fun w102 s103 hw hi => hk w102 s103 (hT.trans hw) hi)
        replace hT := hz119
        by_cases h109 : (f_X3_stands (f_X3_word v98) s99) = 0
        · replace hT := hT.trans (if_pos h109)
          refine k_if_eq_t (pc := 60) (tgt := 72) E (by omega) dX3_nextWord_60 (by decide) h109 ?_
          exact j110 s99 ⟨hf_s99, (by first | assumption | omega), (by first | assumption | omega), (by first | assumption | omega), (by first | assumption | omega), (by first | assumption | omega), (by first | assumption | omega), (by first | assumption | omega)⟩ hT
        · replace hT := hT.trans (if_neg h109)
          refine k_if_eq_f (pc := 60) (tgt := 72) E (by omega) dX3_nextWord_60 (by decide) h109 ?_
          refine k_aloadn (pc := 63) E 0 dX3_nextWord_63 rfl rfl ?_
          refine k_sipush (pc := 64) E dX3_nextWord_64 (by decide) ?_
          refine k_iloadn (pc := 67) E 1 dX3_nextWord_67 rfl rfl ?_
          refine k_iadd (pc := 68) E dX3_nextWord_68 ?_
          refine k_putfI (pc := 69) (q0 := 2) (f := 6) (k := 55) E tyX3 tyX3_ok nmX3 inX3 rfl rfl (by decide) wm_65 rfl rfl rfl (Nat.le_of_ble_eq_true rfl) rfl rfl (by omega) dX3_nextWord_69 ?_
          obtain ⟨s120, hs120, hT⟩ := glx hT
          refine k_sg hs120.symm ?_
          have hf_s120 : fr [54, 55] s0 s120 := hs120 ▸ hf_s99.set (by decide)
          have ht121 : s120 52 0 = s99 52 0 := by rw [hs120]; exact mset_ne _ _ _ _ _ (by decide)
          have ht122 : s120 53 0 = s99 53 0 := by rw [hs120]; exact mset_ne _ _ _ _ _ (by decide)
          have ht123 : s120 54 0 = s99 54 0 := by rw [hs120]; exact mset_ne _ _ _ _ _ (by decide)
          have ht124 : s120 55 0 = (256 + v98) := by rw [hs120]; exact mset_eq _ _ _ _
          have ht125 : s120 56 0 = s99 56 0 := by rw [hs120]; exact mset_ne _ _ _ _ _ (by decide)
          have ht126 : s120 57 0 = s99 57 0 := by rw [hs120]; exact mset_ne _ _ _ _ _ (by decide)
          have ht127 : s120 58 0 = s99 58 0 := by rw [hs120]; exact mset_ne _ _ _ _ _ (by decide)
          exact j110 s120 ⟨hf_s120, (by first | assumption | omega), (by first | assumption | omega), (by first | assumption | omega), (by first | assumption | omega), (by first | assumption | omega), (by first | assumption | omega), (by first | assumption | omega)⟩ hT
      · replace hT := hT.trans (if_neg h104)
        refine k_icmp_ge_t (pc := 49) (tgt := 78) E (by omega) (by omega) dX3_nextWord_49 (by decide) h104 ?_
        refine k_lv (lv' := []) [] rfl ?_
        exact hk v98 s99 hT ⟨(by omega), hf_s99, (by first | assumption | omega), (by first | assumption | omega), (by first | assumption | omega), (by first | assumption | omega), (by first | assumption | omega), (by first | assumption | omega), (by first | assumption | omega), (by first | assumption | omega)⟩
  refine k_lv (lv' := [(0, .ref (a 2)), (1, gI 0)]) [1, 0] rfl ?_
  refine L100 13 0 s63 ⟨(by omega), hf_s63, (by first | assumption | omega), (by first | assumption | omega), (by first | assumption | omega), (by first | assumption | omega), (by first | assumption | omega), (by first | assumption | omega), (by first | assumption | omega), (by first | assumption | omega)⟩ (by omega) (fun v146 s147 hw hq => ?_)
  obtain ⟨hq148, hf_s147, hq149, hq150, hq151, hq152, hq153, hq154, hq155, hq156⟩ := hq
  replace hT := gl2y hT hw
  exact k_rho hT (k_vret (pc := 78) E dX3_nextWord_78)

def w_X3_next_0  : Nat → gMem → gMem
  | 0, s1 => s1
  | n2 + 1, s1 => (if (s1 54 0) < (s1 52 0) then (gj (fun j9c => (if (s1 33 (s1 54 0)) = 32 then j9c else (if (s1 33 (s1 54 0)) = 10 then j9c else s1))) (gl (mset s1 54 0 ((s1 54 0) + 1)) (fun s11 => (w_X3_next_0 n2 s11)))) else s1)
theorem w_X3_next_0_s  (n2 : Nat)  (s1 : gMem) : w_X3_next_0  (n2 + 1) s1 = (if (s1 54 0) < (s1 52 0) then (gj (fun j9c => (if (s1 33 (s1 54 0)) = 32 then j9c else (if (s1 33 (s1 54 0)) = 10 then j9c else s1))) (gl (mset s1 54 0 ((s1 54 0) + 1)) (fun s11 => (w_X3_next_0 n2 s11)))) else s1) := rfl
def f_X3_next  (s0 : gMem) : gRes := (gl (w_X3_next_0 161 s0) (fun  s59 => gl (mset s59 56 0 (s59 54 0)) (fun s68 => (if (s68 54 0) < (s68 52 0) then (if (f_X3_isLetter (s68 33 (s68 54 0))) = 0 then (if (f_X3_isDigit (s68 33 (s68 54 0))) = 0 then (gl ((if (f_X3_isSign (s68 33 (s68 54 0))) = 0 then 1 else (s68 33 (s68 54 0)))) (fun v95 => gl (mset s68 55 0 v95) (fun s96 => gl (mset s96 54 0 ((s96 54 0) + 1)) (fun s105 => (0, s105))))) else gb (f_X3_nextNumber  s68) (fun r119 s120 => (0, s120))) else gb (f_X3_nextWord  s68) (fun r130 s131 => (0, s131))) else gl (mset s68 55 0 0) (fun s139 => (0, s139))))))
theorem f_X3_next_e  (s0 : gMem) : f_X3_next s0 = (gl (w_X3_next_0 161 s0) (fun  s59 => gl (mset s59 56 0 (s59 54 0)) (fun s68 => (if (s68 54 0) < (s68 52 0) then (if (f_X3_isLetter (s68 33 (s68 54 0))) = 0 then (if (f_X3_isDigit (s68 33 (s68 54 0))) = 0 then (gl ((if (f_X3_isSign (s68 33 (s68 54 0))) = 0 then 1 else (s68 33 (s68 54 0)))) (fun v95 => gl (mset s68 55 0 v95) (fun s96 => gl (mset s96 54 0 ((s96 54 0) + 1)) (fun s105 => (0, s105))))) else gb (f_X3_nextNumber  s68) (fun r119 s120 => (0, s120))) else gb (f_X3_nextWord  s68) (fun r130 s131 => (0, s131))) else gl (mset s68 55 0 0) (fun s139 => (0, s139)))))) := rfl
set_option maxRecDepth 100000 in
set_option maxHeartbeats 4000000 in
theorem f_X3_next_p  (s0 : gMem)  (hm_s0 : gMR lgX s0) (hpre0 : TK s0) (rZ : Int) (sZ : gMem) (hres : f_X3_next s0 = (rZ, sZ)) : (fr [54, 55, 56, 57] s0 sZ) ∧ (gMR lgX sZ) ∧ (True) ∧ (TK sZ) := by
  have hT := f_X3_next_e  s0
  have hf_s0 : fr [54, 55, 56, 57] s0 s0 := fr.rf _ _
  obtain ⟨kt1, kt2, kt3, kt4, kt5, kt6, kt7⟩ := id hpre0
  have L23 : ∀ (n24 : Nat)  (s22 : gMem), ((fr [54, 55, 56, 57] s0 s22) ∧ (gMR lgX s22) ∧ (s22 52 0 = s0 52 0) ∧ (s22 53 0 = s0 53 0) ∧ (s22 55 0 = s0 55 0) ∧ (s22 56 0 = s0 56 0) ∧ (s22 57 0 = s0 57 0) ∧ (s22 58 0 = s0 58 0) ∧ (s0 54 0 ≤ s22 54 0 ∧ s22 54 0 ≤ s0 52 0)) → s0 52 0 - s22 54 0 < (n24 : Int) → (∀  (s25 : gMem), (w_X3_next_0 n24 s22) = s25 → ((fr [54, 55, 56, 57] s0 s25) ∧ (gMR lgX s25) ∧ (s25 52 0 = s0 52 0) ∧ (s25 53 0 = s0 53 0) ∧ (s25 55 0 = s0 55 0) ∧ (s25 56 0 = s0 56 0) ∧ (s25 57 0 = s0 57 0) ∧ (s25 58 0 = s0 58 0) ∧ (s0 54 0 ≤ s25 54 0 ∧ s25 54 0 ≤ s0 52 0)) → (fr [54, 55, 56, 57] s0 sZ) ∧ (gMR lgX sZ) ∧ (True) ∧ (TK sZ)) → (fr [54, 55, 56, 57] s0 sZ) ∧ (gMR lgX sZ) ∧ (True) ∧ (TK sZ) := by
    intro n24; induction n24 with
    | zero =>
      intro  s22 hq hm hk
      exfalso
      obtain ⟨hf_s22, hm_s22, hq45, hq46, hq47, hq48, hq49, hq50, hq51⟩ := hq
      omega
    | succ n24 ih =>
      intro  s22 hq hm hk
      obtain ⟨hf_s22, hm_s22, hq52, hq53, hq54, hq55, hq56, hq57, hq58⟩ := hq
      have hT := w_X3_next_0_s  n24  s22
      have hr26 := (hm_s22 54 0).1 rfl
      have hr27 := (hm_s22 52 0).1 rfl
      by_cases h28 : (s22 54 0) < (s22 52 0)
      · replace hT := hT.trans (if_pos h28)
        have hr29 := (hm_s22 54 0).1 rfl
        have hr30 := (hm_s22 33 (s22 54 0)).1 rfl
        obtain ⟨j32c, hj32c, hT⟩ := gjx hT
        have j32 : (True) → (w_X3_next_0 (n24 + 1) s22) = j32c  → (fr [54, 55, 56, 57] s0 sZ) ∧ (gMR lgX sZ) ∧ (True) ∧ (TK sZ) := by
          intro  hq hT
          rw [hj32c] at hT
          have hr33 := (hm_s22 54 0).1 rfl
          obtain ⟨s34, hs34, hT⟩ := glx hT
          have hf_s34 : fr [54, 55, 56, 57] s0 s34 := hs34 ▸ hf_s22.set (by decide)
          have hm_s34 : gMR lgX s34 := hs34 ▸ hm_s22.set32 rfl (by omega)
          have ht35 : s34 52 0 = s22 52 0 := by rw [hs34]; exact mset_ne _ _ _ _ _ (by decide)
          have ht36 : s34 53 0 = s22 53 0 := by rw [hs34]; exact mset_ne _ _ _ _ _ (by decide)
          have ht37 : s34 54 0 = ((s22 54 0) + 1) := by rw [hs34]; exact mset_eq _ _ _ _
          have ht38 : s34 55 0 = s22 55 0 := by rw [hs34]; exact mset_ne _ _ _ _ _ (by decide)
          have ht39 : s34 56 0 = s22 56 0 := by rw [hs34]; exact mset_ne _ _ _ _ _ (by decide)
          have ht40 : s34 57 0 = s22 57 0 := by rw [hs34]; exact mset_ne _ _ _ _ _ (by decide)
          have ht41 : s34 58 0 = s22 58 0 := by rw [hs34]; exact mset_ne _ _ _ _ _ (by decide)
          exact ih  s34 ⟨hf_s34, hm_s34, (by first | assumption | omega), (by first | assumption | omega), (by first | assumption | omega), (by first | assumption | omega), (by first | assumption | omega), (by first | assumption | omega), (by first | assumption | omega)⟩ (by omega) (fun  s25 hw hi => hk  s25 (hT.trans hw) hi)
        by_cases h31 : (s22 33 (s22 54 0)) = 32
        · replace hT := hT.trans (if_pos h31)
          exact j32  trivial hT
        · replace hT := hT.trans (if_neg h31)
          have hr42 := (hm_s22 54 0).1 rfl
          have hr43 := (hm_s22 33 (s22 54 0)).1 rfl
          by_cases h44 : (s22 33 (s22 54 0)) = 10
          · replace hT := hT.trans (if_pos h44)
            exact j32  trivial hT
          · replace hT := hT.trans (if_neg h44)
            exact hk  s22 hT ⟨hf_s22, hm_s22, (by first | assumption | omega), (by first | assumption | omega), (by first | assumption | omega), (by first | assumption | omega), (by first | assumption | omega), (by first | assumption | omega), (by first | assumption | omega)⟩
      · replace hT := hT.trans (if_neg h28)
        exact hk  s22 hT ⟨hf_s22, hm_s22, (by first | assumption | omega), (by first | assumption | omega), (by first | assumption | omega), (by first | assumption | omega), (by first | assumption | omega), (by first | assumption | omega), (by first | assumption | omega)⟩
  refine L23 161  s0 ⟨hf_s0, hm_s0, (by first | assumption | omega), (by first | assumption | omega), (by first | assumption | omega), (by first | assumption | omega), (by first | assumption | omega), (by first | assumption | omega), (by first | assumption | omega)⟩ (by omega) (fun  s59 hw hq => ?_)
  obtain ⟨hf_s59, hm_s59, hq60, hq61, hq62, hq63, hq64, hq65, hq66⟩ := hq
  replace hT := gl1y hT hw
  have hr67 := (hm_s59 54 0).1 rfl
  obtain ⟨s68, hs68, hT⟩ := glx hT
  have hf_s68 : fr [54, 55, 56, 57] s0 s68 := hs68 ▸ hf_s59.set (by decide)
  have hm_s68 : gMR lgX s68 := hs68 ▸ hm_s59.set32 rfl (by omega)
  have ht69 : s68 52 0 = s59 52 0 := by rw [hs68]; exact mset_ne _ _ _ _ _ (by decide)
  have ht70 : s68 53 0 = s59 53 0 := by rw [hs68]; exact mset_ne _ _ _ _ _ (by decide)
  have ht71 : s68 54 0 = s59 54 0 := by rw [hs68]; exact mset_ne _ _ _ _ _ (by decide)
  have ht72 : s68 55 0 = s59 55 0 := by rw [hs68]; exact mset_ne _ _ _ _ _ (by decide)
  have ht73 : s68 56 0 = (s59 54 0) := by rw [hs68]; exact mset_eq _ _ _ _
  have ht74 : s68 57 0 = s59 57 0 := by rw [hs68]; exact mset_ne _ _ _ _ _ (by decide)
  have ht75 : s68 58 0 = s59 58 0 := by rw [hs68]; exact mset_ne _ _ _ _ _ (by decide)
  have hr76 := (hm_s68 54 0).1 rfl
  have hr77 := (hm_s68 52 0).1 rfl
  by_cases h78 : (s68 54 0) < (s68 52 0)
  · replace hT := hT.trans (if_pos h78)
    have hr79 := (hm_s68 54 0).1 rfl
    have hr80 := (hm_s68 33 (s68 54 0)).1 rfl
    have hp82 := f_X3_isLetter_p (s68 33 (s68 54 0)) (by omega) 
    by_cases h83 : (f_X3_isLetter (s68 33 (s68 54 0))) = 0
    · replace hT := hT.trans (if_pos h83)
      have hr84 := (hm_s68 54 0).1 rfl
      have hr85 := (hm_s68 33 (s68 54 0)).1 rfl
      have hp87 := f_X3_isDigit_p (s68 33 (s68 54 0)) (by omega) 
      by_cases h88 : (f_X3_isDigit (s68 33 (s68 54 0))) = 0
      · replace hT := hT.trans (if_pos h88)
        have hr89 := (hm_s68 54 0).1 rfl
        have hr90 := (hm_s68 33 (s68 54 0)).1 rfl
        have hp92 := f_X3_isSign_p (s68 33 (s68 54 0)) (by omega) 
        obtain ⟨z115, hz115, hT⟩ := gl1x hT
        have j94 : ∀ (v95 : Int), ((in32 v95) ∧ (0 ≤ v95 ∧ v95 ≤ 61 ∧ v95 ≠ 2)) → z115 = v95 → (fr [54, 55, 56, 57] s0 sZ) ∧ (gMR lgX sZ) ∧ (True) ∧ (TK sZ) := by
          intro v95 hq hz
          obtain ⟨hq113, hq114⟩ := hq
          replace hT := gl1y hT hz
          obtain ⟨s96, hs96, hT⟩ := glx hT
          have hf_s96 : fr [54, 55, 56, 57] s0 s96 := hs96 ▸ hf_s68.set (by decide)
          have hm_s96 : gMR lgX s96 := hs96 ▸ hm_s68.set32 rfl (by omega)
          have ht97 : s96 52 0 = s68 52 0 := by rw [hs96]; exact mset_ne _ _ _ _ _ (by decide)
          have ht98 : s96 53 0 = s68 53 0 := by rw [hs96]; exact mset_ne _ _ _ _ _ (by decide)
          have ht99 : s96 54 0 = s68 54 0 := by rw [hs96]; exact mset_ne _ _ _ _ _ (by decide)
          have ht100 : s96 55 0 = v95 := by rw [hs96]; exact mset_eq _ _ _ _
          have ht101 : s96 56 0 = s68 56 0 := by rw [hs96]; exact mset_ne _ _ _ _ _ (by decide)
          have ht102 : s96 57 0 = s68 57 0 := by rw [hs96]; exact mset_ne _ _ _ _ _ (by decide)
          have ht103 : s96 58 0 = s68 58 0 := by rw [hs96]; exact mset_ne _ _ _ _ _ (by decide)
          have hr104 := (hm_s96 54 0).1 rfl
          obtain ⟨s105, hs105, hT⟩ := glx hT
          have hf_s105 : fr [54, 55, 56, 57] s0 s105 := hs105 ▸ hf_s96.set (by decide)
          have hm_s105 : gMR lgX s105 := hs105 ▸ hm_s96.set32 rfl (by omega)
          have ht106 : s105 52 0 = s96 52 0 := by rw [hs105]; exact mset_ne _ _ _ _ _ (by decide)
          have ht107 : s105 53 0 = s96 53 0 := by rw [hs105]; exact mset_ne _ _ _ _ _ (by decide)
          have ht108 : s105 54 0 = ((s96 54 0) + 1) := by rw [hs105]; exact mset_eq _ _ _ _
          have ht109 : s105 55 0 = s96 55 0 := by rw [hs105]; exact mset_ne _ _ _ _ _ (by decide)
          have ht110 : s105 56 0 = s96 56 0 := by rw [hs105]; exact mset_ne _ _ _ _ _ (by decide)
          have ht111 : s105 57 0 = s96 57 0 := by rw [hs105]; exact mset_ne _ _ _ _ _ (by decide)
          have ht112 : s105 58 0 = s96 58 0 := by rw [hs105]; exact mset_ne _ _ _ _ _ (by decide)
          obtain ⟨rfl, rfl⟩ := Prod.mk.inj (hT.symm.trans hres)
          exact ⟨hf_s105, hm_s105, trivial, (by first | assumption | (unfold TK; omega))⟩
        replace hT := hz115
        by_cases h93 : (f_X3_isSign (s68 33 (s68 54 0))) = 0
        · replace hT := hT.trans (if_pos h93)
          exact j94 1 ⟨(by omega), (by first | assumption | omega)⟩ hT
        · replace hT := hT.trans (if_neg h93)
          have hr116 := (hm_s68 54 0).1 rfl
          have hr117 := (hm_s68 33 (s68 54 0)).1 rfl
          exact j94 (s68 33 (s68 54 0)) ⟨(by omega), (by first | assumption | omega)⟩ hT
      · replace hT := hT.trans (if_neg h88)
        obtain ⟨r119, s120, hs120⟩ : ∃ rr ss, (f_X3_nextNumber  s68) = (rr, ss) := ⟨_, _, rfl⟩
        replace hT := gby hT hs120
        have hp121 := f_X3_nextNumber_p  s68  hm_s68 (by first | assumption | omega) (by first | assumption | omega) (by first | assumption | omega) r119 s120 hs120
        obtain ⟨hfc_s120, hm_s120, hp122, hp123, hp124⟩ := hp121
        have hf_s120 : fr [54, 55, 56, 57] s0 s120 := hf_s68.call (by decide) hfc_s120
        have ht125 : s120 52 0 = s68 52 0 := by rw [hfc_s120 52 (by decide)]
        have ht126 : s120 53 0 = s68 53 0 := by rw [hfc_s120 53 (by decide)]
        have ht127 : s120 56 0 = s68 56 0 := by rw [hfc_s120 56 (by decide)]
        have ht128 : s120 58 0 = s68 58 0 := by rw [hfc_s120 58 (by decide)]
        obtain ⟨rfl, rfl⟩ := Prod.mk.inj (hT.symm.trans hres)
        exact ⟨hf_s120, hm_s120, trivial, (by first | assumption | (unfold TK; omega))⟩
    · replace hT := hT.trans (if_neg h83)
      obtain ⟨r130, s131, hs131⟩ : ∃ rr ss, (f_X3_nextWord  s68) = (rr, ss) := ⟨_, _, rfl⟩
      replace hT := gby hT hs131
      have hp132 := f_X3_nextWord_p  s68  hm_s68 (by unfold TK; omega) (by first | assumption | omega) r130 s131 hs131
      obtain ⟨hfc_s131, hm_s131, hp133, hTK_s131⟩ := hp132
      have hf_s131 : fr [54, 55, 56, 57] s0 s131 := hf_s68.call (by decide) hfc_s131
      have ht134 : s131 52 0 = s68 52 0 := by rw [hfc_s131 52 (by decide)]
      have ht135 : s131 53 0 = s68 53 0 := by rw [hfc_s131 53 (by decide)]
      have ht136 : s131 56 0 = s68 56 0 := by rw [hfc_s131 56 (by decide)]
      have ht137 : s131 57 0 = s68 57 0 := by rw [hfc_s131 57 (by decide)]
      have ht138 : s131 58 0 = s68 58 0 := by rw [hfc_s131 58 (by decide)]
      obtain ⟨rfl, rfl⟩ := Prod.mk.inj (hT.symm.trans hres)
      exact ⟨hf_s131, hm_s131, trivial, (by first | assumption | (unfold TK; omega))⟩
  · replace hT := hT.trans (if_neg h78)
    obtain ⟨s139, hs139, hT⟩ := glx hT
    have hf_s139 : fr [54, 55, 56, 57] s0 s139 := hs139 ▸ hf_s68.set (by decide)
    have hm_s139 : gMR lgX s139 := hs139 ▸ hm_s68.set32 rfl (by omega)
    have ht140 : s139 52 0 = s68 52 0 := by rw [hs139]; exact mset_ne _ _ _ _ _ (by decide)
    have ht141 : s139 53 0 = s68 53 0 := by rw [hs139]; exact mset_ne _ _ _ _ _ (by decide)
    have ht142 : s139 54 0 = s68 54 0 := by rw [hs139]; exact mset_ne _ _ _ _ _ (by decide)
    have ht143 : s139 55 0 = 0 := by rw [hs139]; exact mset_eq _ _ _ _
    have ht144 : s139 56 0 = s68 56 0 := by rw [hs139]; exact mset_ne _ _ _ _ _ (by decide)
    have ht145 : s139 57 0 = s68 57 0 := by rw [hs139]; exact mset_ne _ _ _ _ _ (by decide)
    have ht146 : s139 58 0 = s68 58 0 := by rw [hs139]; exact mset_ne _ _ _ _ _ (by decide)
    obtain ⟨rfl, rfl⟩ := Prod.mk.inj (hT.symm.trans hres)
    exact ⟨hf_s139, hm_s139, trivial, (by first | assumption | (unfold TK; omega))⟩
set_option maxRecDepth 100000 in
set_option maxHeartbeats 4000000 in
theorem c_X3_next (l : Launch) (D : va_G) (a : Nat → Nat) (cI cJ cS cT : ClassId) (adK adV : Nat → Nat) (kA : Nat) (s0 : gMem)   (hpre0 : TK s0) : gCS l yX3_next cX3_next 1 none 7 448 D vwCl (gT cI cJ cS cT) (wdX a cI cJ cS cT) lgX kV rgV [.ref (a 2)] s0 (f_X3_next s0) adK adV kA := by
  refine gCS_of (by decide +kernel) (hwdX a cI cJ cS cT) (Nat.le_of_ble_eq_true rfl) ?_
  intro A p e R s m args below meth c hR E HX
  subst hR
  have hT := f_X3_next_e  s0
  have hf_s0 : fr [54, 55, 56, 57] s0 s0 := fr.rf _ _
  refine k_lv0 (lv' := [(0, .ref (a 2))]) rfl ?_
  refine k_mr (fun hm_s0 => ?_)
  obtain ⟨kt1, kt2, kt3, kt4, kt5, kt6, kt7⟩ := id hpre0
  have L23 : ∀ (n24 : Nat)  (s22 : gMem), ((fr [54, 55, 56, 57] s0 s22) ∧ (s22 52 0 = s0 52 0) ∧ (s22 53 0 = s0 53 0) ∧ (s22 55 0 = s0 55 0) ∧ (s22 56 0 = s0 56 0) ∧ (s22 57 0 = s0 57 0) ∧ (s22 58 0 = s0 58 0) ∧ (s0 54 0 ≤ s22 54 0 ∧ s22 54 0 ≤ s0 52 0)) → s0 52 0 - s22 54 0 < (n24 : Int) → (∀  (s25 : gMem), (w_X3_next_0 n24 s22) = s25 → ((fr [54, 55, 56, 57] s0 s25) ∧ (s25 52 0 = s0 52 0) ∧ (s25 53 0 = s0 53 0) ∧ (s25 55 0 = s0 55 0) ∧ (s25 56 0 = s0 56 0) ∧ (s25 57 0 = s0 57 0) ∧ (s25 58 0 = s0 58 0) ∧ (s0 54 0 ≤ s25 54 0 ∧ s25 54 0 ≤ s0 52 0)) → gK D vwCl (wdX a cI cJ cS cT) lgX A p l e { frames := 7, cells := 0, slots := 0, locals := 448 } s m args below meth c 1 (gQQ D vwCl (wdX a cI cJ cS cT) lgX A kV rgV below args s) (f_X3_next s0) s25 52 [(0, .ref (a 2))] []) → gK D vwCl (wdX a cI cJ cS cT) lgX A p l e { frames := 7, cells := 0, slots := 0, locals := 448 } s m args below meth c 1 (gQQ D vwCl (wdX a cI cJ cS cT) lgX A kV rgV below args s) (f_X3_next s0) s22 0 [(0, .ref (a 2))] [] := by
    intro n24; induction n24 with
    | zero =>
      intro  s22 hq hm hk
      exfalso
      obtain ⟨hf_s22, hq45, hq46, hq47, hq48, hq49, hq50, hq51⟩ := hq
      omega
    | succ n24 ih =>
      intro  s22 hq hm hk
      obtain ⟨hf_s22, hq52, hq53, hq54, hq55, hq56, hq57, hq58⟩ := hq
      have hT := w_X3_next_0_s  n24  s22
      refine k_aloadn (pc := 0) E 0 dX3_next_0 rfl rfl ?_
      refine k_getfI (pc := 1) (q0 := 2) (f := 5) (k := 54) E inX3 rfl rfl (by decide) wm_64 rfl rfl rfl dX3_next_1 (fun hr26 => ?_)
      refine k_aloadn (pc := 4) E 0 dX3_next_4 rfl rfl ?_
      refine k_getfI (pc := 5) (q0 := 2) (f := 3) (k := 52) E inX3 rfl rfl (by decide) wm_61 rfl rfl rfl dX3_next_5 (fun hr27 => ?_)
      by_cases h28 : (s22 54 0) < (s22 52 0)
      · replace hT := hT.trans (if_pos h28)
        refine k_icmp_ge_f (pc := 8) (tgt := 52) E (by omega) (by omega) dX3_next_8 (by decide) h28 ?_
        refine k_aloadn (pc := 11) E 0 dX3_next_11 rfl rfl ?_
        refine k_getf (pc := 12) (q0 := 2) (f := 0) (v := .ref (a 33)) E inX3 rfl rfl (by decide) wm_56 rfl rfl dX3_next_12 ?_
        refine k_aloadn (pc := 15) E 0 dX3_next_15 rfl rfl ?_
        refine k_getfI (pc := 16) (q0 := 2) (f := 5) (k := 54) E inX3 rfl rfl (by decide) wm_64 rfl rfl rfl dX3_next_16 (fun hr29 => ?_)
        refine k_iaload (pc := 19) (q0 := 33) (t0 := 0) (k := 33) (n := 160) E rfl rfl rfl (by decide) (by omega) (by omega) dX3_next_19 (fun hr30 => ?_)
        refine k_bipush (pc := 20) E dX3_next_20 (by decide) ?_
        obtain ⟨j32c, hj32c, hT⟩ := gjx hT
        have j32 : (True) → (w_X3_next_0 (n24 + 1) s22) = j32c  → gK D vwCl (wdX a cI cJ cS cT) lgX A p l e { frames := 7, cells := 0, slots := 0, locals := 448 } s m args below meth c 1 (gQQ D vwCl (wdX a cI cJ cS cT) lgX A kV rgV below args s) (f_X3_next s0) s22 39 [(0, .ref (a 2))] [] := by
          intro  hq hT
          rw [hj32c] at hT
          refine k_aloadn (pc := 39) E 0 dX3_next_39 rfl rfl ?_
          refine k_dup (pc := 40) E dX3_next_40 rfl ?_
          refine k_getfI (pc := 41) (q0 := 2) (f := 5) (k := 54) E inX3 rfl rfl (by decide) wm_64 rfl rfl rfl dX3_next_41 (fun hr33 => ?_)
          refine k_iconst (pc := 44) E dX3_next_44 ?_
          refine k_iadd (pc := 45) E dX3_next_45 ?_
          refine k_putfI (pc := 46) (q0 := 2) (f := 5) (k := 54) E tyX3 tyX3_ok nmX3 inX3 rfl rfl (by decide) wm_64 rfl rfl rfl (Nat.le_of_ble_eq_true rfl) rfl rfl (by omega) dX3_next_46 ?_
          obtain ⟨s34, hs34, hT⟩ := glx hT
          refine k_sg hs34.symm ?_
          have hf_s34 : fr [54, 55, 56, 57] s0 s34 := hs34 ▸ hf_s22.set (by decide)
          have ht35 : s34 52 0 = s22 52 0 := by rw [hs34]; exact mset_ne _ _ _ _ _ (by decide)
          have ht36 : s34 53 0 = s22 53 0 := by rw [hs34]; exact mset_ne _ _ _ _ _ (by decide)
          have ht37 : s34 54 0 = ((s22 54 0) + 1) := by rw [hs34]; exact mset_eq _ _ _ _
          have ht38 : s34 55 0 = s22 55 0 := by rw [hs34]; exact mset_ne _ _ _ _ _ (by decide)
          have ht39 : s34 56 0 = s22 56 0 := by rw [hs34]; exact mset_ne _ _ _ _ _ (by decide)
          have ht40 : s34 57 0 = s22 57 0 := by rw [hs34]; exact mset_ne _ _ _ _ _ (by decide)
          have ht41 : s34 58 0 = s22 58 0 := by rw [hs34]; exact mset_ne _ _ _ _ _ (by decide)
          refine k_goto (pc := 49) (tgt := 0) E dX3_next_49 (by decide) ?_
          exact ih  s34 ⟨hf_s34, (by first | assumption | omega), (by first | assumption | omega), (by first | assumption | omega), (by first | assumption | omega), (by first | assumption | omega), (by first | assumption | omega), (by first | assumption | omega)⟩ (by omega) (fun  s25 hw hi => hk  s25 (hT.trans hw) hi)
        by_cases h31 : (s22 33 (s22 54 0)) = 32
        · replace hT := hT.trans (if_pos h31)
          refine k_icmp_eq_t (pc := 22) (tgt := 39) E (by omega) (by omega) dX3_next_22 (by decide) h31 ?_
          exact j32  trivial hT
        · replace hT := hT.trans (if_neg h31)
          refine k_icmp_eq_f (pc := 22) (tgt := 39) E (by omega) (by omega) dX3_next_22 (by decide) h31 ?_
          refine k_aloadn (pc := 25) E 0 dX3_next_25 rfl rfl ?_
          refine k_getf (pc := 26) (q0 := 2) (f := 0) (v := .ref (a 33)) E inX3 rfl rfl (by decide) wm_56 rfl rfl dX3_next_26 ?_
          refine k_aloadn (pc := 29) E 0 dX3_next_29 rfl rfl ?_
          refine k_getfI (pc := 30) (q0 := 2) (f := 5) (k := 54) E inX3 rfl rfl (by decide) wm_64 rfl rfl rfl dX3_next_30 (fun hr42 => ?_)
          refine k_iaload (pc := 33) (q0 := 33) (t0 := 0) (k := 33) (n := 160) E rfl rfl rfl (by decide) (by omega) (by omega) dX3_next_33 (fun hr43 => ?_)
          refine k_bipush (pc := 34) E dX3_next_34 (by decide) ?_
          by_cases h44 : (s22 33 (s22 54 0)) = 10
          · replace hT := hT.trans (if_pos h44)
            refine k_icmp_ne_f (pc := 36) (tgt := 52) E (by omega) (by omega) dX3_next_36 (by decide) h44 ?_
            exact j32  trivial hT
          · replace hT := hT.trans (if_neg h44)
            refine k_icmp_ne_t (pc := 36) (tgt := 52) E (by omega) (by omega) dX3_next_36 (by decide) h44 ?_
            exact hk  s22 hT ⟨hf_s22, (by first | assumption | omega), (by first | assumption | omega), (by first | assumption | omega), (by first | assumption | omega), (by first | assumption | omega), (by first | assumption | omega), (by first | assumption | omega)⟩
      · replace hT := hT.trans (if_neg h28)
        refine k_icmp_ge_t (pc := 8) (tgt := 52) E (by omega) (by omega) dX3_next_8 (by decide) h28 ?_
        exact hk  s22 hT ⟨hf_s22, (by first | assumption | omega), (by first | assumption | omega), (by first | assumption | omega), (by first | assumption | omega), (by first | assumption | omega), (by first | assumption | omega), (by first | assumption | omega)⟩
  refine L23 161  s0 ⟨hf_s0, (by first | assumption | omega), (by first | assumption | omega), (by first | assumption | omega), (by first | assumption | omega), (by first | assumption | omega), (by first | assumption | omega), (by first | assumption | omega)⟩ (by omega) (fun  s59 hw hq => ?_)
  obtain ⟨hf_s59, hq60, hq61, hq62, hq63, hq64, hq65, hq66⟩ := hq
  replace hT := gl1y hT hw
  refine k_aloadn (pc := 52) E 0 dX3_next_52 rfl rfl ?_
  refine k_aloadn (pc := 53) E 0 dX3_next_53 rfl rfl ?_
  refine k_getfI (pc := 54) (q0 := 2) (f := 5) (k := 54) E inX3 rfl rfl (by decide) wm_64 rfl rfl rfl dX3_next_54 (fun hr67 => ?_)
  refine k_putfI (pc := 57) (q0 := 2) (f := 7) (k := 56) E tyX3 tyX3_ok nmX3 inX3 rfl rfl (by decide) wm_66 rfl rfl rfl (Nat.le_of_ble_eq_true rfl) rfl rfl (by omega) dX3_next_57 ?_
  obtain ⟨s68, hs68, hT⟩ := glx hT
  refine k_sg hs68.symm ?_
  have hf_s68 : fr [54, 55, 56, 57] s0 s68 := hs68 ▸ hf_s59.set (by decide)
  have ht69 : s68 52 0 = s59 52 0 := by rw [hs68]; exact mset_ne _ _ _ _ _ (by decide)
  have ht70 : s68 53 0 = s59 53 0 := by rw [hs68]; exact mset_ne _ _ _ _ _ (by decide)
  have ht71 : s68 54 0 = s59 54 0 := by rw [hs68]; exact mset_ne _ _ _ _ _ (by decide)
  have ht72 : s68 55 0 = s59 55 0 := by rw [hs68]; exact mset_ne _ _ _ _ _ (by decide)
  have ht73 : s68 56 0 = (s59 54 0) := by rw [hs68]; exact mset_eq _ _ _ _
  have ht74 : s68 57 0 = s59 57 0 := by rw [hs68]; exact mset_ne _ _ _ _ _ (by decide)
  have ht75 : s68 58 0 = s59 58 0 := by rw [hs68]; exact mset_ne _ _ _ _ _ (by decide)
  refine k_aloadn (pc := 60) E 0 dX3_next_60 rfl rfl ?_
  refine k_getfI (pc := 61) (q0 := 2) (f := 5) (k := 54) E inX3 rfl rfl (by decide) wm_64 rfl rfl rfl dX3_next_61 (fun hr76 => ?_)
  refine k_aloadn (pc := 64) E 0 dX3_next_64 rfl rfl ?_
  refine k_getfI (pc := 65) (q0 := 2) (f := 3) (k := 52) E inX3 rfl rfl (by decide) wm_61 rfl rfl rfl dX3_next_65 (fun hr77 => ?_)
  by_cases h78 : (s68 54 0) < (s68 52 0)
  · replace hT := hT.trans (if_pos h78)
    refine k_icmp_lt_t (pc := 68) (tgt := 79) E (by omega) (by omega) dX3_next_68 (by decide) h78 ?_
    refine k_aloadn (pc := 79) E 0 dX3_next_79 rfl rfl ?_
    refine k_getf (pc := 80) (q0 := 2) (f := 0) (v := .ref (a 33)) E inX3 rfl rfl (by decide) wm_56 rfl rfl dX3_next_80 ?_
    refine k_aloadn (pc := 83) E 0 dX3_next_83 rfl rfl ?_
    refine k_getfI (pc := 84) (q0 := 2) (f := 5) (k := 54) E inX3 rfl rfl (by decide) wm_64 rfl rfl rfl dX3_next_84 (fun hr79 => ?_)
    refine k_iaload (pc := 87) (q0 := 33) (t0 := 0) (k := 33) (n := 160) E rfl rfl rfl (by decide) (by omega) (by omega) dX3_next_87 (fun hr80 => ?_)
    refine k_mr (fun hm_s68 => ?_)
    refine k_callS (pc := 88) (np := 1) (As := [gI (s68 33 (s68 54 0))]) (st := []) E (c_X3_isLetter l D a cI cJ cS cT s68 (s68 33 (s68 54 0)) (by omega)) wm_339 wm_3 wm_337 wm_338 (by decide +kernel) ⟨by decide, by decide⟩ rfl (Nat.le_of_ble_eq_true rfl) dX3_next_88 (ro_kk (fun hr81 => ?_))
    have hp82 := f_X3_isLetter_p (s68 33 (s68 54 0)) (by omega) 
    refine k_st (st' := [gI (f_X3_isLetter (s68 33 (s68 54 0)))]) rfl ?_
    by_cases h83 : (f_X3_isLetter (s68 33 (s68 54 0))) = 0
    · replace hT := hT.trans (if_pos h83)
      refine k_if_eq_t (pc := 91) (tgt := 101) E (by omega) dX3_next_91 (by decide) h83 ?_
      refine k_aloadn (pc := 101) E 0 dX3_next_101 rfl rfl ?_
      refine k_getf (pc := 102) (q0 := 2) (f := 0) (v := .ref (a 33)) E inX3 rfl rfl (by decide) wm_56 rfl rfl dX3_next_102 ?_
      refine k_aloadn (pc := 105) E 0 dX3_next_105 rfl rfl ?_
      refine k_getfI (pc := 106) (q0 := 2) (f := 5) (k := 54) E inX3 rfl rfl (by decide) wm_64 rfl rfl rfl dX3_next_106 (fun hr84 => ?_)
      refine k_iaload (pc := 109) (q0 := 33) (t0 := 0) (k := 33) (n := 160) E rfl rfl rfl (by decide) (by omega) (by omega) dX3_next_109 (fun hr85 => ?_)
      refine k_mr (fun hm_s68 => ?_)
      refine k_callS (pc := 110) (np := 1) (As := [gI (s68 33 (s68 54 0))]) (st := []) E (c_X3_isDigit l D a cI cJ cS cT s68 (s68 33 (s68 54 0)) (by omega)) wm_413 wm_3 wm_411 wm_412 (by decide +kernel) ⟨by decide, by decide⟩ rfl (Nat.le_of_ble_eq_true rfl) dX3_next_110 (ro_kk (fun hr86 => ?_))
      have hp87 := f_X3_isDigit_p (s68 33 (s68 54 0)) (by omega) 
      refine k_st (st' := [gI (f_X3_isDigit (s68 33 (s68 54 0)))]) rfl ?_
      by_cases h88 : (f_X3_isDigit (s68 33 (s68 54 0))) = 0
      · replace hT := hT.trans (if_pos h88)
        refine k_if_eq_t (pc := 113) (tgt := 123) E (by omega) dX3_next_113 (by decide) h88 ?_
        refine k_aloadn (pc := 123) E 0 dX3_next_123 rfl rfl ?_
        refine k_aloadn (pc := 124) E 0 dX3_next_124 rfl rfl ?_
        refine k_getf (pc := 125) (q0 := 2) (f := 0) (v := .ref (a 33)) E inX3 rfl rfl (by decide) wm_56 rfl rfl dX3_next_125 ?_
        refine k_aloadn (pc := 128) E 0 dX3_next_128 rfl rfl ?_
        refine k_getfI (pc := 129) (q0 := 2) (f := 5) (k := 54) E inX3 rfl rfl (by decide) wm_64 rfl rfl rfl dX3_next_129 (fun hr89 => ?_)
        refine k_iaload (pc := 132) (q0 := 33) (t0 := 0) (k := 33) (n := 160) E rfl rfl rfl (by decide) (by omega) (by omega) dX3_next_132 (fun hr90 => ?_)
        refine k_mr (fun hm_s68 => ?_)
        refine k_callS (pc := 133) (np := 1) (As := [gI (s68 33 (s68 54 0))]) (st := [.ref (a 2)]) E (c_X3_isSign l D a cI cJ cS cT s68 (s68 33 (s68 54 0)) (by omega)) wm_420 wm_3 wm_418 wm_419 (by decide +kernel) ⟨by decide, by decide⟩ rfl (Nat.le_of_ble_eq_true rfl) dX3_next_133 (ro_kk (fun hr91 => ?_))
        have hp92 := f_X3_isSign_p (s68 33 (s68 54 0)) (by omega) 
        refine k_st (st' := [gI (f_X3_isSign (s68 33 (s68 54 0))), .ref (a 2)]) rfl ?_
        obtain ⟨z115, hz115, hT⟩ := gl1x hT
        have j94 : ∀ (v95 : Int), ((in32 v95) ∧ (0 ≤ v95 ∧ v95 ≤ 61 ∧ v95 ≠ 2)) → z115 = v95 → gK D vwCl (wdX a cI cJ cS cT) lgX A p l e { frames := 7, cells := 0, slots := 0, locals := 448 } s m args below meth c 1 (gQQ D vwCl (wdX a cI cJ cS cT) lgX A kV rgV below args s) (f_X3_next s0) s68 152 [(0, .ref (a 2))] [gI v95, .ref (a 2)] := by
          intro v95 hq hz
          obtain ⟨hq113, hq114⟩ := hq
          replace hT := gl1y hT hz
          refine k_putfI (pc := 152) (q0 := 2) (f := 6) (k := 55) E tyX3 tyX3_ok nmX3 inX3 rfl rfl (by decide) wm_65 rfl rfl rfl (Nat.le_of_ble_eq_true rfl) rfl rfl (by omega) dX3_next_152 ?_
          obtain ⟨s96, hs96, hT⟩ := glx hT
          refine k_sg hs96.symm ?_
          have hf_s96 : fr [54, 55, 56, 57] s0 s96 := hs96 ▸ hf_s68.set (by decide)
          have ht97 : s96 52 0 = s68 52 0 := by rw [hs96]; exact mset_ne _ _ _ _ _ (by decide)
          have ht98 : s96 53 0 = s68 53 0 := by rw [hs96]; exact mset_ne _ _ _ _ _ (by decide)
          have ht99 : s96 54 0 = s68 54 0 := by rw [hs96]; exact mset_ne _ _ _ _ _ (by decide)
          have ht100 : s96 55 0 = v95 := by rw [hs96]; exact mset_eq _ _ _ _
          have ht101 : s96 56 0 = s68 56 0 := by rw [hs96]; exact mset_ne _ _ _ _ _ (by decide)
          have ht102 : s96 57 0 = s68 57 0 := by rw [hs96]; exact mset_ne _ _ _ _ _ (by decide)
          have ht103 : s96 58 0 = s68 58 0 := by rw [hs96]; exact mset_ne _ _ _ _ _ (by decide)
          refine k_aloadn (pc := 155) E 0 dX3_next_155 rfl rfl ?_
          refine k_dup (pc := 156) E dX3_next_156 rfl ?_
          refine k_getfI (pc := 157) (q0 := 2) (f := 5) (k := 54) E inX3 rfl rfl (by decide) wm_64 rfl rfl rfl dX3_next_157 (fun hr104 => ?_)
          refine k_iconst (pc := 160) E dX3_next_160 ?_
          refine k_iadd (pc := 161) E dX3_next_161 ?_
          refine k_putfI (pc := 162) (q0 := 2) (f := 5) (k := 54) E tyX3 tyX3_ok nmX3 inX3 rfl rfl (by decide) wm_64 rfl rfl rfl (Nat.le_of_ble_eq_true rfl) rfl rfl (by omega) dX3_next_162 ?_
          obtain ⟨s105, hs105, hT⟩ := glx hT
          refine k_sg hs105.symm ?_
          have hf_s105 : fr [54, 55, 56, 57] s0 s105 := hs105 ▸ hf_s96.set (by decide)
          have ht106 : s105 52 0 = s96 52 0 := by rw [hs105]; exact mset_ne _ _ _ _ _ (by decide)
          have ht107 : s105 53 0 = s96 53 0 := by rw [hs105]; exact mset_ne _ _ _ _ _ (by decide)
          have ht108 : s105 54 0 = ((s96 54 0) + 1) := by rw [hs105]; exact mset_eq _ _ _ _
          have ht109 : s105 55 0 = s96 55 0 := by rw [hs105]; exact mset_ne _ _ _ _ _ (by decide)
          have ht110 : s105 56 0 = s96 56 0 := by rw [hs105]; exact mset_ne _ _ _ _ _ (by decide)
          have ht111 : s105 57 0 = s96 57 0 := by rw [hs105]; exact mset_ne _ _ _ _ _ (by decide)
          have ht112 : s105 58 0 = s96 58 0 := by rw [hs105]; exact mset_ne _ _ _ _ _ (by decide)
          exact k_rho hT (k_vret (pc := 165) E dX3_next_165)
        replace hT := hz115
        by_cases h93 : (f_X3_isSign (s68 33 (s68 54 0))) = 0
        · replace hT := hT.trans (if_pos h93)
          refine k_if_eq_t (pc := 136) (tgt := 151) E (by omega) dX3_next_136 (by decide) h93 ?_
          refine k_iconst (pc := 151) E dX3_next_151 ?_
          exact j94 1 ⟨(by omega), (by first | assumption | omega)⟩ hT
        · replace hT := hT.trans (if_neg h93)
          refine k_if_eq_f (pc := 136) (tgt := 151) E (by omega) dX3_next_136 (by decide) h93 ?_
          refine k_aloadn (pc := 139) E 0 dX3_next_139 rfl rfl ?_
          refine k_getf (pc := 140) (q0 := 2) (f := 0) (v := .ref (a 33)) E inX3 rfl rfl (by decide) wm_56 rfl rfl dX3_next_140 ?_
          refine k_aloadn (pc := 143) E 0 dX3_next_143 rfl rfl ?_
          refine k_getfI (pc := 144) (q0 := 2) (f := 5) (k := 54) E inX3 rfl rfl (by decide) wm_64 rfl rfl rfl dX3_next_144 (fun hr116 => ?_)
          refine k_iaload (pc := 147) (q0 := 33) (t0 := 0) (k := 33) (n := 160) E rfl rfl rfl (by decide) (by omega) (by omega) dX3_next_147 (fun hr117 => ?_)
          refine k_goto (pc := 148) (tgt := 152) E dX3_next_148 (by decide) ?_
          exact j94 (s68 33 (s68 54 0)) ⟨(by omega), (by first | assumption | omega)⟩ hT
      · replace hT := hT.trans (if_neg h88)
        refine k_if_eq_f (pc := 113) (tgt := 123) E (by omega) dX3_next_113 (by decide) h88 ?_
        refine k_aloadn (pc := 116) E 0 dX3_next_116 rfl rfl ?_
        refine k_mr (fun hm_s68 => ?_)
        refine k_callV (pc := 117) (np := 0) (As := []) (st := []) (q0 := 2) E (c_X3_nextNumber l D a cI cJ cS cT s68  (by first | assumption | omega) (by first | assumption | omega) (by first | assumption | omega)) wm_417 wm_3 wm_414 wm_416 wp_3 (by decide +kernel) rfl rfl ⟨by decide, by decide⟩ rfl (Nat.le_of_ble_eq_true rfl) dX3_next_117 (fun r119 s120 hs120 hr118 => ?_)
        replace hT := gby hT hs120
        have hp121 := f_X3_nextNumber_p  s68  hm_s68 (by first | assumption | omega) (by first | assumption | omega) (by first | assumption | omega) r119 s120 hs120
        obtain ⟨hfc_s120, hm_s120, hp122, hp123, hp124⟩ := hp121
        have hf_s120 : fr [54, 55, 56, 57] s0 s120 := hf_s68.call (by decide) hfc_s120
        have ht125 : s120 52 0 = s68 52 0 := by rw [hfc_s120 52 (by decide)]
        have ht126 : s120 53 0 = s68 53 0 := by rw [hfc_s120 53 (by decide)]
        have ht127 : s120 56 0 = s68 56 0 := by rw [hfc_s120 56 (by decide)]
        have ht128 : s120 58 0 = s68 58 0 := by rw [hfc_s120 58 (by decide)]
        refine k_st (st' := []) rfl ?_
        refine k_goto (pc := 120) (tgt := 165) E dX3_next_120 (by decide) ?_
        exact k_rho hT (k_vret (pc := 165) E dX3_next_165)
    · replace hT := hT.trans (if_neg h83)
      refine k_if_eq_f (pc := 91) (tgt := 101) E (by omega) dX3_next_91 (by decide) h83 ?_
      refine k_aloadn (pc := 94) E 0 dX3_next_94 rfl rfl ?_
      refine k_mr (fun hm_s68 => ?_)
      refine k_callVX (pc := 95) (np := 0) (As := []) (st := []) (q0 := 2) E HX rfl rfl (c_X3_nextWord l D a cI cJ cS cT adK adV kA s68  (by unfold TK; omega) (by first | assumption | omega)) wm_343 wm_3 wm_340 wm_342 wp_1 (by decide +kernel) ⟨by decide, by decide⟩ rfl (Nat.le_of_ble_eq_true rfl) dX3_next_95 (fun r130 s131 hs131 hr129 => ?_)
      replace hT := gby hT hs131
      have hp132 := f_X3_nextWord_p  s68  hm_s68 (by unfold TK; omega) (by first | assumption | omega) r130 s131 hs131
      obtain ⟨hfc_s131, hm_s131, hp133, hTK_s131⟩ := hp132
      have hf_s131 : fr [54, 55, 56, 57] s0 s131 := hf_s68.call (by decide) hfc_s131
      have ht134 : s131 52 0 = s68 52 0 := by rw [hfc_s131 52 (by decide)]
      have ht135 : s131 53 0 = s68 53 0 := by rw [hfc_s131 53 (by decide)]
      have ht136 : s131 56 0 = s68 56 0 := by rw [hfc_s131 56 (by decide)]
      have ht137 : s131 57 0 = s68 57 0 := by rw [hfc_s131 57 (by decide)]
      have ht138 : s131 58 0 = s68 58 0 := by rw [hfc_s131 58 (by decide)]
      refine k_st (st' := []) rfl ?_
      refine k_goto (pc := 98) (tgt := 165) E dX3_next_98 (by decide) ?_
      exact k_rho hT (k_vret (pc := 165) E dX3_next_165)
  · replace hT := hT.trans (if_neg h78)
    refine k_icmp_lt_f (pc := 68) (tgt := 79) E (by omega) (by omega) dX3_next_68 (by decide) h78 ?_
    refine k_aloadn (pc := 71) E 0 dX3_next_71 rfl rfl ?_
    refine k_iconst (pc := 72) E dX3_next_72 ?_
    refine k_putfI (pc := 73) (q0 := 2) (f := 6) (k := 55) E tyX3 tyX3_ok nmX3 inX3 rfl rfl (by decide) wm_65 rfl rfl rfl (Nat.le_of_ble_eq_true rfl) rfl rfl (by omega) dX3_next_73 ?_
    obtain ⟨s139, hs139, hT⟩ := glx hT
    refine k_sg hs139.symm ?_
    have hf_s139 : fr [54, 55, 56, 57] s0 s139 := hs139 ▸ hf_s68.set (by decide)
    have ht140 : s139 52 0 = s68 52 0 := by rw [hs139]; exact mset_ne _ _ _ _ _ (by decide)
    have ht141 : s139 53 0 = s68 53 0 := by rw [hs139]; exact mset_ne _ _ _ _ _ (by decide)
    have ht142 : s139 54 0 = s68 54 0 := by rw [hs139]; exact mset_ne _ _ _ _ _ (by decide)
    have ht143 : s139 55 0 = 0 := by rw [hs139]; exact mset_eq _ _ _ _
    have ht144 : s139 56 0 = s68 56 0 := by rw [hs139]; exact mset_ne _ _ _ _ _ (by decide)
    have ht145 : s139 57 0 = s68 57 0 := by rw [hs139]; exact mset_ne _ _ _ _ _ (by decide)
    have ht146 : s139 58 0 = s68 58 0 := by rw [hs139]; exact mset_ne _ _ _ _ _ (by decide)
    refine k_goto (pc := 76) (tgt := 165) E dX3_next_76 (by decide) ?_
    exact k_rho hT (k_vret (pc := 165) E dX3_next_165)

def f_X3_want (x0 : Int) (s0 : gMem) : gRes := (if (s0 55 0) = x0 then gb (f_X3_next  s0) (fun r4 s5 => (0, s5)) else gb (f_X3_fail  s0) (fun r12 s13 => (0, s13)))
theorem f_X3_want_e (x0 : Int) (s0 : gMem) : f_X3_want x0 s0 = (if (s0 55 0) = x0 then gb (f_X3_next  s0) (fun r4 s5 => (0, s5)) else gb (f_X3_fail  s0) (fun r12 s13 => (0, s13))) := rfl
set_option maxRecDepth 100000 in
set_option maxHeartbeats 4000000 in
theorem f_X3_want_p (x0 : Int) (s0 : gMem) (hx0 : in32 x0) (hm_s0 : gMR lgX s0) (hpre0 : TK s0) (rZ : Int) (sZ : gMem) (hres : f_X3_want x0 s0 = (rZ, sZ)) : (fr [54, 55, 56, 57, 58] s0 sZ) ∧ (gMR lgX sZ) ∧ (True) ∧ (TK sZ) := by
  have hT := f_X3_want_e x0 s0
  have hf_s0 : fr [54, 55, 56, 57, 58] s0 s0 := fr.rf _ _
  obtain ⟨kt1, kt2, kt3, kt4, kt5, kt6, kt7⟩ := id hpre0
  have hr1 := (hm_s0 55 0).1 rfl
  by_cases h2 : (s0 55 0) = x0
  · replace hT := hT.trans (if_pos h2)
    obtain ⟨r4, s5, hs5⟩ : ∃ rr ss, (f_X3_next  s0) = (rr, ss) := ⟨_, _, rfl⟩
    replace hT := gby hT hs5
    have hp6 := f_X3_next_p  s0  hm_s0 hpre0 r4 s5 hs5
    obtain ⟨hfc_s5, hm_s5, hp7, hTK_s5⟩ := hp6
    have hf_s5 : fr [54, 55, 56, 57, 58] s0 s5 := hf_s0.call (by decide) hfc_s5
    have ht8 : s5 52 0 = s0 52 0 := by rw [hfc_s5 52 (by decide)]
    have ht9 : s5 53 0 = s0 53 0 := by rw [hfc_s5 53 (by decide)]
    have ht10 : s5 58 0 = s0 58 0 := by rw [hfc_s5 58 (by decide)]
    obtain ⟨rfl, rfl⟩ := Prod.mk.inj (hT.symm.trans hres)
    exact ⟨hf_s5, hm_s5, trivial, (by first | assumption | (unfold TK; omega))⟩
  · replace hT := hT.trans (if_neg h2)
    obtain ⟨r12, s13, hs13⟩ : ∃ rr ss, (f_X3_fail  s0) = (rr, ss) := ⟨_, _, rfl⟩
    replace hT := gby hT hs13
    have hp14 := f_X3_fail_p  s0  hm_s0 hpre0 r12 s13 hs13
    obtain ⟨hfc_s13, hm_s13, hp15, hTK_s13, hp16⟩ := hp14
    have hf_s13 : fr [54, 55, 56, 57, 58] s0 s13 := hf_s0.call (by decide) hfc_s13
    have ht17 : s13 52 0 = s0 52 0 := by rw [hfc_s13 52 (by decide)]
    have ht18 : s13 53 0 = s0 53 0 := by rw [hfc_s13 53 (by decide)]
    have ht19 : s13 54 0 = s0 54 0 := by rw [hfc_s13 54 (by decide)]
    have ht20 : s13 56 0 = s0 56 0 := by rw [hfc_s13 56 (by decide)]
    have ht21 : s13 57 0 = s0 57 0 := by rw [hfc_s13 57 (by decide)]
    obtain ⟨rfl, rfl⟩ := Prod.mk.inj (hT.symm.trans hres)
    exact ⟨hf_s13, hm_s13, trivial, (by first | assumption | (unfold TK; omega))⟩
set_option maxRecDepth 100000 in
set_option maxHeartbeats 4000000 in
theorem c_X3_want (l : Launch) (D : va_G) (a : Nat → Nat) (cI cJ cS cT : ClassId) (adK adV : Nat → Nat) (kA : Nat) (s0 : gMem) (x0 : Int) (hx0 : in32 x0) (hpre0 : TK s0) : gCS l yX3_want cX3_want 2 none 8 512 D vwCl (gT cI cJ cS cT) (wdX a cI cJ cS cT) lgX kV rgV [.ref (a 2), gI x0] s0 (f_X3_want x0 s0) adK adV kA := by
  refine gCS_of (by decide +kernel) (hwdX a cI cJ cS cT) (Nat.le_of_ble_eq_true rfl) ?_
  intro A p e R s m args below meth c hR E HX
  subst hR
  have hT := f_X3_want_e x0 s0
  have hf_s0 : fr [54, 55, 56, 57, 58] s0 s0 := fr.rf _ _
  refine k_lv0 (lv' := [(0, .ref (a 2)), (1, gI x0)]) rfl ?_
  refine k_mr (fun hm_s0 => ?_)
  obtain ⟨kt1, kt2, kt3, kt4, kt5, kt6, kt7⟩ := id hpre0
  refine k_aloadn (pc := 0) E 0 dX3_want_0 rfl rfl ?_
  refine k_getfI (pc := 1) (q0 := 2) (f := 6) (k := 55) E inX3 rfl rfl (by decide) wm_65 rfl rfl rfl dX3_want_1 (fun hr1 => ?_)
  refine k_iloadn (pc := 4) E 1 dX3_want_4 rfl rfl ?_
  by_cases h2 : (s0 55 0) = x0
  · replace hT := hT.trans (if_pos h2)
    refine k_icmp_ne_f (pc := 5) (tgt := 15) E (by omega) (by omega) dX3_want_5 (by decide) h2 ?_
    refine k_aloadn (pc := 8) E 0 dX3_want_8 rfl rfl ?_
    refine k_mr (fun hm_s0 => ?_)
    refine k_callVX (pc := 9) (np := 0) (As := []) (st := []) (q0 := 2) E HX rfl rfl (c_X3_next l D a cI cJ cS cT adK adV kA s0  hpre0) wm_336 wm_3 wm_333 wm_335 wp_0 (by decide +kernel) ⟨by decide, by decide⟩ rfl (Nat.le_of_ble_eq_true rfl) dX3_want_9 (fun r4 s5 hs5 hr3 => ?_)
    replace hT := gby hT hs5
    have hp6 := f_X3_next_p  s0  hm_s0 hpre0 r4 s5 hs5
    obtain ⟨hfc_s5, hm_s5, hp7, hTK_s5⟩ := hp6
    have hf_s5 : fr [54, 55, 56, 57, 58] s0 s5 := hf_s0.call (by decide) hfc_s5
    have ht8 : s5 52 0 = s0 52 0 := by rw [hfc_s5 52 (by decide)]
    have ht9 : s5 53 0 = s0 53 0 := by rw [hfc_s5 53 (by decide)]
    have ht10 : s5 58 0 = s0 58 0 := by rw [hfc_s5 58 (by decide)]
    refine k_st (st' := []) rfl ?_
    refine k_goto (pc := 12) (tgt := 19) E dX3_want_12 (by decide) ?_
    exact k_rho hT (k_vret (pc := 19) E dX3_want_19)
  · replace hT := hT.trans (if_neg h2)
    refine k_icmp_ne_t (pc := 5) (tgt := 15) E (by omega) (by omega) dX3_want_5 (by decide) h2 ?_
    refine k_aloadn (pc := 15) E 0 dX3_want_15 rfl rfl ?_
    refine k_mr (fun hm_s0 => ?_)
    refine k_callV (pc := 16) (np := 0) (As := []) (st := []) (q0 := 2) E (c_X3_fail l D a cI cJ cS cT s0  hpre0) wm_428 wm_3 wm_425 wm_427 wp_5 (by decide +kernel) rfl rfl ⟨by decide, by decide⟩ rfl (Nat.le_of_ble_eq_true rfl) dX3_want_16 (fun r12 s13 hs13 hr11 => ?_)
    replace hT := gby hT hs13
    have hp14 := f_X3_fail_p  s0  hm_s0 hpre0 r12 s13 hs13
    obtain ⟨hfc_s13, hm_s13, hp15, hTK_s13, hp16⟩ := hp14
    have hf_s13 : fr [54, 55, 56, 57, 58] s0 s13 := hf_s0.call (by decide) hfc_s13
    have ht17 : s13 52 0 = s0 52 0 := by rw [hfc_s13 52 (by decide)]
    have ht18 : s13 53 0 = s0 53 0 := by rw [hfc_s13 53 (by decide)]
    have ht19 : s13 54 0 = s0 54 0 := by rw [hfc_s13 54 (by decide)]
    have ht20 : s13 56 0 = s0 56 0 := by rw [hfc_s13 56 (by decide)]
    have ht21 : s13 57 0 = s0 57 0 := by rw [hfc_s13 57 (by decide)]
    refine k_st (st' := []) rfl ?_
    exact k_rho hT (k_vret (pc := 19) E dX3_want_19)
