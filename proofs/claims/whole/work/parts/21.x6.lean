theorem wp_21 : Cond.selects RX1 yX1_trySets yX1_trySets ∈ gBIG := gm (List.mem_of_getElem? (i := 21) (by decide +kernel)) (by decide +kernel)
theorem wm_8 : Cond.initialized RX1 ∈ gBIG := gm (List.mem_of_getElem? (i := 62) (by decide +kernel)) (by decide +kernel)
theorem wm_210 : Cond.fieldLink RX1 9 "AGapEveryTwenty$Picks" "plans" "LAGapEveryTwenty$Plans;" ∈ gBIG := gm (List.mem_of_getElem? (i := 264) (by decide +kernel)) (by decide +kernel)
theorem wm_211 : Cond.fieldLink RX1 15 "AGapEveryTwenty$Picks" "any" "Z" ∈ gBIG := gm (List.mem_of_getElem? (i := 265) (by decide +kernel)) (by decide +kernel)
theorem wm_212 : Cond.fieldLink RX1 21 "AGapEveryTwenty$Picks" "chosen" "J" ∈ gBIG := gm (List.mem_of_getElem? (i := 266) (by decide +kernel)) (by decide +kernel)
theorem wm_213 : Cond.fieldLink RX8 212 "AGapEveryTwenty$Picks" "chosen" "J" ∈ gBIG := gm (List.mem_of_getElem? (i := 267) (by decide +kernel)) (by decide +kernel)
theorem wm_214 : Cond.fieldLink RX1 25 "AGapEveryTwenty$Picks" "least" "J" ∈ gBIG := gm (List.mem_of_getElem? (i := 268) (by decide +kernel)) (by decide +kernel)
theorem wm_215 : Cond.fieldLink RX8 206 "AGapEveryTwenty$Picks" "least" "J" ∈ gBIG := gm (List.mem_of_getElem? (i := 269) (by decide +kernel)) (by decide +kernel)
theorem wm_276 : Cond.fieldLink RX8 46 "AGapEveryTwenty" "picks" "LAGapEveryTwenty$Picks;" ∈ gBIG := gm (List.mem_of_getElem? (i := 330) (by decide +kernel)) (by decide +kernel)
theorem wm_600 : Cond.instanceMethod yX8_plan ∈ gBIG := gm (List.mem_of_getElem? (i := 654) (by decide +kernel)) (by decide +kernel)
theorem wm_601 : Cond.selects RX8 yX8_plan yX8_plan ∈ gBIG := gm (List.mem_of_getElem? (i := 655) (by decide +kernel)) (by decide +kernel)
theorem wm_602 : Cond.code yX8_plan cX8_plan 1 (some .long) ∈ gBIG := gm (List.mem_of_getElem? (i := 656) (by decide +kernel)) (by decide +kernel)
theorem wm_607 : Cond.methodLink RX8 186 yX1_begin ∈ gBIG := gm (List.mem_of_getElem? (i := 661) (by decide +kernel)) (by decide +kernel)
theorem wm_608 : Cond.instanceMethod yX1_begin ∈ gBIG := gm (List.mem_of_getElem? (i := 662) (by decide +kernel)) (by decide +kernel)
theorem wm_609 : Cond.selects RX1 yX1_begin yX1_begin ∈ gBIG := gm (List.mem_of_getElem? (i := 663) (by decide +kernel)) (by decide +kernel)
theorem wm_610 : Cond.code yX1_begin cX1_begin 1 none ∈ gBIG := gm (List.mem_of_getElem? (i := 664) (by decide +kernel)) (by decide +kernel)
theorem wm_611 : Cond.constantLong RX1 19 (-1) ∈ gBIG := gm (List.mem_of_getElem? (i := 665) (by decide +kernel)) (by decide +kernel)
theorem wm_612 : Cond.methodLink RX8 189 yX1_trySizes ∈ gBIG := gm (List.mem_of_getElem? (i := 666) (by decide +kernel)) (by decide +kernel)
theorem wm_613 : Cond.instanceMethod yX1_trySizes ∈ gBIG := gm (List.mem_of_getElem? (i := 667) (by decide +kernel)) (by decide +kernel)
theorem wm_614 : Cond.selects RX1 yX1_trySizes yX1_trySizes ∈ gBIG := gm (List.mem_of_getElem? (i := 668) (by decide +kernel)) (by decide +kernel)
theorem wm_615 : Cond.code yX1_trySizes cX1_trySizes 3 none ∈ gBIG := gm (List.mem_of_getElem? (i := 669) (by decide +kernel)) (by decide +kernel)
theorem wm_616 : Cond.methodLink RX1 28 yX1_trySets ∈ gBIG := gm (List.mem_of_getElem? (i := 670) (by decide +kernel)) (by decide +kernel)
theorem wm_618 : Cond.instanceMethod yX1_trySets ∈ gBIG := gm (List.mem_of_getElem? (i := 672) (by decide +kernel)) (by decide +kernel)
theorem wm_619 : Cond.code yX1_trySets cX1_trySets 5 none ∈ gBIG := gm (List.mem_of_getElem? (i := 673) (by decide +kernel)) (by decide +kernel)
theorem wm_620 : Cond.methodLink RX1 32 yX2_meanBy ∈ gBIG := gm (List.mem_of_getElem? (i := 674) (by decide +kernel)) (by decide +kernel)
theorem wm_621 : Cond.methodLink RX1 38 yX1_consider ∈ gBIG := gm (List.mem_of_getElem? (i := 675) (by decide +kernel)) (by decide +kernel)
theorem wm_622 : Cond.instanceMethod yX1_consider ∈ gBIG := gm (List.mem_of_getElem? (i := 676) (by decide +kernel)) (by decide +kernel)
theorem wm_623 : Cond.selects RX1 yX1_consider yX1_consider ∈ gBIG := gm (List.mem_of_getElem? (i := 677) (by decide +kernel)) (by decide +kernel)
theorem wm_624 : Cond.code yX1_consider cX1_consider 4 none ∈ gBIG := gm (List.mem_of_getElem? (i := 678) (by decide +kernel)) (by decide +kernel)
theorem wm_625 : Cond.methodLink RX8 192 yX1_answer ∈ gBIG := gm (List.mem_of_getElem? (i := 679) (by decide +kernel)) (by decide +kernel)
theorem wm_626 : Cond.instanceMethod yX1_answer ∈ gBIG := gm (List.mem_of_getElem? (i := 680) (by decide +kernel)) (by decide +kernel)
theorem wm_627 : Cond.selects RX1 yX1_answer yX1_answer ∈ gBIG := gm (List.mem_of_getElem? (i := 681) (by decide +kernel)) (by decide +kernel)
theorem wm_628 : Cond.code yX1_answer cX1_answer 2 (some .long) ∈ gBIG := gm (List.mem_of_getElem? (i := 682) (by decide +kernel)) (by decide +kernel)
theorem wm_633 : Cond.methodLink RX8 195 yX8_gapsEvery ∈ gBIG := gm (List.mem_of_getElem? (i := 687) (by decide +kernel)) (by decide +kernel)
theorem wm_634 : Cond.static yX8_gapsEvery ∈ gBIG := gm (List.mem_of_getElem? (i := 688) (by decide +kernel)) (by decide +kernel)
theorem wm_635 : Cond.code yX8_gapsEvery cX8_gapsEvery 3 (some .int) ∈ gBIG := gm (List.mem_of_getElem? (i := 689) (by decide +kernel)) (by decide +kernel)
theorem wm_636 : Cond.methodLink RX8 198 yX1_consider ∈ gBIG := gm (List.mem_of_getElem? (i := 690) (by decide +kernel)) (by decide +kernel)
theorem wm_645 : Cond.methodLink RX8 202 yX8_plan ∈ gBIG := gm (List.mem_of_getElem? (i := 699) (by decide +kernel)) (by decide +kernel)
theorem wm_646 : Cond.constantLong RX8 210 (-1) ∈ gBIG := gm (List.mem_of_getElem? (i := 700) (by decide +kernel)) (by decide +kernel)
/-! the best of many plans: what its walks need -/
def LEA (s : gMem) : Prop := ∀ j, -1 ≤ s 70 j ∧ s 70 j ≤ 1000000000000
theorem LEA_set {s : gMem} {i v : Int} (h : LEA s) (hv : -1 ≤ v ∧ v ≤ 1000000000000) : LEA (mset s 70 i v) := fun j => by
  rw [mset_at]
  split
  · exact hv
  · exact h j
theorem LEA_fr {s s1 : gMem} (h : LEA s) (e : ∀ k ∈ [70], s1 k = s k) : LEA s1 := fun j => by rw [e 70 (by decide)]; exact h j

def f_X1_begin  (s0 : gMem) : gRes := gl (mset s0 68 0 0) (fun s1 => gl (mset s1 69 0 (-1)) (fun s2 => gl (mset s2 70 0 (-1)) (fun s3 => (0, s3))))
theorem f_X1_begin_e  (s0 : gMem) : f_X1_begin s0 = gl (mset s0 68 0 0) (fun s1 => gl (mset s1 69 0 (-1)) (fun s2 => gl (mset s2 70 0 (-1)) (fun s3 => (0, s3)))) := rfl
set_option maxRecDepth 100000 in
set_option maxHeartbeats 4000000 in
theorem f_X1_begin_p  (s0 : gMem)  (hm_s0 : gMR lgX s0) (hpre0 : LEA s0) (rZ : Int) (sZ : gMem) (hres : f_X1_begin s0 = (rZ, sZ)) : (fr [68, 69, 70] s0 sZ) ∧ (gMR lgX sZ) ∧ (True) ∧ (LEA sZ) := by
  have hT := f_X1_begin_e  s0
  have hf_s0 : fr [68, 69, 70] s0 s0 := fr.rf _ _
  have hLEA_s0 := hpre0
  obtain ⟨s1, hs1, hT⟩ := glx hT
  have hf_s1 : fr [68, 69, 70] s0 s1 := hs1 ▸ hf_s0.set (by decide)
  have hm_s1 : gMR lgX s1 := hs1 ▸ hm_s0.set32 rfl (by omega)
  have hg_s1 : fr [68] s0 s1 := hs1 ▸ (fr.rf _ _).set (by decide)
  have hLEA_s1 : LEA s1 := LEA_fr hLEA_s0 (fun k hk => hg_s1 k (dj (by decide) k hk))
  obtain ⟨s2, hs2, hT⟩ := glx hT
  have hf_s2 : fr [68, 69, 70] s0 s2 := hs2 ▸ hf_s1.set (by decide)
  have hm_s2 : gMR lgX s2 := hs2 ▸ hm_s1.set64 rfl (by omega)
  have hg_s2 : fr [69] s1 s2 := hs2 ▸ (fr.rf _ _).set (by decide)
  have hLEA_s2 : LEA s2 := LEA_fr hLEA_s1 (fun k hk => hg_s2 k (dj (by decide) k hk))
  obtain ⟨s3, hs3, hT⟩ := glx hT
  have hf_s3 : fr [68, 69, 70] s0 s3 := hs3 ▸ hf_s2.set (by decide)
  have hm_s3 : gMR lgX s3 := hs3 ▸ hm_s2.set64 rfl (by omega)
  have hg_s3 : fr [70] s2 s3 := hs3 ▸ (fr.rf _ _).set (by decide)
  have hLEA_s3 : LEA s3 := hs3 ▸ LEA_set hLEA_s2 (by omega)
  obtain ⟨rfl, rfl⟩ := Prod.mk.inj (hT.symm.trans hres)
  exact ⟨hf_s3, hm_s3, trivial, hLEA_s3⟩
set_option maxRecDepth 100000 in
set_option maxHeartbeats 4000000 in
theorem c_X1_begin (l : Launch) (D : va_G) (a : Nat → Nat) (cI cJ cS cT : ClassId) (s0 : gMem)   (hpre0 : LEA s0) : gC l yX1_begin cX1_begin 1 none 1 64 D vwCl (gT cI cJ cS cT) (wdX a cI cJ cS cT) lgX kV rgV [.ref (a 6)] s0 (f_X1_begin s0) := by
  refine gC_of (by decide +kernel) (hwdX a cI cJ cS cT) (Nat.le_of_ble_eq_true rfl) ?_
  intro A p e R s m args below meth c hR E
  subst hR
  have hT := f_X1_begin_e  s0
  have hf_s0 : fr [68, 69, 70] s0 s0 := fr.rf _ _
  refine k_lv0 (lv' := [(0, .ref (a 6))]) rfl ?_
  refine k_mr (fun hm_s0 => ?_)
  have hLEA_s0 := hpre0
  refine k_aloadn (pc := 0) E 0 dX1_begin_0 rfl rfl ?_
  refine k_iconst (pc := 1) E dX1_begin_1 ?_
  refine k_putfZ (pc := 2) (q0 := 6) (f := 1) (k := 68) E tyX1 tyX1_ok nmX1 inX1 rfl rfl (by decide) wm_211 rfl rfl rfl (Nat.le_of_ble_eq_true rfl) rfl rfl (by first | exact Or.inl rfl | exact Or.inr rfl | omega) dX1_begin_2 ?_
  obtain ⟨s1, hs1, hT⟩ := glx hT
  refine k_sg hs1.symm ?_
  have hf_s1 : fr [68, 69, 70] s0 s1 := hs1 ▸ hf_s0.set (by decide)
  have hg_s1 : fr [68] s0 s1 := hs1 ▸ (fr.rf _ _).set (by decide)
  have hLEA_s1 : LEA s1 := LEA_fr hLEA_s0 (fun k hk => hg_s1 k (dj (by decide) k hk))
  refine k_aloadn (pc := 5) E 0 dX1_begin_5 rfl rfl ?_
  refine k_ldc2 (pc := 6) (n := (-1)) E dX1_begin_6 wm_611 (by decide) ?_
  refine k_putfJ (pc := 9) (q0 := 6) (f := 2) (k := 69) E tyX1 tyX1_ok nmX1 inX1 rfl rfl (by decide) wm_212 rfl rfl rfl (Nat.le_of_ble_eq_true rfl) rfl rfl (by omega) dX1_begin_9 ?_
  obtain ⟨s2, hs2, hT⟩ := glx hT
  refine k_sg hs2.symm ?_
  have hf_s2 : fr [68, 69, 70] s0 s2 := hs2 ▸ hf_s1.set (by decide)
  have hg_s2 : fr [69] s1 s2 := hs2 ▸ (fr.rf _ _).set (by decide)
  have hLEA_s2 : LEA s2 := LEA_fr hLEA_s1 (fun k hk => hg_s2 k (dj (by decide) k hk))
  refine k_aloadn (pc := 12) E 0 dX1_begin_12 rfl rfl ?_
  refine k_ldc2 (pc := 13) (n := (-1)) E dX1_begin_13 wm_611 (by decide) ?_
  refine k_putfJ (pc := 16) (q0 := 6) (f := 3) (k := 70) E tyX1 tyX1_ok nmX1 inX1 rfl rfl (by decide) wm_214 rfl rfl rfl (Nat.le_of_ble_eq_true rfl) rfl rfl (by omega) dX1_begin_16 ?_
  obtain ⟨s3, hs3, hT⟩ := glx hT
  refine k_sg hs3.symm ?_
  have hf_s3 : fr [68, 69, 70] s0 s3 := hs3 ▸ hf_s2.set (by decide)
  have hg_s3 : fr [70] s2 s3 := hs3 ▸ (fr.rf _ _).set (by decide)
  have hLEA_s3 : LEA s3 := hs3 ▸ LEA_set hLEA_s2 (by omega)
  exact k_rho hT (k_vret (pc := 19) E dX1_begin_19)

def f_X1_consider (x0 : Int) (x1 : Int) (s0 : gMem) : gRes := (gj (fun j3c => (if (s0 68 0) = 0 then j3c else (if x1 < (s0 70 0) then j3c else (0, s0)))) (gl (mset s0 68 0 1) (fun s4 => gl (mset s4 69 0 x0) (fun s5 => gl (mset s5 70 0 x1) (fun s6 => (0, s6))))))
theorem f_X1_consider_e (x0 : Int) (x1 : Int) (s0 : gMem) : f_X1_consider x0 x1 s0 = (gj (fun j3c => (if (s0 68 0) = 0 then j3c else (if x1 < (s0 70 0) then j3c else (0, s0)))) (gl (mset s0 68 0 1) (fun s4 => gl (mset s4 69 0 x0) (fun s5 => gl (mset s5 70 0 x1) (fun s6 => (0, s6)))))) := rfl
set_option maxRecDepth 100000 in
set_option maxHeartbeats 4000000 in
theorem f_X1_consider_p (x0 : Int) (x1 : Int) (s0 : gMem) (hx0 : in32 x0) (hx1 : in64 x1) (hm_s0 : gMR lgX s0) (hpre0 : LEA s0) (hpre1 : 0 ≤ x1 ∧ x1 ≤ 1000000000000) (rZ : Int) (sZ : gMem) (hres : f_X1_consider x0 x1 s0 = (rZ, sZ)) : (fr [68, 69, 70] s0 sZ) ∧ (gMR lgX sZ) ∧ (True) ∧ (LEA sZ) := by
  have hT := f_X1_consider_e x0 x1 s0
  have hf_s0 : fr [68, 69, 70] s0 s0 := fr.rf _ _
  have hLEA_s0 := hpre0
  have hr1 := (hm_s0 68 0).1 rfl
  obtain ⟨j3c, hj3c, hT⟩ := gjx hT
  have j3 : (True) → (f_X1_consider x0 x1 s0) = j3c  → (fr [68, 69, 70] s0 sZ) ∧ (gMR lgX sZ) ∧ (True) ∧ (LEA sZ) := by
    intro  hq hT
    rw [hj3c] at hT
    obtain ⟨s4, hs4, hT⟩ := glx hT
    have hf_s4 : fr [68, 69, 70] s0 s4 := hs4 ▸ hf_s0.set (by decide)
    have hm_s4 : gMR lgX s4 := hs4 ▸ hm_s0.set32 rfl (by omega)
    have hg_s4 : fr [68] s0 s4 := hs4 ▸ (fr.rf _ _).set (by decide)
    have hLEA_s4 : LEA s4 := LEA_fr hLEA_s0 (fun k hk => hg_s4 k (dj (by decide) k hk))
    obtain ⟨s5, hs5, hT⟩ := glx hT
    have hf_s5 : fr [68, 69, 70] s0 s5 := hs5 ▸ hf_s4.set (by decide)
    have hm_s5 : gMR lgX s5 := hs5 ▸ hm_s4.set64 rfl (by omega)
    have hg_s5 : fr [69] s4 s5 := hs5 ▸ (fr.rf _ _).set (by decide)
    have hLEA_s5 : LEA s5 := LEA_fr hLEA_s4 (fun k hk => hg_s5 k (dj (by decide) k hk))
    obtain ⟨s6, hs6, hT⟩ := glx hT
    have hf_s6 : fr [68, 69, 70] s0 s6 := hs6 ▸ hf_s5.set (by decide)
    have hm_s6 : gMR lgX s6 := hs6 ▸ hm_s5.set64 rfl (by omega)
    have hg_s6 : fr [70] s5 s6 := hs6 ▸ (fr.rf _ _).set (by decide)
    have hLEA_s6 : LEA s6 := hs6 ▸ LEA_set hLEA_s5 (by omega)
    obtain ⟨rfl, rfl⟩ := Prod.mk.inj (hT.symm.trans hres)
    exact ⟨hf_s6, hm_s6, trivial, hLEA_s6⟩
  by_cases h2 : (s0 68 0) = 0
  · replace hT := hT.trans (if_pos h2)
    exact j3  trivial hT
  · replace hT := hT.trans (if_neg h2)
    have hr7 := (hm_s0 70 0).2 rfl
    have hi8 := hLEA_s0 0
    by_cases h9 : x1 < (s0 70 0)
    · replace hT := hT.trans (if_pos h9)
      exact j3  trivial hT
    · replace hT := hT.trans (if_neg h9)
      obtain ⟨rfl, rfl⟩ := Prod.mk.inj (hT.symm.trans hres)
      exact ⟨hf_s0, hm_s0, trivial, hLEA_s0⟩
set_option maxRecDepth 100000 in
set_option maxHeartbeats 4000000 in
theorem c_X1_consider (l : Launch) (D : va_G) (a : Nat → Nat) (cI cJ cS cT : ClassId) (s0 : gMem) (x0 : Int) (x1 : Int) (hx0 : in32 x0) (hx1 : in64 x1) (hpre0 : LEA s0) (hpre1 : 0 ≤ x1 ∧ x1 ≤ 1000000000000) : gC l yX1_consider cX1_consider 4 none 1 64 D vwCl (gT cI cJ cS cT) (wdX a cI cJ cS cT) lgX kV rgV [.ref (a 6), gI x0, gL x1] s0 (f_X1_consider x0 x1 s0) := by
  refine gC_of (by decide +kernel) (hwdX a cI cJ cS cT) (Nat.le_of_ble_eq_true rfl) ?_
  intro A p e R s m args below meth c hR E
  subst hR
  have hT := f_X1_consider_e x0 x1 s0
  have hf_s0 : fr [68, 69, 70] s0 s0 := fr.rf _ _
  refine k_lv0 (lv' := [(0, .ref (a 6)), (1, gI x0), (2, gL x1)]) rfl ?_
  refine k_mr (fun hm_s0 => ?_)
  have hLEA_s0 := hpre0
  refine k_aloadn (pc := 0) E 0 dX1_consider_0 rfl rfl ?_
  refine k_getfI (pc := 1) (q0 := 6) (f := 1) (k := 68) E inX1 rfl rfl (by decide) wm_211 rfl rfl rfl dX1_consider_1 (fun hr1 => ?_)
  obtain ⟨j3c, hj3c, hT⟩ := gjx hT
  have j3 : (True) → (f_X1_consider x0 x1 s0) = j3c  → gK D vwCl (wdX a cI cJ cS cT) lgX A p l e { frames := 1, cells := 0, slots := 0, locals := 64 } s m args below meth c 4 (gQQ D vwCl (wdX a cI cJ cS cT) lgX A kV rgV below args s) (f_X1_consider x0 x1 s0) s0 16 [(0, .ref (a 6)), (1, gI x0), (2, gL x1)] [] := by
    intro  hq hT
    rw [hj3c] at hT
    refine k_aloadn (pc := 16) E 0 dX1_consider_16 rfl rfl ?_
    refine k_iconst (pc := 17) E dX1_consider_17 ?_
    refine k_putfZ (pc := 18) (q0 := 6) (f := 1) (k := 68) E tyX1 tyX1_ok nmX1 inX1 rfl rfl (by decide) wm_211 rfl rfl rfl (Nat.le_of_ble_eq_true rfl) rfl rfl (by first | exact Or.inl rfl | exact Or.inr rfl | omega) dX1_consider_18 ?_
    obtain ⟨s4, hs4, hT⟩ := glx hT
    refine k_sg hs4.symm ?_
    have hf_s4 : fr [68, 69, 70] s0 s4 := hs4 ▸ hf_s0.set (by decide)
    have hg_s4 : fr [68] s0 s4 := hs4 ▸ (fr.rf _ _).set (by decide)
    have hLEA_s4 : LEA s4 := LEA_fr hLEA_s0 (fun k hk => hg_s4 k (dj (by decide) k hk))
    refine k_aloadn (pc := 21) E 0 dX1_consider_21 rfl rfl ?_
    refine k_iloadn (pc := 22) E 1 dX1_consider_22 rfl rfl ?_
    refine k_i2l (pc := 23) E dX1_consider_23 (by omega) ?_
    refine k_putfJ (pc := 24) (q0 := 6) (f := 2) (k := 69) E tyX1 tyX1_ok nmX1 inX1 rfl rfl (by decide) wm_212 rfl rfl rfl (Nat.le_of_ble_eq_true rfl) rfl rfl (by omega) dX1_consider_24 ?_
    obtain ⟨s5, hs5, hT⟩ := glx hT
    refine k_sg hs5.symm ?_
    have hf_s5 : fr [68, 69, 70] s0 s5 := hs5 ▸ hf_s4.set (by decide)
    have hg_s5 : fr [69] s4 s5 := hs5 ▸ (fr.rf _ _).set (by decide)
    have hLEA_s5 : LEA s5 := LEA_fr hLEA_s4 (fun k hk => hg_s5 k (dj (by decide) k hk))
    refine k_aloadn (pc := 27) E 0 dX1_consider_27 rfl rfl ?_
    refine k_lloadn (pc := 28) E 2 dX1_consider_28 rfl rfl ?_
    refine k_putfJ (pc := 29) (q0 := 6) (f := 3) (k := 70) E tyX1 tyX1_ok nmX1 inX1 rfl rfl (by decide) wm_214 rfl rfl rfl (Nat.le_of_ble_eq_true rfl) rfl rfl (by omega) dX1_consider_29 ?_
    obtain ⟨s6, hs6, hT⟩ := glx hT
    refine k_sg hs6.symm ?_
    have hf_s6 : fr [68, 69, 70] s0 s6 := hs6 ▸ hf_s5.set (by decide)
    have hg_s6 : fr [70] s5 s6 := hs6 ▸ (fr.rf _ _).set (by decide)
    have hLEA_s6 : LEA s6 := hs6 ▸ LEA_set hLEA_s5 (by omega)
    exact k_rho hT (k_vret (pc := 32) E dX1_consider_32)
  by_cases h2 : (s0 68 0) = 0
  · replace hT := hT.trans (if_pos h2)
    refine k_if_eq_t (pc := 4) (tgt := 16) E (by omega) dX1_consider_4 (by decide) h2 ?_
    exact j3  trivial hT
  · replace hT := hT.trans (if_neg h2)
    refine k_if_eq_f (pc := 4) (tgt := 16) E (by omega) dX1_consider_4 (by decide) h2 ?_
    refine k_lloadn (pc := 7) E 2 dX1_consider_7 rfl rfl ?_
    refine k_aloadn (pc := 8) E 0 dX1_consider_8 rfl rfl ?_
    refine k_getfJ (pc := 9) (q0 := 6) (f := 3) (k := 70) E inX1 rfl rfl (by decide) wm_214 rfl rfl rfl dX1_consider_9 (fun hr7 => ?_)
    have hi8 := hLEA_s0 0
    by_cases h9 : x1 < (s0 70 0)
    · replace hT := hT.trans (if_pos h9)
      refine k_lcmp (pc := 12) E dX1_consider_12 (by omega) (by omega) ?_
      refine k_if_ge_f (pc := 13) (tgt := 32) E (by (repeat' split) <;> omega) dX1_consider_13 (by decide) (by (repeat' split) <;> omega) ?_
      exact j3  trivial hT
    · replace hT := hT.trans (if_neg h9)
      refine k_lcmp (pc := 12) E dX1_consider_12 (by omega) (by omega) ?_
      refine k_if_ge_t (pc := 13) (tgt := 32) E (by (repeat' split) <;> omega) dX1_consider_13 (by decide) (by (repeat' split) <;> omega) ?_
      exact k_rho hT (k_vret (pc := 32) E dX1_consider_32)

def f_X1_answer (x0 : Int) (s0 : gMem) : Int := (if x0 = 0 then (s0 69 0) else (s0 70 0))
theorem f_X1_answer_e (x0 : Int) (s0 : gMem) : f_X1_answer x0 s0 = (if x0 = 0 then (s0 69 0) else (s0 70 0)) := rfl
set_option maxRecDepth 100000 in
set_option maxHeartbeats 4000000 in
theorem f_X1_answer_p (x0 : Int) (s0 : gMem) (hx0 : in32 x0) (hm_s0 : gMR lgX s0)  : (in64 (f_X1_answer x0 s0)) := by
  have hT := f_X1_answer_e x0 s0
  by_cases h1 : x0 = 0
  · replace hT := hT.trans (if_pos h1)
    have hr2 := (hm_s0 69 0).2 rfl
    rw [hT]
    exact (by omega)
  · replace hT := hT.trans (if_neg h1)
    have hr3 := (hm_s0 70 0).2 rfl
    rw [hT]
    exact (by omega)
set_option maxRecDepth 100000 in
set_option maxHeartbeats 4000000 in
theorem c_X1_answer (l : Launch) (D : va_G) (a : Nat → Nat) (cI cJ cS cT : ClassId) (s0 : gMem) (x0 : Int) (hx0 : in32 x0)  : gC l yX1_answer cX1_answer 2 (some .long) 1 64 D vwCl (gT cI cJ cS cT) (wdX a cI cJ cS cT) lgX kJ in64 [.ref (a 6), gI x0] s0 ((f_X1_answer x0 s0), s0) := by
  refine gC_of (by decide +kernel) (hwdX a cI cJ cS cT) (Nat.le_of_ble_eq_true rfl) ?_
  intro A p e R s m args below meth c hR E
  subst hR
  have hT := f_X1_answer_e x0 s0
  refine k_lv0 (lv' := [(0, .ref (a 6)), (1, gI x0)]) rfl ?_
  refine k_mr (fun hm_s0 => ?_)
  refine k_iloadn (pc := 0) E 1 dX1_answer_0 rfl rfl ?_
  by_cases h1 : x0 = 0
  · replace hT := hT.trans (if_pos h1)
    refine k_if_ne_f (pc := 1) (tgt := 11) E (by omega) dX1_answer_1 (by decide) h1 ?_
    refine k_aloadn (pc := 4) E 0 dX1_answer_4 rfl rfl ?_
    refine k_getfJ (pc := 5) (q0 := 6) (f := 2) (k := 69) E inX1 rfl rfl (by decide) wm_212 rfl rfl rfl dX1_answer_5 (fun hr2 => ?_)
    refine k_goto (pc := 8) (tgt := 15) E dX1_answer_8 (by decide) ?_
    exact k_rho (congrArg (fun q => (q, s0)) hT) (k_lret (pc := 15) E dX1_answer_15 (by omega))
  · replace hT := hT.trans (if_neg h1)
    refine k_if_ne_t (pc := 1) (tgt := 11) E (by omega) dX1_answer_1 (by decide) h1 ?_
    refine k_aloadn (pc := 11) E 0 dX1_answer_11 rfl rfl ?_
    refine k_getfJ (pc := 12) (q0 := 6) (f := 3) (k := 70) E inX1 rfl rfl (by decide) wm_214 rfl rfl rfl dX1_answer_12 (fun hr3 => ?_)
    exact k_rho (congrArg (fun q => (q, s0)) hT) (k_lret (pc := 15) E dX1_answer_15 (by omega))

def f_X1_trySets_0 (x0 : Int) (x1 : Int) (x2 : Int) (s0 : gMem) : gRes := (if 0 < x2 then (0, s0) else gb (f_X2_meanBy x0 s0) (fun r3 s4 => gb (f_X1_consider x0 r3 s4) (fun r9 s10 => (0, s10))))
theorem f_X1_trySets_0_e (x0 : Int) (x1 : Int) (x2 : Int) (s0 : gMem) : f_X1_trySets_0 x0 x1 x2 s0 = (if 0 < x2 then (0, s0) else gb (f_X2_meanBy x0 s0) (fun r3 s4 => gb (f_X1_consider x0 r3 s4) (fun r9 s10 => (0, s10)))) := rfl
set_option maxRecDepth 100000 in
set_option maxHeartbeats 4000000 in
theorem f_X1_trySets_0_p (x0 : Int) (x1 : Int) (x2 : Int) (s0 : gMem) (hx0 : in32 x0) (hx1 : in32 x1) (hx2 : in32 x2) (hm_s0 : gMR lgX s0) (hpre0 : CD s0) (hpre1 : BG s0) (hpre2 : LA s0) (hpre3 : MOx s0) (hpre4 : KF s0) (hpre5 : KC s0) (hpre6 : KT s0) (hpre7 : KM s0) (hpre8 : WY s0) (hpre9 : LEA s0) (hpre10 : 0 ≤ x1 ∧ x1 ≤ 16) (hpre11 : x2 = 0) (rZ : Int) (sZ : gMem) (hres : f_X1_trySets_0 x0 x1 x2 s0 = (rZ, sZ)) : (fr [32, 36, 37, 38, 39, 42, 68, 69, 70] s0 sZ) ∧ (gMR lgX sZ) ∧ (True) ∧ (KM sZ) ∧ (LEA sZ) ∧ (KF sZ) ∧ (KC sZ) ∧ (KT sZ) := by
  have hT := f_X1_trySets_0_e x0 x1 x2 s0
  have hf_s0 : fr [32, 36, 37, 38, 39, 42, 68, 69, 70] s0 s0 := fr.rf _ _
  have hKM_s0 := hpre7
  have hLEA_s0 := hpre9
  have hKF_s0 := hpre4
  have hKC_s0 := hpre5
  have hKT_s0 := hpre6
  by_cases h1 : 0 < x2
  · replace hT := hT.trans (if_pos h1)
    exfalso
    omega
  · replace hT := hT.trans (if_neg h1)
    obtain ⟨r3, s4, hs4⟩ : ∃ rr ss, (f_X2_meanBy x0 s0) = (rr, ss) := ⟨_, _, rfl⟩
    replace hT := gby hT hs4
    have hp5 := f_X2_meanBy_p x0 s0 (by omega) hm_s0 hpre0 hpre1 hpre2 hpre3 hKF_s0 hKC_s0 hKT_s0 hKM_s0 hpre8 r3 s4 hs4
    obtain ⟨hfc_s4, hm_s4, hp6, hKM_s4, hKF_s4, hKC_s4, hKT_s4, hp7⟩ := hp5
    have hf_s4 : fr [32, 36, 37, 38, 39, 42, 68, 69, 70] s0 s4 := hf_s0.call (by decide) hfc_s4
    have hLEA_s4 : LEA s4 := LEA_fr hLEA_s0 (fun k hk => hfc_s4 k (dj (by decide) k hk))
    obtain ⟨r9, s10, hs10⟩ : ∃ rr ss, (f_X1_consider x0 r3 s4) = (rr, ss) := ⟨_, _, rfl⟩
    replace hT := gby hT hs10
    have hp11 := f_X1_consider_p x0 r3 s4 (by omega) (by omega) hm_s4 hLEA_s4 (by first | assumption | omega) r9 s10 hs10
    obtain ⟨hfc_s10, hm_s10, hp12, hLEA_s10⟩ := hp11
    have hf_s10 : fr [32, 36, 37, 38, 39, 42, 68, 69, 70] s0 s10 := hf_s4.call (by decide) hfc_s10
    have hKM_s10 : KM s10 := KM_fr hKM_s4 (fun k hk => hfc_s10 k (dj (by decide) k hk))
    have hKF_s10 : KF s10 := KF_fr hKF_s4 (fun k hk => hfc_s10 k (dj (by decide) k hk))
    have hKC_s10 : KC s10 := KC_fr hKC_s4 (fun k hk => hfc_s10 k (dj (by decide) k hk))
    have hKT_s10 : KT s10 := KT_fr hKT_s4 (fun k hk => hfc_s10 k (dj (by decide) k hk))
    obtain ⟨rfl, rfl⟩ := Prod.mk.inj (hT.symm.trans hres)
    exact ⟨hf_s10, hm_s10, trivial, hKM_s10, hLEA_s10, hKF_s10, hKC_s10, hKT_s10⟩
set_option maxRecDepth 100000 in
set_option maxHeartbeats 4000000 in
theorem c_X1_trySets_0 (l : Launch) (D : va_G) (a : Nat → Nat) (cI cJ cS cT : ClassId) (s0 : gMem) (x0 : Int) (x1 : Int) (x2 : Int) (hx0 : in32 x0) (hx1 : in32 x1) (hx2 : in32 x2) (hpre0 : CD s0) (hpre1 : BG s0) (hpre2 : LA s0) (hpre3 : MOx s0) (hpre4 : KF s0) (hpre5 : KC s0) (hpre6 : KT s0) (hpre7 : KM s0) (hpre8 : WY s0) (hpre9 : LEA s0) (hpre10 : 0 ≤ x1 ∧ x1 ≤ 16) (hpre11 : x2 = 0) : gC l yX1_trySets cX1_trySets 5 none 6 384 D vwCl (gT cI cJ cS cT) (wdX a cI cJ cS cT) lgX kV rgV [.ref (a 6), gI x0, gI x1, gI x2] s0 (f_X1_trySets_0 x0 x1 x2 s0) := by
  refine gC_of (by decide +kernel) (hwdX a cI cJ cS cT) (Nat.le_of_ble_eq_true rfl) ?_
  intro A p e R s m args below meth c hR E
  subst hR
  have hT := f_X1_trySets_0_e x0 x1 x2 s0
  have hf_s0 : fr [32, 36, 37, 38, 39, 42, 68, 69, 70] s0 s0 := fr.rf _ _
  refine k_lv0 (lv' := [(0, .ref (a 6)), (1, gI x0), (2, gI x1), (3, gI x2)]) rfl ?_
  refine k_mr (fun hm_s0 => ?_)
  have hKM_s0 := hpre7
  have hLEA_s0 := hpre9
  have hKF_s0 := hpre4
  have hKC_s0 := hpre5
  have hKT_s0 := hpre6
  refine k_iloadn (pc := 0) E 3 dX1_trySets_0 rfl rfl ?_
  by_cases h1 : 0 < x2
  · replace hT := hT.trans (if_pos h1)
    refine k_if_gt_t (pc := 1) (tgt := 20) E (by omega) dX1_trySets_1 (by decide) h1 ?_
    exfalso
    omega
  · replace hT := hT.trans (if_neg h1)
    refine k_if_gt_f (pc := 1) (tgt := 20) E (by omega) dX1_trySets_1 (by decide) h1 ?_
    refine k_aloadn (pc := 4) E 0 dX1_trySets_4 rfl rfl ?_
    refine k_iloadn (pc := 5) E 1 dX1_trySets_5 rfl rfl ?_
    refine k_aloadn (pc := 6) E 0 dX1_trySets_6 rfl rfl ?_
    refine k_getf (pc := 7) (q0 := 6) (f := 0) (v := .ref (a 5)) E inX1 rfl rfl (by decide) wm_210 rfl rfl dX1_trySets_7 ?_
    refine k_iloadn (pc := 10) E 1 dX1_trySets_10 rfl rfl ?_
    refine k_mr (fun hm_s0 => ?_)
    refine k_callV (pc := 11) (np := 1) (As := [gI x0]) (st := [gI x0, .ref (a 6)]) (q0 := 5) E (c_X2_meanBy l D a cI cJ cS cT s0 x0 (by omega) hpre0 hpre1 hpre2 hpre3 hKF_s0 hKC_s0 hKT_s0 hKM_s0 hpre8) wm_574 wm_7 wm_620 wm_572 wm_573 (by decide +kernel) rfl rfl ⟨by decide, by decide⟩ rfl (Nat.le_of_ble_eq_true rfl) dX1_trySets_11 (fun r3 s4 hs4 hr2 => ?_)
    replace hT := gby hT hs4
    have hp5 := f_X2_meanBy_p x0 s0 (by omega) hm_s0 hpre0 hpre1 hpre2 hpre3 hKF_s0 hKC_s0 hKT_s0 hKM_s0 hpre8 r3 s4 hs4
    obtain ⟨hfc_s4, hm_s4, hp6, hKM_s4, hKF_s4, hKC_s4, hKT_s4, hp7⟩ := hp5
    have hf_s4 : fr [32, 36, 37, 38, 39, 42, 68, 69, 70] s0 s4 := hf_s0.call (by decide) hfc_s4
    have hLEA_s4 : LEA s4 := LEA_fr hLEA_s0 (fun k hk => hfc_s4 k (dj (by decide) k hk))
    refine k_st (st' := [gL r3, gI x0, .ref (a 6)]) rfl ?_
    refine k_mr (fun hm_s4 => ?_)
    refine k_callV (pc := 14) (np := 2) (As := [gI x0, gL r3]) (st := []) (q0 := 6) E (c_X1_consider l D a cI cJ cS cT s4 x0 r3 (by omega) (by omega) hLEA_s4 (by first | assumption | omega)) wm_624 wm_8 wm_621 wm_622 wm_623 (by decide +kernel) rfl rfl ⟨by decide, by decide⟩ rfl (Nat.le_of_ble_eq_true rfl) dX1_trySets_14 (fun r9 s10 hs10 hr8 => ?_)
    replace hT := gby hT hs10
    have hp11 := f_X1_consider_p x0 r3 s4 (by omega) (by omega) hm_s4 hLEA_s4 (by first | assumption | omega) r9 s10 hs10
    obtain ⟨hfc_s10, hm_s10, hp12, hLEA_s10⟩ := hp11
    have hf_s10 : fr [32, 36, 37, 38, 39, 42, 68, 69, 70] s0 s10 := hf_s4.call (by decide) hfc_s10
    have hKM_s10 : KM s10 := KM_fr hKM_s4 (fun k hk => hfc_s10 k (dj (by decide) k hk))
    have hKF_s10 : KF s10 := KF_fr hKF_s4 (fun k hk => hfc_s10 k (dj (by decide) k hk))
    have hKC_s10 : KC s10 := KC_fr hKC_s4 (fun k hk => hfc_s10 k (dj (by decide) k hk))
    have hKT_s10 : KT s10 := KT_fr hKT_s4 (fun k hk => hfc_s10 k (dj (by decide) k hk))
    refine k_st (st' := []) rfl ?_
    refine k_goto (pc := 17) (tgt := 53) E dX1_trySets_17 (by decide) ?_
    exact k_rho hT (k_vret (pc := 53) E dX1_trySets_53)

def w_X1_trySets_1_23 (c1 : Int) (c3 : Int) : Nat → Int → gMem → Int × gMem
  | 0, v2, s3 => (v2, s3)
  | n4 + 1, v2, s3 => (if v2 < 16 then gb (f_X1_trySets_0 (ior c1 (ishl 1 v2)) (v2 + 1) (c3 - 1) s3) (fun r10 s11 => (w_X1_trySets_1_23 c1 c3 n4 (v2 + 1) s11)) else (v2, s3))
theorem w_X1_trySets_1_23_s (c1 : Int) (c3 : Int) (n4 : Nat) (v2 : Int) (s3 : gMem) : w_X1_trySets_1_23 c1 c3 (n4 + 1) v2 s3 = (if v2 < 16 then gb (f_X1_trySets_0 (ior c1 (ishl 1 v2)) (v2 + 1) (c3 - 1) s3) (fun r10 s11 => (w_X1_trySets_1_23 c1 c3 n4 (v2 + 1) s11)) else (v2, s3)) := rfl
def f_X1_trySets_1 (x0 : Int) (x1 : Int) (x2 : Int) (s0 : gMem) : gRes := (if 0 < x2 then (gl2 (w_X1_trySets_1_23 x0 x2 17 x1 s0) (fun v33 s34 => (0, s34))) else gb (f_X2_meanBy x0 s0) (fun r38 s39 => gb (f_X1_consider x0 r38 s39) (fun r44 s45 => (0, s45))))
theorem f_X1_trySets_1_e (x0 : Int) (x1 : Int) (x2 : Int) (s0 : gMem) : f_X1_trySets_1 x0 x1 x2 s0 = (if 0 < x2 then (gl2 (w_X1_trySets_1_23 x0 x2 17 x1 s0) (fun v33 s34 => (0, s34))) else gb (f_X2_meanBy x0 s0) (fun r38 s39 => gb (f_X1_consider x0 r38 s39) (fun r44 s45 => (0, s45)))) := rfl
set_option maxRecDepth 100000 in
set_option maxHeartbeats 4000000 in
theorem f_X1_trySets_1_p (x0 : Int) (x1 : Int) (x2 : Int) (s0 : gMem) (hx0 : in32 x0) (hx1 : in32 x1) (hx2 : in32 x2) (hm_s0 : gMR lgX s0) (hpre0 : CD s0) (hpre1 : BG s0) (hpre2 : LA s0) (hpre3 : MOx s0) (hpre4 : KF s0) (hpre5 : KC s0) (hpre6 : KT s0) (hpre7 : KM s0) (hpre8 : WY s0) (hpre9 : LEA s0) (hpre10 : 0 ≤ x1 ∧ x1 ≤ 16) (hpre11 : 0 ≤ x2 ∧ x2 ≤ 1) (rZ : Int) (sZ : gMem) (hres : f_X1_trySets_1 x0 x1 x2 s0 = (rZ, sZ)) : (fr [32, 36, 37, 38, 39, 42, 68, 69, 70] s0 sZ) ∧ (gMR lgX sZ) ∧ (True) ∧ (KM sZ) ∧ (LEA sZ) ∧ (KF sZ) ∧ (KC sZ) ∧ (KT sZ) := by
  have hT := f_X1_trySets_1_e x0 x1 x2 s0
  have hf_s0 : fr [32, 36, 37, 38, 39, 42, 68, 69, 70] s0 s0 := fr.rf _ _
  have hKM_s0 := hpre7
  have hLEA_s0 := hpre9
  have hKF_s0 := hpre4
  have hKC_s0 := hpre5
  have hKT_s0 := hpre6
  by_cases h1 : 0 < x2
  · replace hT := hT.trans (if_pos h1)
    have L16 : ∀ (n17 : Nat) (v14 : Int) (s15 : gMem), ((in32 v14) ∧ (fr [32, 36, 37, 38, 39, 42, 68, 69, 70] s0 s15) ∧ (gMR lgX s15) ∧ (KM s15) ∧ (LEA s15) ∧ (KF s15) ∧ (KC s15) ∧ (KT s15) ∧ (0 ≤ v14 ∧ v14 ≤ 16)) → 16 - v14 < (n17 : Int) → (∀ (w18 : Int) (s19 : gMem), (w_X1_trySets_1_23 x0 x2 n17 v14 s15) = (w18, s19) → ((in32 w18) ∧ (fr [32, 36, 37, 38, 39, 42, 68, 69, 70] s0 s19) ∧ (gMR lgX s19) ∧ (KM s19) ∧ (LEA s19) ∧ (KF s19) ∧ (KC s19) ∧ (KT s19) ∧ (0 ≤ w18 ∧ w18 ≤ 16)) → (fr [32, 36, 37, 38, 39, 42, 68, 69, 70] s0 sZ) ∧ (gMR lgX sZ) ∧ (True) ∧ (KM sZ) ∧ (LEA sZ) ∧ (KF sZ) ∧ (KC sZ) ∧ (KT sZ)) → (fr [32, 36, 37, 38, 39, 42, 68, 69, 70] s0 sZ) ∧ (gMR lgX sZ) ∧ (True) ∧ (KM sZ) ∧ (LEA sZ) ∧ (KF sZ) ∧ (KC sZ) ∧ (KT sZ) := by
      intro n17; induction n17 with
      | zero =>
        intro v14 s15 hq hm hk
        exfalso
        obtain ⟨hq29, hf_s15, hm_s15, hKM_s15, hLEA_s15, hKF_s15, hKC_s15, hKT_s15, hq30⟩ := hq
        omega
      | succ n17 ih =>
        intro v14 s15 hq hm hk
        obtain ⟨hq31, hf_s15, hm_s15, hKM_s15, hLEA_s15, hKF_s15, hKC_s15, hKT_s15, hq32⟩ := hq
        have hT := w_X1_trySets_1_23_s x0 x2 n17 v14 s15
        by_cases h20 : v14 < 16
        · replace hT := hT.trans (if_pos h20)
          have hb21 := ishl_rg 1 v14
          have hb22 : 0 ≤ v14 ∧ v14 ≤ 15 → _ := fun q => ishl_1 q.1 q.2
          have hb23 := ior_rg x0 (ishl 1 v14)
          obtain ⟨r25, s26, hs26⟩ : ∃ rr ss, (f_X1_trySets_0 (ior x0 (ishl 1 v14)) (v14 + 1) (x2 - 1) s15) = (rr, ss) := ⟨_, _, rfl⟩
          replace hT := gby hT hs26
          have hp27 := f_X1_trySets_0_p (ior x0 (ishl 1 v14)) (v14 + 1) (x2 - 1) s15 (by omega) (by omega) (by omega) hm_s15 (CD_fr hpre0 (fun k hk => hf_s15 k (dj (by decide) k hk))) (BG_fr hpre1 (fun k hk => hf_s15 k (dj (by decide) k hk))) (LA_fr hpre2 (fun k hk => hf_s15 k (dj (by decide) k hk))) (MOx_fr hpre3 (fun k hk => hf_s15 k (dj (by decide) k hk))) hKF_s15 hKC_s15 hKT_s15 hKM_s15 (WY_fr hpre8 (fun k hk => hf_s15 k (dj (by decide) k hk))) hLEA_s15 (by first | assumption | omega) (by first | assumption | omega) r25 s26 hs26
          obtain ⟨hfc_s26, hm_s26, hp28, hKM_s26, hLEA_s26, hKF_s26, hKC_s26, hKT_s26⟩ := hp27
          have hf_s26 : fr [32, 36, 37, 38, 39, 42, 68, 69, 70] s0 s26 := hf_s15.call (by decide) hfc_s26
          exact ih (v14 + 1) s26 ⟨(by omega), hf_s26, hm_s26, hKM_s26, hLEA_s26, hKF_s26, hKC_s26, hKT_s26, (by first | assumption | omega)⟩ (by omega) (fun w18 s19 hw hi => hk w18 s19 (hT.trans hw) hi)
        · replace hT := hT.trans (if_neg h20)
          exact hk v14 s15 hT ⟨(by omega), hf_s15, hm_s15, hKM_s15, hLEA_s15, hKF_s15, hKC_s15, hKT_s15, (by first | assumption | omega)⟩
    refine L16 17 x1 s0 ⟨(by omega), hf_s0, hm_s0, hKM_s0, hLEA_s0, hKF_s0, hKC_s0, hKT_s0, (by first | assumption | omega)⟩ (by omega) (fun v33 s34 hw hq => ?_)
    obtain ⟨hq35, hf_s34, hm_s34, hKM_s34, hLEA_s34, hKF_s34, hKC_s34, hKT_s34, hq36⟩ := hq
    replace hT := gl2y hT hw
    obtain ⟨rfl, rfl⟩ := Prod.mk.inj (hT.symm.trans hres)
    exact ⟨hf_s34, hm_s34, trivial, hKM_s34, hLEA_s34, hKF_s34, hKC_s34, hKT_s34⟩
  · replace hT := hT.trans (if_neg h1)
    obtain ⟨r38, s39, hs39⟩ : ∃ rr ss, (f_X2_meanBy x0 s0) = (rr, ss) := ⟨_, _, rfl⟩
    replace hT := gby hT hs39
    have hp40 := f_X2_meanBy_p x0 s0 (by omega) hm_s0 hpre0 hpre1 hpre2 hpre3 hKF_s0 hKC_s0 hKT_s0 hKM_s0 hpre8 r38 s39 hs39
    obtain ⟨hfc_s39, hm_s39, hp41, hKM_s39, hKF_s39, hKC_s39, hKT_s39, hp42⟩ := hp40
    have hf_s39 : fr [32, 36, 37, 38, 39, 42, 68, 69, 70] s0 s39 := hf_s0.call (by decide) hfc_s39
    have hLEA_s39 : LEA s39 := LEA_fr hLEA_s0 (fun k hk => hfc_s39 k (dj (by decide) k hk))
    obtain ⟨r44, s45, hs45⟩ : ∃ rr ss, (f_X1_consider x0 r38 s39) = (rr, ss) := ⟨_, _, rfl⟩
    replace hT := gby hT hs45
    have hp46 := f_X1_consider_p x0 r38 s39 (by omega) (by omega) hm_s39 hLEA_s39 (by first | assumption | omega) r44 s45 hs45
    obtain ⟨hfc_s45, hm_s45, hp47, hLEA_s45⟩ := hp46
    have hf_s45 : fr [32, 36, 37, 38, 39, 42, 68, 69, 70] s0 s45 := hf_s39.call (by decide) hfc_s45
    have hKM_s45 : KM s45 := KM_fr hKM_s39 (fun k hk => hfc_s45 k (dj (by decide) k hk))
    have hKF_s45 : KF s45 := KF_fr hKF_s39 (fun k hk => hfc_s45 k (dj (by decide) k hk))
    have hKC_s45 : KC s45 := KC_fr hKC_s39 (fun k hk => hfc_s45 k (dj (by decide) k hk))
    have hKT_s45 : KT s45 := KT_fr hKT_s39 (fun k hk => hfc_s45 k (dj (by decide) k hk))
    obtain ⟨rfl, rfl⟩ := Prod.mk.inj (hT.symm.trans hres)
    exact ⟨hf_s45, hm_s45, trivial, hKM_s45, hLEA_s45, hKF_s45, hKC_s45, hKT_s45⟩
set_option maxRecDepth 100000 in
set_option maxHeartbeats 4000000 in
theorem c_X1_trySets_1 (l : Launch) (D : va_G) (a : Nat → Nat) (cI cJ cS cT : ClassId) (s0 : gMem) (x0 : Int) (x1 : Int) (x2 : Int) (hx0 : in32 x0) (hx1 : in32 x1) (hx2 : in32 x2) (hpre0 : CD s0) (hpre1 : BG s0) (hpre2 : LA s0) (hpre3 : MOx s0) (hpre4 : KF s0) (hpre5 : KC s0) (hpre6 : KT s0) (hpre7 : KM s0) (hpre8 : WY s0) (hpre9 : LEA s0) (hpre10 : 0 ≤ x1 ∧ x1 ≤ 16) (hpre11 : 0 ≤ x2 ∧ x2 ≤ 1) : gC l yX1_trySets cX1_trySets 5 none 7 448 D vwCl (gT cI cJ cS cT) (wdX a cI cJ cS cT) lgX kV rgV [.ref (a 6), gI x0, gI x1, gI x2] s0 (f_X1_trySets_1 x0 x1 x2 s0) := by
  refine gC_of (by decide +kernel) (hwdX a cI cJ cS cT) (Nat.le_of_ble_eq_true rfl) ?_
  intro A p e R s m args below meth c hR E
  subst hR
  have hT := f_X1_trySets_1_e x0 x1 x2 s0
  have hf_s0 : fr [32, 36, 37, 38, 39, 42, 68, 69, 70] s0 s0 := fr.rf _ _
  refine k_lv0 (lv' := [(0, .ref (a 6)), (1, gI x0), (2, gI x1), (3, gI x2)]) rfl ?_
  refine k_mr (fun hm_s0 => ?_)
  have hKM_s0 := hpre7
  have hLEA_s0 := hpre9
  have hKF_s0 := hpre4
  have hKC_s0 := hpre5
  have hKT_s0 := hpre6
  refine k_iloadn (pc := 0) E 3 dX1_trySets_0 rfl rfl ?_
  by_cases h1 : 0 < x2
  · replace hT := hT.trans (if_pos h1)
    refine k_if_gt_t (pc := 1) (tgt := 20) E (by omega) dX1_trySets_1 (by decide) h1 ?_
    refine k_iloadn (pc := 20) E 2 dX1_trySets_20 rfl rfl ?_
    refine k_istore (pc := 21) (lv' := [(4, gI x1), (0, .ref (a 6)), (1, gI x0), (2, gI x1), (3, gI x2)]) E dX1_trySets_21 (by decide) rfl ?_
    have L16 : ∀ (n17 : Nat) (v14 : Int) (s15 : gMem), ((in32 v14) ∧ (fr [32, 36, 37, 38, 39, 42, 68, 69, 70] s0 s15) ∧ (KM s15) ∧ (LEA s15) ∧ (KF s15) ∧ (KC s15) ∧ (KT s15) ∧ (0 ≤ v14 ∧ v14 ≤ 16)) → 16 - v14 < (n17 : Int) → (∀ (w18 : Int) (s19 : gMem), (w_X1_trySets_1_23 x0 x2 n17 v14 s15) = (w18, s19) → ((in32 w18) ∧ (fr [32, 36, 37, 38, 39, 42, 68, 69, 70] s0 s19) ∧ (KM s19) ∧ (LEA s19) ∧ (KF s19) ∧ (KC s19) ∧ (KT s19) ∧ (0 ≤ w18 ∧ w18 ≤ 16)) → gK D vwCl (wdX a cI cJ cS cT) lgX A p l e { frames := 7, cells := 0, slots := 0, locals := 448 } s m args below meth c 5 (gQQ D vwCl (wdX a cI cJ cS cT) lgX A kV rgV below args s) (f_X1_trySets_1 x0 x1 x2 s0) s19 53 [] []) → gK D vwCl (wdX a cI cJ cS cT) lgX A p l e { frames := 7, cells := 0, slots := 0, locals := 448 } s m args below meth c 5 (gQQ D vwCl (wdX a cI cJ cS cT) lgX A kV rgV below args s) (f_X1_trySets_1 x0 x1 x2 s0) s15 23 [(0, .ref (a 6)), (1, gI x0), (3, gI x2), (4, gI v14)] [] := by
      intro n17; induction n17 with
      | zero =>
        intro v14 s15 hq hm hk
        exfalso
        obtain ⟨hq29, hf_s15, hKM_s15, hLEA_s15, hKF_s15, hKC_s15, hKT_s15, hq30⟩ := hq
        omega
      | succ n17 ih =>
        intro v14 s15 hq hm hk
        obtain ⟨hq31, hf_s15, hKM_s15, hLEA_s15, hKF_s15, hKC_s15, hKT_s15, hq32⟩ := hq
        have hT := w_X1_trySets_1_23_s x0 x2 n17 v14 s15
        refine k_iload (pc := 23) E 3 dX1_trySets_23 rfl ?_
        refine k_bipush (pc := 25) E dX1_trySets_25 (by decide) ?_
        by_cases h20 : v14 < 16
        · replace hT := hT.trans (if_pos h20)
          refine k_icmp_ge_f (pc := 27) (tgt := 53) E (by omega) (by omega) dX1_trySets_27 (by decide) h20 ?_
          refine k_aloadn (pc := 30) E 0 dX1_trySets_30 rfl rfl ?_
          refine k_iloadn (pc := 31) E 1 dX1_trySets_31 rfl rfl ?_
          refine k_iconst (pc := 32) E dX1_trySets_32 ?_
          refine k_iload (pc := 33) E 3 dX1_trySets_33 rfl ?_
          refine k_ishl (pc := 35) E dX1_trySets_35 ?_
          have hb21 := ishl_rg 1 v14
          have hb22 : 0 ≤ v14 ∧ v14 ≤ 15 → _ := fun q => ishl_1 q.1 q.2
          refine k_ior (pc := 36) E dX1_trySets_36 ?_
          have hb23 := ior_rg x0 (ishl 1 v14)
          refine k_iload (pc := 37) E 3 dX1_trySets_37 rfl ?_
          refine k_iconst (pc := 39) E dX1_trySets_39 ?_
          refine k_iadd (pc := 40) E dX1_trySets_40 ?_
          refine k_iloadn (pc := 41) E 2 dX1_trySets_41 rfl rfl ?_
          refine k_iconst (pc := 42) E dX1_trySets_42 ?_
          refine k_isub (pc := 43) E dX1_trySets_43 ?_
          refine k_mr (fun hm_s15 => ?_)
          refine k_callV (pc := 44) (np := 3) (As := [gI (ior x0 (ishl 1 v14)), gI (v14 + 1), gI (x2 - 1)]) (st := []) (q0 := 6) E (c_X1_trySets_0 l D a cI cJ cS cT s15 (ior x0 (ishl 1 v14)) (v14 + 1) (x2 - 1) (by omega) (by omega) (by omega) (CD_fr hpre0 (fun k hk => hf_s15 k (dj (by decide) k hk))) (BG_fr hpre1 (fun k hk => hf_s15 k (dj (by decide) k hk))) (LA_fr hpre2 (fun k hk => hf_s15 k (dj (by decide) k hk))) (MOx_fr hpre3 (fun k hk => hf_s15 k (dj (by decide) k hk))) hKF_s15 hKC_s15 hKT_s15 hKM_s15 (WY_fr hpre8 (fun k hk => hf_s15 k (dj (by decide) k hk))) hLEA_s15 (by first | assumption | omega) (by first | assumption | omega)) wm_619 wm_8 wm_616 wm_618 wp_21 (by decide +kernel) rfl rfl ⟨by decide, by decide⟩ rfl (Nat.le_of_ble_eq_true rfl) dX1_trySets_44 (fun r25 s26 hs26 hr24 => ?_)
          replace hT := gby hT hs26
          have hp27 := f_X1_trySets_0_p (ior x0 (ishl 1 v14)) (v14 + 1) (x2 - 1) s15 (by omega) (by omega) (by omega) hm_s15 (CD_fr hpre0 (fun k hk => hf_s15 k (dj (by decide) k hk))) (BG_fr hpre1 (fun k hk => hf_s15 k (dj (by decide) k hk))) (LA_fr hpre2 (fun k hk => hf_s15 k (dj (by decide) k hk))) (MOx_fr hpre3 (fun k hk => hf_s15 k (dj (by decide) k hk))) hKF_s15 hKC_s15 hKT_s15 hKM_s15 (WY_fr hpre8 (fun k hk => hf_s15 k (dj (by decide) k hk))) hLEA_s15 (by first | assumption | omega) (by first | assumption | omega) r25 s26 hs26
          obtain ⟨hfc_s26, hm_s26, hp28, hKM_s26, hLEA_s26, hKF_s26, hKC_s26, hKT_s26⟩ := hp27
          have hf_s26 : fr [32, 36, 37, 38, 39, 42, 68, 69, 70] s0 s26 := hf_s15.call (by decide) hfc_s26
          refine k_st (st' := []) rfl ?_
          refine k_iinc (pc := 47) (lv' := [(4, gI (v14 + 1)), (0, .ref (a 6)), (1, gI x0), (3, gI x2)]) E 3 dX1_trySets_47 rfl (by decide) rfl ?_
          refine k_goto (pc := 50) (tgt := 23) E dX1_trySets_50 (by decide) ?_
          refine k_lv (lv' := [(0, .ref (a 6)), (1, gI x0), (3, gI x2), (4, gI (v14 + 1))]) [1, 2, 3, 0] rfl ?_
          exact ih (v14 + 1) s26 ⟨(by omega), hf_s26, hKM_s26, hLEA_s26, hKF_s26, hKC_s26, hKT_s26, (by first | assumption | omega)⟩ (by omega) (fun w18 s19 hw hi => hk w18 s19 (hT.trans hw) hi)
        · replace hT := hT.trans (if_neg h20)
          refine k_icmp_ge_t (pc := 27) (tgt := 53) E (by omega) (by omega) dX1_trySets_27 (by decide) h20 ?_
          refine k_lv (lv' := []) [] rfl ?_
          exact hk v14 s15 hT ⟨(by omega), hf_s15, hKM_s15, hLEA_s15, hKF_s15, hKC_s15, hKT_s15, (by first | assumption | omega)⟩
    refine k_lv (lv' := [(0, .ref (a 6)), (1, gI x0), (3, gI x2), (4, gI x1)]) [1, 2, 4, 0] rfl ?_
    refine L16 17 x1 s0 ⟨(by omega), hf_s0, hKM_s0, hLEA_s0, hKF_s0, hKC_s0, hKT_s0, (by first | assumption | omega)⟩ (by omega) (fun v33 s34 hw hq => ?_)
    obtain ⟨hq35, hf_s34, hKM_s34, hLEA_s34, hKF_s34, hKC_s34, hKT_s34, hq36⟩ := hq
    replace hT := gl2y hT hw
    exact k_rho hT (k_vret (pc := 53) E dX1_trySets_53)
  · replace hT := hT.trans (if_neg h1)
    refine k_if_gt_f (pc := 1) (tgt := 20) E (by omega) dX1_trySets_1 (by decide) h1 ?_
    refine k_aloadn (pc := 4) E 0 dX1_trySets_4 rfl rfl ?_
    refine k_iloadn (pc := 5) E 1 dX1_trySets_5 rfl rfl ?_
    refine k_aloadn (pc := 6) E 0 dX1_trySets_6 rfl rfl ?_
    refine k_getf (pc := 7) (q0 := 6) (f := 0) (v := .ref (a 5)) E inX1 rfl rfl (by decide) wm_210 rfl rfl dX1_trySets_7 ?_
    refine k_iloadn (pc := 10) E 1 dX1_trySets_10 rfl rfl ?_
    refine k_mr (fun hm_s0 => ?_)
    refine k_callV (pc := 11) (np := 1) (As := [gI x0]) (st := [gI x0, .ref (a 6)]) (q0 := 5) E (c_X2_meanBy l D a cI cJ cS cT s0 x0 (by omega) hpre0 hpre1 hpre2 hpre3 hKF_s0 hKC_s0 hKT_s0 hKM_s0 hpre8) wm_574 wm_7 wm_620 wm_572 wm_573 (by decide +kernel) rfl rfl ⟨by decide, by decide⟩ rfl (Nat.le_of_ble_eq_true rfl) dX1_trySets_11 (fun r38 s39 hs39 hr37 => ?_)
    replace hT := gby hT hs39
    have hp40 := f_X2_meanBy_p x0 s0 (by omega) hm_s0 hpre0 hpre1 hpre2 hpre3 hKF_s0 hKC_s0 hKT_s0 hKM_s0 hpre8 r38 s39 hs39
    obtain ⟨hfc_s39, hm_s39, hp41, hKM_s39, hKF_s39, hKC_s39, hKT_s39, hp42⟩ := hp40
    have hf_s39 : fr [32, 36, 37, 38, 39, 42, 68, 69, 70] s0 s39 := hf_s0.call (by decide) hfc_s39
    have hLEA_s39 : LEA s39 := LEA_fr hLEA_s0 (fun k hk => hfc_s39 k (dj (by decide) k hk))
    refine k_st (st' := [gL r38, gI x0, .ref (a 6)]) rfl ?_
    refine k_mr (fun hm_s39 => ?_)
    refine k_callV (pc := 14) (np := 2) (As := [gI x0, gL r38]) (st := []) (q0 := 6) E (c_X1_consider l D a cI cJ cS cT s39 x0 r38 (by omega) (by omega) hLEA_s39 (by first | assumption | omega)) wm_624 wm_8 wm_621 wm_622 wm_623 (by decide +kernel) rfl rfl ⟨by decide, by decide⟩ rfl (Nat.le_of_ble_eq_true rfl) dX1_trySets_14 (fun r44 s45 hs45 hr43 => ?_)
    replace hT := gby hT hs45
    have hp46 := f_X1_consider_p x0 r38 s39 (by omega) (by omega) hm_s39 hLEA_s39 (by first | assumption | omega) r44 s45 hs45
    obtain ⟨hfc_s45, hm_s45, hp47, hLEA_s45⟩ := hp46
    have hf_s45 : fr [32, 36, 37, 38, 39, 42, 68, 69, 70] s0 s45 := hf_s39.call (by decide) hfc_s45
    have hKM_s45 : KM s45 := KM_fr hKM_s39 (fun k hk => hfc_s45 k (dj (by decide) k hk))
    have hKF_s45 : KF s45 := KF_fr hKF_s39 (fun k hk => hfc_s45 k (dj (by decide) k hk))
    have hKC_s45 : KC s45 := KC_fr hKC_s39 (fun k hk => hfc_s45 k (dj (by decide) k hk))
    have hKT_s45 : KT s45 := KT_fr hKT_s39 (fun k hk => hfc_s45 k (dj (by decide) k hk))
    refine k_st (st' := []) rfl ?_
    refine k_goto (pc := 17) (tgt := 53) E dX1_trySets_17 (by decide) ?_
    exact k_rho hT (k_vret (pc := 53) E dX1_trySets_53)

def w_X1_trySets_2_23 (c1 : Int) (c3 : Int) : Nat → Int → gMem → Int × gMem
  | 0, v2, s3 => (v2, s3)
  | n4 + 1, v2, s3 => (if v2 < 16 then gb (f_X1_trySets_1 (ior c1 (ishl 1 v2)) (v2 + 1) (c3 - 1) s3) (fun r10 s11 => (w_X1_trySets_2_23 c1 c3 n4 (v2 + 1) s11)) else (v2, s3))
theorem w_X1_trySets_2_23_s (c1 : Int) (c3 : Int) (n4 : Nat) (v2 : Int) (s3 : gMem) : w_X1_trySets_2_23 c1 c3 (n4 + 1) v2 s3 = (if v2 < 16 then gb (f_X1_trySets_1 (ior c1 (ishl 1 v2)) (v2 + 1) (c3 - 1) s3) (fun r10 s11 => (w_X1_trySets_2_23 c1 c3 n4 (v2 + 1) s11)) else (v2, s3)) := rfl
def f_X1_trySets_2 (x0 : Int) (x1 : Int) (x2 : Int) (s0 : gMem) : gRes := (if 0 < x2 then (gl2 (w_X1_trySets_2_23 x0 x2 17 x1 s0) (fun v33 s34 => (0, s34))) else gb (f_X2_meanBy x0 s0) (fun r38 s39 => gb (f_X1_consider x0 r38 s39) (fun r44 s45 => (0, s45))))
theorem f_X1_trySets_2_e (x0 : Int) (x1 : Int) (x2 : Int) (s0 : gMem) : f_X1_trySets_2 x0 x1 x2 s0 = (if 0 < x2 then (gl2 (w_X1_trySets_2_23 x0 x2 17 x1 s0) (fun v33 s34 => (0, s34))) else gb (f_X2_meanBy x0 s0) (fun r38 s39 => gb (f_X1_consider x0 r38 s39) (fun r44 s45 => (0, s45)))) := rfl
set_option maxRecDepth 100000 in
set_option maxHeartbeats 4000000 in
theorem f_X1_trySets_2_p (x0 : Int) (x1 : Int) (x2 : Int) (s0 : gMem) (hx0 : in32 x0) (hx1 : in32 x1) (hx2 : in32 x2) (hm_s0 : gMR lgX s0) (hpre0 : CD s0) (hpre1 : BG s0) (hpre2 : LA s0) (hpre3 : MOx s0) (hpre4 : KF s0) (hpre5 : KC s0) (hpre6 : KT s0) (hpre7 : KM s0) (hpre8 : WY s0) (hpre9 : LEA s0) (hpre10 : 0 ≤ x1 ∧ x1 ≤ 16) (hpre11 : 0 ≤ x2 ∧ x2 ≤ 2) (rZ : Int) (sZ : gMem) (hres : f_X1_trySets_2 x0 x1 x2 s0 = (rZ, sZ)) : (fr [32, 36, 37, 38, 39, 42, 68, 69, 70] s0 sZ) ∧ (gMR lgX sZ) ∧ (True) ∧ (KM sZ) ∧ (LEA sZ) ∧ (KF sZ) ∧ (KC sZ) ∧ (KT sZ) := by
  have hT := f_X1_trySets_2_e x0 x1 x2 s0
  have hf_s0 : fr [32, 36, 37, 38, 39, 42, 68, 69, 70] s0 s0 := fr.rf _ _
  have hKM_s0 := hpre7
  have hLEA_s0 := hpre9
  have hKF_s0 := hpre4
  have hKC_s0 := hpre5
  have hKT_s0 := hpre6
  by_cases h1 : 0 < x2
  · replace hT := hT.trans (if_pos h1)
    have L16 : ∀ (n17 : Nat) (v14 : Int) (s15 : gMem), ((in32 v14) ∧ (fr [32, 36, 37, 38, 39, 42, 68, 69, 70] s0 s15) ∧ (gMR lgX s15) ∧ (KM s15) ∧ (LEA s15) ∧ (KF s15) ∧ (KC s15) ∧ (KT s15) ∧ (0 ≤ v14 ∧ v14 ≤ 16)) → 16 - v14 < (n17 : Int) → (∀ (w18 : Int) (s19 : gMem), (w_X1_trySets_2_23 x0 x2 n17 v14 s15) = (w18, s19) → ((in32 w18) ∧ (fr [32, 36, 37, 38, 39, 42, 68, 69, 70] s0 s19) ∧ (gMR lgX s19) ∧ (KM s19) ∧ (LEA s19) ∧ (KF s19) ∧ (KC s19) ∧ (KT s19) ∧ (0 ≤ w18 ∧ w18 ≤ 16)) → (fr [32, 36, 37, 38, 39, 42, 68, 69, 70] s0 sZ) ∧ (gMR lgX sZ) ∧ (True) ∧ (KM sZ) ∧ (LEA sZ) ∧ (KF sZ) ∧ (KC sZ) ∧ (KT sZ)) → (fr [32, 36, 37, 38, 39, 42, 68, 69, 70] s0 sZ) ∧ (gMR lgX sZ) ∧ (True) ∧ (KM sZ) ∧ (LEA sZ) ∧ (KF sZ) ∧ (KC sZ) ∧ (KT sZ) := by
      intro n17; induction n17 with
      | zero =>
        intro v14 s15 hq hm hk
        exfalso
        obtain ⟨hq29, hf_s15, hm_s15, hKM_s15, hLEA_s15, hKF_s15, hKC_s15, hKT_s15, hq30⟩ := hq
        omega
      | succ n17 ih =>
        intro v14 s15 hq hm hk
        obtain ⟨hq31, hf_s15, hm_s15, hKM_s15, hLEA_s15, hKF_s15, hKC_s15, hKT_s15, hq32⟩ := hq
        have hT := w_X1_trySets_2_23_s x0 x2 n17 v14 s15
        by_cases h20 : v14 < 16
        · replace hT := hT.trans (if_pos h20)
          have hb21 := ishl_rg 1 v14
          have hb22 : 0 ≤ v14 ∧ v14 ≤ 15 → _ := fun q => ishl_1 q.1 q.2
          have hb23 := ior_rg x0 (ishl 1 v14)
          obtain ⟨r25, s26, hs26⟩ : ∃ rr ss, (f_X1_trySets_1 (ior x0 (ishl 1 v14)) (v14 + 1) (x2 - 1) s15) = (rr, ss) := ⟨_, _, rfl⟩
          replace hT := gby hT hs26
          have hp27 := f_X1_trySets_1_p (ior x0 (ishl 1 v14)) (v14 + 1) (x2 - 1) s15 (by omega) (by omega) (by omega) hm_s15 (CD_fr hpre0 (fun k hk => hf_s15 k (dj (by decide) k hk))) (BG_fr hpre1 (fun k hk => hf_s15 k (dj (by decide) k hk))) (LA_fr hpre2 (fun k hk => hf_s15 k (dj (by decide) k hk))) (MOx_fr hpre3 (fun k hk => hf_s15 k (dj (by decide) k hk))) hKF_s15 hKC_s15 hKT_s15 hKM_s15 (WY_fr hpre8 (fun k hk => hf_s15 k (dj (by decide) k hk))) hLEA_s15 (by first | assumption | omega) (by first | assumption | omega) r25 s26 hs26
          obtain ⟨hfc_s26, hm_s26, hp28, hKM_s26, hLEA_s26, hKF_s26, hKC_s26, hKT_s26⟩ := hp27
          have hf_s26 : fr [32, 36, 37, 38, 39, 42, 68, 69, 70] s0 s26 := hf_s15.call (by decide) hfc_s26
          exact ih (v14 + 1) s26 ⟨(by omega), hf_s26, hm_s26, hKM_s26, hLEA_s26, hKF_s26, hKC_s26, hKT_s26, (by first | assumption | omega)⟩ (by omega) (fun w18 s19 hw hi => hk w18 s19 (hT.trans hw) hi)
        · replace hT := hT.trans (if_neg h20)
          exact hk v14 s15 hT ⟨(by omega), hf_s15, hm_s15, hKM_s15, hLEA_s15, hKF_s15, hKC_s15, hKT_s15, (by first | assumption | omega)⟩
    refine L16 17 x1 s0 ⟨(by omega), hf_s0, hm_s0, hKM_s0, hLEA_s0, hKF_s0, hKC_s0, hKT_s0, (by first | assumption | omega)⟩ (by omega) (fun v33 s34 hw hq => ?_)
    obtain ⟨hq35, hf_s34, hm_s34, hKM_s34, hLEA_s34, hKF_s34, hKC_s34, hKT_s34, hq36⟩ := hq
    replace hT := gl2y hT hw
    obtain ⟨rfl, rfl⟩ := Prod.mk.inj (hT.symm.trans hres)
    exact ⟨hf_s34, hm_s34, trivial, hKM_s34, hLEA_s34, hKF_s34, hKC_s34, hKT_s34⟩
  · replace hT := hT.trans (if_neg h1)
    obtain ⟨r38, s39, hs39⟩ : ∃ rr ss, (f_X2_meanBy x0 s0) = (rr, ss) := ⟨_, _, rfl⟩
    replace hT := gby hT hs39
    have hp40 := f_X2_meanBy_p x0 s0 (by omega) hm_s0 hpre0 hpre1 hpre2 hpre3 hKF_s0 hKC_s0 hKT_s0 hKM_s0 hpre8 r38 s39 hs39
    obtain ⟨hfc_s39, hm_s39, hp41, hKM_s39, hKF_s39, hKC_s39, hKT_s39, hp42⟩ := hp40
    have hf_s39 : fr [32, 36, 37, 38, 39, 42, 68, 69, 70] s0 s39 := hf_s0.call (by decide) hfc_s39
    have hLEA_s39 : LEA s39 := LEA_fr hLEA_s0 (fun k hk => hfc_s39 k (dj (by decide) k hk))
    obtain ⟨r44, s45, hs45⟩ : ∃ rr ss, (f_X1_consider x0 r38 s39) = (rr, ss) := ⟨_, _, rfl⟩
    replace hT := gby hT hs45
    have hp46 := f_X1_consider_p x0 r38 s39 (by omega) (by omega) hm_s39 hLEA_s39 (by first | assumption | omega) r44 s45 hs45
    obtain ⟨hfc_s45, hm_s45, hp47, hLEA_s45⟩ := hp46
    have hf_s45 : fr [32, 36, 37, 38, 39, 42, 68, 69, 70] s0 s45 := hf_s39.call (by decide) hfc_s45
    have hKM_s45 : KM s45 := KM_fr hKM_s39 (fun k hk => hfc_s45 k (dj (by decide) k hk))
    have hKF_s45 : KF s45 := KF_fr hKF_s39 (fun k hk => hfc_s45 k (dj (by decide) k hk))
    have hKC_s45 : KC s45 := KC_fr hKC_s39 (fun k hk => hfc_s45 k (dj (by decide) k hk))
    have hKT_s45 : KT s45 := KT_fr hKT_s39 (fun k hk => hfc_s45 k (dj (by decide) k hk))
    obtain ⟨rfl, rfl⟩ := Prod.mk.inj (hT.symm.trans hres)
    exact ⟨hf_s45, hm_s45, trivial, hKM_s45, hLEA_s45, hKF_s45, hKC_s45, hKT_s45⟩
set_option maxRecDepth 100000 in
set_option maxHeartbeats 4000000 in
theorem c_X1_trySets_2 (l : Launch) (D : va_G) (a : Nat → Nat) (cI cJ cS cT : ClassId) (s0 : gMem) (x0 : Int) (x1 : Int) (x2 : Int) (hx0 : in32 x0) (hx1 : in32 x1) (hx2 : in32 x2) (hpre0 : CD s0) (hpre1 : BG s0) (hpre2 : LA s0) (hpre3 : MOx s0) (hpre4 : KF s0) (hpre5 : KC s0) (hpre6 : KT s0) (hpre7 : KM s0) (hpre8 : WY s0) (hpre9 : LEA s0) (hpre10 : 0 ≤ x1 ∧ x1 ≤ 16) (hpre11 : 0 ≤ x2 ∧ x2 ≤ 2) : gC l yX1_trySets cX1_trySets 5 none 8 512 D vwCl (gT cI cJ cS cT) (wdX a cI cJ cS cT) lgX kV rgV [.ref (a 6), gI x0, gI x1, gI x2] s0 (f_X1_trySets_2 x0 x1 x2 s0) := by
  refine gC_of (by decide +kernel) (hwdX a cI cJ cS cT) (Nat.le_of_ble_eq_true rfl) ?_
  intro A p e R s m args below meth c hR E
  subst hR
  have hT := f_X1_trySets_2_e x0 x1 x2 s0
  have hf_s0 : fr [32, 36, 37, 38, 39, 42, 68, 69, 70] s0 s0 := fr.rf _ _
  refine k_lv0 (lv' := [(0, .ref (a 6)), (1, gI x0), (2, gI x1), (3, gI x2)]) rfl ?_
  refine k_mr (fun hm_s0 => ?_)
  have hKM_s0 := hpre7
  have hLEA_s0 := hpre9
  have hKF_s0 := hpre4
  have hKC_s0 := hpre5
  have hKT_s0 := hpre6
  refine k_iloadn (pc := 0) E 3 dX1_trySets_0 rfl rfl ?_
  by_cases h1 : 0 < x2
  · replace hT := hT.trans (if_pos h1)
    refine k_if_gt_t (pc := 1) (tgt := 20) E (by omega) dX1_trySets_1 (by decide) h1 ?_
    refine k_iloadn (pc := 20) E 2 dX1_trySets_20 rfl rfl ?_
    refine k_istore (pc := 21) (lv' := [(4, gI x1), (0, .ref (a 6)), (1, gI x0), (2, gI x1), (3, gI x2)]) E dX1_trySets_21 (by decide) rfl ?_
    have L16 : ∀ (n17 : Nat) (v14 : Int) (s15 : gMem), ((in32 v14) ∧ (fr [32, 36, 37, 38, 39, 42, 68, 69, 70] s0 s15) ∧ (KM s15) ∧ (LEA s15) ∧ (KF s15) ∧ (KC s15) ∧ (KT s15) ∧ (0 ≤ v14 ∧ v14 ≤ 16)) → 16 - v14 < (n17 : Int) → (∀ (w18 : Int) (s19 : gMem), (w_X1_trySets_2_23 x0 x2 n17 v14 s15) = (w18, s19) → ((in32 w18) ∧ (fr [32, 36, 37, 38, 39, 42, 68, 69, 70] s0 s19) ∧ (KM s19) ∧ (LEA s19) ∧ (KF s19) ∧ (KC s19) ∧ (KT s19) ∧ (0 ≤ w18 ∧ w18 ≤ 16)) → gK D vwCl (wdX a cI cJ cS cT) lgX A p l e { frames := 8, cells := 0, slots := 0, locals := 512 } s m args below meth c 5 (gQQ D vwCl (wdX a cI cJ cS cT) lgX A kV rgV below args s) (f_X1_trySets_2 x0 x1 x2 s0) s19 53 [] []) → gK D vwCl (wdX a cI cJ cS cT) lgX A p l e { frames := 8, cells := 0, slots := 0, locals := 512 } s m args below meth c 5 (gQQ D vwCl (wdX a cI cJ cS cT) lgX A kV rgV below args s) (f_X1_trySets_2 x0 x1 x2 s0) s15 23 [(0, .ref (a 6)), (1, gI x0), (3, gI x2), (4, gI v14)] [] := by
      intro n17; induction n17 with
      | zero =>
        intro v14 s15 hq hm hk
        exfalso
        obtain ⟨hq29, hf_s15, hKM_s15, hLEA_s15, hKF_s15, hKC_s15, hKT_s15, hq30⟩ := hq
        omega
      | succ n17 ih =>
        intro v14 s15 hq hm hk
        obtain ⟨hq31, hf_s15, hKM_s15, hLEA_s15, hKF_s15, hKC_s15, hKT_s15, hq32⟩ := hq
        have hT := w_X1_trySets_2_23_s x0 x2 n17 v14 s15
        refine k_iload (pc := 23) E 3 dX1_trySets_23 rfl ?_
        refine k_bipush (pc := 25) E dX1_trySets_25 (by decide) ?_
        by_cases h20 : v14 < 16
        · replace hT := hT.trans (if_pos h20)
          refine k_icmp_ge_f (pc := 27) (tgt := 53) E (by omega) (by omega) dX1_trySets_27 (by decide) h20 ?_
          refine k_aloadn (pc := 30) E 0 dX1_trySets_30 rfl rfl ?_
          refine k_iloadn (pc := 31) E 1 dX1_trySets_31 rfl rfl ?_
          refine k_iconst (pc := 32) E dX1_trySets_32 ?_
          refine k_iload (pc := 33) E 3 dX1_trySets_33 rfl ?_
          refine k_ishl (pc := 35) E dX1_trySets_35 ?_
          have hb21 := ishl_rg 1 v14
          have hb22 : 0 ≤ v14 ∧ v14 ≤ 15 → _ := fun q => ishl_1 q.1 q.2
          refine k_ior (pc := 36) E dX1_trySets_36 ?_
          have hb23 := ior_rg x0 (ishl 1 v14)
          refine k_iload (pc := 37) E 3 dX1_trySets_37 rfl ?_
          refine k_iconst (pc := 39) E dX1_trySets_39 ?_
          refine k_iadd (pc := 40) E dX1_trySets_40 ?_
          refine k_iloadn (pc := 41) E 2 dX1_trySets_41 rfl rfl ?_
          refine k_iconst (pc := 42) E dX1_trySets_42 ?_
          refine k_isub (pc := 43) E dX1_trySets_43 ?_
          refine k_mr (fun hm_s15 => ?_)
          refine k_callV (pc := 44) (np := 3) (As := [gI (ior x0 (ishl 1 v14)), gI (v14 + 1), gI (x2 - 1)]) (st := []) (q0 := 6) E (c_X1_trySets_1 l D a cI cJ cS cT s15 (ior x0 (ishl 1 v14)) (v14 + 1) (x2 - 1) (by omega) (by omega) (by omega) (CD_fr hpre0 (fun k hk => hf_s15 k (dj (by decide) k hk))) (BG_fr hpre1 (fun k hk => hf_s15 k (dj (by decide) k hk))) (LA_fr hpre2 (fun k hk => hf_s15 k (dj (by decide) k hk))) (MOx_fr hpre3 (fun k hk => hf_s15 k (dj (by decide) k hk))) hKF_s15 hKC_s15 hKT_s15 hKM_s15 (WY_fr hpre8 (fun k hk => hf_s15 k (dj (by decide) k hk))) hLEA_s15 (by first | assumption | omega) (by first | assumption | omega)) wm_619 wm_8 wm_616 wm_618 wp_21 (by decide +kernel) rfl rfl ⟨by decide, by decide⟩ rfl (Nat.le_of_ble_eq_true rfl) dX1_trySets_44 (fun r25 s26 hs26 hr24 => ?_)
          replace hT := gby hT hs26
          have hp27 := f_X1_trySets_1_p (ior x0 (ishl 1 v14)) (v14 + 1) (x2 - 1) s15 (by omega) (by omega) (by omega) hm_s15 (CD_fr hpre0 (fun k hk => hf_s15 k (dj (by decide) k hk))) (BG_fr hpre1 (fun k hk => hf_s15 k (dj (by decide) k hk))) (LA_fr hpre2 (fun k hk => hf_s15 k (dj (by decide) k hk))) (MOx_fr hpre3 (fun k hk => hf_s15 k (dj (by decide) k hk))) hKF_s15 hKC_s15 hKT_s15 hKM_s15 (WY_fr hpre8 (fun k hk => hf_s15 k (dj (by decide) k hk))) hLEA_s15 (by first | assumption | omega) (by first | assumption | omega) r25 s26 hs26
          obtain ⟨hfc_s26, hm_s26, hp28, hKM_s26, hLEA_s26, hKF_s26, hKC_s26, hKT_s26⟩ := hp27
          have hf_s26 : fr [32, 36, 37, 38, 39, 42, 68, 69, 70] s0 s26 := hf_s15.call (by decide) hfc_s26
          refine k_st (st' := []) rfl ?_
          refine k_iinc (pc := 47) (lv' := [(4, gI (v14 + 1)), (0, .ref (a 6)), (1, gI x0), (3, gI x2)]) E 3 dX1_trySets_47 rfl (by decide) rfl ?_
          refine k_goto (pc := 50) (tgt := 23) E dX1_trySets_50 (by decide) ?_
          refine k_lv (lv' := [(0, .ref (a 6)), (1, gI x0), (3, gI x2), (4, gI (v14 + 1))]) [1, 2, 3, 0] rfl ?_
          exact ih (v14 + 1) s26 ⟨(by omega), hf_s26, hKM_s26, hLEA_s26, hKF_s26, hKC_s26, hKT_s26, (by first | assumption | omega)⟩ (by omega) (fun w18 s19 hw hi => hk w18 s19 (hT.trans hw) hi)
        · replace hT := hT.trans (if_neg h20)
          refine k_icmp_ge_t (pc := 27) (tgt := 53) E (by omega) (by omega) dX1_trySets_27 (by decide) h20 ?_
          refine k_lv (lv' := []) [] rfl ?_
          exact hk v14 s15 hT ⟨(by omega), hf_s15, hKM_s15, hLEA_s15, hKF_s15, hKC_s15, hKT_s15, (by first | assumption | omega)⟩
    refine k_lv (lv' := [(0, .ref (a 6)), (1, gI x0), (3, gI x2), (4, gI x1)]) [1, 2, 4, 0] rfl ?_
    refine L16 17 x1 s0 ⟨(by omega), hf_s0, hKM_s0, hLEA_s0, hKF_s0, hKC_s0, hKT_s0, (by first | assumption | omega)⟩ (by omega) (fun v33 s34 hw hq => ?_)
    obtain ⟨hq35, hf_s34, hKM_s34, hLEA_s34, hKF_s34, hKC_s34, hKT_s34, hq36⟩ := hq
    replace hT := gl2y hT hw
    exact k_rho hT (k_vret (pc := 53) E dX1_trySets_53)
  · replace hT := hT.trans (if_neg h1)
    refine k_if_gt_f (pc := 1) (tgt := 20) E (by omega) dX1_trySets_1 (by decide) h1 ?_
    refine k_aloadn (pc := 4) E 0 dX1_trySets_4 rfl rfl ?_
    refine k_iloadn (pc := 5) E 1 dX1_trySets_5 rfl rfl ?_
    refine k_aloadn (pc := 6) E 0 dX1_trySets_6 rfl rfl ?_
    refine k_getf (pc := 7) (q0 := 6) (f := 0) (v := .ref (a 5)) E inX1 rfl rfl (by decide) wm_210 rfl rfl dX1_trySets_7 ?_
    refine k_iloadn (pc := 10) E 1 dX1_trySets_10 rfl rfl ?_
    refine k_mr (fun hm_s0 => ?_)
    refine k_callV (pc := 11) (np := 1) (As := [gI x0]) (st := [gI x0, .ref (a 6)]) (q0 := 5) E (c_X2_meanBy l D a cI cJ cS cT s0 x0 (by omega) hpre0 hpre1 hpre2 hpre3 hKF_s0 hKC_s0 hKT_s0 hKM_s0 hpre8) wm_574 wm_7 wm_620 wm_572 wm_573 (by decide +kernel) rfl rfl ⟨by decide, by decide⟩ rfl (Nat.le_of_ble_eq_true rfl) dX1_trySets_11 (fun r38 s39 hs39 hr37 => ?_)
    replace hT := gby hT hs39
    have hp40 := f_X2_meanBy_p x0 s0 (by omega) hm_s0 hpre0 hpre1 hpre2 hpre3 hKF_s0 hKC_s0 hKT_s0 hKM_s0 hpre8 r38 s39 hs39
    obtain ⟨hfc_s39, hm_s39, hp41, hKM_s39, hKF_s39, hKC_s39, hKT_s39, hp42⟩ := hp40
    have hf_s39 : fr [32, 36, 37, 38, 39, 42, 68, 69, 70] s0 s39 := hf_s0.call (by decide) hfc_s39
    have hLEA_s39 : LEA s39 := LEA_fr hLEA_s0 (fun k hk => hfc_s39 k (dj (by decide) k hk))
    refine k_st (st' := [gL r38, gI x0, .ref (a 6)]) rfl ?_
    refine k_mr (fun hm_s39 => ?_)
    refine k_callV (pc := 14) (np := 2) (As := [gI x0, gL r38]) (st := []) (q0 := 6) E (c_X1_consider l D a cI cJ cS cT s39 x0 r38 (by omega) (by omega) hLEA_s39 (by first | assumption | omega)) wm_624 wm_8 wm_621 wm_622 wm_623 (by decide +kernel) rfl rfl ⟨by decide, by decide⟩ rfl (Nat.le_of_ble_eq_true rfl) dX1_trySets_14 (fun r44 s45 hs45 hr43 => ?_)
    replace hT := gby hT hs45
    have hp46 := f_X1_consider_p x0 r38 s39 (by omega) (by omega) hm_s39 hLEA_s39 (by first | assumption | omega) r44 s45 hs45
    obtain ⟨hfc_s45, hm_s45, hp47, hLEA_s45⟩ := hp46
    have hf_s45 : fr [32, 36, 37, 38, 39, 42, 68, 69, 70] s0 s45 := hf_s39.call (by decide) hfc_s45
    have hKM_s45 : KM s45 := KM_fr hKM_s39 (fun k hk => hfc_s45 k (dj (by decide) k hk))
    have hKF_s45 : KF s45 := KF_fr hKF_s39 (fun k hk => hfc_s45 k (dj (by decide) k hk))
    have hKC_s45 : KC s45 := KC_fr hKC_s39 (fun k hk => hfc_s45 k (dj (by decide) k hk))
    have hKT_s45 : KT s45 := KT_fr hKT_s39 (fun k hk => hfc_s45 k (dj (by decide) k hk))
    refine k_st (st' := []) rfl ?_
    refine k_goto (pc := 17) (tgt := 53) E dX1_trySets_17 (by decide) ?_
    exact k_rho hT (k_vret (pc := 53) E dX1_trySets_53)

def w_X1_trySets_3_23 (c1 : Int) (c3 : Int) : Nat → Int → gMem → Int × gMem
  | 0, v2, s3 => (v2, s3)
  | n4 + 1, v2, s3 => (if v2 < 16 then gb (f_X1_trySets_2 (ior c1 (ishl 1 v2)) (v2 + 1) (c3 - 1) s3) (fun r10 s11 => (w_X1_trySets_3_23 c1 c3 n4 (v2 + 1) s11)) else (v2, s3))
theorem w_X1_trySets_3_23_s (c1 : Int) (c3 : Int) (n4 : Nat) (v2 : Int) (s3 : gMem) : w_X1_trySets_3_23 c1 c3 (n4 + 1) v2 s3 = (if v2 < 16 then gb (f_X1_trySets_2 (ior c1 (ishl 1 v2)) (v2 + 1) (c3 - 1) s3) (fun r10 s11 => (w_X1_trySets_3_23 c1 c3 n4 (v2 + 1) s11)) else (v2, s3)) := rfl
def f_X1_trySets_3 (x0 : Int) (x1 : Int) (x2 : Int) (s0 : gMem) : gRes := (if 0 < x2 then (gl2 (w_X1_trySets_3_23 x0 x2 17 x1 s0) (fun v33 s34 => (0, s34))) else gb (f_X2_meanBy x0 s0) (fun r38 s39 => gb (f_X1_consider x0 r38 s39) (fun r44 s45 => (0, s45))))
theorem f_X1_trySets_3_e (x0 : Int) (x1 : Int) (x2 : Int) (s0 : gMem) : f_X1_trySets_3 x0 x1 x2 s0 = (if 0 < x2 then (gl2 (w_X1_trySets_3_23 x0 x2 17 x1 s0) (fun v33 s34 => (0, s34))) else gb (f_X2_meanBy x0 s0) (fun r38 s39 => gb (f_X1_consider x0 r38 s39) (fun r44 s45 => (0, s45)))) := rfl
set_option maxRecDepth 100000 in
set_option maxHeartbeats 4000000 in
theorem f_X1_trySets_3_p (x0 : Int) (x1 : Int) (x2 : Int) (s0 : gMem) (hx0 : in32 x0) (hx1 : in32 x1) (hx2 : in32 x2) (hm_s0 : gMR lgX s0) (hpre0 : CD s0) (hpre1 : BG s0) (hpre2 : LA s0) (hpre3 : MOx s0) (hpre4 : KF s0) (hpre5 : KC s0) (hpre6 : KT s0) (hpre7 : KM s0) (hpre8 : WY s0) (hpre9 : LEA s0) (hpre10 : 0 ≤ x1 ∧ x1 ≤ 16) (hpre11 : 0 ≤ x2 ∧ x2 ≤ 3) (rZ : Int) (sZ : gMem) (hres : f_X1_trySets_3 x0 x1 x2 s0 = (rZ, sZ)) : (fr [32, 36, 37, 38, 39, 42, 68, 69, 70] s0 sZ) ∧ (gMR lgX sZ) ∧ (True) ∧ (KM sZ) ∧ (LEA sZ) ∧ (KF sZ) ∧ (KC sZ) ∧ (KT sZ) := by
  have hT := f_X1_trySets_3_e x0 x1 x2 s0
  have hf_s0 : fr [32, 36, 37, 38, 39, 42, 68, 69, 70] s0 s0 := fr.rf _ _
  have hKM_s0 := hpre7
  have hLEA_s0 := hpre9
  have hKF_s0 := hpre4
  have hKC_s0 := hpre5
  have hKT_s0 := hpre6
  by_cases h1 : 0 < x2
  · replace hT := hT.trans (if_pos h1)
    have L16 : ∀ (n17 : Nat) (v14 : Int) (s15 : gMem), ((in32 v14) ∧ (fr [32, 36, 37, 38, 39, 42, 68, 69, 70] s0 s15) ∧ (gMR lgX s15) ∧ (KM s15) ∧ (LEA s15) ∧ (KF s15) ∧ (KC s15) ∧ (KT s15) ∧ (0 ≤ v14 ∧ v14 ≤ 16)) → 16 - v14 < (n17 : Int) → (∀ (w18 : Int) (s19 : gMem), (w_X1_trySets_3_23 x0 x2 n17 v14 s15) = (w18, s19) → ((in32 w18) ∧ (fr [32, 36, 37, 38, 39, 42, 68, 69, 70] s0 s19) ∧ (gMR lgX s19) ∧ (KM s19) ∧ (LEA s19) ∧ (KF s19) ∧ (KC s19) ∧ (KT s19) ∧ (0 ≤ w18 ∧ w18 ≤ 16)) → (fr [32, 36, 37, 38, 39, 42, 68, 69, 70] s0 sZ) ∧ (gMR lgX sZ) ∧ (True) ∧ (KM sZ) ∧ (LEA sZ) ∧ (KF sZ) ∧ (KC sZ) ∧ (KT sZ)) → (fr [32, 36, 37, 38, 39, 42, 68, 69, 70] s0 sZ) ∧ (gMR lgX sZ) ∧ (True) ∧ (KM sZ) ∧ (LEA sZ) ∧ (KF sZ) ∧ (KC sZ) ∧ (KT sZ) := by
      intro n17; induction n17 with
      | zero =>
        intro v14 s15 hq hm hk
        exfalso
        obtain ⟨hq29, hf_s15, hm_s15, hKM_s15, hLEA_s15, hKF_s15, hKC_s15, hKT_s15, hq30⟩ := hq
        omega
      | succ n17 ih =>
        intro v14 s15 hq hm hk
        obtain ⟨hq31, hf_s15, hm_s15, hKM_s15, hLEA_s15, hKF_s15, hKC_s15, hKT_s15, hq32⟩ := hq
        have hT := w_X1_trySets_3_23_s x0 x2 n17 v14 s15
        by_cases h20 : v14 < 16
        · replace hT := hT.trans (if_pos h20)
          have hb21 := ishl_rg 1 v14
          have hb22 : 0 ≤ v14 ∧ v14 ≤ 15 → _ := fun q => ishl_1 q.1 q.2
          have hb23 := ior_rg x0 (ishl 1 v14)
          obtain ⟨r25, s26, hs26⟩ : ∃ rr ss, (f_X1_trySets_2 (ior x0 (ishl 1 v14)) (v14 + 1) (x2 - 1) s15) = (rr, ss) := ⟨_, _, rfl⟩
          replace hT := gby hT hs26
          have hp27 := f_X1_trySets_2_p (ior x0 (ishl 1 v14)) (v14 + 1) (x2 - 1) s15 (by omega) (by omega) (by omega) hm_s15 (CD_fr hpre0 (fun k hk => hf_s15 k (dj (by decide) k hk))) (BG_fr hpre1 (fun k hk => hf_s15 k (dj (by decide) k hk))) (LA_fr hpre2 (fun k hk => hf_s15 k (dj (by decide) k hk))) (MOx_fr hpre3 (fun k hk => hf_s15 k (dj (by decide) k hk))) hKF_s15 hKC_s15 hKT_s15 hKM_s15 (WY_fr hpre8 (fun k hk => hf_s15 k (dj (by decide) k hk))) hLEA_s15 (by first | assumption | omega) (by first | assumption | omega) r25 s26 hs26
          obtain ⟨hfc_s26, hm_s26, hp28, hKM_s26, hLEA_s26, hKF_s26, hKC_s26, hKT_s26⟩ := hp27
          have hf_s26 : fr [32, 36, 37, 38, 39, 42, 68, 69, 70] s0 s26 := hf_s15.call (by decide) hfc_s26
          exact ih (v14 + 1) s26 ⟨(by omega), hf_s26, hm_s26, hKM_s26, hLEA_s26, hKF_s26, hKC_s26, hKT_s26, (by first | assumption | omega)⟩ (by omega) (fun w18 s19 hw hi => hk w18 s19 (hT.trans hw) hi)
        · replace hT := hT.trans (if_neg h20)
          exact hk v14 s15 hT ⟨(by omega), hf_s15, hm_s15, hKM_s15, hLEA_s15, hKF_s15, hKC_s15, hKT_s15, (by first | assumption | omega)⟩
    refine L16 17 x1 s0 ⟨(by omega), hf_s0, hm_s0, hKM_s0, hLEA_s0, hKF_s0, hKC_s0, hKT_s0, (by first | assumption | omega)⟩ (by omega) (fun v33 s34 hw hq => ?_)
    obtain ⟨hq35, hf_s34, hm_s34, hKM_s34, hLEA_s34, hKF_s34, hKC_s34, hKT_s34, hq36⟩ := hq
    replace hT := gl2y hT hw
    obtain ⟨rfl, rfl⟩ := Prod.mk.inj (hT.symm.trans hres)
    exact ⟨hf_s34, hm_s34, trivial, hKM_s34, hLEA_s34, hKF_s34, hKC_s34, hKT_s34⟩
  · replace hT := hT.trans (if_neg h1)
    obtain ⟨r38, s39, hs39⟩ : ∃ rr ss, (f_X2_meanBy x0 s0) = (rr, ss) := ⟨_, _, rfl⟩
    replace hT := gby hT hs39
    have hp40 := f_X2_meanBy_p x0 s0 (by omega) hm_s0 hpre0 hpre1 hpre2 hpre3 hKF_s0 hKC_s0 hKT_s0 hKM_s0 hpre8 r38 s39 hs39
    obtain ⟨hfc_s39, hm_s39, hp41, hKM_s39, hKF_s39, hKC_s39, hKT_s39, hp42⟩ := hp40
    have hf_s39 : fr [32, 36, 37, 38, 39, 42, 68, 69, 70] s0 s39 := hf_s0.call (by decide) hfc_s39
    have hLEA_s39 : LEA s39 := LEA_fr hLEA_s0 (fun k hk => hfc_s39 k (dj (by decide) k hk))
    obtain ⟨r44, s45, hs45⟩ : ∃ rr ss, (f_X1_consider x0 r38 s39) = (rr, ss) := ⟨_, _, rfl⟩
    replace hT := gby hT hs45
    have hp46 := f_X1_consider_p x0 r38 s39 (by omega) (by omega) hm_s39 hLEA_s39 (by first | assumption | omega) r44 s45 hs45
    obtain ⟨hfc_s45, hm_s45, hp47, hLEA_s45⟩ := hp46
    have hf_s45 : fr [32, 36, 37, 38, 39, 42, 68, 69, 70] s0 s45 := hf_s39.call (by decide) hfc_s45
    have hKM_s45 : KM s45 := KM_fr hKM_s39 (fun k hk => hfc_s45 k (dj (by decide) k hk))
    have hKF_s45 : KF s45 := KF_fr hKF_s39 (fun k hk => hfc_s45 k (dj (by decide) k hk))
    have hKC_s45 : KC s45 := KC_fr hKC_s39 (fun k hk => hfc_s45 k (dj (by decide) k hk))
    have hKT_s45 : KT s45 := KT_fr hKT_s39 (fun k hk => hfc_s45 k (dj (by decide) k hk))
    obtain ⟨rfl, rfl⟩ := Prod.mk.inj (hT.symm.trans hres)
    exact ⟨hf_s45, hm_s45, trivial, hKM_s45, hLEA_s45, hKF_s45, hKC_s45, hKT_s45⟩
set_option maxRecDepth 100000 in
set_option maxHeartbeats 4000000 in
theorem c_X1_trySets_3 (l : Launch) (D : va_G) (a : Nat → Nat) (cI cJ cS cT : ClassId) (s0 : gMem) (x0 : Int) (x1 : Int) (x2 : Int) (hx0 : in32 x0) (hx1 : in32 x1) (hx2 : in32 x2) (hpre0 : CD s0) (hpre1 : BG s0) (hpre2 : LA s0) (hpre3 : MOx s0) (hpre4 : KF s0) (hpre5 : KC s0) (hpre6 : KT s0) (hpre7 : KM s0) (hpre8 : WY s0) (hpre9 : LEA s0) (hpre10 : 0 ≤ x1 ∧ x1 ≤ 16) (hpre11 : 0 ≤ x2 ∧ x2 ≤ 3) : gC l yX1_trySets cX1_trySets 5 none 9 576 D vwCl (gT cI cJ cS cT) (wdX a cI cJ cS cT) lgX kV rgV [.ref (a 6), gI x0, gI x1, gI x2] s0 (f_X1_trySets_3 x0 x1 x2 s0) := by
  refine gC_of (by decide +kernel) (hwdX a cI cJ cS cT) (Nat.le_of_ble_eq_true rfl) ?_
  intro A p e R s m args below meth c hR E
  subst hR
  have hT := f_X1_trySets_3_e x0 x1 x2 s0
  have hf_s0 : fr [32, 36, 37, 38, 39, 42, 68, 69, 70] s0 s0 := fr.rf _ _
  refine k_lv0 (lv' := [(0, .ref (a 6)), (1, gI x0), (2, gI x1), (3, gI x2)]) rfl ?_
  refine k_mr (fun hm_s0 => ?_)
  have hKM_s0 := hpre7
  have hLEA_s0 := hpre9
  have hKF_s0 := hpre4
  have hKC_s0 := hpre5
  have hKT_s0 := hpre6
  refine k_iloadn (pc := 0) E 3 dX1_trySets_0 rfl rfl ?_
  by_cases h1 : 0 < x2
  · replace hT := hT.trans (if_pos h1)
    refine k_if_gt_t (pc := 1) (tgt := 20) E (by omega) dX1_trySets_1 (by decide) h1 ?_
    refine k_iloadn (pc := 20) E 2 dX1_trySets_20 rfl rfl ?_
    refine k_istore (pc := 21) (lv' := [(4, gI x1), (0, .ref (a 6)), (1, gI x0), (2, gI x1), (3, gI x2)]) E dX1_trySets_21 (by decide) rfl ?_
    have L16 : ∀ (n17 : Nat) (v14 : Int) (s15 : gMem), ((in32 v14) ∧ (fr [32, 36, 37, 38, 39, 42, 68, 69, 70] s0 s15) ∧ (KM s15) ∧ (LEA s15) ∧ (KF s15) ∧ (KC s15) ∧ (KT s15) ∧ (0 ≤ v14 ∧ v14 ≤ 16)) → 16 - v14 < (n17 : Int) → (∀ (w18 : Int) (s19 : gMem), (w_X1_trySets_3_23 x0 x2 n17 v14 s15) = (w18, s19) → ((in32 w18) ∧ (fr [32, 36, 37, 38, 39, 42, 68, 69, 70] s0 s19) ∧ (KM s19) ∧ (LEA s19) ∧ (KF s19) ∧ (KC s19) ∧ (KT s19) ∧ (0 ≤ w18 ∧ w18 ≤ 16)) → gK D vwCl (wdX a cI cJ cS cT) lgX A p l e { frames := 9, cells := 0, slots := 0, locals := 576 } s m args below meth c 5 (gQQ D vwCl (wdX a cI cJ cS cT) lgX A kV rgV below args s) (f_X1_trySets_3 x0 x1 x2 s0) s19 53 [] []) → gK D vwCl (wdX a cI cJ cS cT) lgX A p l e { frames := 9, cells := 0, slots := 0, locals := 576 } s m args below meth c 5 (gQQ D vwCl (wdX a cI cJ cS cT) lgX A kV rgV below args s) (f_X1_trySets_3 x0 x1 x2 s0) s15 23 [(0, .ref (a 6)), (1, gI x0), (3, gI x2), (4, gI v14)] [] := by
      intro n17; induction n17 with
      | zero =>
        intro v14 s15 hq hm hk
        exfalso
        obtain ⟨hq29, hf_s15, hKM_s15, hLEA_s15, hKF_s15, hKC_s15, hKT_s15, hq30⟩ := hq
        omega
      | succ n17 ih =>
        intro v14 s15 hq hm hk
        obtain ⟨hq31, hf_s15, hKM_s15, hLEA_s15, hKF_s15, hKC_s15, hKT_s15, hq32⟩ := hq
        have hT := w_X1_trySets_3_23_s x0 x2 n17 v14 s15
        refine k_iload (pc := 23) E 3 dX1_trySets_23 rfl ?_
        refine k_bipush (pc := 25) E dX1_trySets_25 (by decide) ?_
        by_cases h20 : v14 < 16
        · replace hT := hT.trans (if_pos h20)
          refine k_icmp_ge_f (pc := 27) (tgt := 53) E (by omega) (by omega) dX1_trySets_27 (by decide) h20 ?_
          refine k_aloadn (pc := 30) E 0 dX1_trySets_30 rfl rfl ?_
          refine k_iloadn (pc := 31) E 1 dX1_trySets_31 rfl rfl ?_
          refine k_iconst (pc := 32) E dX1_trySets_32 ?_
          refine k_iload (pc := 33) E 3 dX1_trySets_33 rfl ?_
          refine k_ishl (pc := 35) E dX1_trySets_35 ?_
          have hb21 := ishl_rg 1 v14
          have hb22 : 0 ≤ v14 ∧ v14 ≤ 15 → _ := fun q => ishl_1 q.1 q.2
          refine k_ior (pc := 36) E dX1_trySets_36 ?_
          have hb23 := ior_rg x0 (ishl 1 v14)
          refine k_iload (pc := 37) E 3 dX1_trySets_37 rfl ?_
          refine k_iconst (pc := 39) E dX1_trySets_39 ?_
          refine k_iadd (pc := 40) E dX1_trySets_40 ?_
          refine k_iloadn (pc := 41) E 2 dX1_trySets_41 rfl rfl ?_
          refine k_iconst (pc := 42) E dX1_trySets_42 ?_
          refine k_isub (pc := 43) E dX1_trySets_43 ?_
          refine k_mr (fun hm_s15 => ?_)
          refine k_callV (pc := 44) (np := 3) (As := [gI (ior x0 (ishl 1 v14)), gI (v14 + 1), gI (x2 - 1)]) (st := []) (q0 := 6) E (c_X1_trySets_2 l D a cI cJ cS cT s15 (ior x0 (ishl 1 v14)) (v14 + 1) (x2 - 1) (by omega) (by omega) (by omega) (CD_fr hpre0 (fun k hk => hf_s15 k (dj (by decide) k hk))) (BG_fr hpre1 (fun k hk => hf_s15 k (dj (by decide) k hk))) (LA_fr hpre2 (fun k hk => hf_s15 k (dj (by decide) k hk))) (MOx_fr hpre3 (fun k hk => hf_s15 k (dj (by decide) k hk))) hKF_s15 hKC_s15 hKT_s15 hKM_s15 (WY_fr hpre8 (fun k hk => hf_s15 k (dj (by decide) k hk))) hLEA_s15 (by first | assumption | omega) (by first | assumption | omega)) wm_619 wm_8 wm_616 wm_618 wp_21 (by decide +kernel) rfl rfl ⟨by decide, by decide⟩ rfl (Nat.le_of_ble_eq_true rfl) dX1_trySets_44 (fun r25 s26 hs26 hr24 => ?_)
          replace hT := gby hT hs26
          have hp27 := f_X1_trySets_2_p (ior x0 (ishl 1 v14)) (v14 + 1) (x2 - 1) s15 (by omega) (by omega) (by omega) hm_s15 (CD_fr hpre0 (fun k hk => hf_s15 k (dj (by decide) k hk))) (BG_fr hpre1 (fun k hk => hf_s15 k (dj (by decide) k hk))) (LA_fr hpre2 (fun k hk => hf_s15 k (dj (by decide) k hk))) (MOx_fr hpre3 (fun k hk => hf_s15 k (dj (by decide) k hk))) hKF_s15 hKC_s15 hKT_s15 hKM_s15 (WY_fr hpre8 (fun k hk => hf_s15 k (dj (by decide) k hk))) hLEA_s15 (by first | assumption | omega) (by first | assumption | omega) r25 s26 hs26
          obtain ⟨hfc_s26, hm_s26, hp28, hKM_s26, hLEA_s26, hKF_s26, hKC_s26, hKT_s26⟩ := hp27
          have hf_s26 : fr [32, 36, 37, 38, 39, 42, 68, 69, 70] s0 s26 := hf_s15.call (by decide) hfc_s26
          refine k_st (st' := []) rfl ?_
          refine k_iinc (pc := 47) (lv' := [(4, gI (v14 + 1)), (0, .ref (a 6)), (1, gI x0), (3, gI x2)]) E 3 dX1_trySets_47 rfl (by decide) rfl ?_
          refine k_goto (pc := 50) (tgt := 23) E dX1_trySets_50 (by decide) ?_
          refine k_lv (lv' := [(0, .ref (a 6)), (1, gI x0), (3, gI x2), (4, gI (v14 + 1))]) [1, 2, 3, 0] rfl ?_
          exact ih (v14 + 1) s26 ⟨(by omega), hf_s26, hKM_s26, hLEA_s26, hKF_s26, hKC_s26, hKT_s26, (by first | assumption | omega)⟩ (by omega) (fun w18 s19 hw hi => hk w18 s19 (hT.trans hw) hi)
        · replace hT := hT.trans (if_neg h20)
          refine k_icmp_ge_t (pc := 27) (tgt := 53) E (by omega) (by omega) dX1_trySets_27 (by decide) h20 ?_
          refine k_lv (lv' := []) [] rfl ?_
          exact hk v14 s15 hT ⟨(by omega), hf_s15, hKM_s15, hLEA_s15, hKF_s15, hKC_s15, hKT_s15, (by first | assumption | omega)⟩
    refine k_lv (lv' := [(0, .ref (a 6)), (1, gI x0), (3, gI x2), (4, gI x1)]) [1, 2, 4, 0] rfl ?_
    refine L16 17 x1 s0 ⟨(by omega), hf_s0, hKM_s0, hLEA_s0, hKF_s0, hKC_s0, hKT_s0, (by first | assumption | omega)⟩ (by omega) (fun v33 s34 hw hq => ?_)
    obtain ⟨hq35, hf_s34, hKM_s34, hLEA_s34, hKF_s34, hKC_s34, hKT_s34, hq36⟩ := hq
    replace hT := gl2y hT hw
    exact k_rho hT (k_vret (pc := 53) E dX1_trySets_53)
  · replace hT := hT.trans (if_neg h1)
    refine k_if_gt_f (pc := 1) (tgt := 20) E (by omega) dX1_trySets_1 (by decide) h1 ?_
    refine k_aloadn (pc := 4) E 0 dX1_trySets_4 rfl rfl ?_
    refine k_iloadn (pc := 5) E 1 dX1_trySets_5 rfl rfl ?_
    refine k_aloadn (pc := 6) E 0 dX1_trySets_6 rfl rfl ?_
    refine k_getf (pc := 7) (q0 := 6) (f := 0) (v := .ref (a 5)) E inX1 rfl rfl (by decide) wm_210 rfl rfl dX1_trySets_7 ?_
    refine k_iloadn (pc := 10) E 1 dX1_trySets_10 rfl rfl ?_
    refine k_mr (fun hm_s0 => ?_)
    refine k_callV (pc := 11) (np := 1) (As := [gI x0]) (st := [gI x0, .ref (a 6)]) (q0 := 5) E (c_X2_meanBy l D a cI cJ cS cT s0 x0 (by omega) hpre0 hpre1 hpre2 hpre3 hKF_s0 hKC_s0 hKT_s0 hKM_s0 hpre8) wm_574 wm_7 wm_620 wm_572 wm_573 (by decide +kernel) rfl rfl ⟨by decide, by decide⟩ rfl (Nat.le_of_ble_eq_true rfl) dX1_trySets_11 (fun r38 s39 hs39 hr37 => ?_)
    replace hT := gby hT hs39
    have hp40 := f_X2_meanBy_p x0 s0 (by omega) hm_s0 hpre0 hpre1 hpre2 hpre3 hKF_s0 hKC_s0 hKT_s0 hKM_s0 hpre8 r38 s39 hs39
    obtain ⟨hfc_s39, hm_s39, hp41, hKM_s39, hKF_s39, hKC_s39, hKT_s39, hp42⟩ := hp40
    have hf_s39 : fr [32, 36, 37, 38, 39, 42, 68, 69, 70] s0 s39 := hf_s0.call (by decide) hfc_s39
    have hLEA_s39 : LEA s39 := LEA_fr hLEA_s0 (fun k hk => hfc_s39 k (dj (by decide) k hk))
    refine k_st (st' := [gL r38, gI x0, .ref (a 6)]) rfl ?_
    refine k_mr (fun hm_s39 => ?_)
    refine k_callV (pc := 14) (np := 2) (As := [gI x0, gL r38]) (st := []) (q0 := 6) E (c_X1_consider l D a cI cJ cS cT s39 x0 r38 (by omega) (by omega) hLEA_s39 (by first | assumption | omega)) wm_624 wm_8 wm_621 wm_622 wm_623 (by decide +kernel) rfl rfl ⟨by decide, by decide⟩ rfl (Nat.le_of_ble_eq_true rfl) dX1_trySets_14 (fun r44 s45 hs45 hr43 => ?_)
    replace hT := gby hT hs45
    have hp46 := f_X1_consider_p x0 r38 s39 (by omega) (by omega) hm_s39 hLEA_s39 (by first | assumption | omega) r44 s45 hs45
    obtain ⟨hfc_s45, hm_s45, hp47, hLEA_s45⟩ := hp46
    have hf_s45 : fr [32, 36, 37, 38, 39, 42, 68, 69, 70] s0 s45 := hf_s39.call (by decide) hfc_s45
    have hKM_s45 : KM s45 := KM_fr hKM_s39 (fun k hk => hfc_s45 k (dj (by decide) k hk))
    have hKF_s45 : KF s45 := KF_fr hKF_s39 (fun k hk => hfc_s45 k (dj (by decide) k hk))
    have hKC_s45 : KC s45 := KC_fr hKC_s39 (fun k hk => hfc_s45 k (dj (by decide) k hk))
    have hKT_s45 : KT s45 := KT_fr hKT_s39 (fun k hk => hfc_s45 k (dj (by decide) k hk))
    refine k_st (st' := []) rfl ?_
    refine k_goto (pc := 17) (tgt := 53) E dX1_trySets_17 (by decide) ?_
    exact k_rho hT (k_vret (pc := 53) E dX1_trySets_53)

def w_X1_trySets_4_23 (c1 : Int) (c3 : Int) : Nat → Int → gMem → Int × gMem
  | 0, v2, s3 => (v2, s3)
  | n4 + 1, v2, s3 => (if v2 < 16 then gb (f_X1_trySets_3 (ior c1 (ishl 1 v2)) (v2 + 1) (c3 - 1) s3) (fun r10 s11 => (w_X1_trySets_4_23 c1 c3 n4 (v2 + 1) s11)) else (v2, s3))
theorem w_X1_trySets_4_23_s (c1 : Int) (c3 : Int) (n4 : Nat) (v2 : Int) (s3 : gMem) : w_X1_trySets_4_23 c1 c3 (n4 + 1) v2 s3 = (if v2 < 16 then gb (f_X1_trySets_3 (ior c1 (ishl 1 v2)) (v2 + 1) (c3 - 1) s3) (fun r10 s11 => (w_X1_trySets_4_23 c1 c3 n4 (v2 + 1) s11)) else (v2, s3)) := rfl
def f_X1_trySets_4 (x0 : Int) (x1 : Int) (x2 : Int) (s0 : gMem) : gRes := (if 0 < x2 then (gl2 (w_X1_trySets_4_23 x0 x2 17 x1 s0) (fun v33 s34 => (0, s34))) else gb (f_X2_meanBy x0 s0) (fun r38 s39 => gb (f_X1_consider x0 r38 s39) (fun r44 s45 => (0, s45))))
theorem f_X1_trySets_4_e (x0 : Int) (x1 : Int) (x2 : Int) (s0 : gMem) : f_X1_trySets_4 x0 x1 x2 s0 = (if 0 < x2 then (gl2 (w_X1_trySets_4_23 x0 x2 17 x1 s0) (fun v33 s34 => (0, s34))) else gb (f_X2_meanBy x0 s0) (fun r38 s39 => gb (f_X1_consider x0 r38 s39) (fun r44 s45 => (0, s45)))) := rfl
set_option maxRecDepth 100000 in
set_option maxHeartbeats 4000000 in
theorem f_X1_trySets_4_p (x0 : Int) (x1 : Int) (x2 : Int) (s0 : gMem) (hx0 : in32 x0) (hx1 : in32 x1) (hx2 : in32 x2) (hm_s0 : gMR lgX s0) (hpre0 : CD s0) (hpre1 : BG s0) (hpre2 : LA s0) (hpre3 : MOx s0) (hpre4 : KF s0) (hpre5 : KC s0) (hpre6 : KT s0) (hpre7 : KM s0) (hpre8 : WY s0) (hpre9 : LEA s0) (hpre10 : 0 ≤ x1 ∧ x1 ≤ 16) (hpre11 : 0 ≤ x2 ∧ x2 ≤ 4) (rZ : Int) (sZ : gMem) (hres : f_X1_trySets_4 x0 x1 x2 s0 = (rZ, sZ)) : (fr [32, 36, 37, 38, 39, 42, 68, 69, 70] s0 sZ) ∧ (gMR lgX sZ) ∧ (True) ∧ (KM sZ) ∧ (LEA sZ) ∧ (KF sZ) ∧ (KC sZ) ∧ (KT sZ) := by
  have hT := f_X1_trySets_4_e x0 x1 x2 s0
  have hf_s0 : fr [32, 36, 37, 38, 39, 42, 68, 69, 70] s0 s0 := fr.rf _ _
  have hKM_s0 := hpre7
  have hLEA_s0 := hpre9
  have hKF_s0 := hpre4
  have hKC_s0 := hpre5
  have hKT_s0 := hpre6
  by_cases h1 : 0 < x2
  · replace hT := hT.trans (if_pos h1)
    have L16 : ∀ (n17 : Nat) (v14 : Int) (s15 : gMem), ((in32 v14) ∧ (fr [32, 36, 37, 38, 39, 42, 68, 69, 70] s0 s15) ∧ (gMR lgX s15) ∧ (KM s15) ∧ (LEA s15) ∧ (KF s15) ∧ (KC s15) ∧ (KT s15) ∧ (0 ≤ v14 ∧ v14 ≤ 16)) → 16 - v14 < (n17 : Int) → (∀ (w18 : Int) (s19 : gMem), (w_X1_trySets_4_23 x0 x2 n17 v14 s15) = (w18, s19) → ((in32 w18) ∧ (fr [32, 36, 37, 38, 39, 42, 68, 69, 70] s0 s19) ∧ (gMR lgX s19) ∧ (KM s19) ∧ (LEA s19) ∧ (KF s19) ∧ (KC s19) ∧ (KT s19) ∧ (0 ≤ w18 ∧ w18 ≤ 16)) → (fr [32, 36, 37, 38, 39, 42, 68, 69, 70] s0 sZ) ∧ (gMR lgX sZ) ∧ (True) ∧ (KM sZ) ∧ (LEA sZ) ∧ (KF sZ) ∧ (KC sZ) ∧ (KT sZ)) → (fr [32, 36, 37, 38, 39, 42, 68, 69, 70] s0 sZ) ∧ (gMR lgX sZ) ∧ (True) ∧ (KM sZ) ∧ (LEA sZ) ∧ (KF sZ) ∧ (KC sZ) ∧ (KT sZ) := by
      intro n17; induction n17 with
      | zero =>
        intro v14 s15 hq hm hk
        exfalso
        obtain ⟨hq29, hf_s15, hm_s15, hKM_s15, hLEA_s15, hKF_s15, hKC_s15, hKT_s15, hq30⟩ := hq
        omega
      | succ n17 ih =>
        intro v14 s15 hq hm hk
        obtain ⟨hq31, hf_s15, hm_s15, hKM_s15, hLEA_s15, hKF_s15, hKC_s15, hKT_s15, hq32⟩ := hq
        have hT := w_X1_trySets_4_23_s x0 x2 n17 v14 s15
        by_cases h20 : v14 < 16
        · replace hT := hT.trans (if_pos h20)
          have hb21 := ishl_rg 1 v14
          have hb22 : 0 ≤ v14 ∧ v14 ≤ 15 → _ := fun q => ishl_1 q.1 q.2
          have hb23 := ior_rg x0 (ishl 1 v14)
          obtain ⟨r25, s26, hs26⟩ : ∃ rr ss, (f_X1_trySets_3 (ior x0 (ishl 1 v14)) (v14 + 1) (x2 - 1) s15) = (rr, ss) := ⟨_, _, rfl⟩
          replace hT := gby hT hs26
          have hp27 := f_X1_trySets_3_p (ior x0 (ishl 1 v14)) (v14 + 1) (x2 - 1) s15 (by omega) (by omega) (by omega) hm_s15 (CD_fr hpre0 (fun k hk => hf_s15 k (dj (by decide) k hk))) (BG_fr hpre1 (fun k hk => hf_s15 k (dj (by decide) k hk))) (LA_fr hpre2 (fun k hk => hf_s15 k (dj (by decide) k hk))) (MOx_fr hpre3 (fun k hk => hf_s15 k (dj (by decide) k hk))) hKF_s15 hKC_s15 hKT_s15 hKM_s15 (WY_fr hpre8 (fun k hk => hf_s15 k (dj (by decide) k hk))) hLEA_s15 (by first | assumption | omega) (by first | assumption | omega) r25 s26 hs26
          obtain ⟨hfc_s26, hm_s26, hp28, hKM_s26, hLEA_s26, hKF_s26, hKC_s26, hKT_s26⟩ := hp27
          have hf_s26 : fr [32, 36, 37, 38, 39, 42, 68, 69, 70] s0 s26 := hf_s15.call (by decide) hfc_s26
          exact ih (v14 + 1) s26 ⟨(by omega), hf_s26, hm_s26, hKM_s26, hLEA_s26, hKF_s26, hKC_s26, hKT_s26, (by first | assumption | omega)⟩ (by omega) (fun w18 s19 hw hi => hk w18 s19 (hT.trans hw) hi)
        · replace hT := hT.trans (if_neg h20)
          exact hk v14 s15 hT ⟨(by omega), hf_s15, hm_s15, hKM_s15, hLEA_s15, hKF_s15, hKC_s15, hKT_s15, (by first | assumption | omega)⟩
    refine L16 17 x1 s0 ⟨(by omega), hf_s0, hm_s0, hKM_s0, hLEA_s0, hKF_s0, hKC_s0, hKT_s0, (by first | assumption | omega)⟩ (by omega) (fun v33 s34 hw hq => ?_)
    obtain ⟨hq35, hf_s34, hm_s34, hKM_s34, hLEA_s34, hKF_s34, hKC_s34, hKT_s34, hq36⟩ := hq
    replace hT := gl2y hT hw
    obtain ⟨rfl, rfl⟩ := Prod.mk.inj (hT.symm.trans hres)
    exact ⟨hf_s34, hm_s34, trivial, hKM_s34, hLEA_s34, hKF_s34, hKC_s34, hKT_s34⟩
  · replace hT := hT.trans (if_neg h1)
    obtain ⟨r38, s39, hs39⟩ : ∃ rr ss, (f_X2_meanBy x0 s0) = (rr, ss) := ⟨_, _, rfl⟩
    replace hT := gby hT hs39
    have hp40 := f_X2_meanBy_p x0 s0 (by omega) hm_s0 hpre0 hpre1 hpre2 hpre3 hKF_s0 hKC_s0 hKT_s0 hKM_s0 hpre8 r38 s39 hs39
    obtain ⟨hfc_s39, hm_s39, hp41, hKM_s39, hKF_s39, hKC_s39, hKT_s39, hp42⟩ := hp40
    have hf_s39 : fr [32, 36, 37, 38, 39, 42, 68, 69, 70] s0 s39 := hf_s0.call (by decide) hfc_s39
    have hLEA_s39 : LEA s39 := LEA_fr hLEA_s0 (fun k hk => hfc_s39 k (dj (by decide) k hk))
    obtain ⟨r44, s45, hs45⟩ : ∃ rr ss, (f_X1_consider x0 r38 s39) = (rr, ss) := ⟨_, _, rfl⟩
    replace hT := gby hT hs45
    have hp46 := f_X1_consider_p x0 r38 s39 (by omega) (by omega) hm_s39 hLEA_s39 (by first | assumption | omega) r44 s45 hs45
    obtain ⟨hfc_s45, hm_s45, hp47, hLEA_s45⟩ := hp46
    have hf_s45 : fr [32, 36, 37, 38, 39, 42, 68, 69, 70] s0 s45 := hf_s39.call (by decide) hfc_s45
    have hKM_s45 : KM s45 := KM_fr hKM_s39 (fun k hk => hfc_s45 k (dj (by decide) k hk))
    have hKF_s45 : KF s45 := KF_fr hKF_s39 (fun k hk => hfc_s45 k (dj (by decide) k hk))
    have hKC_s45 : KC s45 := KC_fr hKC_s39 (fun k hk => hfc_s45 k (dj (by decide) k hk))
    have hKT_s45 : KT s45 := KT_fr hKT_s39 (fun k hk => hfc_s45 k (dj (by decide) k hk))
    obtain ⟨rfl, rfl⟩ := Prod.mk.inj (hT.symm.trans hres)
    exact ⟨hf_s45, hm_s45, trivial, hKM_s45, hLEA_s45, hKF_s45, hKC_s45, hKT_s45⟩
set_option maxRecDepth 100000 in
set_option maxHeartbeats 4000000 in
theorem c_X1_trySets_4 (l : Launch) (D : va_G) (a : Nat → Nat) (cI cJ cS cT : ClassId) (s0 : gMem) (x0 : Int) (x1 : Int) (x2 : Int) (hx0 : in32 x0) (hx1 : in32 x1) (hx2 : in32 x2) (hpre0 : CD s0) (hpre1 : BG s0) (hpre2 : LA s0) (hpre3 : MOx s0) (hpre4 : KF s0) (hpre5 : KC s0) (hpre6 : KT s0) (hpre7 : KM s0) (hpre8 : WY s0) (hpre9 : LEA s0) (hpre10 : 0 ≤ x1 ∧ x1 ≤ 16) (hpre11 : 0 ≤ x2 ∧ x2 ≤ 4) : gC l yX1_trySets cX1_trySets 5 none 10 640 D vwCl (gT cI cJ cS cT) (wdX a cI cJ cS cT) lgX kV rgV [.ref (a 6), gI x0, gI x1, gI x2] s0 (f_X1_trySets_4 x0 x1 x2 s0) := by
  refine gC_of (by decide +kernel) (hwdX a cI cJ cS cT) (Nat.le_of_ble_eq_true rfl) ?_
  intro A p e R s m args below meth c hR E
  subst hR
  have hT := f_X1_trySets_4_e x0 x1 x2 s0
  have hf_s0 : fr [32, 36, 37, 38, 39, 42, 68, 69, 70] s0 s0 := fr.rf _ _
  refine k_lv0 (lv' := [(0, .ref (a 6)), (1, gI x0), (2, gI x1), (3, gI x2)]) rfl ?_
  refine k_mr (fun hm_s0 => ?_)
  have hKM_s0 := hpre7
  have hLEA_s0 := hpre9
  have hKF_s0 := hpre4
  have hKC_s0 := hpre5
  have hKT_s0 := hpre6
  refine k_iloadn (pc := 0) E 3 dX1_trySets_0 rfl rfl ?_
  by_cases h1 : 0 < x2
  · replace hT := hT.trans (if_pos h1)
    refine k_if_gt_t (pc := 1) (tgt := 20) E (by omega) dX1_trySets_1 (by decide) h1 ?_
    refine k_iloadn (pc := 20) E 2 dX1_trySets_20 rfl rfl ?_
    refine k_istore (pc := 21) (lv' := [(4, gI x1), (0, .ref (a 6)), (1, gI x0), (2, gI x1), (3, gI x2)]) E dX1_trySets_21 (by decide) rfl ?_
    have L16 : ∀ (n17 : Nat) (v14 : Int) (s15 : gMem), ((in32 v14) ∧ (fr [32, 36, 37, 38, 39, 42, 68, 69, 70] s0 s15) ∧ (KM s15) ∧ (LEA s15) ∧ (KF s15) ∧ (KC s15) ∧ (KT s15) ∧ (0 ≤ v14 ∧ v14 ≤ 16)) → 16 - v14 < (n17 : Int) → (∀ (w18 : Int) (s19 : gMem), (w_X1_trySets_4_23 x0 x2 n17 v14 s15) = (w18, s19) → ((in32 w18) ∧ (fr [32, 36, 37, 38, 39, 42, 68, 69, 70] s0 s19) ∧ (KM s19) ∧ (LEA s19) ∧ (KF s19) ∧ (KC s19) ∧ (KT s19) ∧ (0 ≤ w18 ∧ w18 ≤ 16)) → gK D vwCl (wdX a cI cJ cS cT) lgX A p l e { frames := 10, cells := 0, slots := 0, locals := 640 } s m args below meth c 5 (gQQ D vwCl (wdX a cI cJ cS cT) lgX A kV rgV below args s) (f_X1_trySets_4 x0 x1 x2 s0) s19 53 [] []) → gK D vwCl (wdX a cI cJ cS cT) lgX A p l e { frames := 10, cells := 0, slots := 0, locals := 640 } s m args below meth c 5 (gQQ D vwCl (wdX a cI cJ cS cT) lgX A kV rgV below args s) (f_X1_trySets_4 x0 x1 x2 s0) s15 23 [(0, .ref (a 6)), (1, gI x0), (3, gI x2), (4, gI v14)] [] := by
      intro n17; induction n17 with
      | zero =>
        intro v14 s15 hq hm hk
        exfalso
        obtain ⟨hq29, hf_s15, hKM_s15, hLEA_s15, hKF_s15, hKC_s15, hKT_s15, hq30⟩ := hq
        omega
      | succ n17 ih =>
        intro v14 s15 hq hm hk
        obtain ⟨hq31, hf_s15, hKM_s15, hLEA_s15, hKF_s15, hKC_s15, hKT_s15, hq32⟩ := hq
        have hT := w_X1_trySets_4_23_s x0 x2 n17 v14 s15
        refine k_iload (pc := 23) E 3 dX1_trySets_23 rfl ?_
        refine k_bipush (pc := 25) E dX1_trySets_25 (by decide) ?_
        by_cases h20 : v14 < 16
        · replace hT := hT.trans (if_pos h20)
          refine k_icmp_ge_f (pc := 27) (tgt := 53) E (by omega) (by omega) dX1_trySets_27 (by decide) h20 ?_
          refine k_aloadn (pc := 30) E 0 dX1_trySets_30 rfl rfl ?_
          refine k_iloadn (pc := 31) E 1 dX1_trySets_31 rfl rfl ?_
          refine k_iconst (pc := 32) E dX1_trySets_32 ?_
          refine k_iload (pc := 33) E 3 dX1_trySets_33 rfl ?_
          refine k_ishl (pc := 35) E dX1_trySets_35 ?_
          have hb21 := ishl_rg 1 v14
          have hb22 : 0 ≤ v14 ∧ v14 ≤ 15 → _ := fun q => ishl_1 q.1 q.2
          refine k_ior (pc := 36) E dX1_trySets_36 ?_
          have hb23 := ior_rg x0 (ishl 1 v14)
          refine k_iload (pc := 37) E 3 dX1_trySets_37 rfl ?_
          refine k_iconst (pc := 39) E dX1_trySets_39 ?_
          refine k_iadd (pc := 40) E dX1_trySets_40 ?_
          refine k_iloadn (pc := 41) E 2 dX1_trySets_41 rfl rfl ?_
          refine k_iconst (pc := 42) E dX1_trySets_42 ?_
          refine k_isub (pc := 43) E dX1_trySets_43 ?_
          refine k_mr (fun hm_s15 => ?_)
          refine k_callV (pc := 44) (np := 3) (As := [gI (ior x0 (ishl 1 v14)), gI (v14 + 1), gI (x2 - 1)]) (st := []) (q0 := 6) E (c_X1_trySets_3 l D a cI cJ cS cT s15 (ior x0 (ishl 1 v14)) (v14 + 1) (x2 - 1) (by omega) (by omega) (by omega) (CD_fr hpre0 (fun k hk => hf_s15 k (dj (by decide) k hk))) (BG_fr hpre1 (fun k hk => hf_s15 k (dj (by decide) k hk))) (LA_fr hpre2 (fun k hk => hf_s15 k (dj (by decide) k hk))) (MOx_fr hpre3 (fun k hk => hf_s15 k (dj (by decide) k hk))) hKF_s15 hKC_s15 hKT_s15 hKM_s15 (WY_fr hpre8 (fun k hk => hf_s15 k (dj (by decide) k hk))) hLEA_s15 (by first | assumption | omega) (by first | assumption | omega)) wm_619 wm_8 wm_616 wm_618 wp_21 (by decide +kernel) rfl rfl ⟨by decide, by decide⟩ rfl (Nat.le_of_ble_eq_true rfl) dX1_trySets_44 (fun r25 s26 hs26 hr24 => ?_)
          replace hT := gby hT hs26
          have hp27 := f_X1_trySets_3_p (ior x0 (ishl 1 v14)) (v14 + 1) (x2 - 1) s15 (by omega) (by omega) (by omega) hm_s15 (CD_fr hpre0 (fun k hk => hf_s15 k (dj (by decide) k hk))) (BG_fr hpre1 (fun k hk => hf_s15 k (dj (by decide) k hk))) (LA_fr hpre2 (fun k hk => hf_s15 k (dj (by decide) k hk))) (MOx_fr hpre3 (fun k hk => hf_s15 k (dj (by decide) k hk))) hKF_s15 hKC_s15 hKT_s15 hKM_s15 (WY_fr hpre8 (fun k hk => hf_s15 k (dj (by decide) k hk))) hLEA_s15 (by first | assumption | omega) (by first | assumption | omega) r25 s26 hs26
          obtain ⟨hfc_s26, hm_s26, hp28, hKM_s26, hLEA_s26, hKF_s26, hKC_s26, hKT_s26⟩ := hp27
          have hf_s26 : fr [32, 36, 37, 38, 39, 42, 68, 69, 70] s0 s26 := hf_s15.call (by decide) hfc_s26
          refine k_st (st' := []) rfl ?_
          refine k_iinc (pc := 47) (lv' := [(4, gI (v14 + 1)), (0, .ref (a 6)), (1, gI x0), (3, gI x2)]) E 3 dX1_trySets_47 rfl (by decide) rfl ?_
          refine k_goto (pc := 50) (tgt := 23) E dX1_trySets_50 (by decide) ?_
          refine k_lv (lv' := [(0, .ref (a 6)), (1, gI x0), (3, gI x2), (4, gI (v14 + 1))]) [1, 2, 3, 0] rfl ?_
          exact ih (v14 + 1) s26 ⟨(by omega), hf_s26, hKM_s26, hLEA_s26, hKF_s26, hKC_s26, hKT_s26, (by first | assumption | omega)⟩ (by omega) (fun w18 s19 hw hi => hk w18 s19 (hT.trans hw) hi)
        · replace hT := hT.trans (if_neg h20)
          refine k_icmp_ge_t (pc := 27) (tgt := 53) E (by omega) (by omega) dX1_trySets_27 (by decide) h20 ?_
          refine k_lv (lv' := []) [] rfl ?_
          exact hk v14 s15 hT ⟨(by omega), hf_s15, hKM_s15, hLEA_s15, hKF_s15, hKC_s15, hKT_s15, (by first | assumption | omega)⟩
    refine k_lv (lv' := [(0, .ref (a 6)), (1, gI x0), (3, gI x2), (4, gI x1)]) [1, 2, 4, 0] rfl ?_
    refine L16 17 x1 s0 ⟨(by omega), hf_s0, hKM_s0, hLEA_s0, hKF_s0, hKC_s0, hKT_s0, (by first | assumption | omega)⟩ (by omega) (fun v33 s34 hw hq => ?_)
    obtain ⟨hq35, hf_s34, hKM_s34, hLEA_s34, hKF_s34, hKC_s34, hKT_s34, hq36⟩ := hq
    replace hT := gl2y hT hw
    exact k_rho hT (k_vret (pc := 53) E dX1_trySets_53)
  · replace hT := hT.trans (if_neg h1)
    refine k_if_gt_f (pc := 1) (tgt := 20) E (by omega) dX1_trySets_1 (by decide) h1 ?_
    refine k_aloadn (pc := 4) E 0 dX1_trySets_4 rfl rfl ?_
    refine k_iloadn (pc := 5) E 1 dX1_trySets_5 rfl rfl ?_
    refine k_aloadn (pc := 6) E 0 dX1_trySets_6 rfl rfl ?_
    refine k_getf (pc := 7) (q0 := 6) (f := 0) (v := .ref (a 5)) E inX1 rfl rfl (by decide) wm_210 rfl rfl dX1_trySets_7 ?_
    refine k_iloadn (pc := 10) E 1 dX1_trySets_10 rfl rfl ?_
    refine k_mr (fun hm_s0 => ?_)
    refine k_callV (pc := 11) (np := 1) (As := [gI x0]) (st := [gI x0, .ref (a 6)]) (q0 := 5) E (c_X2_meanBy l D a cI cJ cS cT s0 x0 (by omega) hpre0 hpre1 hpre2 hpre3 hKF_s0 hKC_s0 hKT_s0 hKM_s0 hpre8) wm_574 wm_7 wm_620 wm_572 wm_573 (by decide +kernel) rfl rfl ⟨by decide, by decide⟩ rfl (Nat.le_of_ble_eq_true rfl) dX1_trySets_11 (fun r38 s39 hs39 hr37 => ?_)
    replace hT := gby hT hs39
    have hp40 := f_X2_meanBy_p x0 s0 (by omega) hm_s0 hpre0 hpre1 hpre2 hpre3 hKF_s0 hKC_s0 hKT_s0 hKM_s0 hpre8 r38 s39 hs39
    obtain ⟨hfc_s39, hm_s39, hp41, hKM_s39, hKF_s39, hKC_s39, hKT_s39, hp42⟩ := hp40
    have hf_s39 : fr [32, 36, 37, 38, 39, 42, 68, 69, 70] s0 s39 := hf_s0.call (by decide) hfc_s39
    have hLEA_s39 : LEA s39 := LEA_fr hLEA_s0 (fun k hk => hfc_s39 k (dj (by decide) k hk))
    refine k_st (st' := [gL r38, gI x0, .ref (a 6)]) rfl ?_
    refine k_mr (fun hm_s39 => ?_)
    refine k_callV (pc := 14) (np := 2) (As := [gI x0, gL r38]) (st := []) (q0 := 6) E (c_X1_consider l D a cI cJ cS cT s39 x0 r38 (by omega) (by omega) hLEA_s39 (by first | assumption | omega)) wm_624 wm_8 wm_621 wm_622 wm_623 (by decide +kernel) rfl rfl ⟨by decide, by decide⟩ rfl (Nat.le_of_ble_eq_true rfl) dX1_trySets_14 (fun r44 s45 hs45 hr43 => ?_)
    replace hT := gby hT hs45
    have hp46 := f_X1_consider_p x0 r38 s39 (by omega) (by omega) hm_s39 hLEA_s39 (by first | assumption | omega) r44 s45 hs45
    obtain ⟨hfc_s45, hm_s45, hp47, hLEA_s45⟩ := hp46
    have hf_s45 : fr [32, 36, 37, 38, 39, 42, 68, 69, 70] s0 s45 := hf_s39.call (by decide) hfc_s45
    have hKM_s45 : KM s45 := KM_fr hKM_s39 (fun k hk => hfc_s45 k (dj (by decide) k hk))
    have hKF_s45 : KF s45 := KF_fr hKF_s39 (fun k hk => hfc_s45 k (dj (by decide) k hk))
    have hKC_s45 : KC s45 := KC_fr hKC_s39 (fun k hk => hfc_s45 k (dj (by decide) k hk))
    have hKT_s45 : KT s45 := KT_fr hKT_s39 (fun k hk => hfc_s45 k (dj (by decide) k hk))
    refine k_st (st' := []) rfl ?_
    refine k_goto (pc := 17) (tgt := 53) E dX1_trySets_17 (by decide) ?_
    exact k_rho hT (k_vret (pc := 53) E dX1_trySets_53)

def w_X1_trySizes_2 (c1 : Int) : Nat → Int → gMem → Int × gMem
  | 0, v1, s2 => (v1, s2)
  | n3 + 1, v1, s2 => (if c1 < v1 then (v1, s2) else gb (f_X1_trySets_4 0 0 v1 s2) (fun r6 s7 => (w_X1_trySizes_2 c1 n3 (v1 + 1) s7)))
theorem w_X1_trySizes_2_s (c1 : Int) (n3 : Nat) (v1 : Int) (s2 : gMem) : w_X1_trySizes_2 c1 (n3 + 1) v1 s2 = (if c1 < v1 then (v1, s2) else gb (f_X1_trySets_4 0 0 v1 s2) (fun r6 s7 => (w_X1_trySizes_2 c1 n3 (v1 + 1) s7))) := rfl
def f_X1_trySizes (x0 : Int) (s0 : gMem) : gRes := (gl2 (w_X1_trySizes_2 x0 7 0 s0) (fun v26 s27 => (0, s27)))
theorem f_X1_trySizes_e (x0 : Int) (s0 : gMem) : f_X1_trySizes x0 s0 = (gl2 (w_X1_trySizes_2 x0 7 0 s0) (fun v26 s27 => (0, s27))) := rfl
set_option maxRecDepth 100000 in
set_option maxHeartbeats 4000000 in
theorem f_X1_trySizes_p (x0 : Int) (s0 : gMem) (hx0 : in32 x0) (hm_s0 : gMR lgX s0) (hpre0 : CD s0) (hpre1 : BG s0) (hpre2 : LA s0) (hpre3 : MOx s0) (hpre4 : KF s0) (hpre5 : KC s0) (hpre6 : KT s0) (hpre7 : KM s0) (hpre8 : WY s0) (hpre9 : LEA s0) (hpre10 : 0 ≤ x0 ∧ x0 ≤ 4) (rZ : Int) (sZ : gMem) (hres : f_X1_trySizes x0 s0 = (rZ, sZ)) : (fr [32, 36, 37, 38, 39, 42, 68, 69, 70] s0 sZ) ∧ (gMR lgX sZ) ∧ (True) ∧ (KM sZ) ∧ (LEA sZ) ∧ (KF sZ) ∧ (KC sZ) ∧ (KT sZ) := by
  have hT := f_X1_trySizes_e x0 s0
  have hf_s0 : fr [32, 36, 37, 38, 39, 42, 68, 69, 70] s0 s0 := fr.rf _ _
  have hKM_s0 := hpre7
  have hLEA_s0 := hpre9
  have hKF_s0 := hpre4
  have hKC_s0 := hpre5
  have hKT_s0 := hpre6
  have L12 : ∀ (n13 : Nat) (v10 : Int) (s11 : gMem), ((in32 v10) ∧ (fr [32, 36, 37, 38, 39, 42, 68, 69, 70] s0 s11) ∧ (gMR lgX s11) ∧ (KM s11) ∧ (LEA s11) ∧ (KF s11) ∧ (KC s11) ∧ (KT s11) ∧ (0 ≤ v10 ∧ v10 ≤ x0 + 1)) → x0 + 1 - v10 < (n13 : Int) → (∀ (w14 : Int) (s15 : gMem), (w_X1_trySizes_2 x0 n13 v10 s11) = (w14, s15) → ((in32 w14) ∧ (fr [32, 36, 37, 38, 39, 42, 68, 69, 70] s0 s15) ∧ (gMR lgX s15) ∧ (KM s15) ∧ (LEA s15) ∧ (KF s15) ∧ (KC s15) ∧ (KT s15) ∧ (0 ≤ w14 ∧ w14 ≤ x0 + 1)) → (fr [32, 36, 37, 38, 39, 42, 68, 69, 70] s0 sZ) ∧ (gMR lgX sZ) ∧ (True) ∧ (KM sZ) ∧ (LEA sZ) ∧ (KF sZ) ∧ (KC sZ) ∧ (KT sZ)) → (fr [32, 36, 37, 38, 39, 42, 68, 69, 70] s0 sZ) ∧ (gMR lgX sZ) ∧ (True) ∧ (KM sZ) ∧ (LEA sZ) ∧ (KF sZ) ∧ (KC sZ) ∧ (KT sZ) := by
    intro n13; induction n13 with
    | zero =>
      intro v10 s11 hq hm hk
      exfalso
      obtain ⟨hq22, hf_s11, hm_s11, hKM_s11, hLEA_s11, hKF_s11, hKC_s11, hKT_s11, hq23⟩ := hq
      omega
    | succ n13 ih =>
      intro v10 s11 hq hm hk
      obtain ⟨hq24, hf_s11, hm_s11, hKM_s11, hLEA_s11, hKF_s11, hKC_s11, hKT_s11, hq25⟩ := hq
      have hT := w_X1_trySizes_2_s x0 n13 v10 s11
      by_cases h16 : x0 < v10
      · replace hT := hT.trans (if_pos h16)
        exact hk v10 s11 hT ⟨(by omega), hf_s11, hm_s11, hKM_s11, hLEA_s11, hKF_s11, hKC_s11, hKT_s11, (by first | assumption | omega)⟩
      · replace hT := hT.trans (if_neg h16)
        obtain ⟨r18, s19, hs19⟩ : ∃ rr ss, (f_X1_trySets_4 0 0 v10 s11) = (rr, ss) := ⟨_, _, rfl⟩
        replace hT := gby hT hs19
        have hp20 := f_X1_trySets_4_p 0 0 v10 s11 (by omega) (by omega) (by omega) hm_s11 (CD_fr hpre0 (fun k hk => hf_s11 k (dj (by decide) k hk))) (BG_fr hpre1 (fun k hk => hf_s11 k (dj (by decide) k hk))) (LA_fr hpre2 (fun k hk => hf_s11 k (dj (by decide) k hk))) (MOx_fr hpre3 (fun k hk => hf_s11 k (dj (by decide) k hk))) hKF_s11 hKC_s11 hKT_s11 hKM_s11 (WY_fr hpre8 (fun k hk => hf_s11 k (dj (by decide) k hk))) hLEA_s11 (by first | assumption | omega) (by first | assumption | omega) r18 s19 hs19
        obtain ⟨hfc_s19, hm_s19, hp21, hKM_s19, hLEA_s19, hKF_s19, hKC_s19, hKT_s19⟩ := hp20
        have hf_s19 : fr [32, 36, 37, 38, 39, 42, 68, 69, 70] s0 s19 := hf_s11.call (by decide) hfc_s19
        exact ih (v10 + 1) s19 ⟨(by omega), hf_s19, hm_s19, hKM_s19, hLEA_s19, hKF_s19, hKC_s19, hKT_s19, (by first | assumption | omega)⟩ (by omega) (fun w14 s15 hw hi => hk w14 s15 (hT.trans hw) hi)
  refine L12 7 0 s0 ⟨(by omega), hf_s0, hm_s0, hKM_s0, hLEA_s0, hKF_s0, hKC_s0, hKT_s0, (by first | assumption | omega)⟩ (by omega) (fun v26 s27 hw hq => ?_)
  obtain ⟨hq28, hf_s27, hm_s27, hKM_s27, hLEA_s27, hKF_s27, hKC_s27, hKT_s27, hq29⟩ := hq
  replace hT := gl2y hT hw
  obtain ⟨rfl, rfl⟩ := Prod.mk.inj (hT.symm.trans hres)
  exact ⟨hf_s27, hm_s27, trivial, hKM_s27, hLEA_s27, hKF_s27, hKC_s27, hKT_s27⟩
set_option maxRecDepth 100000 in
set_option maxHeartbeats 4000000 in
theorem c_X1_trySizes (l : Launch) (D : va_G) (a : Nat → Nat) (cI cJ cS cT : ClassId) (s0 : gMem) (x0 : Int) (hx0 : in32 x0) (hpre0 : CD s0) (hpre1 : BG s0) (hpre2 : LA s0) (hpre3 : MOx s0) (hpre4 : KF s0) (hpre5 : KC s0) (hpre6 : KT s0) (hpre7 : KM s0) (hpre8 : WY s0) (hpre9 : LEA s0) (hpre10 : 0 ≤ x0 ∧ x0 ≤ 4) : gC l yX1_trySizes cX1_trySizes 3 none 11 704 D vwCl (gT cI cJ cS cT) (wdX a cI cJ cS cT) lgX kV rgV [.ref (a 6), gI x0] s0 (f_X1_trySizes x0 s0) := by
  refine gC_of (by decide +kernel) (hwdX a cI cJ cS cT) (Nat.le_of_ble_eq_true rfl) ?_
  intro A p e R s m args below meth c hR E
  subst hR
  have hT := f_X1_trySizes_e x0 s0
  have hf_s0 : fr [32, 36, 37, 38, 39, 42, 68, 69, 70] s0 s0 := fr.rf _ _
  refine k_lv0 (lv' := [(0, .ref (a 6)), (1, gI x0)]) rfl ?_
  refine k_mr (fun hm_s0 => ?_)
  have hKM_s0 := hpre7
  have hLEA_s0 := hpre9
  have hKF_s0 := hpre4
  have hKC_s0 := hpre5
  have hKT_s0 := hpre6
  refine k_iconst (pc := 0) E dX1_trySizes_0 ?_
  refine k_istoren (pc := 1) (lv' := [(2, gI 0), (0, .ref (a 6)), (1, gI x0)]) E dX1_trySizes_1 rfl (by decide) rfl ?_
  have L12 : ∀ (n13 : Nat) (v10 : Int) (s11 : gMem), ((in32 v10) ∧ (fr [32, 36, 37, 38, 39, 42, 68, 69, 70] s0 s11) ∧ (KM s11) ∧ (LEA s11) ∧ (KF s11) ∧ (KC s11) ∧ (KT s11) ∧ (0 ≤ v10 ∧ v10 ≤ x0 + 1)) → x0 + 1 - v10 < (n13 : Int) → (∀ (w14 : Int) (s15 : gMem), (w_X1_trySizes_2 x0 n13 v10 s11) = (w14, s15) → ((in32 w14) ∧ (fr [32, 36, 37, 38, 39, 42, 68, 69, 70] s0 s15) ∧ (KM s15) ∧ (LEA s15) ∧ (KF s15) ∧ (KC s15) ∧ (KT s15) ∧ (0 ≤ w14 ∧ w14 ≤ x0 + 1)) → gK D vwCl (wdX a cI cJ cS cT) lgX A p l e { frames := 11, cells := 0, slots := 0, locals := 704 } s m args below meth c 3 (gQQ D vwCl (wdX a cI cJ cS cT) lgX A kV rgV below args s) (f_X1_trySizes x0 s0) s15 20 [] []) → gK D vwCl (wdX a cI cJ cS cT) lgX A p l e { frames := 11, cells := 0, slots := 0, locals := 704 } s m args below meth c 3 (gQQ D vwCl (wdX a cI cJ cS cT) lgX A kV rgV below args s) (f_X1_trySizes x0 s0) s11 2 [(0, .ref (a 6)), (1, gI x0), (2, gI v10)] [] := by
    intro n13; induction n13 with
    | zero =>
      intro v10 s11 hq hm hk
      exfalso
      obtain ⟨hq22, hf_s11, hKM_s11, hLEA_s11, hKF_s11, hKC_s11, hKT_s11, hq23⟩ := hq
      omega
    | succ n13 ih =>
      intro v10 s11 hq hm hk
      obtain ⟨hq24, hf_s11, hKM_s11, hLEA_s11, hKF_s11, hKC_s11, hKT_s11, hq25⟩ := hq
      have hT := w_X1_trySizes_2_s x0 n13 v10 s11
      refine k_iloadn (pc := 2) E 2 dX1_trySizes_2 rfl rfl ?_
      refine k_iloadn (pc := 3) E 1 dX1_trySizes_3 rfl rfl ?_
      by_cases h16 : x0 < v10
      · replace hT := hT.trans (if_pos h16)
        refine k_icmp_gt_t (pc := 4) (tgt := 20) E (by omega) (by omega) dX1_trySizes_4 (by decide) h16 ?_
        refine k_lv (lv' := []) [] rfl ?_
        exact hk v10 s11 hT ⟨(by omega), hf_s11, hKM_s11, hLEA_s11, hKF_s11, hKC_s11, hKT_s11, (by first | assumption | omega)⟩
      · replace hT := hT.trans (if_neg h16)
        refine k_icmp_gt_f (pc := 4) (tgt := 20) E (by omega) (by omega) dX1_trySizes_4 (by decide) h16 ?_
        refine k_aloadn (pc := 7) E 0 dX1_trySizes_7 rfl rfl ?_
        refine k_iconst (pc := 8) E dX1_trySizes_8 ?_
        refine k_iconst (pc := 9) E dX1_trySizes_9 ?_
        refine k_iloadn (pc := 10) E 2 dX1_trySizes_10 rfl rfl ?_
        refine k_mr (fun hm_s11 => ?_)
        refine k_callV (pc := 11) (np := 3) (As := [gI 0, gI 0, gI v10]) (st := []) (q0 := 6) E (c_X1_trySets_4 l D a cI cJ cS cT s11 0 0 v10 (by omega) (by omega) (by omega) (CD_fr hpre0 (fun k hk => hf_s11 k (dj (by decide) k hk))) (BG_fr hpre1 (fun k hk => hf_s11 k (dj (by decide) k hk))) (LA_fr hpre2 (fun k hk => hf_s11 k (dj (by decide) k hk))) (MOx_fr hpre3 (fun k hk => hf_s11 k (dj (by decide) k hk))) hKF_s11 hKC_s11 hKT_s11 hKM_s11 (WY_fr hpre8 (fun k hk => hf_s11 k (dj (by decide) k hk))) hLEA_s11 (by first | assumption | omega) (by first | assumption | omega)) wm_619 wm_8 wm_616 wm_618 wp_21 (by decide +kernel) rfl rfl ⟨by decide, by decide⟩ rfl (Nat.le_of_ble_eq_true rfl) dX1_trySizes_11 (fun r18 s19 hs19 hr17 => ?_)
        replace hT := gby hT hs19
        have hp20 := f_X1_trySets_4_p 0 0 v10 s11 (by omega) (by omega) (by omega) hm_s11 (CD_fr hpre0 (fun k hk => hf_s11 k (dj (by decide) k hk))) (BG_fr hpre1 (fun k hk => hf_s11 k (dj (by decide) k hk))) (LA_fr hpre2 (fun k hk => hf_s11 k (dj (by decide) k hk))) (MOx_fr hpre3 (fun k hk => hf_s11 k (dj (by decide) k hk))) hKF_s11 hKC_s11 hKT_s11 hKM_s11 (WY_fr hpre8 (fun k hk => hf_s11 k (dj (by decide) k hk))) hLEA_s11 (by first | assumption | omega) (by first | assumption | omega) r18 s19 hs19
        obtain ⟨hfc_s19, hm_s19, hp21, hKM_s19, hLEA_s19, hKF_s19, hKC_s19, hKT_s19⟩ := hp20
        have hf_s19 : fr [32, 36, 37, 38, 39, 42, 68, 69, 70] s0 s19 := hf_s11.call (by decide) hfc_s19
        refine k_st (st' := []) rfl ?_
        refine k_iinc (pc := 14) (lv' := [(2, gI (v10 + 1)), (0, .ref (a 6)), (1, gI x0)]) E 2 dX1_trySizes_14 rfl (by decide) rfl ?_
        refine k_goto (pc := 17) (tgt := 2) E dX1_trySizes_17 (by decide) ?_
        refine k_lv (lv' := [(0, .ref (a 6)), (1, gI x0), (2, gI (v10 + 1))]) [1, 2, 0] rfl ?_
        exact ih (v10 + 1) s19 ⟨(by omega), hf_s19, hKM_s19, hLEA_s19, hKF_s19, hKC_s19, hKT_s19, (by first | assumption | omega)⟩ (by omega) (fun w14 s15 hw hi => hk w14 s15 (hT.trans hw) hi)
  refine k_lv (lv' := [(0, .ref (a 6)), (1, gI x0), (2, gI 0)]) [1, 2, 0] rfl ?_
  refine L12 7 0 s0 ⟨(by omega), hf_s0, hKM_s0, hLEA_s0, hKF_s0, hKC_s0, hKT_s0, (by first | assumption | omega)⟩ (by omega) (fun v26 s27 hw hq => ?_)
  obtain ⟨hq28, hf_s27, hKM_s27, hLEA_s27, hKF_s27, hKC_s27, hKT_s27, hq29⟩ := hq
  replace hT := gl2y hT hw
  exact k_rho hT (k_vret (pc := 20) E dX1_trySizes_20)

def f_X8_best (x0 : Int) (x1 : Int) (s0 : gMem) : gRes := (if (f_X8_outside x0 5) = 0 then (if (f_X8_outside x1 2) = 0 then gb (f_X2_from (s0 61 0) s0) (fun r10 s11 => gb (f_X1_begin  s11) (fun r15 s16 => gb (f_X1_trySizes x0 s16) (fun r20 s21 => ((f_X1_answer x1 s21), s21)))) else ((-4611686018427387904), s0)) else ((-4611686018427387904), s0))
theorem f_X8_best_e (x0 : Int) (x1 : Int) (s0 : gMem) : f_X8_best x0 x1 s0 = (if (f_X8_outside x0 5) = 0 then (if (f_X8_outside x1 2) = 0 then gb (f_X2_from (s0 61 0) s0) (fun r10 s11 => gb (f_X1_begin  s11) (fun r15 s16 => gb (f_X1_trySizes x0 s16) (fun r20 s21 => ((f_X1_answer x1 s21), s21)))) else ((-4611686018427387904), s0)) else ((-4611686018427387904), s0)) := rfl
set_option maxRecDepth 100000 in
set_option maxHeartbeats 4000000 in
theorem f_X8_best_p (x0 : Int) (x1 : Int) (s0 : gMem) (hx0 : in32 x0) (hx1 : in32 x1) (hm_s0 : gMR lgX s0) (hpre0 : CD s0) (hpre1 : BG s0) (hpre2 : LA s0) (hpre3 : MOx s0) (hpre4 : KF s0) (hpre5 : KC s0) (hpre6 : KT s0) (hpre7 : KM s0) (hpre8 : WY s0) (hpre9 : LEA s0) (hpre10 : EN s0) (rZ : Int) (sZ : gMem) (hres : f_X8_best x0 x1 s0 = (rZ, sZ)) : (fr [32, 36, 37, 38, 39, 42, 64, 68, 69, 70] s0 sZ) ∧ (gMR lgX sZ) ∧ (in64 rZ) ∧ (KM sZ) ∧ (WY sZ) ∧ (LEA sZ) ∧ (KF sZ) ∧ (KC sZ) ∧ (KT sZ) := by
  have hT := f_X8_best_e x0 x1 s0
  have hf_s0 : fr [32, 36, 37, 38, 39, 42, 64, 68, 69, 70] s0 s0 := fr.rf _ _
  have hKM_s0 := hpre7
  have hWY_s0 := hpre8
  have hLEA_s0 := hpre9
  have hKF_s0 := hpre4
  have hKC_s0 := hpre5
  have hKT_s0 := hpre6
  have hp2 := f_X8_outside_p x0 5 (by omega) (by omega) 
  by_cases h3 : (f_X8_outside x0 5) = 0
  · replace hT := hT.trans (if_pos h3)
    have hp5 := f_X8_outside_p x1 2 (by omega) (by omega) 
    by_cases h6 : (f_X8_outside x1 2) = 0
    · replace hT := hT.trans (if_pos h6)
      have hr7 := (hm_s0 61 0).1 rfl
      have hi8 := hpre10 0
      obtain ⟨r10, s11, hs11⟩ : ∃ rr ss, (f_X2_from (s0 61 0) s0) = (rr, ss) := ⟨_, _, rfl⟩
      replace hT := gby hT hs11
      have hp12 := f_X2_from_p (s0 61 0) s0 (by omega) hm_s0 hKM_s0 hWY_s0 (by first | assumption | omega) r10 s11 hs11
      obtain ⟨hfc_s11, hm_s11, hp13, hKM_s11, hWY_s11⟩ := hp12
      have hf_s11 : fr [32, 36, 37, 38, 39, 42, 64, 68, 69, 70] s0 s11 := hf_s0.call (by decide) hfc_s11
      have hLEA_s11 : LEA s11 := LEA_fr hLEA_s0 (fun k hk => hfc_s11 k (dj (by decide) k hk))
      have hKF_s11 : KF s11 := KF_fr hKF_s0 (fun k hk => hfc_s11 k (dj (by decide) k hk))
      have hKC_s11 : KC s11 := KC_fr hKC_s0 (fun k hk => hfc_s11 k (dj (by decide) k hk))
      have hKT_s11 : KT s11 := KT_fr hKT_s0 (fun k hk => hfc_s11 k (dj (by decide) k hk))
      obtain ⟨r15, s16, hs16⟩ : ∃ rr ss, (f_X1_begin  s11) = (rr, ss) := ⟨_, _, rfl⟩
      replace hT := gby hT hs16
      have hp17 := f_X1_begin_p  s11  hm_s11 hLEA_s11 r15 s16 hs16
      obtain ⟨hfc_s16, hm_s16, hp18, hLEA_s16⟩ := hp17
      have hf_s16 : fr [32, 36, 37, 38, 39, 42, 64, 68, 69, 70] s0 s16 := hf_s11.call (by decide) hfc_s16
      have hKM_s16 : KM s16 := KM_fr hKM_s11 (fun k hk => hfc_s16 k (dj (by decide) k hk))
      have hWY_s16 : WY s16 := WY_fr hWY_s11 (fun k hk => hfc_s16 k (dj (by decide) k hk))
      have hKF_s16 : KF s16 := KF_fr hKF_s11 (fun k hk => hfc_s16 k (dj (by decide) k hk))
      have hKC_s16 : KC s16 := KC_fr hKC_s11 (fun k hk => hfc_s16 k (dj (by decide) k hk))
      have hKT_s16 : KT s16 := KT_fr hKT_s11 (fun k hk => hfc_s16 k (dj (by decide) k hk))
      obtain ⟨r20, s21, hs21⟩ : ∃ rr ss, (f_X1_trySizes x0 s16) = (rr, ss) := ⟨_, _, rfl⟩
      replace hT := gby hT hs21
      have hp22 := f_X1_trySizes_p x0 s16 (by omega) hm_s16 (CD_fr hpre0 (fun k hk => hf_s16 k (dj (by decide) k hk))) (BG_fr hpre1 (fun k hk => hf_s16 k (dj (by decide) k hk))) (LA_fr hpre2 (fun k hk => hf_s16 k (dj (by decide) k hk))) (MOx_fr hpre3 (fun k hk => hf_s16 k (dj (by decide) k hk))) hKF_s16 hKC_s16 hKT_s16 hKM_s16 hWY_s16 hLEA_s16 (by first | assumption | omega) r20 s21 hs21
      obtain ⟨hfc_s21, hm_s21, hp23, hKM_s21, hLEA_s21, hKF_s21, hKC_s21, hKT_s21⟩ := hp22
      have hf_s21 : fr [32, 36, 37, 38, 39, 42, 64, 68, 69, 70] s0 s21 := hf_s16.call (by decide) hfc_s21
      have hWY_s21 : WY s21 := WY_fr hWY_s16 (fun k hk => hfc_s21 k (dj (by decide) k hk))
      have hp25 := f_X1_answer_p x1 s21 (by omega) hm_s21 
      obtain ⟨rfl, rfl⟩ := Prod.mk.inj (hT.symm.trans hres)
      exact ⟨hf_s21, hm_s21, (by omega), hKM_s21, hWY_s21, hLEA_s21, hKF_s21, hKC_s21, hKT_s21⟩
    · replace hT := hT.trans (if_neg h6)
      obtain ⟨rfl, rfl⟩ := Prod.mk.inj (hT.symm.trans hres)
      exact ⟨hf_s0, hm_s0, (by omega), hKM_s0, hWY_s0, hLEA_s0, hKF_s0, hKC_s0, hKT_s0⟩
  · replace hT := hT.trans (if_neg h3)
    obtain ⟨rfl, rfl⟩ := Prod.mk.inj (hT.symm.trans hres)
    exact ⟨hf_s0, hm_s0, (by omega), hKM_s0, hWY_s0, hLEA_s0, hKF_s0, hKC_s0, hKT_s0⟩
set_option maxRecDepth 100000 in
set_option maxHeartbeats 4000000 in
theorem c_X8_best (l : Launch) (D : va_G) (a : Nat → Nat) (cI cJ cS cT : ClassId) (s0 : gMem) (x0 : Int) (x1 : Int) (hx0 : in32 x0) (hx1 : in32 x1) (hpre0 : CD s0) (hpre1 : BG s0) (hpre2 : LA s0) (hpre3 : MOx s0) (hpre4 : KF s0) (hpre5 : KC s0) (hpre6 : KT s0) (hpre7 : KM s0) (hpre8 : WY s0) (hpre9 : LEA s0) (hpre10 : EN s0) : gC l yX8_best cX8_best 3 (some .long) 12 768 D vwCl (gT cI cJ cS cT) (wdX a cI cJ cS cT) lgX kJ in64 [.ref (a 0), gI x0, gI x1] s0 (f_X8_best x0 x1 s0) := by
  refine gC_of (by decide +kernel) (hwdX a cI cJ cS cT) (Nat.le_of_ble_eq_true rfl) ?_
  intro A p e R s m args below meth c hR E
  subst hR
  have hT := f_X8_best_e x0 x1 s0
  have hf_s0 : fr [32, 36, 37, 38, 39, 42, 64, 68, 69, 70] s0 s0 := fr.rf _ _
  refine k_lv0 (lv' := [(0, .ref (a 0)), (1, gI x0), (2, gI x1)]) rfl ?_
  refine k_mr (fun hm_s0 => ?_)
  have hKM_s0 := hpre7
  have hWY_s0 := hpre8
  have hLEA_s0 := hpre9
  have hKF_s0 := hpre4
  have hKC_s0 := hpre5
  have hKT_s0 := hpre6
  refine k_iloadn (pc := 0) E 1 dX8_best_0 rfl rfl ?_
  refine k_iconst (pc := 1) E dX8_best_1 ?_
  refine k_mr (fun hm_s0 => ?_)
  refine k_callS (pc := 2) (np := 2) (As := [gI x0, gI 5]) (st := []) E (c_X8_outside l D a cI cJ cS cT s0 x0 5 (by omega) (by omega)) wm_310 wm_1 wm_308 wm_309 (by decide +kernel) ⟨by decide, by decide⟩ rfl (Nat.le_of_ble_eq_true rfl) dX8_best_2 (ro_kk (fun hr1 => ?_))
  have hp2 := f_X8_outside_p x0 5 (by omega) (by omega) 
  refine k_st (st' := [gI (f_X8_outside x0 5)]) rfl ?_
  by_cases h3 : (f_X8_outside x0 5) = 0
  · replace hT := hT.trans (if_pos h3)
    refine k_if_ne_f (pc := 5) (tgt := 16) E (by omega) dX8_best_5 (by decide) h3 ?_
    refine k_iloadn (pc := 8) E 2 dX8_best_8 rfl rfl ?_
    refine k_iconst (pc := 9) E dX8_best_9 ?_
    refine k_mr (fun hm_s0 => ?_)
    refine k_callS (pc := 10) (np := 2) (As := [gI x1, gI 2]) (st := []) E (c_X8_outside l D a cI cJ cS cT s0 x1 2 (by omega) (by omega)) wm_310 wm_1 wm_308 wm_309 (by decide +kernel) ⟨by decide, by decide⟩ rfl (Nat.le_of_ble_eq_true rfl) dX8_best_10 (ro_kk (fun hr4 => ?_))
    have hp5 := f_X8_outside_p x1 2 (by omega) (by omega) 
    refine k_st (st' := [gI (f_X8_outside x1 2)]) rfl ?_
    by_cases h6 : (f_X8_outside x1 2) = 0
    · replace hT := hT.trans (if_pos h6)
      refine k_if_eq_t (pc := 13) (tgt := 20) E (by omega) dX8_best_13 (by decide) h6 ?_
      refine k_aloadn (pc := 20) E 0 dX8_best_20 rfl rfl ?_
      refine k_getf (pc := 21) (q0 := 0) (f := 3) (v := .ref (a 5)) E inX8 rfl rfl (by decide) wm_275 rfl rfl dX8_best_21 ?_
      refine k_aloadn (pc := 24) E 0 dX8_best_24 rfl rfl ?_
      refine k_getf (pc := 25) (q0 := 0) (f := 2) (v := .ref (a 3)) E inX8 rfl rfl (by decide) wm_274 rfl rfl dX8_best_25 ?_
      refine k_getf (pc := 28) (q0 := 3) (f := 0) (v := .ref (a 4)) E inX4 rfl rfl (by decide) wm_149 rfl rfl dX8_best_28 ?_
      refine k_getfI (pc := 31) (q0 := 4) (f := 4) (k := 61) E inX6 rfl rfl (by decide) wm_116 rfl rfl rfl dX8_best_31 (fun hr7 => ?_)
      have hi8 := hpre10 0
      refine k_mr (fun hm_s0 => ?_)
      refine k_callV (pc := 34) (np := 1) (As := [gI (s0 61 0)]) (st := []) (q0 := 5) E (c_X2_from l D a cI cJ cS cT s0 (s0 61 0) (by omega) hKM_s0 hWY_s0 (by first | assumption | omega)) wm_566 wm_7 wm_563 wm_564 wm_565 (by decide +kernel) rfl rfl ⟨by decide, by decide⟩ rfl (Nat.le_of_ble_eq_true rfl) dX8_best_34 (fun r10 s11 hs11 hr9 => ?_)
      replace hT := gby hT hs11
      have hp12 := f_X2_from_p (s0 61 0) s0 (by omega) hm_s0 hKM_s0 hWY_s0 (by first | assumption | omega) r10 s11 hs11
      obtain ⟨hfc_s11, hm_s11, hp13, hKM_s11, hWY_s11⟩ := hp12
      have hf_s11 : fr [32, 36, 37, 38, 39, 42, 64, 68, 69, 70] s0 s11 := hf_s0.call (by decide) hfc_s11
      have hLEA_s11 : LEA s11 := LEA_fr hLEA_s0 (fun k hk => hfc_s11 k (dj (by decide) k hk))
      have hKF_s11 : KF s11 := KF_fr hKF_s0 (fun k hk => hfc_s11 k (dj (by decide) k hk))
      have hKC_s11 : KC s11 := KC_fr hKC_s0 (fun k hk => hfc_s11 k (dj (by decide) k hk))
      have hKT_s11 : KT s11 := KT_fr hKT_s0 (fun k hk => hfc_s11 k (dj (by decide) k hk))
      refine k_st (st' := []) rfl ?_
      refine k_aloadn (pc := 37) E 0 dX8_best_37 rfl rfl ?_
      refine k_getf (pc := 38) (q0 := 0) (f := 4) (v := .ref (a 6)) E inX8 rfl rfl (by decide) wm_276 rfl rfl dX8_best_38 ?_
      refine k_mr (fun hm_s11 => ?_)
      refine k_callV (pc := 41) (np := 0) (As := []) (st := []) (q0 := 6) E (c_X1_begin l D a cI cJ cS cT s11  hLEA_s11) wm_610 wm_8 wm_607 wm_608 wm_609 (by decide +kernel) rfl rfl ⟨by decide, by decide⟩ rfl (Nat.le_of_ble_eq_true rfl) dX8_best_41 (fun r15 s16 hs16 hr14 => ?_)
      replace hT := gby hT hs16
      have hp17 := f_X1_begin_p  s11  hm_s11 hLEA_s11 r15 s16 hs16
      obtain ⟨hfc_s16, hm_s16, hp18, hLEA_s16⟩ := hp17
      have hf_s16 : fr [32, 36, 37, 38, 39, 42, 64, 68, 69, 70] s0 s16 := hf_s11.call (by decide) hfc_s16
      have hKM_s16 : KM s16 := KM_fr hKM_s11 (fun k hk => hfc_s16 k (dj (by decide) k hk))
      have hWY_s16 : WY s16 := WY_fr hWY_s11 (fun k hk => hfc_s16 k (dj (by decide) k hk))
      have hKF_s16 : KF s16 := KF_fr hKF_s11 (fun k hk => hfc_s16 k (dj (by decide) k hk))
      have hKC_s16 : KC s16 := KC_fr hKC_s11 (fun k hk => hfc_s16 k (dj (by decide) k hk))
      have hKT_s16 : KT s16 := KT_fr hKT_s11 (fun k hk => hfc_s16 k (dj (by decide) k hk))
      refine k_st (st' := []) rfl ?_
      refine k_aloadn (pc := 44) E 0 dX8_best_44 rfl rfl ?_
      refine k_getf (pc := 45) (q0 := 0) (f := 4) (v := .ref (a 6)) E inX8 rfl rfl (by decide) wm_276 rfl rfl dX8_best_45 ?_
      refine k_iloadn (pc := 48) E 1 dX8_best_48 rfl rfl ?_
      refine k_mr (fun hm_s16 => ?_)
      refine k_callV (pc := 49) (np := 1) (As := [gI x0]) (st := []) (q0 := 6) E (c_X1_trySizes l D a cI cJ cS cT s16 x0 (by omega) (CD_fr hpre0 (fun k hk => hf_s16 k (dj (by decide) k hk))) (BG_fr hpre1 (fun k hk => hf_s16 k (dj (by decide) k hk))) (LA_fr hpre2 (fun k hk => hf_s16 k (dj (by decide) k hk))) (MOx_fr hpre3 (fun k hk => hf_s16 k (dj (by decide) k hk))) hKF_s16 hKC_s16 hKT_s16 hKM_s16 hWY_s16 hLEA_s16 (by first | assumption | omega)) wm_615 wm_8 wm_612 wm_613 wm_614 (by decide +kernel) rfl rfl ⟨by decide, by decide⟩ rfl (Nat.le_of_ble_eq_true rfl) dX8_best_49 (fun r20 s21 hs21 hr19 => ?_)
      replace hT := gby hT hs21
      have hp22 := f_X1_trySizes_p x0 s16 (by omega) hm_s16 (CD_fr hpre0 (fun k hk => hf_s16 k (dj (by decide) k hk))) (BG_fr hpre1 (fun k hk => hf_s16 k (dj (by decide) k hk))) (LA_fr hpre2 (fun k hk => hf_s16 k (dj (by decide) k hk))) (MOx_fr hpre3 (fun k hk => hf_s16 k (dj (by decide) k hk))) hKF_s16 hKC_s16 hKT_s16 hKM_s16 hWY_s16 hLEA_s16 (by first | assumption | omega) r20 s21 hs21
      obtain ⟨hfc_s21, hm_s21, hp23, hKM_s21, hLEA_s21, hKF_s21, hKC_s21, hKT_s21⟩ := hp22
      have hf_s21 : fr [32, 36, 37, 38, 39, 42, 64, 68, 69, 70] s0 s21 := hf_s16.call (by decide) hfc_s21
      have hWY_s21 : WY s21 := WY_fr hWY_s16 (fun k hk => hfc_s21 k (dj (by decide) k hk))
      refine k_st (st' := []) rfl ?_
      refine k_aloadn (pc := 52) E 0 dX8_best_52 rfl rfl ?_
      refine k_getf (pc := 53) (q0 := 0) (f := 4) (v := .ref (a 6)) E inX8 rfl rfl (by decide) wm_276 rfl rfl dX8_best_53 ?_
      refine k_iloadn (pc := 56) E 2 dX8_best_56 rfl rfl ?_
      refine k_callV (pc := 57) (np := 1) (As := [gI x1]) (st := []) (q0 := 6) E (c_X1_answer l D a cI cJ cS cT s21 x1 (by omega)) wm_628 wm_8 wm_625 wm_626 wm_627 (by decide +kernel) rfl rfl ⟨by decide, by decide⟩ rfl (Nat.le_of_ble_eq_true rfl) dX8_best_57 (ro_kk (fun hr24 => ?_))
      refine k_st (st' := [gL (f_X1_answer x1 s21)]) rfl ?_
      exact k_rho hT (k_lret (pc := 60) E dX8_best_60 (by omega))
    · replace hT := hT.trans (if_neg h6)
      refine k_if_eq_f (pc := 13) (tgt := 20) E (by omega) dX8_best_13 (by decide) h6 ?_
      refine k_ldc2 (pc := 16) (n := (-4611686018427387904)) E dX8_best_16 wm_562 (by decide) ?_
      exact k_rho hT (k_lret (pc := 19) E dX8_best_19 (by omega))
  · replace hT := hT.trans (if_neg h3)
    refine k_if_ne_t (pc := 5) (tgt := 16) E (by omega) dX8_best_5 (by decide) h3 ?_
    refine k_ldc2 (pc := 16) (n := (-4611686018427387904)) E dX8_best_16 wm_562 (by decide) ?_
    exact k_rho hT (k_lret (pc := 19) E dX8_best_19 (by omega))

def w_X8_every_38 (c1 : Int) : Nat → Int → gMem → Int × gMem
  | 0, v16, s17 => (v16, s17)
  | n18 + 1, v16, s17 => (if 16 < v16 then (v16, s17) else gb (f_X2_meanBy (f_X8_gapsEvery v16) s17) (fun r23 s24 => gb (f_X1_consider v16 r23 s24) (fun r29 s30 => (w_X8_every_38 c1 n18 (v16 + 1) s30))))
theorem w_X8_every_38_s (c1 : Int) (n18 : Nat) (v16 : Int) (s17 : gMem) : w_X8_every_38 c1 (n18 + 1) v16 s17 = (if 16 < v16 then (v16, s17) else gb (f_X2_meanBy (f_X8_gapsEvery v16) s17) (fun r23 s24 => gb (f_X1_consider v16 r23 s24) (fun r29 s30 => (w_X8_every_38 c1 n18 (v16 + 1) s30)))) := rfl
def f_X8_every (x0 : Int) (s0 : gMem) : gRes := (if (f_X8_outside x0 2) = 0 then gb (f_X2_from (s0 61 0) s0) (fun r7 s8 => gb (f_X1_begin  s8) (fun r12 s13 => (gl2 (w_X8_every_38 x0 17 2 s13) (fun v57 s58 => ((f_X1_answer x0 s58), s58))))) else ((-4611686018427387904), s0))
theorem f_X8_every_e (x0 : Int) (s0 : gMem) : f_X8_every x0 s0 = (if (f_X8_outside x0 2) = 0 then gb (f_X2_from (s0 61 0) s0) (fun r7 s8 => gb (f_X1_begin  s8) (fun r12 s13 => (gl2 (w_X8_every_38 x0 17 2 s13) (fun v57 s58 => ((f_X1_answer x0 s58), s58))))) else ((-4611686018427387904), s0)) := rfl
set_option maxRecDepth 100000 in
set_option maxHeartbeats 4000000 in
theorem f_X8_every_p (x0 : Int) (s0 : gMem) (hx0 : in32 x0) (hm_s0 : gMR lgX s0) (hpre0 : CD s0) (hpre1 : BG s0) (hpre2 : LA s0) (hpre3 : MOx s0) (hpre4 : KF s0) (hpre5 : KC s0) (hpre6 : KT s0) (hpre7 : KM s0) (hpre8 : WY s0) (hpre9 : LEA s0) (hpre10 : EN s0) (rZ : Int) (sZ : gMem) (hres : f_X8_every x0 s0 = (rZ, sZ)) : (fr [32, 36, 37, 38, 39, 42, 64, 68, 69, 70] s0 sZ) ∧ (gMR lgX sZ) ∧ (in64 rZ) ∧ (KM sZ) ∧ (WY sZ) ∧ (LEA sZ) ∧ (KF sZ) ∧ (KC sZ) ∧ (KT sZ) := by
  have hT := f_X8_every_e x0 s0
  have hf_s0 : fr [32, 36, 37, 38, 39, 42, 64, 68, 69, 70] s0 s0 := fr.rf _ _
  have hKM_s0 := hpre7
  have hWY_s0 := hpre8
  have hLEA_s0 := hpre9
  have hKF_s0 := hpre4
  have hKC_s0 := hpre5
  have hKT_s0 := hpre6
  have hp2 := f_X8_outside_p x0 2 (by omega) (by omega) 
  by_cases h3 : (f_X8_outside x0 2) = 0
  · replace hT := hT.trans (if_pos h3)
    have hr4 := (hm_s0 61 0).1 rfl
    have hi5 := hpre10 0
    obtain ⟨r7, s8, hs8⟩ : ∃ rr ss, (f_X2_from (s0 61 0) s0) = (rr, ss) := ⟨_, _, rfl⟩
    replace hT := gby hT hs8
    have hp9 := f_X2_from_p (s0 61 0) s0 (by omega) hm_s0 hKM_s0 hWY_s0 (by first | assumption | omega) r7 s8 hs8
    obtain ⟨hfc_s8, hm_s8, hp10, hKM_s8, hWY_s8⟩ := hp9
    have hf_s8 : fr [32, 36, 37, 38, 39, 42, 64, 68, 69, 70] s0 s8 := hf_s0.call (by decide) hfc_s8
    have hLEA_s8 : LEA s8 := LEA_fr hLEA_s0 (fun k hk => hfc_s8 k (dj (by decide) k hk))
    have hKF_s8 : KF s8 := KF_fr hKF_s0 (fun k hk => hfc_s8 k (dj (by decide) k hk))
    have hKC_s8 : KC s8 := KC_fr hKC_s0 (fun k hk => hfc_s8 k (dj (by decide) k hk))
    have hKT_s8 : KT s8 := KT_fr hKT_s0 (fun k hk => hfc_s8 k (dj (by decide) k hk))
    obtain ⟨r12, s13, hs13⟩ : ∃ rr ss, (f_X1_begin  s8) = (rr, ss) := ⟨_, _, rfl⟩
    replace hT := gby hT hs13
    have hp14 := f_X1_begin_p  s8  hm_s8 hLEA_s8 r12 s13 hs13
    obtain ⟨hfc_s13, hm_s13, hp15, hLEA_s13⟩ := hp14
    have hf_s13 : fr [32, 36, 37, 38, 39, 42, 64, 68, 69, 70] s0 s13 := hf_s8.call (by decide) hfc_s13
    have hKM_s13 : KM s13 := KM_fr hKM_s8 (fun k hk => hfc_s13 k (dj (by decide) k hk))
    have hWY_s13 : WY s13 := WY_fr hWY_s8 (fun k hk => hfc_s13 k (dj (by decide) k hk))
    have hKF_s13 : KF s13 := KF_fr hKF_s8 (fun k hk => hfc_s13 k (dj (by decide) k hk))
    have hKC_s13 : KC s13 := KC_fr hKC_s8 (fun k hk => hfc_s13 k (dj (by decide) k hk))
    have hKT_s13 : KT s13 := KT_fr hKT_s8 (fun k hk => hfc_s13 k (dj (by decide) k hk))
    have L35 : ∀ (n36 : Nat) (v33 : Int) (s34 : gMem), ((in32 v33) ∧ (fr [32, 36, 37, 38, 39, 42, 64, 68, 69, 70] s0 s34) ∧ (gMR lgX s34) ∧ (KM s34) ∧ (WY s34) ∧ (LEA s34) ∧ (KF s34) ∧ (KC s34) ∧ (KT s34) ∧ (2 ≤ v33 ∧ v33 ≤ 17)) → 17 - v33 < (n36 : Int) → (∀ (w37 : Int) (s38 : gMem), (w_X8_every_38 x0 n36 v33 s34) = (w37, s38) → ((in32 w37) ∧ (fr [32, 36, 37, 38, 39, 42, 64, 68, 69, 70] s0 s38) ∧ (gMR lgX s38) ∧ (KM s38) ∧ (WY s38) ∧ (LEA s38) ∧ (KF s38) ∧ (KC s38) ∧ (KT s38) ∧ (2 ≤ w37 ∧ w37 ≤ 17)) → (fr [32, 36, 37, 38, 39, 42, 64, 68, 69, 70] s0 sZ) ∧ (gMR lgX sZ) ∧ (in64 rZ) ∧ (KM sZ) ∧ (WY sZ) ∧ (LEA sZ) ∧ (KF sZ) ∧ (KC sZ) ∧ (KT sZ)) → (fr [32, 36, 37, 38, 39, 42, 64, 68, 69, 70] s0 sZ) ∧ (gMR lgX sZ) ∧ (in64 rZ) ∧ (KM sZ) ∧ (WY sZ) ∧ (LEA sZ) ∧ (KF sZ) ∧ (KC sZ) ∧ (KT sZ) := by
      intro n36; induction n36 with
      | zero =>
        intro v33 s34 hq hm hk
        exfalso
        obtain ⟨hq53, hf_s34, hm_s34, hKM_s34, hWY_s34, hLEA_s34, hKF_s34, hKC_s34, hKT_s34, hq54⟩ := hq
        omega
      | succ n36 ih =>
        intro v33 s34 hq hm hk
        obtain ⟨hq55, hf_s34, hm_s34, hKM_s34, hWY_s34, hLEA_s34, hKF_s34, hKC_s34, hKT_s34, hq56⟩ := hq
        have hT := w_X8_every_38_s x0 n36 v33 s34
        by_cases h39 : 16 < v33
        · replace hT := hT.trans (if_pos h39)
          exact hk v33 s34 hT ⟨(by omega), hf_s34, hm_s34, hKM_s34, hWY_s34, hLEA_s34, hKF_s34, hKC_s34, hKT_s34, (by first | assumption | omega)⟩
        · replace hT := hT.trans (if_neg h39)
          have hp41 := f_X8_gapsEvery_p v33 (by omega) (by first | assumption | omega)
          obtain ⟨r43, s44, hs44⟩ : ∃ rr ss, (f_X2_meanBy (f_X8_gapsEvery v33) s34) = (rr, ss) := ⟨_, _, rfl⟩
          replace hT := gby hT hs44
          have hp45 := f_X2_meanBy_p (f_X8_gapsEvery v33) s34 (by omega) hm_s34 (CD_fr hpre0 (fun k hk => hf_s34 k (dj (by decide) k hk))) (BG_fr hpre1 (fun k hk => hf_s34 k (dj (by decide) k hk))) (LA_fr hpre2 (fun k hk => hf_s34 k (dj (by decide) k hk))) (MOx_fr hpre3 (fun k hk => hf_s34 k (dj (by decide) k hk))) hKF_s34 hKC_s34 hKT_s34 hKM_s34 hWY_s34 r43 s44 hs44
          obtain ⟨hfc_s44, hm_s44, hp46, hKM_s44, hKF_s44, hKC_s44, hKT_s44, hp47⟩ := hp45
          have hf_s44 : fr [32, 36, 37, 38, 39, 42, 64, 68, 69, 70] s0 s44 := hf_s34.call (by decide) hfc_s44
          have hWY_s44 : WY s44 := WY_fr hWY_s34 (fun k hk => hfc_s44 k (dj (by decide) k hk))
          have hLEA_s44 : LEA s44 := LEA_fr hLEA_s34 (fun k hk => hfc_s44 k (dj (by decide) k hk))
          obtain ⟨r49, s50, hs50⟩ : ∃ rr ss, (f_X1_consider v33 r43 s44) = (rr, ss) := ⟨_, _, rfl⟩
          replace hT := gby hT hs50
          have hp51 := f_X1_consider_p v33 r43 s44 (by omega) (by omega) hm_s44 hLEA_s44 (by first | assumption | omega) r49 s50 hs50
          obtain ⟨hfc_s50, hm_s50, hp52, hLEA_s50⟩ := hp51
          have hf_s50 : fr [32, 36, 37, 38, 39, 42, 64, 68, 69, 70] s0 s50 := hf_s44.call (by decide) hfc_s50
          have hKM_s50 : KM s50 := KM_fr hKM_s44 (fun k hk => hfc_s50 k (dj (by decide) k hk))
          have hWY_s50 : WY s50 := WY_fr hWY_s44 (fun k hk => hfc_s50 k (dj (by decide) k hk))
          have hKF_s50 : KF s50 := KF_fr hKF_s44 (fun k hk => hfc_s50 k (dj (by decide) k hk))
          have hKC_s50 : KC s50 := KC_fr hKC_s44 (fun k hk => hfc_s50 k (dj (by decide) k hk))
          have hKT_s50 : KT s50 := KT_fr hKT_s44 (fun k hk => hfc_s50 k (dj (by decide) k hk))
          exact ih (v33 + 1) s50 ⟨(by omega), hf_s50, hm_s50, hKM_s50, hWY_s50, hLEA_s50, hKF_s50, hKC_s50, hKT_s50, (by first | assumption | omega)⟩ (by omega) (fun w37 s38 hw hi => hk w37 s38 (hT.trans hw) hi)
    refine L35 17 2 s13 ⟨(by omega), hf_s13, hm_s13, hKM_s13, hWY_s13, hLEA_s13, hKF_s13, hKC_s13, hKT_s13, (by first | assumption | omega)⟩ (by omega) (fun v57 s58 hw hq => ?_)
    obtain ⟨hq59, hf_s58, hm_s58, hKM_s58, hWY_s58, hLEA_s58, hKF_s58, hKC_s58, hKT_s58, hq60⟩ := hq
    replace hT := gl2y hT hw
    have hp62 := f_X1_answer_p x0 s58 (by omega) hm_s58 
    obtain ⟨rfl, rfl⟩ := Prod.mk.inj (hT.symm.trans hres)
    exact ⟨hf_s58, hm_s58, (by omega), hKM_s58, hWY_s58, hLEA_s58, hKF_s58, hKC_s58, hKT_s58⟩
  · replace hT := hT.trans (if_neg h3)
    obtain ⟨rfl, rfl⟩ := Prod.mk.inj (hT.symm.trans hres)
    exact ⟨hf_s0, hm_s0, (by omega), hKM_s0, hWY_s0, hLEA_s0, hKF_s0, hKC_s0, hKT_s0⟩
set_option maxRecDepth 100000 in
set_option maxHeartbeats 4000000 in
theorem c_X8_every (l : Launch) (D : va_G) (a : Nat → Nat) (cI cJ cS cT : ClassId) (s0 : gMem) (x0 : Int) (hx0 : in32 x0) (hpre0 : CD s0) (hpre1 : BG s0) (hpre2 : LA s0) (hpre3 : MOx s0) (hpre4 : KF s0) (hpre5 : KC s0) (hpre6 : KT s0) (hpre7 : KM s0) (hpre8 : WY s0) (hpre9 : LEA s0) (hpre10 : EN s0) : gC l yX8_every cX8_every 3 (some .long) 6 384 D vwCl (gT cI cJ cS cT) (wdX a cI cJ cS cT) lgX kJ in64 [.ref (a 0), gI x0] s0 (f_X8_every x0 s0) := by
  refine gC_of (by decide +kernel) (hwdX a cI cJ cS cT) (Nat.le_of_ble_eq_true rfl) ?_
  intro A p e R s m args below meth c hR E
  subst hR
  have hT := f_X8_every_e x0 s0
  have hf_s0 : fr [32, 36, 37, 38, 39, 42, 64, 68, 69, 70] s0 s0 := fr.rf _ _
  refine k_lv0 (lv' := [(0, .ref (a 0)), (1, gI x0)]) rfl ?_
  refine k_mr (fun hm_s0 => ?_)
  have hKM_s0 := hpre7
  have hWY_s0 := hpre8
  have hLEA_s0 := hpre9
  have hKF_s0 := hpre4
  have hKC_s0 := hpre5
  have hKT_s0 := hpre6
  refine k_iloadn (pc := 0) E 1 dX8_every_0 rfl rfl ?_
  refine k_iconst (pc := 1) E dX8_every_1 ?_
  refine k_mr (fun hm_s0 => ?_)
  refine k_callS (pc := 2) (np := 2) (As := [gI x0, gI 2]) (st := []) E (c_X8_outside l D a cI cJ cS cT s0 x0 2 (by omega) (by omega)) wm_310 wm_1 wm_308 wm_309 (by decide +kernel) ⟨by decide, by decide⟩ rfl (Nat.le_of_ble_eq_true rfl) dX8_every_2 (ro_kk (fun hr1 => ?_))
  have hp2 := f_X8_outside_p x0 2 (by omega) (by omega) 
  refine k_st (st' := [gI (f_X8_outside x0 2)]) rfl ?_
  by_cases h3 : (f_X8_outside x0 2) = 0
  · replace hT := hT.trans (if_pos h3)
    refine k_if_eq_t (pc := 5) (tgt := 12) E (by omega) dX8_every_5 (by decide) h3 ?_
    refine k_aloadn (pc := 12) E 0 dX8_every_12 rfl rfl ?_
    refine k_getf (pc := 13) (q0 := 0) (f := 3) (v := .ref (a 5)) E inX8 rfl rfl (by decide) wm_275 rfl rfl dX8_every_13 ?_
    refine k_aloadn (pc := 16) E 0 dX8_every_16 rfl rfl ?_
    refine k_getf (pc := 17) (q0 := 0) (f := 2) (v := .ref (a 3)) E inX8 rfl rfl (by decide) wm_274 rfl rfl dX8_every_17 ?_
    refine k_getf (pc := 20) (q0 := 3) (f := 0) (v := .ref (a 4)) E inX4 rfl rfl (by decide) wm_149 rfl rfl dX8_every_20 ?_
    refine k_getfI (pc := 23) (q0 := 4) (f := 4) (k := 61) E inX6 rfl rfl (by decide) wm_116 rfl rfl rfl dX8_every_23 (fun hr4 => ?_)
    have hi5 := hpre10 0
    refine k_mr (fun hm_s0 => ?_)
    refine k_callV (pc := 26) (np := 1) (As := [gI (s0 61 0)]) (st := []) (q0 := 5) E (c_X2_from l D a cI cJ cS cT s0 (s0 61 0) (by omega) hKM_s0 hWY_s0 (by first | assumption | omega)) wm_566 wm_7 wm_563 wm_564 wm_565 (by decide +kernel) rfl rfl ⟨by decide, by decide⟩ rfl (Nat.le_of_ble_eq_true rfl) dX8_every_26 (fun r7 s8 hs8 hr6 => ?_)
    replace hT := gby hT hs8
    have hp9 := f_X2_from_p (s0 61 0) s0 (by omega) hm_s0 hKM_s0 hWY_s0 (by first | assumption | omega) r7 s8 hs8
    obtain ⟨hfc_s8, hm_s8, hp10, hKM_s8, hWY_s8⟩ := hp9
    have hf_s8 : fr [32, 36, 37, 38, 39, 42, 64, 68, 69, 70] s0 s8 := hf_s0.call (by decide) hfc_s8
    have hLEA_s8 : LEA s8 := LEA_fr hLEA_s0 (fun k hk => hfc_s8 k (dj (by decide) k hk))
    have hKF_s8 : KF s8 := KF_fr hKF_s0 (fun k hk => hfc_s8 k (dj (by decide) k hk))
    have hKC_s8 : KC s8 := KC_fr hKC_s0 (fun k hk => hfc_s8 k (dj (by decide) k hk))
    have hKT_s8 : KT s8 := KT_fr hKT_s0 (fun k hk => hfc_s8 k (dj (by decide) k hk))
    refine k_st (st' := []) rfl ?_
    refine k_aloadn (pc := 29) E 0 dX8_every_29 rfl rfl ?_
    refine k_getf (pc := 30) (q0 := 0) (f := 4) (v := .ref (a 6)) E inX8 rfl rfl (by decide) wm_276 rfl rfl dX8_every_30 ?_
    refine k_mr (fun hm_s8 => ?_)
    refine k_callV (pc := 33) (np := 0) (As := []) (st := []) (q0 := 6) E (c_X1_begin l D a cI cJ cS cT s8  hLEA_s8) wm_610 wm_8 wm_607 wm_608 wm_609 (by decide +kernel) rfl rfl ⟨by decide, by decide⟩ rfl (Nat.le_of_ble_eq_true rfl) dX8_every_33 (fun r12 s13 hs13 hr11 => ?_)
    replace hT := gby hT hs13
    have hp14 := f_X1_begin_p  s8  hm_s8 hLEA_s8 r12 s13 hs13
    obtain ⟨hfc_s13, hm_s13, hp15, hLEA_s13⟩ := hp14
    have hf_s13 : fr [32, 36, 37, 38, 39, 42, 64, 68, 69, 70] s0 s13 := hf_s8.call (by decide) hfc_s13
    have hKM_s13 : KM s13 := KM_fr hKM_s8 (fun k hk => hfc_s13 k (dj (by decide) k hk))
    have hWY_s13 : WY s13 := WY_fr hWY_s8 (fun k hk => hfc_s13 k (dj (by decide) k hk))
    have hKF_s13 : KF s13 := KF_fr hKF_s8 (fun k hk => hfc_s13 k (dj (by decide) k hk))
    have hKC_s13 : KC s13 := KC_fr hKC_s8 (fun k hk => hfc_s13 k (dj (by decide) k hk))
    have hKT_s13 : KT s13 := KT_fr hKT_s8 (fun k hk => hfc_s13 k (dj (by decide) k hk))
    refine k_st (st' := []) rfl ?_
    refine k_iconst (pc := 36) E dX8_every_36 ?_
    refine k_istoren (pc := 37) (lv' := [(2, gI 2), (0, .ref (a 0)), (1, gI x0)]) E dX8_every_37 rfl (by decide) rfl ?_
    have L35 : ∀ (n36 : Nat) (v33 : Int) (s34 : gMem), ((in32 v33) ∧ (fr [32, 36, 37, 38, 39, 42, 64, 68, 69, 70] s0 s34) ∧ (KM s34) ∧ (WY s34) ∧ (LEA s34) ∧ (KF s34) ∧ (KC s34) ∧ (KT s34) ∧ (2 ≤ v33 ∧ v33 ≤ 17)) → 17 - v33 < (n36 : Int) → (∀ (w37 : Int) (s38 : gMem), (w_X8_every_38 x0 n36 v33 s34) = (w37, s38) → ((in32 w37) ∧ (fr [32, 36, 37, 38, 39, 42, 64, 68, 69, 70] s0 s38) ∧ (KM s38) ∧ (WY s38) ∧ (LEA s38) ∧ (KF s38) ∧ (KC s38) ∧ (KT s38) ∧ (2 ≤ w37 ∧ w37 ≤ 17)) → gK D vwCl (wdX a cI cJ cS cT) lgX A p l e { frames := 6, cells := 0, slots := 0, locals := 384 } s m args below meth c 3 (gQQ D vwCl (wdX a cI cJ cS cT) lgX A kJ in64 below args s) (f_X8_every x0 s0) s38 69 [(0, .ref (a 0)), (1, gI x0)] []) → gK D vwCl (wdX a cI cJ cS cT) lgX A p l e { frames := 6, cells := 0, slots := 0, locals := 384 } s m args below meth c 3 (gQQ D vwCl (wdX a cI cJ cS cT) lgX A kJ in64 below args s) (f_X8_every x0 s0) s34 38 [(0, .ref (a 0)), (1, gI x0), (2, gI v33)] [] := by
      intro n36; induction n36 with
      | zero =>
        intro v33 s34 hq hm hk
        exfalso
        obtain ⟨hq53, hf_s34, hKM_s34, hWY_s34, hLEA_s34, hKF_s34, hKC_s34, hKT_s34, hq54⟩ := hq
        omega
      | succ n36 ih =>
        intro v33 s34 hq hm hk
        obtain ⟨hq55, hf_s34, hKM_s34, hWY_s34, hLEA_s34, hKF_s34, hKC_s34, hKT_s34, hq56⟩ := hq
        have hT := w_X8_every_38_s x0 n36 v33 s34
        refine k_iloadn (pc := 38) E 2 dX8_every_38 rfl rfl ?_
        refine k_bipush (pc := 39) E dX8_every_39 (by decide) ?_
        by_cases h39 : 16 < v33
        · replace hT := hT.trans (if_pos h39)
          refine k_icmp_gt_t (pc := 41) (tgt := 69) E (by omega) (by omega) dX8_every_41 (by decide) h39 ?_
          refine k_lv (lv' := [(0, .ref (a 0)), (1, gI x0)]) [0, 1] rfl ?_
          exact hk v33 s34 hT ⟨(by omega), hf_s34, hKM_s34, hWY_s34, hLEA_s34, hKF_s34, hKC_s34, hKT_s34, (by first | assumption | omega)⟩
        · replace hT := hT.trans (if_neg h39)
          refine k_icmp_gt_f (pc := 41) (tgt := 69) E (by omega) (by omega) dX8_every_41 (by decide) h39 ?_
          refine k_aloadn (pc := 44) E 0 dX8_every_44 rfl rfl ?_
          refine k_getf (pc := 45) (q0 := 0) (f := 4) (v := .ref (a 6)) E inX8 rfl rfl (by decide) wm_276 rfl rfl dX8_every_45 ?_
          refine k_iloadn (pc := 48) E 2 dX8_every_48 rfl rfl ?_
          refine k_aloadn (pc := 49) E 0 dX8_every_49 rfl rfl ?_
          refine k_getf (pc := 50) (q0 := 0) (f := 3) (v := .ref (a 5)) E inX8 rfl rfl (by decide) wm_275 rfl rfl dX8_every_50 ?_
          refine k_iloadn (pc := 53) E 2 dX8_every_53 rfl rfl ?_
          refine k_callS (pc := 54) (np := 1) (As := [gI v33]) (st := [.ref (a 5), gI v33, .ref (a 6)]) E (c_X8_gapsEvery l D a cI cJ cS cT s34 v33 (by omega) (by first | assumption | omega)) wm_635 wm_1 wm_633 wm_634 (by decide +kernel) ⟨by decide, by decide⟩ rfl (Nat.le_of_ble_eq_true rfl) dX8_every_54 (ro_kk (fun hr40 => ?_))
          refine k_st (st' := [gI (f_X8_gapsEvery v33), .ref (a 5), gI v33, .ref (a 6)]) rfl ?_
          refine k_mr (fun hm_s34 => ?_)
          refine k_callV (pc := 57) (np := 1) (As := [gI (f_X8_gapsEvery v33)]) (st := [gI v33, .ref (a 6)]) (q0 := 5) E (c_X2_meanBy l D a cI cJ cS cT s34 (f_X8_gapsEvery v33) (by omega) (CD_fr hpre0 (fun k hk => hf_s34 k (dj (by decide) k hk))) (BG_fr hpre1 (fun k hk => hf_s34 k (dj (by decide) k hk))) (LA_fr hpre2 (fun k hk => hf_s34 k (dj (by decide) k hk))) (MOx_fr hpre3 (fun k hk => hf_s34 k (dj (by decide) k hk))) hKF_s34 hKC_s34 hKT_s34 hKM_s34 hWY_s34) wm_574 wm_7 wm_571 wm_572 wm_573 (by decide +kernel) rfl rfl ⟨by decide, by decide⟩ rfl (Nat.le_of_ble_eq_true rfl) dX8_every_57 (fun r43 s44 hs44 hr42 => ?_)
          replace hT := gby hT hs44
          have hp45 := f_X2_meanBy_p (f_X8_gapsEvery v33) s34 (by omega) hm_s34 (CD_fr hpre0 (fun k hk => hf_s34 k (dj (by decide) k hk))) (BG_fr hpre1 (fun k hk => hf_s34 k (dj (by decide) k hk))) (LA_fr hpre2 (fun k hk => hf_s34 k (dj (by decide) k hk))) (MOx_fr hpre3 (fun k hk => hf_s34 k (dj (by decide) k hk))) hKF_s34 hKC_s34 hKT_s34 hKM_s34 hWY_s34 r43 s44 hs44
          obtain ⟨hfc_s44, hm_s44, hp46, hKM_s44, hKF_s44, hKC_s44, hKT_s44, hp47⟩ := hp45
          have hf_s44 : fr [32, 36, 37, 38, 39, 42, 64, 68, 69, 70] s0 s44 := hf_s34.call (by decide) hfc_s44
          have hWY_s44 : WY s44 := WY_fr hWY_s34 (fun k hk => hfc_s44 k (dj (by decide) k hk))
          have hLEA_s44 : LEA s44 := LEA_fr hLEA_s34 (fun k hk => hfc_s44 k (dj (by decide) k hk))
          refine k_st (st' := [gL r43, gI v33, .ref (a 6)]) rfl ?_
          refine k_mr (fun hm_s44 => ?_)
          refine k_callV (pc := 60) (np := 2) (As := [gI v33, gL r43]) (st := []) (q0 := 6) E (c_X1_consider l D a cI cJ cS cT s44 v33 r43 (by omega) (by omega) hLEA_s44 (by first | assumption | omega)) wm_624 wm_8 wm_636 wm_622 wm_623 (by decide +kernel) rfl rfl ⟨by decide, by decide⟩ rfl (Nat.le_of_ble_eq_true rfl) dX8_every_60 (fun r49 s50 hs50 hr48 => ?_)
          replace hT := gby hT hs50
          have hp51 := f_X1_consider_p v33 r43 s44 (by omega) (by omega) hm_s44 hLEA_s44 (by first | assumption | omega) r49 s50 hs50
          obtain ⟨hfc_s50, hm_s50, hp52, hLEA_s50⟩ := hp51
          have hf_s50 : fr [32, 36, 37, 38, 39, 42, 64, 68, 69, 70] s0 s50 := hf_s44.call (by decide) hfc_s50
          have hKM_s50 : KM s50 := KM_fr hKM_s44 (fun k hk => hfc_s50 k (dj (by decide) k hk))
          have hWY_s50 : WY s50 := WY_fr hWY_s44 (fun k hk => hfc_s50 k (dj (by decide) k hk))
          have hKF_s50 : KF s50 := KF_fr hKF_s44 (fun k hk => hfc_s50 k (dj (by decide) k hk))
          have hKC_s50 : KC s50 := KC_fr hKC_s44 (fun k hk => hfc_s50 k (dj (by decide) k hk))
          have hKT_s50 : KT s50 := KT_fr hKT_s44 (fun k hk => hfc_s50 k (dj (by decide) k hk))
          refine k_st (st' := []) rfl ?_
          refine k_iinc (pc := 63) (lv' := [(2, gI (v33 + 1)), (0, .ref (a 0)), (1, gI x0)]) E 2 dX8_every_63 rfl (by decide) rfl ?_
          refine k_goto (pc := 66) (tgt := 38) E dX8_every_66 (by decide) ?_
          refine k_lv (lv' := [(0, .ref (a 0)), (1, gI x0), (2, gI (v33 + 1))]) [1, 2, 0] rfl ?_
          exact ih (v33 + 1) s50 ⟨(by omega), hf_s50, hKM_s50, hWY_s50, hLEA_s50, hKF_s50, hKC_s50, hKT_s50, (by first | assumption | omega)⟩ (by omega) (fun w37 s38 hw hi => hk w37 s38 (hT.trans hw) hi)
    refine k_lv (lv' := [(0, .ref (a 0)), (1, gI x0), (2, gI 2)]) [1, 2, 0] rfl ?_
    refine L35 17 2 s13 ⟨(by omega), hf_s13, hKM_s13, hWY_s13, hLEA_s13, hKF_s13, hKC_s13, hKT_s13, (by first | assumption | omega)⟩ (by omega) (fun v57 s58 hw hq => ?_)
    obtain ⟨hq59, hf_s58, hKM_s58, hWY_s58, hLEA_s58, hKF_s58, hKC_s58, hKT_s58, hq60⟩ := hq
    replace hT := gl2y hT hw
    refine k_aloadn (pc := 69) E 0 dX8_every_69 rfl rfl ?_
    refine k_getf (pc := 70) (q0 := 0) (f := 4) (v := .ref (a 6)) E inX8 rfl rfl (by decide) wm_276 rfl rfl dX8_every_70 ?_
    refine k_iloadn (pc := 73) E 1 dX8_every_73 rfl rfl ?_
    refine k_callV (pc := 74) (np := 1) (As := [gI x0]) (st := []) (q0 := 6) E (c_X1_answer l D a cI cJ cS cT s58 x0 (by omega)) wm_628 wm_8 wm_625 wm_626 wm_627 (by decide +kernel) rfl rfl ⟨by decide, by decide⟩ rfl (Nat.le_of_ble_eq_true rfl) dX8_every_74 (ro_kk (fun hr61 => ?_))
    refine k_st (st' := [gL (f_X1_answer x0 s58)]) rfl ?_
    exact k_rho hT (k_lret (pc := 77) E dX8_every_77 (by omega))
  · replace hT := hT.trans (if_neg h3)
    refine k_if_eq_f (pc := 5) (tgt := 12) E (by omega) dX8_every_5 (by decide) h3 ?_
    refine k_ldc2 (pc := 8) (n := (-4611686018427387904)) E dX8_every_8 wm_562 (by decide) ?_
    exact k_rho hT (k_lret (pc := 11) E dX8_every_11 (by omega))

def w_X8_which_21 (c1 : Int) : Nat → Int → gMem → Int × gMem
  | 0, v9, s10 => (v9, s10)
  | n11 + 1, v9, s10 => (if v9 < 3 then gb (f_X2_from v9 s10) (fun r14 s15 => gb (f_X2_meanBy (s15 59 0) s15) (fun r20 s21 => gb (f_X1_consider v9 r20 s21) (fun r26 s27 => (w_X8_which_21 c1 n11 (v9 + 1) s27)))) else (v9, s10))
theorem w_X8_which_21_s (c1 : Int) (n11 : Nat) (v9 : Int) (s10 : gMem) : w_X8_which_21 c1 (n11 + 1) v9 s10 = (if v9 < 3 then gb (f_X2_from v9 s10) (fun r14 s15 => gb (f_X2_meanBy (s15 59 0) s15) (fun r20 s21 => gb (f_X1_consider v9 r20 s21) (fun r26 s27 => (w_X8_which_21 c1 n11 (v9 + 1) s27)))) else (v9, s10)) := rfl
def f_X8_which (x0 : Int) (s0 : gMem) : gRes := (if (f_X8_outside x0 2) = 0 then gb (f_X1_begin  s0) (fun r5 s6 => (gl2 (w_X8_which_21 x0 5 0 s6) (fun v58 s59 => ((f_X1_answer x0 s59), s59)))) else ((-4611686018427387904), s0))
theorem f_X8_which_e (x0 : Int) (s0 : gMem) : f_X8_which x0 s0 = (if (f_X8_outside x0 2) = 0 then gb (f_X1_begin  s0) (fun r5 s6 => (gl2 (w_X8_which_21 x0 5 0 s6) (fun v58 s59 => ((f_X1_answer x0 s59), s59)))) else ((-4611686018427387904), s0)) := rfl
set_option maxRecDepth 100000 in
set_option maxHeartbeats 4000000 in
theorem f_X8_which_p (x0 : Int) (s0 : gMem) (hx0 : in32 x0) (hm_s0 : gMR lgX s0) (hpre0 : CD s0) (hpre1 : BG s0) (hpre2 : LA s0) (hpre3 : MOx s0) (hpre4 : KF s0) (hpre5 : KC s0) (hpre6 : KT s0) (hpre7 : KM s0) (hpre8 : WY s0) (hpre9 : LEA s0) (rZ : Int) (sZ : gMem) (hres : f_X8_which x0 s0 = (rZ, sZ)) : (fr [32, 36, 37, 38, 39, 42, 64, 68, 69, 70] s0 sZ) ∧ (gMR lgX sZ) ∧ (in64 rZ) ∧ (KM sZ) ∧ (WY sZ) ∧ (LEA sZ) ∧ (KF sZ) ∧ (KC sZ) ∧ (KT sZ) := by
  have hT := f_X8_which_e x0 s0
  have hf_s0 : fr [32, 36, 37, 38, 39, 42, 64, 68, 69, 70] s0 s0 := fr.rf _ _
  have hKM_s0 := hpre7
  have hWY_s0 := hpre8
  have hLEA_s0 := hpre9
  have hKF_s0 := hpre4
  have hKC_s0 := hpre5
  have hKT_s0 := hpre6
  have hp2 := f_X8_outside_p x0 2 (by omega) (by omega) 
  by_cases h3 : (f_X8_outside x0 2) = 0
  · replace hT := hT.trans (if_pos h3)
    obtain ⟨r5, s6, hs6⟩ : ∃ rr ss, (f_X1_begin  s0) = (rr, ss) := ⟨_, _, rfl⟩
    replace hT := gby hT hs6
    have hp7 := f_X1_begin_p  s0  hm_s0 hLEA_s0 r5 s6 hs6
    obtain ⟨hfc_s6, hm_s6, hp8, hLEA_s6⟩ := hp7
    have hf_s6 : fr [32, 36, 37, 38, 39, 42, 64, 68, 69, 70] s0 s6 := hf_s0.call (by decide) hfc_s6
    have hKM_s6 : KM s6 := KM_fr hKM_s0 (fun k hk => hfc_s6 k (dj (by decide) k hk))
    have hWY_s6 : WY s6 := WY_fr hWY_s0 (fun k hk => hfc_s6 k (dj (by decide) k hk))
    have hKF_s6 : KF s6 := KF_fr hKF_s0 (fun k hk => hfc_s6 k (dj (by decide) k hk))
    have hKC_s6 : KC s6 := KC_fr hKC_s0 (fun k hk => hfc_s6 k (dj (by decide) k hk))
    have hKT_s6 : KT s6 := KT_fr hKT_s0 (fun k hk => hfc_s6 k (dj (by decide) k hk))
    have L32 : ∀ (n33 : Nat) (v30 : Int) (s31 : gMem), ((in32 v30) ∧ (fr [32, 36, 37, 38, 39, 42, 64, 68, 69, 70] s0 s31) ∧ (gMR lgX s31) ∧ (KM s31) ∧ (WY s31) ∧ (LEA s31) ∧ (KF s31) ∧ (KC s31) ∧ (KT s31) ∧ (0 ≤ v30 ∧ v30 ≤ 3)) → 3 - v30 < (n33 : Int) → (∀ (w34 : Int) (s35 : gMem), (w_X8_which_21 x0 n33 v30 s31) = (w34, s35) → ((in32 w34) ∧ (fr [32, 36, 37, 38, 39, 42, 64, 68, 69, 70] s0 s35) ∧ (gMR lgX s35) ∧ (KM s35) ∧ (WY s35) ∧ (LEA s35) ∧ (KF s35) ∧ (KC s35) ∧ (KT s35) ∧ (0 ≤ w34 ∧ w34 ≤ 3)) → (fr [32, 36, 37, 38, 39, 42, 64, 68, 69, 70] s0 sZ) ∧ (gMR lgX sZ) ∧ (in64 rZ) ∧ (KM sZ) ∧ (WY sZ) ∧ (LEA sZ) ∧ (KF sZ) ∧ (KC sZ) ∧ (KT sZ)) → (fr [32, 36, 37, 38, 39, 42, 64, 68, 69, 70] s0 sZ) ∧ (gMR lgX sZ) ∧ (in64 rZ) ∧ (KM sZ) ∧ (WY sZ) ∧ (LEA sZ) ∧ (KF sZ) ∧ (KC sZ) ∧ (KT sZ) := by
      intro n33; induction n33 with
      | zero =>
        intro v30 s31 hq hm hk
        exfalso
        obtain ⟨hq54, hf_s31, hm_s31, hKM_s31, hWY_s31, hLEA_s31, hKF_s31, hKC_s31, hKT_s31, hq55⟩ := hq
        omega
      | succ n33 ih =>
        intro v30 s31 hq hm hk
        obtain ⟨hq56, hf_s31, hm_s31, hKM_s31, hWY_s31, hLEA_s31, hKF_s31, hKC_s31, hKT_s31, hq57⟩ := hq
        have hT := w_X8_which_21_s x0 n33 v30 s31
        by_cases h36 : v30 < 3
        · replace hT := hT.trans (if_pos h36)
          obtain ⟨r38, s39, hs39⟩ : ∃ rr ss, (f_X2_from v30 s31) = (rr, ss) := ⟨_, _, rfl⟩
          replace hT := gby hT hs39
          have hp40 := f_X2_from_p v30 s31 (by omega) hm_s31 hKM_s31 hWY_s31 (by first | assumption | omega) r38 s39 hs39
          obtain ⟨hfc_s39, hm_s39, hp41, hKM_s39, hWY_s39⟩ := hp40
          have hf_s39 : fr [32, 36, 37, 38, 39, 42, 64, 68, 69, 70] s0 s39 := hf_s31.call (by decide) hfc_s39
          have hLEA_s39 : LEA s39 := LEA_fr hLEA_s31 (fun k hk => hfc_s39 k (dj (by decide) k hk))
          have hKF_s39 : KF s39 := KF_fr hKF_s31 (fun k hk => hfc_s39 k (dj (by decide) k hk))
          have hKC_s39 : KC s39 := KC_fr hKC_s31 (fun k hk => hfc_s39 k (dj (by decide) k hk))
          have hKT_s39 : KT s39 := KT_fr hKT_s31 (fun k hk => hfc_s39 k (dj (by decide) k hk))
          have hr42 := (hm_s39 59 0).1 rfl
          obtain ⟨r44, s45, hs45⟩ : ∃ rr ss, (f_X2_meanBy (s39 59 0) s39) = (rr, ss) := ⟨_, _, rfl⟩
          replace hT := gby hT hs45
          have hp46 := f_X2_meanBy_p (s39 59 0) s39 (by omega) hm_s39 (CD_fr hpre0 (fun k hk => hf_s39 k (dj (by decide) k hk))) (BG_fr hpre1 (fun k hk => hf_s39 k (dj (by decide) k hk))) (LA_fr hpre2 (fun k hk => hf_s39 k (dj (by decide) k hk))) (MOx_fr hpre3 (fun k hk => hf_s39 k (dj (by decide) k hk))) hKF_s39 hKC_s39 hKT_s39 hKM_s39 hWY_s39 r44 s45 hs45
          obtain ⟨hfc_s45, hm_s45, hp47, hKM_s45, hKF_s45, hKC_s45, hKT_s45, hp48⟩ := hp46
          have hf_s45 : fr [32, 36, 37, 38, 39, 42, 64, 68, 69, 70] s0 s45 := hf_s39.call (by decide) hfc_s45
          have hWY_s45 : WY s45 := WY_fr hWY_s39 (fun k hk => hfc_s45 k (dj (by decide) k hk))
          have hLEA_s45 : LEA s45 := LEA_fr hLEA_s39 (fun k hk => hfc_s45 k (dj (by decide) k hk))
          obtain ⟨r50, s51, hs51⟩ : ∃ rr ss, (f_X1_consider v30 r44 s45) = (rr, ss) := ⟨_, _, rfl⟩
          replace hT := gby hT hs51
          have hp52 := f_X1_consider_p v30 r44 s45 (by omega) (by omega) hm_s45 hLEA_s45 (by first | assumption | omega) r50 s51 hs51
          obtain ⟨hfc_s51, hm_s51, hp53, hLEA_s51⟩ := hp52
          have hf_s51 : fr [32, 36, 37, 38, 39, 42, 64, 68, 69, 70] s0 s51 := hf_s45.call (by decide) hfc_s51
          have hKM_s51 : KM s51 := KM_fr hKM_s45 (fun k hk => hfc_s51 k (dj (by decide) k hk))
          have hWY_s51 : WY s51 := WY_fr hWY_s45 (fun k hk => hfc_s51 k (dj (by decide) k hk))
          have hKF_s51 : KF s51 := KF_fr hKF_s45 (fun k hk => hfc_s51 k (dj (by decide) k hk))
          have hKC_s51 : KC s51 := KC_fr hKC_s45 (fun k hk => hfc_s51 k (dj (by decide) k hk))
          have hKT_s51 : KT s51 := KT_fr hKT_s45 (fun k hk => hfc_s51 k (dj (by decide) k hk))
          exact ih (v30 + 1) s51 ⟨(by omega), hf_s51, hm_s51, hKM_s51, hWY_s51, hLEA_s51, hKF_s51, hKC_s51, hKT_s51, (by first | assumption | omega)⟩ (by omega) (fun w34 s35 hw hi => hk w34 s35 (hT.trans hw) hi)
        · replace hT := hT.trans (if_neg h36)
          exact hk v30 s31 hT ⟨(by omega), hf_s31, hm_s31, hKM_s31, hWY_s31, hLEA_s31, hKF_s31, hKC_s31, hKT_s31, (by first | assumption | omega)⟩
    refine L32 5 0 s6 ⟨(by omega), hf_s6, hm_s6, hKM_s6, hWY_s6, hLEA_s6, hKF_s6, hKC_s6, hKT_s6, (by first | assumption | omega)⟩ (by omega) (fun v58 s59 hw hq => ?_)
    obtain ⟨hq60, hf_s59, hm_s59, hKM_s59, hWY_s59, hLEA_s59, hKF_s59, hKC_s59, hKT_s59, hq61⟩ := hq
    replace hT := gl2y hT hw
    have hp63 := f_X1_answer_p x0 s59 (by omega) hm_s59 
    obtain ⟨rfl, rfl⟩ := Prod.mk.inj (hT.symm.trans hres)
    exact ⟨hf_s59, hm_s59, (by omega), hKM_s59, hWY_s59, hLEA_s59, hKF_s59, hKC_s59, hKT_s59⟩
  · replace hT := hT.trans (if_neg h3)
    obtain ⟨rfl, rfl⟩ := Prod.mk.inj (hT.symm.trans hres)
    exact ⟨hf_s0, hm_s0, (by omega), hKM_s0, hWY_s0, hLEA_s0, hKF_s0, hKC_s0, hKT_s0⟩
set_option maxRecDepth 100000 in
set_option maxHeartbeats 4000000 in
theorem c_X8_which (l : Launch) (D : va_G) (a : Nat → Nat) (cI cJ cS cT : ClassId) (s0 : gMem) (x0 : Int) (hx0 : in32 x0) (hpre0 : CD s0) (hpre1 : BG s0) (hpre2 : LA s0) (hpre3 : MOx s0) (hpre4 : KF s0) (hpre5 : KC s0) (hpre6 : KT s0) (hpre7 : KM s0) (hpre8 : WY s0) (hpre9 : LEA s0) : gC l yX8_which cX8_which 3 (some .long) 6 384 D vwCl (gT cI cJ cS cT) (wdX a cI cJ cS cT) lgX kJ in64 [.ref (a 0), gI x0] s0 (f_X8_which x0 s0) := by
  refine gC_of (by decide +kernel) (hwdX a cI cJ cS cT) (Nat.le_of_ble_eq_true rfl) ?_
  intro A p e R s m args below meth c hR E
  subst hR
  have hT := f_X8_which_e x0 s0
  have hf_s0 : fr [32, 36, 37, 38, 39, 42, 64, 68, 69, 70] s0 s0 := fr.rf _ _
  refine k_lv0 (lv' := [(0, .ref (a 0)), (1, gI x0)]) rfl ?_
  refine k_mr (fun hm_s0 => ?_)
  have hKM_s0 := hpre7
  have hWY_s0 := hpre8
  have hLEA_s0 := hpre9
  have hKF_s0 := hpre4
  have hKC_s0 := hpre5
  have hKT_s0 := hpre6
  refine k_iloadn (pc := 0) E 1 dX8_which_0 rfl rfl ?_
  refine k_iconst (pc := 1) E dX8_which_1 ?_
  refine k_mr (fun hm_s0 => ?_)
  refine k_callS (pc := 2) (np := 2) (As := [gI x0, gI 2]) (st := []) E (c_X8_outside l D a cI cJ cS cT s0 x0 2 (by omega) (by omega)) wm_310 wm_1 wm_308 wm_309 (by decide +kernel) ⟨by decide, by decide⟩ rfl (Nat.le_of_ble_eq_true rfl) dX8_which_2 (ro_kk (fun hr1 => ?_))
  have hp2 := f_X8_outside_p x0 2 (by omega) (by omega) 
  refine k_st (st' := [gI (f_X8_outside x0 2)]) rfl ?_
  by_cases h3 : (f_X8_outside x0 2) = 0
  · replace hT := hT.trans (if_pos h3)
    refine k_if_eq_t (pc := 5) (tgt := 12) E (by omega) dX8_which_5 (by decide) h3 ?_
    refine k_aloadn (pc := 12) E 0 dX8_which_12 rfl rfl ?_
    refine k_getf (pc := 13) (q0 := 0) (f := 4) (v := .ref (a 6)) E inX8 rfl rfl (by decide) wm_276 rfl rfl dX8_which_13 ?_
    refine k_mr (fun hm_s0 => ?_)
    refine k_callV (pc := 16) (np := 0) (As := []) (st := []) (q0 := 6) E (c_X1_begin l D a cI cJ cS cT s0  hLEA_s0) wm_610 wm_8 wm_607 wm_608 wm_609 (by decide +kernel) rfl rfl ⟨by decide, by decide⟩ rfl (Nat.le_of_ble_eq_true rfl) dX8_which_16 (fun r5 s6 hs6 hr4 => ?_)
    replace hT := gby hT hs6
    have hp7 := f_X1_begin_p  s0  hm_s0 hLEA_s0 r5 s6 hs6
    obtain ⟨hfc_s6, hm_s6, hp8, hLEA_s6⟩ := hp7
    have hf_s6 : fr [32, 36, 37, 38, 39, 42, 64, 68, 69, 70] s0 s6 := hf_s0.call (by decide) hfc_s6
    have hKM_s6 : KM s6 := KM_fr hKM_s0 (fun k hk => hfc_s6 k (dj (by decide) k hk))
    have hWY_s6 : WY s6 := WY_fr hWY_s0 (fun k hk => hfc_s6 k (dj (by decide) k hk))
    have hKF_s6 : KF s6 := KF_fr hKF_s0 (fun k hk => hfc_s6 k (dj (by decide) k hk))
    have hKC_s6 : KC s6 := KC_fr hKC_s0 (fun k hk => hfc_s6 k (dj (by decide) k hk))
    have hKT_s6 : KT s6 := KT_fr hKT_s0 (fun k hk => hfc_s6 k (dj (by decide) k hk))
    refine k_st (st' := []) rfl ?_
    refine k_iconst (pc := 19) E dX8_which_19 ?_
    refine k_istoren (pc := 20) (lv' := [(2, gI 0), (0, .ref (a 0)), (1, gI x0)]) E dX8_which_20 rfl (by decide) rfl ?_
    have L32 : ∀ (n33 : Nat) (v30 : Int) (s31 : gMem), ((in32 v30) ∧ (fr [32, 36, 37, 38, 39, 42, 64, 68, 69, 70] s0 s31) ∧ (KM s31) ∧ (WY s31) ∧ (LEA s31) ∧ (KF s31) ∧ (KC s31) ∧ (KT s31) ∧ (0 ≤ v30 ∧ v30 ≤ 3)) → 3 - v30 < (n33 : Int) → (∀ (w34 : Int) (s35 : gMem), (w_X8_which_21 x0 n33 v30 s31) = (w34, s35) → ((in32 w34) ∧ (fr [32, 36, 37, 38, 39, 42, 64, 68, 69, 70] s0 s35) ∧ (KM s35) ∧ (WY s35) ∧ (LEA s35) ∧ (KF s35) ∧ (KC s35) ∧ (KT s35) ∧ (0 ≤ w34 ∧ w34 ≤ 3)) → gK D vwCl (wdX a cI cJ cS cT) lgX A p l e { frames := 6, cells := 0, slots := 0, locals := 384 } s m args below meth c 3 (gQQ D vwCl (wdX a cI cJ cS cT) lgX A kJ in64 below args s) (f_X8_which x0 s0) s35 65 [(0, .ref (a 0)), (1, gI x0)] []) → gK D vwCl (wdX a cI cJ cS cT) lgX A p l e { frames := 6, cells := 0, slots := 0, locals := 384 } s m args below meth c 3 (gQQ D vwCl (wdX a cI cJ cS cT) lgX A kJ in64 below args s) (f_X8_which x0 s0) s31 21 [(0, .ref (a 0)), (1, gI x0), (2, gI v30)] [] := by
      intro n33; induction n33 with
      | zero =>
        intro v30 s31 hq hm hk
        exfalso
        obtain ⟨hq54, hf_s31, hKM_s31, hWY_s31, hLEA_s31, hKF_s31, hKC_s31, hKT_s31, hq55⟩ := hq
        omega
      | succ n33 ih =>
        intro v30 s31 hq hm hk
        obtain ⟨hq56, hf_s31, hKM_s31, hWY_s31, hLEA_s31, hKF_s31, hKC_s31, hKT_s31, hq57⟩ := hq
        have hT := w_X8_which_21_s x0 n33 v30 s31
        refine k_iloadn (pc := 21) E 2 dX8_which_21 rfl rfl ?_
        refine k_iconst (pc := 22) E dX8_which_22 ?_
        by_cases h36 : v30 < 3
        · replace hT := hT.trans (if_pos h36)
          refine k_icmp_ge_f (pc := 23) (tgt := 65) E (by omega) (by omega) dX8_which_23 (by decide) h36 ?_
          refine k_aloadn (pc := 26) E 0 dX8_which_26 rfl rfl ?_
          refine k_getf (pc := 27) (q0 := 0) (f := 3) (v := .ref (a 5)) E inX8 rfl rfl (by decide) wm_275 rfl rfl dX8_which_27 ?_
          refine k_iloadn (pc := 30) E 2 dX8_which_30 rfl rfl ?_
          refine k_mr (fun hm_s31 => ?_)
          refine k_callV (pc := 31) (np := 1) (As := [gI v30]) (st := []) (q0 := 5) E (c_X2_from l D a cI cJ cS cT s31 v30 (by omega) hKM_s31 hWY_s31 (by first | assumption | omega)) wm_566 wm_7 wm_563 wm_564 wm_565 (by decide +kernel) rfl rfl ⟨by decide, by decide⟩ rfl (Nat.le_of_ble_eq_true rfl) dX8_which_31 (fun r38 s39 hs39 hr37 => ?_)
          replace hT := gby hT hs39
          have hp40 := f_X2_from_p v30 s31 (by omega) hm_s31 hKM_s31 hWY_s31 (by first | assumption | omega) r38 s39 hs39
          obtain ⟨hfc_s39, hm_s39, hp41, hKM_s39, hWY_s39⟩ := hp40
          have hf_s39 : fr [32, 36, 37, 38, 39, 42, 64, 68, 69, 70] s0 s39 := hf_s31.call (by decide) hfc_s39
          have hLEA_s39 : LEA s39 := LEA_fr hLEA_s31 (fun k hk => hfc_s39 k (dj (by decide) k hk))
          have hKF_s39 : KF s39 := KF_fr hKF_s31 (fun k hk => hfc_s39 k (dj (by decide) k hk))
          have hKC_s39 : KC s39 := KC_fr hKC_s31 (fun k hk => hfc_s39 k (dj (by decide) k hk))
          have hKT_s39 : KT s39 := KT_fr hKT_s31 (fun k hk => hfc_s39 k (dj (by decide) k hk))
          refine k_st (st' := []) rfl ?_
          refine k_aloadn (pc := 34) E 0 dX8_which_34 rfl rfl ?_
          refine k_getf (pc := 35) (q0 := 0) (f := 4) (v := .ref (a 6)) E inX8 rfl rfl (by decide) wm_276 rfl rfl dX8_which_35 ?_
          refine k_iloadn (pc := 38) E 2 dX8_which_38 rfl rfl ?_
          refine k_aloadn (pc := 39) E 0 dX8_which_39 rfl rfl ?_
          refine k_getf (pc := 40) (q0 := 0) (f := 3) (v := .ref (a 5)) E inX8 rfl rfl (by decide) wm_275 rfl rfl dX8_which_40 ?_
          refine k_aloadn (pc := 43) E 0 dX8_which_43 rfl rfl ?_
          refine k_getf (pc := 44) (q0 := 0) (f := 2) (v := .ref (a 3)) E inX8 rfl rfl (by decide) wm_274 rfl rfl dX8_which_44 ?_
          refine k_getf (pc := 47) (q0 := 3) (f := 0) (v := .ref (a 4)) E inX4 rfl rfl (by decide) wm_149 rfl rfl dX8_which_47 ?_
          refine k_getfI (pc := 50) (q0 := 4) (f := 2) (k := 59) E inX6 rfl rfl (by decide) wm_109 rfl rfl rfl dX8_which_50 (fun hr42 => ?_)
          refine k_mr (fun hm_s39 => ?_)
          refine k_callV (pc := 53) (np := 1) (As := [gI (s39 59 0)]) (st := [gI v30, .ref (a 6)]) (q0 := 5) E (c_X2_meanBy l D a cI cJ cS cT s39 (s39 59 0) (by omega) (CD_fr hpre0 (fun k hk => hf_s39 k (dj (by decide) k hk))) (BG_fr hpre1 (fun k hk => hf_s39 k (dj (by decide) k hk))) (LA_fr hpre2 (fun k hk => hf_s39 k (dj (by decide) k hk))) (MOx_fr hpre3 (fun k hk => hf_s39 k (dj (by decide) k hk))) hKF_s39 hKC_s39 hKT_s39 hKM_s39 hWY_s39) wm_574 wm_7 wm_571 wm_572 wm_573 (by decide +kernel) rfl rfl ⟨by decide, by decide⟩ rfl (Nat.le_of_ble_eq_true rfl) dX8_which_53 (fun r44 s45 hs45 hr43 => ?_)
          replace hT := gby hT hs45
          have hp46 := f_X2_meanBy_p (s39 59 0) s39 (by omega) hm_s39 (CD_fr hpre0 (fun k hk => hf_s39 k (dj (by decide) k hk))) (BG_fr hpre1 (fun k hk => hf_s39 k (dj (by decide) k hk))) (LA_fr hpre2 (fun k hk => hf_s39 k (dj (by decide) k hk))) (MOx_fr hpre3 (fun k hk => hf_s39 k (dj (by decide) k hk))) hKF_s39 hKC_s39 hKT_s39 hKM_s39 hWY_s39 r44 s45 hs45
          obtain ⟨hfc_s45, hm_s45, hp47, hKM_s45, hKF_s45, hKC_s45, hKT_s45, hp48⟩ := hp46
          have hf_s45 : fr [32, 36, 37, 38, 39, 42, 64, 68, 69, 70] s0 s45 := hf_s39.call (by decide) hfc_s45
          have hWY_s45 : WY s45 := WY_fr hWY_s39 (fun k hk => hfc_s45 k (dj (by decide) k hk))
          have hLEA_s45 : LEA s45 := LEA_fr hLEA_s39 (fun k hk => hfc_s45 k (dj (by decide) k hk))
          refine k_st (st' := [gL r44, gI v30, .ref (a 6)]) rfl ?_
          refine k_mr (fun hm_s45 => ?_)
          refine k_callV (pc := 56) (np := 2) (As := [gI v30, gL r44]) (st := []) (q0 := 6) E (c_X1_consider l D a cI cJ cS cT s45 v30 r44 (by omega) (by omega) hLEA_s45 (by first | assumption | omega)) wm_624 wm_8 wm_636 wm_622 wm_623 (by decide +kernel) rfl rfl ⟨by decide, by decide⟩ rfl (Nat.le_of_ble_eq_true rfl) dX8_which_56 (fun r50 s51 hs51 hr49 => ?_)
          replace hT := gby hT hs51
          have hp52 := f_X1_consider_p v30 r44 s45 (by omega) (by omega) hm_s45 hLEA_s45 (by first | assumption | omega) r50 s51 hs51
          obtain ⟨hfc_s51, hm_s51, hp53, hLEA_s51⟩ := hp52
          have hf_s51 : fr [32, 36, 37, 38, 39, 42, 64, 68, 69, 70] s0 s51 := hf_s45.call (by decide) hfc_s51
          have hKM_s51 : KM s51 := KM_fr hKM_s45 (fun k hk => hfc_s51 k (dj (by decide) k hk))
          have hWY_s51 : WY s51 := WY_fr hWY_s45 (fun k hk => hfc_s51 k (dj (by decide) k hk))
          have hKF_s51 : KF s51 := KF_fr hKF_s45 (fun k hk => hfc_s51 k (dj (by decide) k hk))
          have hKC_s51 : KC s51 := KC_fr hKC_s45 (fun k hk => hfc_s51 k (dj (by decide) k hk))
          have hKT_s51 : KT s51 := KT_fr hKT_s45 (fun k hk => hfc_s51 k (dj (by decide) k hk))
          refine k_st (st' := []) rfl ?_
          refine k_iinc (pc := 59) (lv' := [(2, gI (v30 + 1)), (0, .ref (a 0)), (1, gI x0)]) E 2 dX8_which_59 rfl (by decide) rfl ?_
          refine k_goto (pc := 62) (tgt := 21) E dX8_which_62 (by decide) ?_
          refine k_lv (lv' := [(0, .ref (a 0)), (1, gI x0), (2, gI (v30 + 1))]) [1, 2, 0] rfl ?_
          exact ih (v30 + 1) s51 ⟨(by omega), hf_s51, hKM_s51, hWY_s51, hLEA_s51, hKF_s51, hKC_s51, hKT_s51, (by first | assumption | omega)⟩ (by omega) (fun w34 s35 hw hi => hk w34 s35 (hT.trans hw) hi)
        · replace hT := hT.trans (if_neg h36)
          refine k_icmp_ge_t (pc := 23) (tgt := 65) E (by omega) (by omega) dX8_which_23 (by decide) h36 ?_
          refine k_lv (lv' := [(0, .ref (a 0)), (1, gI x0)]) [0, 1] rfl ?_
          exact hk v30 s31 hT ⟨(by omega), hf_s31, hKM_s31, hWY_s31, hLEA_s31, hKF_s31, hKC_s31, hKT_s31, (by first | assumption | omega)⟩
    refine k_lv (lv' := [(0, .ref (a 0)), (1, gI x0), (2, gI 0)]) [1, 2, 0] rfl ?_
    refine L32 5 0 s6 ⟨(by omega), hf_s6, hKM_s6, hWY_s6, hLEA_s6, hKF_s6, hKC_s6, hKT_s6, (by first | assumption | omega)⟩ (by omega) (fun v58 s59 hw hq => ?_)
    obtain ⟨hq60, hf_s59, hKM_s59, hWY_s59, hLEA_s59, hKF_s59, hKC_s59, hKT_s59, hq61⟩ := hq
    replace hT := gl2y hT hw
    refine k_aloadn (pc := 65) E 0 dX8_which_65 rfl rfl ?_
    refine k_getf (pc := 66) (q0 := 0) (f := 4) (v := .ref (a 6)) E inX8 rfl rfl (by decide) wm_276 rfl rfl dX8_which_66 ?_
    refine k_iloadn (pc := 69) E 1 dX8_which_69 rfl rfl ?_
    refine k_callV (pc := 70) (np := 1) (As := [gI x0]) (st := []) (q0 := 6) E (c_X1_answer l D a cI cJ cS cT s59 x0 (by omega)) wm_628 wm_8 wm_625 wm_626 wm_627 (by decide +kernel) rfl rfl ⟨by decide, by decide⟩ rfl (Nat.le_of_ble_eq_true rfl) dX8_which_70 (ro_kk (fun hr62 => ?_))
    refine k_st (st' := [gL (f_X1_answer x0 s59)]) rfl ?_
    exact k_rho hT (k_lret (pc := 73) E dX8_which_73 (by omega))
  · replace hT := hT.trans (if_neg h3)
    refine k_if_eq_f (pc := 5) (tgt := 12) E (by omega) dX8_which_5 (by decide) h3 ?_
    refine k_ldc2 (pc := 8) (n := (-4611686018427387904)) E dX8_which_8 wm_562 (by decide) ?_
    exact k_rho hT (k_lret (pc := 11) E dX8_which_11 (by omega))

def w_X8_dear_57 (c1 : Int) (c2 : Int) : Nat → Int → gMem → Int × gMem
  | 0, v18, s19 => (v18, s19)
  | n20 + 1, v18, s19 => (if v18 < 16 then (gl ((if (f_X8_has c2 v18) = 0 then s19 else gb (f_X2_meanBy (iand c2 (ixor (ishl 1 v18) (-1))) s19) (fun r33 s34 => gb (f_X1_consider v18 r33 s34) (fun r39 s40 => s40)))) (fun s26 => (w_X8_dear_57 c1 c2 n20 (v18 + 1) s26))) else (v18, s19))
theorem w_X8_dear_57_s (c1 : Int) (c2 : Int) (n20 : Nat) (v18 : Int) (s19 : gMem) : w_X8_dear_57 c1 c2 (n20 + 1) v18 s19 = (if v18 < 16 then (gl ((if (f_X8_has c2 v18) = 0 then s19 else gb (f_X2_meanBy (iand c2 (ixor (ishl 1 v18) (-1))) s19) (fun r33 s34 => gb (f_X1_consider v18 r33 s34) (fun r39 s40 => s40)))) (fun s26 => (w_X8_dear_57 c1 c2 n20 (v18 + 1) s26))) else (v18, s19)) := rfl
def f_X8_dear (x0 : Int) (s0 : gMem) : gRes := (if (f_X8_outside x0 2) = 0 then (if (s0 59 0) = 0 then ((-1), s0) else gb (f_X2_from (s0 61 0) s0) (fun r9 s10 => gb (f_X1_begin  s10) (fun r14 s15 => (gl2 (w_X8_dear_57 x0 (s0 59 0) 17 0 s15) (fun v75 s76 => ((f_X1_answer x0 s76), s76)))))) else ((-4611686018427387904), s0))
theorem f_X8_dear_e (x0 : Int) (s0 : gMem) : f_X8_dear x0 s0 = (if (f_X8_outside x0 2) = 0 then (if (s0 59 0) = 0 then ((-1), s0) else gb (f_X2_from (s0 61 0) s0) (fun r9 s10 => gb (f_X1_begin  s10) (fun r14 s15 => (gl2 (w_X8_dear_57 x0 (s0 59 0) 17 0 s15) (fun v75 s76 => ((f_X1_answer x0 s76), s76)))))) else ((-4611686018427387904), s0)) := rfl
set_option maxRecDepth 100000 in
set_option maxHeartbeats 4000000 in
theorem f_X8_dear_p (x0 : Int) (s0 : gMem) (hx0 : in32 x0) (hm_s0 : gMR lgX s0) (hpre0 : CD s0) (hpre1 : BG s0) (hpre2 : LA s0) (hpre3 : MOx s0) (hpre4 : KF s0) (hpre5 : KC s0) (hpre6 : KT s0) (hpre7 : KM s0) (hpre8 : WY s0) (hpre9 : LEA s0) (hpre10 : EN s0) (rZ : Int) (sZ : gMem) (hres : f_X8_dear x0 s0 = (rZ, sZ)) : (fr [32, 36, 37, 38, 39, 42, 64, 68, 69, 70] s0 sZ) ∧ (gMR lgX sZ) ∧ (in64 rZ) ∧ (KM sZ) ∧ (WY sZ) ∧ (LEA sZ) ∧ (KF sZ) ∧ (KC sZ) ∧ (KT sZ) := by
  have hT := f_X8_dear_e x0 s0
  have hf_s0 : fr [32, 36, 37, 38, 39, 42, 64, 68, 69, 70] s0 s0 := fr.rf _ _
  have hKM_s0 := hpre7
  have hWY_s0 := hpre8
  have hLEA_s0 := hpre9
  have hKF_s0 := hpre4
  have hKC_s0 := hpre5
  have hKT_s0 := hpre6
  have hp2 := f_X8_outside_p x0 2 (by omega) (by omega) 
  by_cases h3 : (f_X8_outside x0 2) = 0
  · replace hT := hT.trans (if_pos h3)
    have hr4 := (hm_s0 59 0).1 rfl
    by_cases h5 : (s0 59 0) = 0
    · replace hT := hT.trans (if_pos h5)
      obtain ⟨rfl, rfl⟩ := Prod.mk.inj (hT.symm.trans hres)
      exact ⟨hf_s0, hm_s0, (by omega), hKM_s0, hWY_s0, hLEA_s0, hKF_s0, hKC_s0, hKT_s0⟩
    · replace hT := hT.trans (if_neg h5)
      have hr6 := (hm_s0 61 0).1 rfl
      have hi7 := hpre10 0
      obtain ⟨r9, s10, hs10⟩ : ∃ rr ss, (f_X2_from (s0 61 0) s0) = (rr, ss) := ⟨_, _, rfl⟩
      replace hT := gby hT hs10
      have hp11 := f_X2_from_p (s0 61 0) s0 (by omega) hm_s0 hKM_s0 hWY_s0 (by first | assumption | omega) r9 s10 hs10
      obtain ⟨hfc_s10, hm_s10, hp12, hKM_s10, hWY_s10⟩ := hp11
      have hf_s10 : fr [32, 36, 37, 38, 39, 42, 64, 68, 69, 70] s0 s10 := hf_s0.call (by decide) hfc_s10
      have hLEA_s10 : LEA s10 := LEA_fr hLEA_s0 (fun k hk => hfc_s10 k (dj (by decide) k hk))
      have hKF_s10 : KF s10 := KF_fr hKF_s0 (fun k hk => hfc_s10 k (dj (by decide) k hk))
      have hKC_s10 : KC s10 := KC_fr hKC_s0 (fun k hk => hfc_s10 k (dj (by decide) k hk))
      have hKT_s10 : KT s10 := KT_fr hKT_s0 (fun k hk => hfc_s10 k (dj (by decide) k hk))
      obtain ⟨r14, s15, hs15⟩ : ∃ rr ss, (f_X1_begin  s10) = (rr, ss) := ⟨_, _, rfl⟩
      replace hT := gby hT hs15
      have hp16 := f_X1_begin_p  s10  hm_s10 hLEA_s10 r14 s15 hs15
      obtain ⟨hfc_s15, hm_s15, hp17, hLEA_s15⟩ := hp16
      have hf_s15 : fr [32, 36, 37, 38, 39, 42, 64, 68, 69, 70] s0 s15 := hf_s10.call (by decide) hfc_s15
      have hKM_s15 : KM s15 := KM_fr hKM_s10 (fun k hk => hfc_s15 k (dj (by decide) k hk))
      have hWY_s15 : WY s15 := WY_fr hWY_s10 (fun k hk => hfc_s15 k (dj (by decide) k hk))
      have hKF_s15 : KF s15 := KF_fr hKF_s10 (fun k hk => hfc_s15 k (dj (by decide) k hk))
      have hKC_s15 : KC s15 := KC_fr hKC_s10 (fun k hk => hfc_s15 k (dj (by decide) k hk))
      have hKT_s15 : KT s15 := KT_fr hKT_s10 (fun k hk => hfc_s15 k (dj (by decide) k hk))
      have L45 : ∀ (n46 : Nat) (v43 : Int) (s44 : gMem), ((in32 v43) ∧ (fr [32, 36, 37, 38, 39, 42, 64, 68, 69, 70] s0 s44) ∧ (gMR lgX s44) ∧ (KM s44) ∧ (WY s44) ∧ (LEA s44) ∧ (KF s44) ∧ (KC s44) ∧ (KT s44) ∧ (0 ≤ v43 ∧ v43 ≤ 16)) → 16 - v43 < (n46 : Int) → (∀ (w47 : Int) (s48 : gMem), (w_X8_dear_57 x0 (s0 59 0) n46 v43 s44) = (w47, s48) → ((in32 w47) ∧ (fr [32, 36, 37, 38, 39, 42, 64, 68, 69, 70] s0 s48) ∧ (gMR lgX s48) ∧ (KM s48) ∧ (WY s48) ∧ (LEA s48) ∧ (KF s48) ∧ (KC s48) ∧ (KT s48) ∧ (0 ≤ w47 ∧ w47 ≤ 16)) → (fr [32, 36, 37, 38, 39, 42, 64, 68, 69, 70] s0 sZ) ∧ (gMR lgX sZ) ∧ (in64 rZ) ∧ (KM sZ) ∧ (WY sZ) ∧ (LEA sZ) ∧ (KF sZ) ∧ (KC sZ) ∧ (KT sZ)) → (fr [32, 36, 37, 38, 39, 42, 64, 68, 69, 70] s0 sZ) ∧ (gMR lgX sZ) ∧ (in64 rZ) ∧ (KM sZ) ∧ (WY sZ) ∧ (LEA sZ) ∧ (KF sZ) ∧ (KC sZ) ∧ (KT sZ) := by
        intro n46; induction n46 with
        | zero =>
          intro v43 s44 hq hm hk
          exfalso
          obtain ⟨hq71, hf_s44, hm_s44, hKM_s44, hWY_s44, hLEA_s44, hKF_s44, hKC_s44, hKT_s44, hq72⟩ := hq
          omega
        | succ n46 ih =>
          intro v43 s44 hq hm hk
          obtain ⟨hq73, hf_s44, hm_s44, hKM_s44, hWY_s44, hLEA_s44, hKF_s44, hKC_s44, hKT_s44, hq74⟩ := hq
          have hT := w_X8_dear_57_s x0 (s0 59 0) n46 v43 s44
          by_cases h49 : v43 < 16
          · replace hT := hT.trans (if_pos h49)
            have hp51 := f_X8_has_p (s0 59 0) v43 (by omega) (by omega) 
            obtain ⟨z55, hz55, hT⟩ := gl1x hT
            have j53 : ∀ (s54 : gMem), ((fr [32, 36, 37, 38, 39, 42, 64, 68, 69, 70] s0 s54) ∧ (gMR lgX s54) ∧ (KM s54) ∧ (WY s54) ∧ (LEA s54) ∧ (KF s54) ∧ (KC s54) ∧ (KT s54)) → z55 = s54 → (fr [32, 36, 37, 38, 39, 42, 64, 68, 69, 70] s0 sZ) ∧ (gMR lgX sZ) ∧ (in64 rZ) ∧ (KM sZ) ∧ (WY sZ) ∧ (LEA sZ) ∧ (KF sZ) ∧ (KC sZ) ∧ (KT sZ) := by
              intro s54 hq hz
              obtain ⟨hf_s54, hm_s54, hKM_s54, hWY_s54, hLEA_s54, hKF_s54, hKC_s54, hKT_s54⟩ := hq
              replace hT := gl1y hT hz
              exact ih (v43 + 1) s54 ⟨(by omega), hf_s54, hm_s54, hKM_s54, hWY_s54, hLEA_s54, hKF_s54, hKC_s54, hKT_s54, (by first | assumption | omega)⟩ (by omega) (fun w47 s48 hw hi => hk w47 s48 (hT.trans hw) hi)
            replace hT := hz55
            by_cases h52 : (f_X8_has (s0 59 0) v43) = 0
            · replace hT := hT.trans (if_pos h52)
              exact j53 s44 ⟨hf_s44, hm_s44, hKM_s44, hWY_s44, hLEA_s44, hKF_s44, hKC_s44, hKT_s44⟩ hT
            · replace hT := hT.trans (if_neg h52)
              have hb56 := ishl_rg 1 v43
              have hb57 : 0 ≤ v43 ∧ v43 ≤ 15 → _ := fun q => ishl_1 q.1 q.2
              have hb58 := ixor_rg (ishl 1 v43) (-1)
              have hb59 := iand_rg (s0 59 0) (ixor (ishl 1 v43) (-1))
              obtain ⟨r61, s62, hs62⟩ : ∃ rr ss, (f_X2_meanBy (iand (s0 59 0) (ixor (ishl 1 v43) (-1))) s44) = (rr, ss) := ⟨_, _, rfl⟩
              replace hT := gby hT hs62
              have hp63 := f_X2_meanBy_p (iand (s0 59 0) (ixor (ishl 1 v43) (-1))) s44 (by omega) hm_s44 (CD_fr hpre0 (fun k hk => hf_s44 k (dj (by decide) k hk))) (BG_fr hpre1 (fun k hk => hf_s44 k (dj (by decide) k hk))) (LA_fr hpre2 (fun k hk => hf_s44 k (dj (by decide) k hk))) (MOx_fr hpre3 (fun k hk => hf_s44 k (dj (by decide) k hk))) hKF_s44 hKC_s44 hKT_s44 hKM_s44 hWY_s44 r61 s62 hs62
              obtain ⟨hfc_s62, hm_s62, hp64, hKM_s62, hKF_s62, hKC_s62, hKT_s62, hp65⟩ := hp63
              have hf_s62 : fr [32, 36, 37, 38, 39, 42, 64, 68, 69, 70] s0 s62 := hf_s44.call (by decide) hfc_s62
              have hWY_s62 : WY s62 := WY_fr hWY_s44 (fun k hk => hfc_s62 k (dj (by decide) k hk))
              have hLEA_s62 : LEA s62 := LEA_fr hLEA_s44 (fun k hk => hfc_s62 k (dj (by decide) k hk))
              obtain ⟨r67, s68, hs68⟩ : ∃ rr ss, (f_X1_consider v43 r61 s62) = (rr, ss) := ⟨_, _, rfl⟩
              replace hT := gby hT hs68
              have hp69 := f_X1_consider_p v43 r61 s62 (by omega) (by omega) hm_s62 hLEA_s62 (by first | assumption | omega) r67 s68 hs68
              obtain ⟨hfc_s68, hm_s68, hp70, hLEA_s68⟩ := hp69
              have hf_s68 : fr [32, 36, 37, 38, 39, 42, 64, 68, 69, 70] s0 s68 := hf_s62.call (by decide) hfc_s68
              have hKM_s68 : KM s68 := KM_fr hKM_s62 (fun k hk => hfc_s68 k (dj (by decide) k hk))
              have hWY_s68 : WY s68 := WY_fr hWY_s62 (fun k hk => hfc_s68 k (dj (by decide) k hk))
              have hKF_s68 : KF s68 := KF_fr hKF_s62 (fun k hk => hfc_s68 k (dj (by decide) k hk))
              have hKC_s68 : KC s68 := KC_fr hKC_s62 (fun k hk => hfc_s68 k (dj (by decide) k hk))
              have hKT_s68 : KT s68 := KT_fr hKT_s62 (fun k hk => hfc_s68 k (dj (by decide) k hk))
              exact j53 s68 ⟨hf_s68, hm_s68, hKM_s68, hWY_s68, hLEA_s68, hKF_s68, hKC_s68, hKT_s68⟩ hT
          · replace hT := hT.trans (if_neg h49)
            exact hk v43 s44 hT ⟨(by omega), hf_s44, hm_s44, hKM_s44, hWY_s44, hLEA_s44, hKF_s44, hKC_s44, hKT_s44, (by first | assumption | omega)⟩
      refine L45 17 0 s15 ⟨(by omega), hf_s15, hm_s15, hKM_s15, hWY_s15, hLEA_s15, hKF_s15, hKC_s15, hKT_s15, (by first | assumption | omega)⟩ (by omega) (fun v75 s76 hw hq => ?_)
      obtain ⟨hq77, hf_s76, hm_s76, hKM_s76, hWY_s76, hLEA_s76, hKF_s76, hKC_s76, hKT_s76, hq78⟩ := hq
      replace hT := gl2y hT hw
      have hp80 := f_X1_answer_p x0 s76 (by omega) hm_s76 
      obtain ⟨rfl, rfl⟩ := Prod.mk.inj (hT.symm.trans hres)
      exact ⟨hf_s76, hm_s76, (by omega), hKM_s76, hWY_s76, hLEA_s76, hKF_s76, hKC_s76, hKT_s76⟩
  · replace hT := hT.trans (if_neg h3)
    obtain ⟨rfl, rfl⟩ := Prod.mk.inj (hT.symm.trans hres)
    exact ⟨hf_s0, hm_s0, (by omega), hKM_s0, hWY_s0, hLEA_s0, hKF_s0, hKC_s0, hKT_s0⟩
set_option maxRecDepth 100000 in
set_option maxHeartbeats 4000000 in
theorem c_X8_dear (l : Launch) (D : va_G) (a : Nat → Nat) (cI cJ cS cT : ClassId) (s0 : gMem) (x0 : Int) (hx0 : in32 x0) (hpre0 : CD s0) (hpre1 : BG s0) (hpre2 : LA s0) (hpre3 : MOx s0) (hpre4 : KF s0) (hpre5 : KC s0) (hpre6 : KT s0) (hpre7 : KM s0) (hpre8 : WY s0) (hpre9 : LEA s0) (hpre10 : EN s0) : gC l yX8_dear cX8_dear 4 (some .long) 6 384 D vwCl (gT cI cJ cS cT) (wdX a cI cJ cS cT) lgX kJ in64 [.ref (a 0), gI x0] s0 (f_X8_dear x0 s0) := by
  refine gC_of (by decide +kernel) (hwdX a cI cJ cS cT) (Nat.le_of_ble_eq_true rfl) ?_
  intro A p e R s m args below meth c hR E
  subst hR
  have hT := f_X8_dear_e x0 s0
  have hf_s0 : fr [32, 36, 37, 38, 39, 42, 64, 68, 69, 70] s0 s0 := fr.rf _ _
  refine k_lv0 (lv' := [(0, .ref (a 0)), (1, gI x0)]) rfl ?_
  refine k_mr (fun hm_s0 => ?_)
  have hKM_s0 := hpre7
  have hWY_s0 := hpre8
  have hLEA_s0 := hpre9
  have hKF_s0 := hpre4
  have hKC_s0 := hpre5
  have hKT_s0 := hpre6
  refine k_iloadn (pc := 0) E 1 dX8_dear_0 rfl rfl ?_
  refine k_iconst (pc := 1) E dX8_dear_1 ?_
  refine k_mr (fun hm_s0 => ?_)
  refine k_callS (pc := 2) (np := 2) (As := [gI x0, gI 2]) (st := []) E (c_X8_outside l D a cI cJ cS cT s0 x0 2 (by omega) (by omega)) wm_310 wm_1 wm_308 wm_309 (by decide +kernel) ⟨by decide, by decide⟩ rfl (Nat.le_of_ble_eq_true rfl) dX8_dear_2 (ro_kk (fun hr1 => ?_))
  have hp2 := f_X8_outside_p x0 2 (by omega) (by omega) 
  refine k_st (st' := [gI (f_X8_outside x0 2)]) rfl ?_
  by_cases h3 : (f_X8_outside x0 2) = 0
  · replace hT := hT.trans (if_pos h3)
    refine k_if_eq_t (pc := 5) (tgt := 12) E (by omega) dX8_dear_5 (by decide) h3 ?_
    refine k_aloadn (pc := 12) E 0 dX8_dear_12 rfl rfl ?_
    refine k_getf (pc := 13) (q0 := 0) (f := 2) (v := .ref (a 3)) E inX8 rfl rfl (by decide) wm_274 rfl rfl dX8_dear_13 ?_
    refine k_getf (pc := 16) (q0 := 3) (f := 0) (v := .ref (a 4)) E inX4 rfl rfl (by decide) wm_149 rfl rfl dX8_dear_16 ?_
    refine k_getfI (pc := 19) (q0 := 4) (f := 2) (k := 59) E inX6 rfl rfl (by decide) wm_109 rfl rfl rfl dX8_dear_19 (fun hr4 => ?_)
    refine k_istoren (pc := 22) (lv' := [(2, gI (s0 59 0)), (0, .ref (a 0)), (1, gI x0)]) E dX8_dear_22 rfl (by decide) rfl ?_
    refine k_iloadn (pc := 23) E 0 dX8_dear_23 rfl rfl ?_
    by_cases h5 : (s0 59 0) = 0
    · replace hT := hT.trans (if_pos h5)
      refine k_if_ne_f (pc := 24) (tgt := 31) E (by omega) dX8_dear_24 (by decide) h5 ?_
      refine k_ldc2 (pc := 27) (n := (-1)) E dX8_dear_27 wm_646 (by decide) ?_
      exact k_rho hT (k_lret (pc := 30) E dX8_dear_30 (by omega))
    · replace hT := hT.trans (if_neg h5)
      refine k_if_ne_t (pc := 24) (tgt := 31) E (by omega) dX8_dear_24 (by decide) h5 ?_
      refine k_aloadn (pc := 31) E 1 dX8_dear_31 rfl rfl ?_
      refine k_getf (pc := 32) (q0 := 0) (f := 3) (v := .ref (a 5)) E inX8 rfl rfl (by decide) wm_275 rfl rfl dX8_dear_32 ?_
      refine k_aloadn (pc := 35) E 1 dX8_dear_35 rfl rfl ?_
      refine k_getf (pc := 36) (q0 := 0) (f := 2) (v := .ref (a 3)) E inX8 rfl rfl (by decide) wm_274 rfl rfl dX8_dear_36 ?_
      refine k_getf (pc := 39) (q0 := 3) (f := 0) (v := .ref (a 4)) E inX4 rfl rfl (by decide) wm_149 rfl rfl dX8_dear_39 ?_
      refine k_getfI (pc := 42) (q0 := 4) (f := 4) (k := 61) E inX6 rfl rfl (by decide) wm_116 rfl rfl rfl dX8_dear_42 (fun hr6 => ?_)
      have hi7 := hpre10 0
      refine k_mr (fun hm_s0 => ?_)
      refine k_callV (pc := 45) (np := 1) (As := [gI (s0 61 0)]) (st := []) (q0 := 5) E (c_X2_from l D a cI cJ cS cT s0 (s0 61 0) (by omega) hKM_s0 hWY_s0 (by first | assumption | omega)) wm_566 wm_7 wm_563 wm_564 wm_565 (by decide +kernel) rfl rfl ⟨by decide, by decide⟩ rfl (Nat.le_of_ble_eq_true rfl) dX8_dear_45 (fun r9 s10 hs10 hr8 => ?_)
      replace hT := gby hT hs10
      have hp11 := f_X2_from_p (s0 61 0) s0 (by omega) hm_s0 hKM_s0 hWY_s0 (by first | assumption | omega) r9 s10 hs10
      obtain ⟨hfc_s10, hm_s10, hp12, hKM_s10, hWY_s10⟩ := hp11
      have hf_s10 : fr [32, 36, 37, 38, 39, 42, 64, 68, 69, 70] s0 s10 := hf_s0.call (by decide) hfc_s10
      have hLEA_s10 : LEA s10 := LEA_fr hLEA_s0 (fun k hk => hfc_s10 k (dj (by decide) k hk))
      have hKF_s10 : KF s10 := KF_fr hKF_s0 (fun k hk => hfc_s10 k (dj (by decide) k hk))
      have hKC_s10 : KC s10 := KC_fr hKC_s0 (fun k hk => hfc_s10 k (dj (by decide) k hk))
      have hKT_s10 : KT s10 := KT_fr hKT_s0 (fun k hk => hfc_s10 k (dj (by decide) k hk))
      refine k_st (st' := []) rfl ?_
      refine k_aloadn (pc := 48) E 1 dX8_dear_48 rfl rfl ?_
      refine k_getf (pc := 49) (q0 := 0) (f := 4) (v := .ref (a 6)) E inX8 rfl rfl (by decide) wm_276 rfl rfl dX8_dear_49 ?_
      refine k_mr (fun hm_s10 => ?_)
      refine k_callV (pc := 52) (np := 0) (As := []) (st := []) (q0 := 6) E (c_X1_begin l D a cI cJ cS cT s10  hLEA_s10) wm_610 wm_8 wm_607 wm_608 wm_609 (by decide +kernel) rfl rfl ⟨by decide, by decide⟩ rfl (Nat.le_of_ble_eq_true rfl) dX8_dear_52 (fun r14 s15 hs15 hr13 => ?_)
      replace hT := gby hT hs15
      have hp16 := f_X1_begin_p  s10  hm_s10 hLEA_s10 r14 s15 hs15
      obtain ⟨hfc_s15, hm_s15, hp17, hLEA_s15⟩ := hp16
      have hf_s15 : fr [32, 36, 37, 38, 39, 42, 64, 68, 69, 70] s0 s15 := hf_s10.call (by decide) hfc_s15
      have hKM_s15 : KM s15 := KM_fr hKM_s10 (fun k hk => hfc_s15 k (dj (by decide) k hk))
      have hWY_s15 : WY s15 := WY_fr hWY_s10 (fun k hk => hfc_s15 k (dj (by decide) k hk))
      have hKF_s15 : KF s15 := KF_fr hKF_s10 (fun k hk => hfc_s15 k (dj (by decide) k hk))
      have hKC_s15 : KC s15 := KC_fr hKC_s10 (fun k hk => hfc_s15 k (dj (by decide) k hk))
      have hKT_s15 : KT s15 := KT_fr hKT_s10 (fun k hk => hfc_s15 k (dj (by decide) k hk))
      refine k_st (st' := []) rfl ?_
      refine k_iconst (pc := 55) E dX8_dear_55 ?_
      refine k_istoren (pc := 56) (lv' := [(3, gI 0), (2, gI (s0 59 0)), (0, .ref (a 0)), (1, gI x0)]) E dX8_dear_56 rfl (by decide) rfl ?_
      have L45 : ∀ (n46 : Nat) (v43 : Int) (s44 : gMem), ((in32 v43) ∧ (fr [32, 36, 37, 38, 39, 42, 64, 68, 69, 70] s0 s44) ∧ (KM s44) ∧ (WY s44) ∧ (LEA s44) ∧ (KF s44) ∧ (KC s44) ∧ (KT s44) ∧ (0 ≤ v43 ∧ v43 ≤ 16)) → 16 - v43 < (n46 : Int) → (∀ (w47 : Int) (s48 : gMem), (w_X8_dear_57 x0 (s0 59 0) n46 v43 s44) = (w47, s48) → ((in32 w47) ∧ (fr [32, 36, 37, 38, 39, 42, 64, 68, 69, 70] s0 s48) ∧ (KM s48) ∧ (WY s48) ∧ (LEA s48) ∧ (KF s48) ∧ (KC s48) ∧ (KT s48) ∧ (0 ≤ w47 ∧ w47 ≤ 16)) → gK D vwCl (wdX a cI cJ cS cT) lgX A p l e { frames := 6, cells := 0, slots := 0, locals := 384 } s m args below meth c 4 (gQQ D vwCl (wdX a cI cJ cS cT) lgX A kJ in64 below args s) (f_X8_dear x0 s0) s48 99 [(0, .ref (a 0)), (1, gI x0)] []) → gK D vwCl (wdX a cI cJ cS cT) lgX A p l e { frames := 6, cells := 0, slots := 0, locals := 384 } s m args below meth c 4 (gQQ D vwCl (wdX a cI cJ cS cT) lgX A kJ in64 below args s) (f_X8_dear x0 s0) s44 57 [(0, .ref (a 0)), (1, gI x0), (2, gI (s0 59 0)), (3, gI v43)] [] := by
        intro n46; induction n46 with
        | zero =>
          intro v43 s44 hq hm hk
          exfalso
          obtain ⟨hq71, hf_s44, hKM_s44, hWY_s44, hLEA_s44, hKF_s44, hKC_s44, hKT_s44, hq72⟩ := hq
          omega
        | succ n46 ih =>
          intro v43 s44 hq hm hk
          obtain ⟨hq73, hf_s44, hKM_s44, hWY_s44, hLEA_s44, hKF_s44, hKC_s44, hKT_s44, hq74⟩ := hq
          have hT := w_X8_dear_57_s x0 (s0 59 0) n46 v43 s44
          refine k_iloadn (pc := 57) E 3 dX8_dear_57 rfl rfl ?_
          refine k_bipush (pc := 58) E dX8_dear_58 (by decide) ?_
          by_cases h49 : v43 < 16
          · replace hT := hT.trans (if_pos h49)
            refine k_icmp_ge_f (pc := 60) (tgt := 99) E (by omega) (by omega) dX8_dear_60 (by decide) h49 ?_
            refine k_iloadn (pc := 63) E 2 dX8_dear_63 rfl rfl ?_
            refine k_iloadn (pc := 64) E 3 dX8_dear_64 rfl rfl ?_
            refine k_mr (fun hm_s44 => ?_)
            refine k_callS (pc := 65) (np := 2) (As := [gI (s0 59 0), gI v43]) (st := []) E (c_X8_has l D a cI cJ cS cT s44 (s0 59 0) v43 (by omega) (by omega)) wm_552 wm_1 wm_651 wm_551 (by decide +kernel) ⟨by decide, by decide⟩ rfl (Nat.le_of_ble_eq_true rfl) dX8_dear_65 (ro_kk (fun hr50 => ?_))
            have hp51 := f_X8_has_p (s0 59 0) v43 (by omega) (by omega) 
            refine k_st (st' := [gI (f_X8_has (s0 59 0) v43)]) rfl ?_
            obtain ⟨z55, hz55, hT⟩ := gl1x hT
            have j53 : ∀ (s54 : gMem), ((fr [32, 36, 37, 38, 39, 42, 64, 68, 69, 70] s0 s54) ∧ (KM s54) ∧ (WY s54) ∧ (LEA s54) ∧ (KF s54) ∧ (KC s54) ∧ (KT s54)) → z55 = s54 → gK D vwCl (wdX a cI cJ cS cT) lgX A p l e { frames := 6, cells := 0, slots := 0, locals := 384 } s m args below meth c 4 (gQQ D vwCl (wdX a cI cJ cS cT) lgX A kJ in64 below args s) (f_X8_dear x0 s0) s54 93 [(0, .ref (a 0)), (1, gI x0), (2, gI (s0 59 0)), (3, gI v43)] [] := by
              intro s54 hq hz
              obtain ⟨hf_s54, hKM_s54, hWY_s54, hLEA_s54, hKF_s54, hKC_s54, hKT_s54⟩ := hq
              replace hT := gl1y hT hz
              refine k_iinc (pc := 93) (lv' := [(3, gI (v43 + 1)), (0, .ref (a 0)), (1, gI x0), (2, gI (s0 59 0))]) E 3 dX8_dear_93 rfl (by decide) rfl ?_
              refine k_goto (pc := 96) (tgt := 57) E dX8_dear_96 (by decide) ?_
              refine k_lv (lv' := [(0, .ref (a 0)), (1, gI x0), (2, gI (s0 59 0)), (3, gI (v43 + 1))]) [1, 2, 3, 0] rfl ?_
              exact ih (v43 + 1) s54 ⟨(by omega), hf_s54, hKM_s54, hWY_s54, hLEA_s54, hKF_s54, hKC_s54, hKT_s54, (by first | assumption | omega)⟩ (by omega) (fun w47 s48 hw hi => hk w47 s48 (hT.trans hw) hi)
            replace hT := hz55
            by_cases h52 : (f_X8_has (s0 59 0) v43) = 0
            · replace hT := hT.trans (if_pos h52)
              refine k_if_eq_t (pc := 68) (tgt := 93) E (by omega) dX8_dear_68 (by decide) h52 ?_
              exact j53 s44 ⟨hf_s44, hKM_s44, hWY_s44, hLEA_s44, hKF_s44, hKC_s44, hKT_s44⟩ hT
            · replace hT := hT.trans (if_neg h52)
              refine k_if_eq_f (pc := 68) (tgt := 93) E (by omega) dX8_dear_68 (by decide) h52 ?_
              refine k_aloadn (pc := 71) E 0 dX8_dear_71 rfl rfl ?_
              refine k_getf (pc := 72) (q0 := 0) (f := 4) (v := .ref (a 6)) E inX8 rfl rfl (by decide) wm_276 rfl rfl dX8_dear_72 ?_
              refine k_iloadn (pc := 75) E 3 dX8_dear_75 rfl rfl ?_
              refine k_aloadn (pc := 76) E 0 dX8_dear_76 rfl rfl ?_
              refine k_getf (pc := 77) (q0 := 0) (f := 3) (v := .ref (a 5)) E inX8 rfl rfl (by decide) wm_275 rfl rfl dX8_dear_77 ?_
              refine k_iloadn (pc := 80) E 2 dX8_dear_80 rfl rfl ?_
              refine k_iconst (pc := 81) E dX8_dear_81 ?_
              refine k_iloadn (pc := 82) E 3 dX8_dear_82 rfl rfl ?_
              refine k_ishl (pc := 83) E dX8_dear_83 ?_
              have hb56 := ishl_rg 1 v43
              have hb57 : 0 ≤ v43 ∧ v43 ≤ 15 → _ := fun q => ishl_1 q.1 q.2
              refine k_iconst (pc := 84) E dX8_dear_84 ?_
              refine k_ixor (pc := 85) E dX8_dear_85 ?_
              have hb58 := ixor_rg (ishl 1 v43) (-1)
              refine k_iand (pc := 86) E dX8_dear_86 ?_
              have hb59 := iand_rg (s0 59 0) (ixor (ishl 1 v43) (-1))
              refine k_mr (fun hm_s44 => ?_)
              refine k_callV (pc := 87) (np := 1) (As := [gI (iand (s0 59 0) (ixor (ishl 1 v43) (-1)))]) (st := [gI v43, .ref (a 6)]) (q0 := 5) E (c_X2_meanBy l D a cI cJ cS cT s44 (iand (s0 59 0) (ixor (ishl 1 v43) (-1))) (by omega) (CD_fr hpre0 (fun k hk => hf_s44 k (dj (by decide) k hk))) (BG_fr hpre1 (fun k hk => hf_s44 k (dj (by decide) k hk))) (LA_fr hpre2 (fun k hk => hf_s44 k (dj (by decide) k hk))) (MOx_fr hpre3 (fun k hk => hf_s44 k (dj (by decide) k hk))) hKF_s44 hKC_s44 hKT_s44 hKM_s44 hWY_s44) wm_574 wm_7 wm_571 wm_572 wm_573 (by decide +kernel) rfl rfl ⟨by decide, by decide⟩ rfl (Nat.le_of_ble_eq_true rfl) dX8_dear_87 (fun r61 s62 hs62 hr60 => ?_)
              replace hT := gby hT hs62
              have hp63 := f_X2_meanBy_p (iand (s0 59 0) (ixor (ishl 1 v43) (-1))) s44 (by omega) hm_s44 (CD_fr hpre0 (fun k hk => hf_s44 k (dj (by decide) k hk))) (BG_fr hpre1 (fun k hk => hf_s44 k (dj (by decide) k hk))) (LA_fr hpre2 (fun k hk => hf_s44 k (dj (by decide) k hk))) (MOx_fr hpre3 (fun k hk => hf_s44 k (dj (by decide) k hk))) hKF_s44 hKC_s44 hKT_s44 hKM_s44 hWY_s44 r61 s62 hs62
              obtain ⟨hfc_s62, hm_s62, hp64, hKM_s62, hKF_s62, hKC_s62, hKT_s62, hp65⟩ := hp63
              have hf_s62 : fr [32, 36, 37, 38, 39, 42, 64, 68, 69, 70] s0 s62 := hf_s44.call (by decide) hfc_s62
              have hWY_s62 : WY s62 := WY_fr hWY_s44 (fun k hk => hfc_s62 k (dj (by decide) k hk))
              have hLEA_s62 : LEA s62 := LEA_fr hLEA_s44 (fun k hk => hfc_s62 k (dj (by decide) k hk))
              refine k_st (st' := [gL r61, gI v43, .ref (a 6)]) rfl ?_
              refine k_mr (fun hm_s62 => ?_)
              refine k_callV (pc := 90) (np := 2) (As := [gI v43, gL r61]) (st := []) (q0 := 6) E (c_X1_consider l D a cI cJ cS cT s62 v43 r61 (by omega) (by omega) hLEA_s62 (by first | assumption | omega)) wm_624 wm_8 wm_636 wm_622 wm_623 (by decide +kernel) rfl rfl ⟨by decide, by decide⟩ rfl (Nat.le_of_ble_eq_true rfl) dX8_dear_90 (fun r67 s68 hs68 hr66 => ?_)
              replace hT := gby hT hs68
              have hp69 := f_X1_consider_p v43 r61 s62 (by omega) (by omega) hm_s62 hLEA_s62 (by first | assumption | omega) r67 s68 hs68
              obtain ⟨hfc_s68, hm_s68, hp70, hLEA_s68⟩ := hp69
              have hf_s68 : fr [32, 36, 37, 38, 39, 42, 64, 68, 69, 70] s0 s68 := hf_s62.call (by decide) hfc_s68
              have hKM_s68 : KM s68 := KM_fr hKM_s62 (fun k hk => hfc_s68 k (dj (by decide) k hk))
              have hWY_s68 : WY s68 := WY_fr hWY_s62 (fun k hk => hfc_s68 k (dj (by decide) k hk))
              have hKF_s68 : KF s68 := KF_fr hKF_s62 (fun k hk => hfc_s68 k (dj (by decide) k hk))
              have hKC_s68 : KC s68 := KC_fr hKC_s62 (fun k hk => hfc_s68 k (dj (by decide) k hk))
              have hKT_s68 : KT s68 := KT_fr hKT_s62 (fun k hk => hfc_s68 k (dj (by decide) k hk))
              refine k_st (st' := []) rfl ?_
              exact j53 s68 ⟨hf_s68, hKM_s68, hWY_s68, hLEA_s68, hKF_s68, hKC_s68, hKT_s68⟩ hT
          · replace hT := hT.trans (if_neg h49)
            refine k_icmp_ge_t (pc := 60) (tgt := 99) E (by omega) (by omega) dX8_dear_60 (by decide) h49 ?_
            refine k_lv (lv' := [(0, .ref (a 0)), (1, gI x0)]) [0, 1] rfl ?_
            exact hk v43 s44 hT ⟨(by omega), hf_s44, hKM_s44, hWY_s44, hLEA_s44, hKF_s44, hKC_s44, hKT_s44, (by first | assumption | omega)⟩
      refine k_lv (lv' := [(0, .ref (a 0)), (1, gI x0), (2, gI (s0 59 0)), (3, gI 0)]) [2, 3, 1, 0] rfl ?_
      refine L45 17 0 s15 ⟨(by omega), hf_s15, hKM_s15, hWY_s15, hLEA_s15, hKF_s15, hKC_s15, hKT_s15, (by first | assumption | omega)⟩ (by omega) (fun v75 s76 hw hq => ?_)
      obtain ⟨hq77, hf_s76, hKM_s76, hWY_s76, hLEA_s76, hKF_s76, hKC_s76, hKT_s76, hq78⟩ := hq
      replace hT := gl2y hT hw
      refine k_aloadn (pc := 99) E 0 dX8_dear_99 rfl rfl ?_
      refine k_getf (pc := 100) (q0 := 0) (f := 4) (v := .ref (a 6)) E inX8 rfl rfl (by decide) wm_276 rfl rfl dX8_dear_100 ?_
      refine k_iloadn (pc := 103) E 1 dX8_dear_103 rfl rfl ?_
      refine k_callV (pc := 104) (np := 1) (As := [gI x0]) (st := []) (q0 := 6) E (c_X1_answer l D a cI cJ cS cT s76 x0 (by omega)) wm_628 wm_8 wm_625 wm_626 wm_627 (by decide +kernel) rfl rfl ⟨by decide, by decide⟩ rfl (Nat.le_of_ble_eq_true rfl) dX8_dear_104 (ro_kk (fun hr79 => ?_))
      refine k_st (st' := [gL (f_X1_answer x0 s76)]) rfl ?_
      exact k_rho hT (k_lret (pc := 107) E dX8_dear_107 (by omega))
  · replace hT := hT.trans (if_neg h3)
    refine k_if_eq_f (pc := 5) (tgt := 12) E (by omega) dX8_dear_5 (by decide) h3 ?_
    refine k_ldc2 (pc := 8) (n := (-4611686018427387904)) E dX8_dear_8 wm_562 (by decide) ?_
    exact k_rho hT (k_lret (pc := 11) E dX8_dear_11 (by omega))

def w_X8_stop_27 (c1 : Int) (c2 : Int) : Nat → Int → gMem → Int × gMem
  | 0, v15, s16 => (v15, s16)
  | n17 + 1, v15, s16 => (if v15 < 16 then gb (f_X4_become v15 4 (s16 41 v15) s16) (fun r24 s25 => gb (f_X8_plan  s25) (fun r29 s30 => gb (f_X1_consider v15 r29 s30) (fun r35 s36 => gb (f_X4_become v15 (s16 40 v15) (s36 41 v15) s36) (fun r42 s43 => (w_X8_stop_27 c1 c2 n17 (v15 + 1) s43))))) else (v15, s16))
theorem w_X8_stop_27_s (c1 : Int) (c2 : Int) (n17 : Nat) (v15 : Int) (s16 : gMem) : w_X8_stop_27 c1 c2 (n17 + 1) v15 s16 = (if v15 < 16 then gb (f_X4_become v15 4 (s16 41 v15) s16) (fun r24 s25 => gb (f_X8_plan  s25) (fun r29 s30 => gb (f_X1_consider v15 r29 s30) (fun r35 s36 => gb (f_X4_become v15 (s16 40 v15) (s36 41 v15) s36) (fun r42 s43 => (w_X8_stop_27 c1 c2 n17 (v15 + 1) s43))))) else (v15, s16)) := rfl
def f_X8_stop (x0 : Int) (s0 : gMem) : gRes := (if (f_X8_outside x0 2) = 0 then gb (f_X8_plan  s0) (fun r5 s6 => gb (f_X1_begin  s6) (fun r11 s12 => (gl2 (w_X8_stop_27 x0 r5 17 0 s12) (fun v84 s85 => (if (s85 70 0) < r5 then (if x0 = 0 then ((s85 69 0), s85) else ((r5 - (s85 70 0)), s85)) else (if x0 = 0 then ((-1), s85) else (0, s85))))))) else ((-4611686018427387904), s0))
theorem f_X8_stop_e (x0 : Int) (s0 : gMem) : f_X8_stop x0 s0 = (if (f_X8_outside x0 2) = 0 then gb (f_X8_plan  s0) (fun r5 s6 => gb (f_X1_begin  s6) (fun r11 s12 => (gl2 (w_X8_stop_27 x0 r5 17 0 s12) (fun v84 s85 => (if (s85 70 0) < r5 then (if x0 = 0 then ((s85 69 0), s85) else ((r5 - (s85 70 0)), s85)) else (if x0 = 0 then ((-1), s85) else (0, s85))))))) else ((-4611686018427387904), s0)) := rfl
set_option maxRecDepth 100000 in
set_option maxHeartbeats 4000000 in
theorem f_X8_stop_p (x0 : Int) (s0 : gMem) (hx0 : in32 x0) (hm_s0 : gMR lgX s0) (hpre0 : CD s0) (hpre1 : BG s0) (hpre2 : LA s0) (hpre3 : EN s0) (hpre4 : KNx s0) (hpre5 : MOx s0) (hpre6 : KM s0) (hpre7 : WY s0) (hpre8 : LEA s0) (hpre9 : KF s0) (hpre10 : KC s0) (hpre11 : KT s0) (rZ : Int) (sZ : gMem) (hres : f_X8_stop x0 s0 = (rZ, sZ)) : (fr [32, 36, 37, 38, 39, 40, 41, 42, 64, 68, 69, 70] s0 sZ) ∧ (gMR lgX sZ) ∧ (in64 rZ) ∧ (KNx sZ) ∧ (MOx sZ) ∧ (KM sZ) ∧ (WY sZ) ∧ (LEA sZ) ∧ (KF sZ) ∧ (KC sZ) ∧ (KT sZ) := by
  have hT := f_X8_stop_e x0 s0
  have hf_s0 : fr [32, 36, 37, 38, 39, 40, 41, 42, 64, 68, 69, 70] s0 s0 := fr.rf _ _
  have hKNx_s0 := hpre4
  have hMOx_s0 := hpre5
  have hKM_s0 := hpre6
  have hWY_s0 := hpre7
  have hLEA_s0 := hpre8
  have hKF_s0 := hpre9
  have hKC_s0 := hpre10
  have hKT_s0 := hpre11
  have hp2 := f_X8_outside_p x0 2 (by omega) (by omega) 
  by_cases h3 : (f_X8_outside x0 2) = 0
  · replace hT := hT.trans (if_pos h3)
    obtain ⟨r5, s6, hs6⟩ : ∃ rr ss, (f_X8_plan  s0) = (rr, ss) := ⟨_, _, rfl⟩
    replace hT := gby hT hs6
    have hp7 := f_X8_plan_p  s0  hm_s0 hpre0 hpre1 hpre2 hMOx_s0 hKF_s0 hKC_s0 hKT_s0 hKM_s0 hWY_s0 hpre3 r5 s6 hs6
    obtain ⟨hfc_s6, hm_s6, hp8, hKM_s6, hWY_s6, hKF_s6, hKC_s6, hKT_s6, hp9⟩ := hp7
    have hf_s6 : fr [32, 36, 37, 38, 39, 40, 41, 42, 64, 68, 69, 70] s0 s6 := hf_s0.call (by decide) hfc_s6
    have hKNx_s6 : KNx s6 := KNx_fr hKNx_s0 (fun k hk => hfc_s6 k (dj (by decide) k hk))
    have hMOx_s6 : MOx s6 := MOx_fr hMOx_s0 (fun k hk => hfc_s6 k (dj (by decide) k hk))
    have hLEA_s6 : LEA s6 := LEA_fr hLEA_s0 (fun k hk => hfc_s6 k (dj (by decide) k hk))
    obtain ⟨r11, s12, hs12⟩ : ∃ rr ss, (f_X1_begin  s6) = (rr, ss) := ⟨_, _, rfl⟩
    replace hT := gby hT hs12
    have hp13 := f_X1_begin_p  s6  hm_s6 hLEA_s6 r11 s12 hs12
    obtain ⟨hfc_s12, hm_s12, hp14, hLEA_s12⟩ := hp13
    have hf_s12 : fr [32, 36, 37, 38, 39, 40, 41, 42, 64, 68, 69, 70] s0 s12 := hf_s6.call (by decide) hfc_s12
    have hKNx_s12 : KNx s12 := KNx_fr hKNx_s6 (fun k hk => hfc_s12 k (dj (by decide) k hk))
    have hMOx_s12 : MOx s12 := MOx_fr hMOx_s6 (fun k hk => hfc_s12 k (dj (by decide) k hk))
    have hKM_s12 : KM s12 := KM_fr hKM_s6 (fun k hk => hfc_s12 k (dj (by decide) k hk))
    have hWY_s12 : WY s12 := WY_fr hWY_s6 (fun k hk => hfc_s12 k (dj (by decide) k hk))
    have hKF_s12 : KF s12 := KF_fr hKF_s6 (fun k hk => hfc_s12 k (dj (by decide) k hk))
    have hKC_s12 : KC s12 := KC_fr hKC_s6 (fun k hk => hfc_s12 k (dj (by decide) k hk))
    have hKT_s12 : KT s12 := KT_fr hKT_s6 (fun k hk => hfc_s12 k (dj (by decide) k hk))
    have L48 : ∀ (n49 : Nat) (v46 : Int) (s47 : gMem), ((in32 v46) ∧ (fr [32, 36, 37, 38, 39, 40, 41, 42, 64, 68, 69, 70] s0 s47) ∧ (gMR lgX s47) ∧ (KNx s47) ∧ (MOx s47) ∧ (KM s47) ∧ (WY s47) ∧ (LEA s47) ∧ (KF s47) ∧ (KC s47) ∧ (KT s47) ∧ (0 ≤ v46 ∧ v46 ≤ 16)) → 16 - v46 < (n49 : Int) → (∀ (w50 : Int) (s51 : gMem), (w_X8_stop_27 x0 r5 n49 v46 s47) = (w50, s51) → ((in32 w50) ∧ (fr [32, 36, 37, 38, 39, 40, 41, 42, 64, 68, 69, 70] s0 s51) ∧ (gMR lgX s51) ∧ (KNx s51) ∧ (MOx s51) ∧ (KM s51) ∧ (WY s51) ∧ (LEA s51) ∧ (KF s51) ∧ (KC s51) ∧ (KT s51) ∧ (0 ≤ w50 ∧ w50 ≤ 16)) → (fr [32, 36, 37, 38, 39, 40, 41, 42, 64, 68, 69, 70] s0 sZ) ∧ (gMR lgX sZ) ∧ (in64 rZ) ∧ (KNx sZ) ∧ (MOx sZ) ∧ (KM sZ) ∧ (WY sZ) ∧ (LEA sZ) ∧ (KF sZ) ∧ (KC sZ) ∧ (KT sZ)) → (fr [32, 36, 37, 38, 39, 40, 41, 42, 64, 68, 69, 70] s0 sZ) ∧ (gMR lgX sZ) ∧ (in64 rZ) ∧ (KNx sZ) ∧ (MOx sZ) ∧ (KM sZ) ∧ (WY sZ) ∧ (LEA sZ) ∧ (KF sZ) ∧ (KC sZ) ∧ (KT sZ) := by
      intro n49; induction n49 with
      | zero =>
        intro v46 s47 hq hm hk
        exfalso
        obtain ⟨hq80, hf_s47, hm_s47, hKNx_s47, hMOx_s47, hKM_s47, hWY_s47, hLEA_s47, hKF_s47, hKC_s47, hKT_s47, hq81⟩ := hq
        omega
      | succ n49 ih =>
        intro v46 s47 hq hm hk
        obtain ⟨hq82, hf_s47, hm_s47, hKNx_s47, hMOx_s47, hKM_s47, hWY_s47, hLEA_s47, hKF_s47, hKC_s47, hKT_s47, hq83⟩ := hq
        have hT := w_X8_stop_27_s x0 r5 n49 v46 s47
        by_cases h52 : v46 < 16
        · replace hT := hT.trans (if_pos h52)
          have hr53 := (hm_s47 40 v46).1 rfl
          have hi54 := hKNx_s47 v46
          have hr55 := (hm_s47 41 v46).1 rfl
          have hi56 := hMOx_s47 v46
          obtain ⟨r58, s59, hs59⟩ : ∃ rr ss, (f_X4_become v46 4 (s47 41 v46) s47) = (rr, ss) := ⟨_, _, rfl⟩
          replace hT := gby hT hs59
          have hp60 := f_X4_become_p v46 4 (s47 41 v46) s47 (by omega) (by omega) (by omega) hm_s47 hKNx_s47 hMOx_s47 hKF_s47 hKC_s47 hKT_s47 (by first | assumption | omega) (by first | assumption | omega) (by first | assumption | omega) r58 s59 hs59
          obtain ⟨hfc_s59, hm_s59, hp61, hKNx_s59, hMOx_s59, hKF_s59, hKC_s59, hKT_s59⟩ := hp60
          have hf_s59 : fr [32, 36, 37, 38, 39, 40, 41, 42, 64, 68, 69, 70] s0 s59 := hf_s47.call (by decide) hfc_s59
          have hKM_s59 : KM s59 := KM_fr hKM_s47 (fun k hk => hfc_s59 k (dj (by decide) k hk))
          have hWY_s59 : WY s59 := WY_fr hWY_s47 (fun k hk => hfc_s59 k (dj (by decide) k hk))
          have hLEA_s59 : LEA s59 := LEA_fr hLEA_s47 (fun k hk => hfc_s59 k (dj (by decide) k hk))
          obtain ⟨r63, s64, hs64⟩ : ∃ rr ss, (f_X8_plan  s59) = (rr, ss) := ⟨_, _, rfl⟩
          replace hT := gby hT hs64
          have hp65 := f_X8_plan_p  s59  hm_s59 (CD_fr hpre0 (fun k hk => hf_s59 k (dj (by decide) k hk))) (BG_fr hpre1 (fun k hk => hf_s59 k (dj (by decide) k hk))) (LA_fr hpre2 (fun k hk => hf_s59 k (dj (by decide) k hk))) hMOx_s59 hKF_s59 hKC_s59 hKT_s59 hKM_s59 hWY_s59 (EN_fr hpre3 (fun k hk => hf_s59 k (dj (by decide) k hk))) r63 s64 hs64
          obtain ⟨hfc_s64, hm_s64, hp66, hKM_s64, hWY_s64, hKF_s64, hKC_s64, hKT_s64, hp67⟩ := hp65
          have hf_s64 : fr [32, 36, 37, 38, 39, 40, 41, 42, 64, 68, 69, 70] s0 s64 := hf_s59.call (by decide) hfc_s64
          have hKNx_s64 : KNx s64 := KNx_fr hKNx_s59 (fun k hk => hfc_s64 k (dj (by decide) k hk))
          have hMOx_s64 : MOx s64 := MOx_fr hMOx_s59 (fun k hk => hfc_s64 k (dj (by decide) k hk))
          have hLEA_s64 : LEA s64 := LEA_fr hLEA_s59 (fun k hk => hfc_s64 k (dj (by decide) k hk))
          obtain ⟨r69, s70, hs70⟩ : ∃ rr ss, (f_X1_consider v46 r63 s64) = (rr, ss) := ⟨_, _, rfl⟩
          replace hT := gby hT hs70
          have hp71 := f_X1_consider_p v46 r63 s64 (by omega) (by omega) hm_s64 hLEA_s64 (by first | assumption | omega) r69 s70 hs70
          obtain ⟨hfc_s70, hm_s70, hp72, hLEA_s70⟩ := hp71
          have hf_s70 : fr [32, 36, 37, 38, 39, 40, 41, 42, 64, 68, 69, 70] s0 s70 := hf_s64.call (by decide) hfc_s70
          have hKNx_s70 : KNx s70 := KNx_fr hKNx_s64 (fun k hk => hfc_s70 k (dj (by decide) k hk))
          have hMOx_s70 : MOx s70 := MOx_fr hMOx_s64 (fun k hk => hfc_s70 k (dj (by decide) k hk))
          have hKM_s70 : KM s70 := KM_fr hKM_s64 (fun k hk => hfc_s70 k (dj (by decide) k hk))
          have hWY_s70 : WY s70 := WY_fr hWY_s64 (fun k hk => hfc_s70 k (dj (by decide) k hk))
          have hKF_s70 : KF s70 := KF_fr hKF_s64 (fun k hk => hfc_s70 k (dj (by decide) k hk))
          have hKC_s70 : KC s70 := KC_fr hKC_s64 (fun k hk => hfc_s70 k (dj (by decide) k hk))
          have hKT_s70 : KT s70 := KT_fr hKT_s64 (fun k hk => hfc_s70 k (dj (by decide) k hk))
          have hr73 := (hm_s70 41 v46).1 rfl
          have hi74 := hMOx_s70 v46
          obtain ⟨r76, s77, hs77⟩ : ∃ rr ss, (f_X4_become v46 (s47 40 v46) (s70 41 v46) s70) = (rr, ss) := ⟨_, _, rfl⟩
          replace hT := gby hT hs77
          have hp78 := f_X4_become_p v46 (s47 40 v46) (s70 41 v46) s70 (by omega) (by omega) (by omega) hm_s70 hKNx_s70 hMOx_s70 hKF_s70 hKC_s70 hKT_s70 (by first | assumption | omega) (by first | assumption | omega) (by first | assumption | omega) r76 s77 hs77
          obtain ⟨hfc_s77, hm_s77, hp79, hKNx_s77, hMOx_s77, hKF_s77, hKC_s77, hKT_s77⟩ := hp78
          have hf_s77 : fr [32, 36, 37, 38, 39, 40, 41, 42, 64, 68, 69, 70] s0 s77 := hf_s70.call (by decide) hfc_s77
          have hKM_s77 : KM s77 := KM_fr hKM_s70 (fun k hk => hfc_s77 k (dj (by decide) k hk))
          have hWY_s77 : WY s77 := WY_fr hWY_s70 (fun k hk => hfc_s77 k (dj (by decide) k hk))
          have hLEA_s77 : LEA s77 := LEA_fr hLEA_s70 (fun k hk => hfc_s77 k (dj (by decide) k hk))
          exact ih (v46 + 1) s77 ⟨(by omega), hf_s77, hm_s77, hKNx_s77, hMOx_s77, hKM_s77, hWY_s77, hLEA_s77, hKF_s77, hKC_s77, hKT_s77, (by first | assumption | omega)⟩ (by omega) (fun w50 s51 hw hi => hk w50 s51 (hT.trans hw) hi)
        · replace hT := hT.trans (if_neg h52)
          exact hk v46 s47 hT ⟨(by omega), hf_s47, hm_s47, hKNx_s47, hMOx_s47, hKM_s47, hWY_s47, hLEA_s47, hKF_s47, hKC_s47, hKT_s47, (by first | assumption | omega)⟩
    refine L48 17 0 s12 ⟨(by omega), hf_s12, hm_s12, hKNx_s12, hMOx_s12, hKM_s12, hWY_s12, hLEA_s12, hKF_s12, hKC_s12, hKT_s12, (by first | assumption | omega)⟩ (by omega) (fun v84 s85 hw hq => ?_)
    obtain ⟨hq86, hf_s85, hm_s85, hKNx_s85, hMOx_s85, hKM_s85, hWY_s85, hLEA_s85, hKF_s85, hKC_s85, hKT_s85, hq87⟩ := hq
    replace hT := gl2y hT hw
    have hr88 := (hm_s85 70 0).2 rfl
    have hi89 := hLEA_s85 0
    by_cases h90 : (s85 70 0) < r5
    · replace hT := hT.trans (if_pos h90)
      by_cases h91 : x0 = 0
      · replace hT := hT.trans (if_pos h91)
        have hr92 := (hm_s85 69 0).2 rfl
        obtain ⟨rfl, rfl⟩ := Prod.mk.inj (hT.symm.trans hres)
        exact ⟨hf_s85, hm_s85, (by omega), hKNx_s85, hMOx_s85, hKM_s85, hWY_s85, hLEA_s85, hKF_s85, hKC_s85, hKT_s85⟩
      · replace hT := hT.trans (if_neg h91)
        have hr93 := (hm_s85 70 0).2 rfl
        have hi94 := hLEA_s85 0
        obtain ⟨rfl, rfl⟩ := Prod.mk.inj (hT.symm.trans hres)
        exact ⟨hf_s85, hm_s85, (by omega), hKNx_s85, hMOx_s85, hKM_s85, hWY_s85, hLEA_s85, hKF_s85, hKC_s85, hKT_s85⟩
    · replace hT := hT.trans (if_neg h90)
      by_cases h95 : x0 = 0
      · replace hT := hT.trans (if_pos h95)
        obtain ⟨rfl, rfl⟩ := Prod.mk.inj (hT.symm.trans hres)
        exact ⟨hf_s85, hm_s85, (by omega), hKNx_s85, hMOx_s85, hKM_s85, hWY_s85, hLEA_s85, hKF_s85, hKC_s85, hKT_s85⟩
      · replace hT := hT.trans (if_neg h95)
        obtain ⟨rfl, rfl⟩ := Prod.mk.inj (hT.symm.trans hres)
        exact ⟨hf_s85, hm_s85, (by omega), hKNx_s85, hMOx_s85, hKM_s85, hWY_s85, hLEA_s85, hKF_s85, hKC_s85, hKT_s85⟩
  · replace hT := hT.trans (if_neg h3)
    obtain ⟨rfl, rfl⟩ := Prod.mk.inj (hT.symm.trans hres)
    exact ⟨hf_s0, hm_s0, (by omega), hKNx_s0, hMOx_s0, hKM_s0, hWY_s0, hLEA_s0, hKF_s0, hKC_s0, hKT_s0⟩
set_option maxRecDepth 100000 in
set_option maxHeartbeats 4000000 in
theorem c_X8_stop (l : Launch) (D : va_G) (a : Nat → Nat) (cI cJ cS cT : ClassId) (s0 : gMem) (x0 : Int) (hx0 : in32 x0) (hpre0 : CD s0) (hpre1 : BG s0) (hpre2 : LA s0) (hpre3 : EN s0) (hpre4 : KNx s0) (hpre5 : MOx s0) (hpre6 : KM s0) (hpre7 : WY s0) (hpre8 : LEA s0) (hpre9 : KF s0) (hpre10 : KC s0) (hpre11 : KT s0) : gC l yX8_stop cX8_stop 6 (some .long) 7 448 D vwCl (gT cI cJ cS cT) (wdX a cI cJ cS cT) lgX kJ in64 [.ref (a 0), gI x0] s0 (f_X8_stop x0 s0) := by
  refine gC_of (by decide +kernel) (hwdX a cI cJ cS cT) (Nat.le_of_ble_eq_true rfl) ?_
  intro A p e R s m args below meth c hR E
  subst hR
  have hT := f_X8_stop_e x0 s0
  have hf_s0 : fr [32, 36, 37, 38, 39, 40, 41, 42, 64, 68, 69, 70] s0 s0 := fr.rf _ _
  refine k_lv0 (lv' := [(0, .ref (a 0)), (1, gI x0)]) rfl ?_
  refine k_mr (fun hm_s0 => ?_)
  have hKNx_s0 := hpre4
  have hMOx_s0 := hpre5
  have hKM_s0 := hpre6
  have hWY_s0 := hpre7
  have hLEA_s0 := hpre8
  have hKF_s0 := hpre9
  have hKC_s0 := hpre10
  have hKT_s0 := hpre11
  refine k_iloadn (pc := 0) E 1 dX8_stop_0 rfl rfl ?_
  refine k_iconst (pc := 1) E dX8_stop_1 ?_
  refine k_mr (fun hm_s0 => ?_)
  refine k_callS (pc := 2) (np := 2) (As := [gI x0, gI 2]) (st := []) E (c_X8_outside l D a cI cJ cS cT s0 x0 2 (by omega) (by omega)) wm_310 wm_1 wm_308 wm_309 (by decide +kernel) ⟨by decide, by decide⟩ rfl (Nat.le_of_ble_eq_true rfl) dX8_stop_2 (ro_kk (fun hr1 => ?_))
  have hp2 := f_X8_outside_p x0 2 (by omega) (by omega) 
  refine k_st (st' := [gI (f_X8_outside x0 2)]) rfl ?_
  by_cases h3 : (f_X8_outside x0 2) = 0
  · replace hT := hT.trans (if_pos h3)
    refine k_if_eq_t (pc := 5) (tgt := 12) E (by omega) dX8_stop_5 (by decide) h3 ?_
    refine k_aloadn (pc := 12) E 0 dX8_stop_12 rfl rfl ?_
    refine k_mr (fun hm_s0 => ?_)
    refine k_callV (pc := 13) (np := 0) (As := []) (st := []) (q0 := 0) E (c_X8_plan l D a cI cJ cS cT s0  hpre0 hpre1 hpre2 hMOx_s0 hKF_s0 hKC_s0 hKT_s0 hKM_s0 hWY_s0 hpre3) wm_602 wm_1 wm_645 wm_600 wm_601 (by decide +kernel) rfl rfl ⟨by decide, by decide⟩ rfl (Nat.le_of_ble_eq_true rfl) dX8_stop_13 (fun r5 s6 hs6 hr4 => ?_)
    replace hT := gby hT hs6
    have hp7 := f_X8_plan_p  s0  hm_s0 hpre0 hpre1 hpre2 hMOx_s0 hKF_s0 hKC_s0 hKT_s0 hKM_s0 hWY_s0 hpre3 r5 s6 hs6
    obtain ⟨hfc_s6, hm_s6, hp8, hKM_s6, hWY_s6, hKF_s6, hKC_s6, hKT_s6, hp9⟩ := hp7
    have hf_s6 : fr [32, 36, 37, 38, 39, 40, 41, 42, 64, 68, 69, 70] s0 s6 := hf_s0.call (by decide) hfc_s6
    have hKNx_s6 : KNx s6 := KNx_fr hKNx_s0 (fun k hk => hfc_s6 k (dj (by decide) k hk))
    have hMOx_s6 : MOx s6 := MOx_fr hMOx_s0 (fun k hk => hfc_s6 k (dj (by decide) k hk))
    have hLEA_s6 : LEA s6 := LEA_fr hLEA_s0 (fun k hk => hfc_s6 k (dj (by decide) k hk))
    refine k_st (st' := [gL r5]) rfl ?_
    refine k_lstoren (pc := 16) (lv' := [(2, gL r5), (0, .ref (a 0)), (1, gI x0)]) E dX8_stop_16 rfl (by decide) rfl ?_
    refine k_aloadn (pc := 17) E 1 dX8_stop_17 rfl rfl ?_
    refine k_getf (pc := 18) (q0 := 0) (f := 4) (v := .ref (a 6)) E inX8 rfl rfl (by decide) wm_276 rfl rfl dX8_stop_18 ?_
    refine k_mr (fun hm_s6 => ?_)
    refine k_callV (pc := 21) (np := 0) (As := []) (st := []) (q0 := 6) E (c_X1_begin l D a cI cJ cS cT s6  hLEA_s6) wm_610 wm_8 wm_607 wm_608 wm_609 (by decide +kernel) rfl rfl ⟨by decide, by decide⟩ rfl (Nat.le_of_ble_eq_true rfl) dX8_stop_21 (fun r11 s12 hs12 hr10 => ?_)
    replace hT := gby hT hs12
    have hp13 := f_X1_begin_p  s6  hm_s6 hLEA_s6 r11 s12 hs12
    obtain ⟨hfc_s12, hm_s12, hp14, hLEA_s12⟩ := hp13
    have hf_s12 : fr [32, 36, 37, 38, 39, 40, 41, 42, 64, 68, 69, 70] s0 s12 := hf_s6.call (by decide) hfc_s12
    have hKNx_s12 : KNx s12 := KNx_fr hKNx_s6 (fun k hk => hfc_s12 k (dj (by decide) k hk))
    have hMOx_s12 : MOx s12 := MOx_fr hMOx_s6 (fun k hk => hfc_s12 k (dj (by decide) k hk))
    have hKM_s12 : KM s12 := KM_fr hKM_s6 (fun k hk => hfc_s12 k (dj (by decide) k hk))
    have hWY_s12 : WY s12 := WY_fr hWY_s6 (fun k hk => hfc_s12 k (dj (by decide) k hk))
    have hKF_s12 : KF s12 := KF_fr hKF_s6 (fun k hk => hfc_s12 k (dj (by decide) k hk))
    have hKC_s12 : KC s12 := KC_fr hKC_s6 (fun k hk => hfc_s12 k (dj (by decide) k hk))
    have hKT_s12 : KT s12 := KT_fr hKT_s6 (fun k hk => hfc_s12 k (dj (by decide) k hk))
    refine k_st (st' := []) rfl ?_
    refine k_iconst (pc := 24) E dX8_stop_24 ?_
    refine k_istore (pc := 25) (lv' := [(4, gI 0), (2, gL r5), (0, .ref (a 0)), (1, gI x0)]) E dX8_stop_25 (by decide) rfl ?_
    have L48 : ∀ (n49 : Nat) (v46 : Int) (s47 : gMem), ((in32 v46) ∧ (fr [32, 36, 37, 38, 39, 40, 41, 42, 64, 68, 69, 70] s0 s47) ∧ (KNx s47) ∧ (MOx s47) ∧ (KM s47) ∧ (WY s47) ∧ (LEA s47) ∧ (KF s47) ∧ (KC s47) ∧ (KT s47) ∧ (0 ≤ v46 ∧ v46 ≤ 16)) → 16 - v46 < (n49 : Int) → (∀ (w50 : Int) (s51 : gMem), (w_X8_stop_27 x0 r5 n49 v46 s47) = (w50, s51) → ((in32 w50) ∧ (fr [32, 36, 37, 38, 39, 40, 41, 42, 64, 68, 69, 70] s0 s51) ∧ (KNx s51) ∧ (MOx s51) ∧ (KM s51) ∧ (WY s51) ∧ (LEA s51) ∧ (KF s51) ∧ (KC s51) ∧ (KT s51) ∧ (0 ≤ w50 ∧ w50 ≤ 16)) → gK D vwCl (wdX a cI cJ cS cT) lgX A p l e { frames := 7, cells := 0, slots := 0, locals := 448 } s m args below meth c 6 (gQQ D vwCl (wdX a cI cJ cS cT) lgX A kJ in64 below args s) (f_X8_stop x0 s0) s51 115 [(0, .ref (a 0)), (1, gI x0), (2, gL r5)] []) → gK D vwCl (wdX a cI cJ cS cT) lgX A p l e { frames := 7, cells := 0, slots := 0, locals := 448 } s m args below meth c 6 (gQQ D vwCl (wdX a cI cJ cS cT) lgX A kJ in64 below args s) (f_X8_stop x0 s0) s47 27 [(0, .ref (a 0)), (1, gI x0), (2, gL r5), (4, gI v46)] [] := by
      intro n49; induction n49 with
      | zero =>
        intro v46 s47 hq hm hk
        exfalso
        obtain ⟨hq80, hf_s47, hKNx_s47, hMOx_s47, hKM_s47, hWY_s47, hLEA_s47, hKF_s47, hKC_s47, hKT_s47, hq81⟩ := hq
        omega
      | succ n49 ih =>
        intro v46 s47 hq hm hk
        obtain ⟨hq82, hf_s47, hKNx_s47, hMOx_s47, hKM_s47, hWY_s47, hLEA_s47, hKF_s47, hKC_s47, hKT_s47, hq83⟩ := hq
        have hT := w_X8_stop_27_s x0 r5 n49 v46 s47
        refine k_iload (pc := 27) E 3 dX8_stop_27 rfl ?_
        refine k_bipush (pc := 29) E dX8_stop_29 (by decide) ?_
        by_cases h52 : v46 < 16
        · replace hT := hT.trans (if_pos h52)
          refine k_icmp_ge_f (pc := 31) (tgt := 115) E (by omega) (by omega) dX8_stop_31 (by decide) h52 ?_
          refine k_aloadn (pc := 34) E 0 dX8_stop_34 rfl rfl ?_
          refine k_getf (pc := 35) (q0 := 0) (f := 2) (v := .ref (a 3)) E inX8 rfl rfl (by decide) wm_274 rfl rfl dX8_stop_35 ?_
          refine k_getf (pc := 38) (q0 := 3) (f := 0) (v := .ref (a 4)) E inX4 rfl rfl (by decide) wm_149 rfl rfl dX8_stop_38 ?_
          refine k_getf (pc := 41) (q0 := 4) (f := 0) (v := .ref (a 40)) E inX6 rfl rfl (by decide) wm_104 rfl rfl dX8_stop_41 ?_
          refine k_iload (pc := 44) E 3 dX8_stop_44 rfl ?_
          refine k_iaload (pc := 46) (q0 := 40) (t0 := 0) (k := 40) (n := 16) E rfl rfl rfl (by decide) (by omega) (by omega) dX8_stop_46 (fun hr53 => ?_)
          have hi54 := hKNx_s47 v46
          refine k_istore (pc := 47) (lv' := [(5, gI (s47 40 v46)), (0, .ref (a 0)), (1, gI x0), (2, gL r5), (4, gI v46)]) E dX8_stop_47 (by decide) rfl ?_
          refine k_aloadn (pc := 49) E 1 dX8_stop_49 rfl rfl ?_
          refine k_getf (pc := 50) (q0 := 0) (f := 2) (v := .ref (a 3)) E inX8 rfl rfl (by decide) wm_274 rfl rfl dX8_stop_50 ?_
          refine k_iload (pc := 53) E 4 dX8_stop_53 rfl ?_
          refine k_iconst (pc := 55) E dX8_stop_55 ?_
          refine k_aloadn (pc := 56) E 1 dX8_stop_56 rfl rfl ?_
          refine k_getf (pc := 57) (q0 := 0) (f := 2) (v := .ref (a 3)) E inX8 rfl rfl (by decide) wm_274 rfl rfl dX8_stop_57 ?_
          refine k_getf (pc := 60) (q0 := 3) (f := 0) (v := .ref (a 4)) E inX4 rfl rfl (by decide) wm_149 rfl rfl dX8_stop_60 ?_
          refine k_getf (pc := 63) (q0 := 4) (f := 1) (v := .ref (a 41)) E inX6 rfl rfl (by decide) wm_107 rfl rfl dX8_stop_63 ?_
          refine k_iload (pc := 66) E 4 dX8_stop_66 rfl ?_
          refine k_iaload (pc := 68) (q0 := 41) (t0 := 0) (k := 41) (n := 16) E rfl rfl rfl (by decide) (by omega) (by omega) dX8_stop_68 (fun hr55 => ?_)
          have hi56 := hMOx_s47 v46
          refine k_mr (fun hm_s47 => ?_)
          refine k_callV (pc := 69) (np := 3) (As := [gI v46, gI 4, gI (s47 41 v46)]) (st := []) (q0 := 3) E (c_X4_become l D a cI cJ cS cT s47 v46 4 (s47 41 v46) (by omega) (by omega) (by omega) hKNx_s47 hMOx_s47 hKF_s47 hKC_s47 hKT_s47 (by first | assumption | omega) (by first | assumption | omega) (by first | assumption | omega)) wm_505 wm_4 wm_502 wm_503 wm_504 (by decide +kernel) rfl rfl ⟨by decide, by decide⟩ rfl (Nat.le_of_ble_eq_true rfl) dX8_stop_69 (fun r58 s59 hs59 hr57 => ?_)
          replace hT := gby hT hs59
          have hp60 := f_X4_become_p v46 4 (s47 41 v46) s47 (by omega) (by omega) (by omega) hm_s47 hKNx_s47 hMOx_s47 hKF_s47 hKC_s47 hKT_s47 (by first | assumption | omega) (by first | assumption | omega) (by first | assumption | omega) r58 s59 hs59
          obtain ⟨hfc_s59, hm_s59, hp61, hKNx_s59, hMOx_s59, hKF_s59, hKC_s59, hKT_s59⟩ := hp60
          have hf_s59 : fr [32, 36, 37, 38, 39, 40, 41, 42, 64, 68, 69, 70] s0 s59 := hf_s47.call (by decide) hfc_s59
          have hKM_s59 : KM s59 := KM_fr hKM_s47 (fun k hk => hfc_s59 k (dj (by decide) k hk))
          have hWY_s59 : WY s59 := WY_fr hWY_s47 (fun k hk => hfc_s59 k (dj (by decide) k hk))
          have hLEA_s59 : LEA s59 := LEA_fr hLEA_s47 (fun k hk => hfc_s59 k (dj (by decide) k hk))
          refine k_st (st' := []) rfl ?_
          refine k_aloadn (pc := 72) E 1 dX8_stop_72 rfl rfl ?_
          refine k_getf (pc := 73) (q0 := 0) (f := 4) (v := .ref (a 6)) E inX8 rfl rfl (by decide) wm_276 rfl rfl dX8_stop_73 ?_
          refine k_iload (pc := 76) E 4 dX8_stop_76 rfl ?_
          refine k_aloadn (pc := 78) E 1 dX8_stop_78 rfl rfl ?_
          refine k_mr (fun hm_s59 => ?_)
          refine k_callV (pc := 79) (np := 0) (As := []) (st := [gI v46, .ref (a 6)]) (q0 := 0) E (c_X8_plan l D a cI cJ cS cT s59  (CD_fr hpre0 (fun k hk => hf_s59 k (dj (by decide) k hk))) (BG_fr hpre1 (fun k hk => hf_s59 k (dj (by decide) k hk))) (LA_fr hpre2 (fun k hk => hf_s59 k (dj (by decide) k hk))) hMOx_s59 hKF_s59 hKC_s59 hKT_s59 hKM_s59 hWY_s59 (EN_fr hpre3 (fun k hk => hf_s59 k (dj (by decide) k hk)))) wm_602 wm_1 wm_645 wm_600 wm_601 (by decide +kernel) rfl rfl ⟨by decide, by decide⟩ rfl (Nat.le_of_ble_eq_true rfl) dX8_stop_79 (fun r63 s64 hs64 hr62 => ?_)
          replace hT := gby hT hs64
          have hp65 := f_X8_plan_p  s59  hm_s59 (CD_fr hpre0 (fun k hk => hf_s59 k (dj (by decide) k hk))) (BG_fr hpre1 (fun k hk => hf_s59 k (dj (by decide) k hk))) (LA_fr hpre2 (fun k hk => hf_s59 k (dj (by decide) k hk))) hMOx_s59 hKF_s59 hKC_s59 hKT_s59 hKM_s59 hWY_s59 (EN_fr hpre3 (fun k hk => hf_s59 k (dj (by decide) k hk))) r63 s64 hs64
          obtain ⟨hfc_s64, hm_s64, hp66, hKM_s64, hWY_s64, hKF_s64, hKC_s64, hKT_s64, hp67⟩ := hp65
          have hf_s64 : fr [32, 36, 37, 38, 39, 40, 41, 42, 64, 68, 69, 70] s0 s64 := hf_s59.call (by decide) hfc_s64
          have hKNx_s64 : KNx s64 := KNx_fr hKNx_s59 (fun k hk => hfc_s64 k (dj (by decide) k hk))
          have hMOx_s64 : MOx s64 := MOx_fr hMOx_s59 (fun k hk => hfc_s64 k (dj (by decide) k hk))
          have hLEA_s64 : LEA s64 := LEA_fr hLEA_s59 (fun k hk => hfc_s64 k (dj (by decide) k hk))
          refine k_st (st' := [gL r63, gI v46, .ref (a 6)]) rfl ?_
          refine k_mr (fun hm_s64 => ?_)
          refine k_callV (pc := 82) (np := 2) (As := [gI v46, gL r63]) (st := []) (q0 := 6) E (c_X1_consider l D a cI cJ cS cT s64 v46 r63 (by omega) (by omega) hLEA_s64 (by first | assumption | omega)) wm_624 wm_8 wm_636 wm_622 wm_623 (by decide +kernel) rfl rfl ⟨by decide, by decide⟩ rfl (Nat.le_of_ble_eq_true rfl) dX8_stop_82 (fun r69 s70 hs70 hr68 => ?_)
          replace hT := gby hT hs70
          have hp71 := f_X1_consider_p v46 r63 s64 (by omega) (by omega) hm_s64 hLEA_s64 (by first | assumption | omega) r69 s70 hs70
          obtain ⟨hfc_s70, hm_s70, hp72, hLEA_s70⟩ := hp71
          have hf_s70 : fr [32, 36, 37, 38, 39, 40, 41, 42, 64, 68, 69, 70] s0 s70 := hf_s64.call (by decide) hfc_s70
          have hKNx_s70 : KNx s70 := KNx_fr hKNx_s64 (fun k hk => hfc_s70 k (dj (by decide) k hk))
          have hMOx_s70 : MOx s70 := MOx_fr hMOx_s64 (fun k hk => hfc_s70 k (dj (by decide) k hk))
          have hKM_s70 : KM s70 := KM_fr hKM_s64 (fun k hk => hfc_s70 k (dj (by decide) k hk))
          have hWY_s70 : WY s70 := WY_fr hWY_s64 (fun k hk => hfc_s70 k (dj (by decide) k hk))
          have hKF_s70 : KF s70 := KF_fr hKF_s64 (fun k hk => hfc_s70 k (dj (by decide) k hk))
          have hKC_s70 : KC s70 := KC_fr hKC_s64 (fun k hk => hfc_s70 k (dj (by decide) k hk))
          have hKT_s70 : KT s70 := KT_fr hKT_s64 (fun k hk => hfc_s70 k (dj (by decide) k hk))
          refine k_st (st' := []) rfl ?_
          refine k_aloadn (pc := 85) E 1 dX8_stop_85 rfl rfl ?_
          refine k_getf (pc := 86) (q0 := 0) (f := 2) (v := .ref (a 3)) E inX8 rfl rfl (by decide) wm_274 rfl rfl dX8_stop_86 ?_
          refine k_iload (pc := 89) E 4 dX8_stop_89 rfl ?_
          refine k_iload (pc := 91) E 0 dX8_stop_91 rfl ?_
          refine k_aloadn (pc := 93) E 1 dX8_stop_93 rfl rfl ?_
          refine k_getf (pc := 94) (q0 := 0) (f := 2) (v := .ref (a 3)) E inX8 rfl rfl (by decide) wm_274 rfl rfl dX8_stop_94 ?_
          refine k_getf (pc := 97) (q0 := 3) (f := 0) (v := .ref (a 4)) E inX4 rfl rfl (by decide) wm_149 rfl rfl dX8_stop_97 ?_
          refine k_getf (pc := 100) (q0 := 4) (f := 1) (v := .ref (a 41)) E inX6 rfl rfl (by decide) wm_107 rfl rfl dX8_stop_100 ?_
          refine k_iload (pc := 103) E 4 dX8_stop_103 rfl ?_
          refine k_iaload (pc := 105) (q0 := 41) (t0 := 0) (k := 41) (n := 16) E rfl rfl rfl (by decide) (by omega) (by omega) dX8_stop_105 (fun hr73 => ?_)
          have hi74 := hMOx_s70 v46
          refine k_mr (fun hm_s70 => ?_)
          refine k_callV (pc := 106) (np := 3) (As := [gI v46, gI (s47 40 v46), gI (s70 41 v46)]) (st := []) (q0 := 3) E (c_X4_become l D a cI cJ cS cT s70 v46 (s47 40 v46) (s70 41 v46) (by omega) (by omega) (by omega) hKNx_s70 hMOx_s70 hKF_s70 hKC_s70 hKT_s70 (by first | assumption | omega) (by first | assumption | omega) (by first | assumption | omega)) wm_505 wm_4 wm_502 wm_503 wm_504 (by decide +kernel) rfl rfl ⟨by decide, by decide⟩ rfl (Nat.le_of_ble_eq_true rfl) dX8_stop_106 (fun r76 s77 hs77 hr75 => ?_)
          replace hT := gby hT hs77
          have hp78 := f_X4_become_p v46 (s47 40 v46) (s70 41 v46) s70 (by omega) (by omega) (by omega) hm_s70 hKNx_s70 hMOx_s70 hKF_s70 hKC_s70 hKT_s70 (by first | assumption | omega) (by first | assumption | omega) (by first | assumption | omega) r76 s77 hs77
          obtain ⟨hfc_s77, hm_s77, hp79, hKNx_s77, hMOx_s77, hKF_s77, hKC_s77, hKT_s77⟩ := hp78
          have hf_s77 : fr [32, 36, 37, 38, 39, 40, 41, 42, 64, 68, 69, 70] s0 s77 := hf_s70.call (by decide) hfc_s77
          have hKM_s77 : KM s77 := KM_fr hKM_s70 (fun k hk => hfc_s77 k (dj (by decide) k hk))
          have hWY_s77 : WY s77 := WY_fr hWY_s70 (fun k hk => hfc_s77 k (dj (by decide) k hk))
          have hLEA_s77 : LEA s77 := LEA_fr hLEA_s70 (fun k hk => hfc_s77 k (dj (by decide) k hk))
          refine k_st (st' := []) rfl ?_
          refine k_iinc (pc := 109) (lv' := [(4, gI (v46 + 1)), (5, gI (s47 40 v46)), (0, .ref (a 0)), (1, gI x0), (2, gL r5)]) E 4 dX8_stop_109 rfl (by decide) rfl ?_
          refine k_goto (pc := 112) (tgt := 27) E dX8_stop_112 (by decide) ?_
          refine k_lv (lv' := [(0, .ref (a 0)), (1, gI x0), (2, gL r5), (4, gI (v46 + 1))]) [2, 3, 4, 0] rfl ?_
          exact ih (v46 + 1) s77 ⟨(by omega), hf_s77, hKNx_s77, hMOx_s77, hKM_s77, hWY_s77, hLEA_s77, hKF_s77, hKC_s77, hKT_s77, (by first | assumption | omega)⟩ (by omega) (fun w50 s51 hw hi => hk w50 s51 (hT.trans hw) hi)
        · replace hT := hT.trans (if_neg h52)
          refine k_icmp_ge_t (pc := 31) (tgt := 115) E (by omega) (by omega) dX8_stop_31 (by decide) h52 ?_
          refine k_lv (lv' := [(0, .ref (a 0)), (1, gI x0), (2, gL r5)]) [0, 1, 2] rfl ?_
          exact hk v46 s47 hT ⟨(by omega), hf_s47, hKNx_s47, hMOx_s47, hKM_s47, hWY_s47, hLEA_s47, hKF_s47, hKC_s47, hKT_s47, (by first | assumption | omega)⟩
    refine k_lv (lv' := [(0, .ref (a 0)), (1, gI x0), (2, gL r5), (4, gI 0)]) [2, 3, 1, 0] rfl ?_
    refine L48 17 0 s12 ⟨(by omega), hf_s12, hKNx_s12, hMOx_s12, hKM_s12, hWY_s12, hLEA_s12, hKF_s12, hKC_s12, hKT_s12, (by first | assumption | omega)⟩ (by omega) (fun v84 s85 hw hq => ?_)
    obtain ⟨hq86, hf_s85, hKNx_s85, hMOx_s85, hKM_s85, hWY_s85, hLEA_s85, hKF_s85, hKC_s85, hKT_s85, hq87⟩ := hq
    replace hT := gl2y hT hw
    refine k_aloadn (pc := 115) E 0 dX8_stop_115 rfl rfl ?_
    refine k_getf (pc := 116) (q0 := 0) (f := 4) (v := .ref (a 6)) E inX8 rfl rfl (by decide) wm_276 rfl rfl dX8_stop_116 ?_
    refine k_getfJ (pc := 119) (q0 := 6) (f := 3) (k := 70) E inX1 rfl rfl (by decide) wm_215 rfl rfl rfl dX8_stop_119 (fun hr88 => ?_)
    have hi89 := hLEA_s85 0
    refine k_lloadn (pc := 122) E 2 dX8_stop_122 rfl rfl ?_
    by_cases h90 : (s85 70 0) < r5
    · replace hT := hT.trans (if_pos h90)
      refine k_lcmp (pc := 123) E dX8_stop_123 (by omega) (by omega) ?_
      refine k_if_lt_t (pc := 124) (tgt := 139) E (by (repeat' split) <;> omega) dX8_stop_124 (by decide) (by (repeat' split) <;> omega) ?_
      refine k_iloadn (pc := 139) E 1 dX8_stop_139 rfl rfl ?_
      by_cases h91 : x0 = 0
      · replace hT := hT.trans (if_pos h91)
        refine k_if_ne_f (pc := 140) (tgt := 153) E (by omega) dX8_stop_140 (by decide) h91 ?_
        refine k_aloadn (pc := 143) E 0 dX8_stop_143 rfl rfl ?_
        refine k_getf (pc := 144) (q0 := 0) (f := 4) (v := .ref (a 6)) E inX8 rfl rfl (by decide) wm_276 rfl rfl dX8_stop_144 ?_
        refine k_getfJ (pc := 147) (q0 := 6) (f := 2) (k := 69) E inX1 rfl rfl (by decide) wm_213 rfl rfl rfl dX8_stop_147 (fun hr92 => ?_)
        refine k_goto (pc := 150) (tgt := 162) E dX8_stop_150 (by decide) ?_
        exact k_rho hT (k_lret (pc := 162) E dX8_stop_162 (by omega))
      · replace hT := hT.trans (if_neg h91)
        refine k_if_ne_t (pc := 140) (tgt := 153) E (by omega) dX8_stop_140 (by decide) h91 ?_
        refine k_lloadn (pc := 153) E 2 dX8_stop_153 rfl rfl ?_
        refine k_aloadn (pc := 154) E 0 dX8_stop_154 rfl rfl ?_
        refine k_getf (pc := 155) (q0 := 0) (f := 4) (v := .ref (a 6)) E inX8 rfl rfl (by decide) wm_276 rfl rfl dX8_stop_155 ?_
        refine k_getfJ (pc := 158) (q0 := 6) (f := 3) (k := 70) E inX1 rfl rfl (by decide) wm_215 rfl rfl rfl dX8_stop_158 (fun hr93 => ?_)
        have hi94 := hLEA_s85 0
        refine k_lsub (pc := 161) E dX8_stop_161 ?_
        exact k_rho hT (k_lret (pc := 162) E dX8_stop_162 (by omega))
    · replace hT := hT.trans (if_neg h90)
      refine k_lcmp (pc := 123) E dX8_stop_123 (by omega) (by omega) ?_
      refine k_if_lt_f (pc := 124) (tgt := 139) E (by (repeat' split) <;> omega) dX8_stop_124 (by decide) (by (repeat' split) <;> omega) ?_
      refine k_iloadn (pc := 127) E 1 dX8_stop_127 rfl rfl ?_
      by_cases h95 : x0 = 0
      · replace hT := hT.trans (if_pos h95)
        refine k_if_ne_f (pc := 128) (tgt := 137) E (by omega) dX8_stop_128 (by decide) h95 ?_
        refine k_ldc2 (pc := 131) (n := (-1)) E dX8_stop_131 wm_646 (by decide) ?_
        refine k_goto (pc := 134) (tgt := 138) E dX8_stop_134 (by decide) ?_
        exact k_rho hT (k_lret (pc := 138) E dX8_stop_138 (by omega))
      · replace hT := hT.trans (if_neg h95)
        refine k_if_ne_t (pc := 128) (tgt := 137) E (by omega) dX8_stop_128 (by decide) h95 ?_
        refine k_lconst0 (pc := 137) E dX8_stop_137 ?_
        exact k_rho hT (k_lret (pc := 138) E dX8_stop_138 (by omega))
  · replace hT := hT.trans (if_neg h3)
    refine k_if_eq_f (pc := 5) (tgt := 12) E (by omega) dX8_stop_5 (by decide) h3 ?_
    refine k_ldc2 (pc := 8) (n := (-4611686018427387904)) E dX8_stop_8 wm_562 (by decide) ?_
    exact k_rho hT (k_lret (pc := 11) E dX8_stop_11 (by omega))
