theorem wp_4 : Cond.selects RX3 yX3_want yX3_want ∈ gBIG := gm (List.mem_of_getElem? (i := 4) (by decide +kernel)) (by decide +kernel)
theorem wp_6 : Cond.selects RX3 yX3_readOr yX3_readOr ∈ gBIG := gm (List.mem_of_getElem? (i := 6) (by decide +kernel)) (by decide +kernel)
theorem wp_7 : Cond.selects RX3 yX3_readAnd yX3_readAnd ∈ gBIG := gm (List.mem_of_getElem? (i := 7) (by decide +kernel)) (by decide +kernel)
theorem wp_8 : Cond.selects RX3 yX3_readNot yX3_readNot ∈ gBIG := gm (List.mem_of_getElem? (i := 8) (by decide +kernel)) (by decide +kernel)
theorem wp_9 : Cond.selects RX3 yX3_readCompared yX3_readCompared ∈ gBIG := gm (List.mem_of_getElem? (i := 9) (by decide +kernel)) (by decide +kernel)
theorem wp_10 : Cond.selects RX3 yX3_readSum yX3_readSum ∈ gBIG := gm (List.mem_of_getElem? (i := 10) (by decide +kernel)) (by decide +kernel)
theorem wp_11 : Cond.selects RX3 yX3_readTerm yX3_readTerm ∈ gBIG := gm (List.mem_of_getElem? (i := 11) (by decide +kernel)) (by decide +kernel)
theorem wp_12 : Cond.selects RX3 yX3_readOne yX3_readOne ∈ gBIG := gm (List.mem_of_getElem? (i := 12) (by decide +kernel)) (by decide +kernel)
theorem wp_13 : Cond.selects RX3 yX3_emit yX3_emit ∈ gBIG := gm (List.mem_of_getElem? (i := 13) (by decide +kernel)) (by decide +kernel)
theorem wm_421 : Cond.methodLink RX3 37 yX3_want ∈ gBIG := gm (List.mem_of_getElem? (i := 475) (by decide +kernel)) (by decide +kernel)
theorem wm_423 : Cond.instanceMethod yX3_want ∈ gBIG := gm (List.mem_of_getElem? (i := 477) (by decide +kernel)) (by decide +kernel)
theorem wm_424 : Cond.code yX3_want cX3_want 2 none ∈ gBIG := gm (List.mem_of_getElem? (i := 478) (by decide +kernel)) (by decide +kernel)
theorem wm_429 : Cond.methodLink RX3 41 yX3_readOr ∈ gBIG := gm (List.mem_of_getElem? (i := 483) (by decide +kernel)) (by decide +kernel)
theorem wm_431 : Cond.instanceMethod yX3_readOr ∈ gBIG := gm (List.mem_of_getElem? (i := 485) (by decide +kernel)) (by decide +kernel)
theorem wm_432 : Cond.code yX3_readOr cX3_readOr 3 none ∈ gBIG := gm (List.mem_of_getElem? (i := 486) (by decide +kernel)) (by decide +kernel)
theorem wm_433 : Cond.methodLink RX3 53 yX3_readAnd ∈ gBIG := gm (List.mem_of_getElem? (i := 487) (by decide +kernel)) (by decide +kernel)
theorem wm_435 : Cond.instanceMethod yX3_readAnd ∈ gBIG := gm (List.mem_of_getElem? (i := 489) (by decide +kernel)) (by decide +kernel)
theorem wm_436 : Cond.code yX3_readAnd cX3_readAnd 3 none ∈ gBIG := gm (List.mem_of_getElem? (i := 490) (by decide +kernel)) (by decide +kernel)
theorem wm_437 : Cond.methodLink RX3 61 yX3_readNot ∈ gBIG := gm (List.mem_of_getElem? (i := 491) (by decide +kernel)) (by decide +kernel)
theorem wm_439 : Cond.instanceMethod yX3_readNot ∈ gBIG := gm (List.mem_of_getElem? (i := 493) (by decide +kernel)) (by decide +kernel)
theorem wm_440 : Cond.code yX3_readNot cX3_readNot 2 none ∈ gBIG := gm (List.mem_of_getElem? (i := 494) (by decide +kernel)) (by decide +kernel)
theorem wm_441 : Cond.methodLink RX3 64 yX3_readCompared ∈ gBIG := gm (List.mem_of_getElem? (i := 495) (by decide +kernel)) (by decide +kernel)
theorem wm_443 : Cond.instanceMethod yX3_readCompared ∈ gBIG := gm (List.mem_of_getElem? (i := 497) (by decide +kernel)) (by decide +kernel)
theorem wm_444 : Cond.code yX3_readCompared cX3_readCompared 3 none ∈ gBIG := gm (List.mem_of_getElem? (i := 498) (by decide +kernel)) (by decide +kernel)
theorem wm_445 : Cond.methodLink RX3 67 yX3_readSum ∈ gBIG := gm (List.mem_of_getElem? (i := 499) (by decide +kernel)) (by decide +kernel)
theorem wm_447 : Cond.instanceMethod yX3_readSum ∈ gBIG := gm (List.mem_of_getElem? (i := 501) (by decide +kernel)) (by decide +kernel)
theorem wm_448 : Cond.code yX3_readSum cX3_readSum 4 none ∈ gBIG := gm (List.mem_of_getElem? (i := 502) (by decide +kernel)) (by decide +kernel)
theorem wm_449 : Cond.methodLink RX3 70 yX3_readTerm ∈ gBIG := gm (List.mem_of_getElem? (i := 503) (by decide +kernel)) (by decide +kernel)
theorem wm_451 : Cond.instanceMethod yX3_readTerm ∈ gBIG := gm (List.mem_of_getElem? (i := 505) (by decide +kernel)) (by decide +kernel)
theorem wm_452 : Cond.code yX3_readTerm cX3_readTerm 3 none ∈ gBIG := gm (List.mem_of_getElem? (i := 506) (by decide +kernel)) (by decide +kernel)
theorem wm_453 : Cond.methodLink RX3 73 yX3_readOne ∈ gBIG := gm (List.mem_of_getElem? (i := 507) (by decide +kernel)) (by decide +kernel)
theorem wm_455 : Cond.instanceMethod yX3_readOne ∈ gBIG := gm (List.mem_of_getElem? (i := 509) (by decide +kernel)) (by decide +kernel)
theorem wm_456 : Cond.code yX3_readOne cX3_readOne 2 none ∈ gBIG := gm (List.mem_of_getElem? (i := 510) (by decide +kernel)) (by decide +kernel)
theorem wm_457 : Cond.methodLink RX3 58 yX3_emit ∈ gBIG := gm (List.mem_of_getElem? (i := 511) (by decide +kernel)) (by decide +kernel)
theorem wm_459 : Cond.instanceMethod yX3_emit ∈ gBIG := gm (List.mem_of_getElem? (i := 513) (by decide +kernel)) (by decide +kernel)
theorem wm_460 : Cond.code yX3_emit cX3_emit 2 none ∈ gBIG := gm (List.mem_of_getElem? (i := 514) (by decide +kernel)) (by decide +kernel)
/-! reading a text: the class: its sums and sentences, by the depth that is open; the text -/

def f_X3_readOne_0 (x0 : Int) (s0 : gMem) : gRes := (if (s0 55 0) = 2 then gb (f_X3_emit (s0 57 0) s0) (fun r5 s6 => gb (f_X3_next  s6) (fun r10 s11 => (0, s11))) else (if (s0 55 0) < 262 then (gj (fun j17c => (if x0 < 5 then (gj (fun j26c => (if (s0 55 0) = 45 then j26c else (if (s0 55 0) = 40 then j26c else j17c))) ((0, s0))) else j17c)) (gb (f_X3_fail  s0) (fun r19 s20 => (0, s20)))) else gb (f_X3_emit ((-1) - ((s0 55 0) - 262)) s0) (fun r31 s32 => gb (f_X3_next  s32) (fun r36 s37 => (0, s37)))))
theorem f_X3_readOne_0_e (x0 : Int) (s0 : gMem) : f_X3_readOne_0 x0 s0 = (if (s0 55 0) = 2 then gb (f_X3_emit (s0 57 0) s0) (fun r5 s6 => gb (f_X3_next  s6) (fun r10 s11 => (0, s11))) else (if (s0 55 0) < 262 then (gj (fun j17c => (if x0 < 5 then (gj (fun j26c => (if (s0 55 0) = 45 then j26c else (if (s0 55 0) = 40 then j26c else j17c))) ((0, s0))) else j17c)) (gb (f_X3_fail  s0) (fun r19 s20 => (0, s20)))) else gb (f_X3_emit ((-1) - ((s0 55 0) - 262)) s0) (fun r31 s32 => gb (f_X3_next  s32) (fun r36 s37 => (0, s37))))) := rfl
set_option maxRecDepth 100000 in
set_option maxHeartbeats 4000000 in
theorem f_X3_readOne_0_p (x0 : Int) (s0 : gMem) (hx0 : in32 x0) (hm_s0 : gMR lgX s0) (hpre0 : TK s0) (hpre1 : RCO s0) (hpre2 : x0 = 5) (rZ : Int) (sZ : gMem) (hres : f_X3_readOne_0 x0 s0 = (rZ, sZ)) : (fr [34, 53, 54, 55, 56, 57, 58] s0 sZ) ∧ (gMR lgX sZ) ∧ (True) ∧ (TK sZ) ∧ (RCO sZ) := by
  have hT := f_X3_readOne_0_e x0 s0
  have hf_s0 : fr [34, 53, 54, 55, 56, 57, 58] s0 s0 := fr.rf _ _
  have hTK_s0 := hpre0
  have hRCO_s0 := hpre1
  obtain ⟨kt1, kt2, kt3, kt4, kt5, kt6, kt7⟩ := id hTK_s0
  have hr1 := (hm_s0 55 0).1 rfl
  by_cases h2 : (s0 55 0) = 2
  · replace hT := hT.trans (if_pos h2)
    have hr3 := (hm_s0 57 0).1 rfl
    obtain ⟨r5, s6, hs6⟩ : ∃ rr ss, (f_X3_emit (s0 57 0) s0) = (rr, ss) := ⟨_, _, rfl⟩
    replace hT := gby hT hs6
    have hp7 := f_X3_emit_p (s0 57 0) s0 (by omega) hm_s0 hTK_s0 hRCO_s0 (by first | assumption | omega) r5 s6 hs6
    obtain ⟨hfc_s6, hm_s6, hp8, hTK_s6, hRCO_s6⟩ := hp7
    have hf_s6 : fr [34, 53, 54, 55, 56, 57, 58] s0 s6 := hf_s0.call (by decide) hfc_s6
    obtain ⟨r10, s11, hs11⟩ : ∃ rr ss, (f_X3_next  s6) = (rr, ss) := ⟨_, _, rfl⟩
    replace hT := gby hT hs11
    have hp12 := f_X3_next_p  s6  hm_s6 hTK_s6 r10 s11 hs11
    obtain ⟨hfc_s11, hm_s11, hp13, hTK_s11⟩ := hp12
    have hf_s11 : fr [34, 53, 54, 55, 56, 57, 58] s0 s11 := hf_s6.call (by decide) hfc_s11
    have hRCO_s11 : RCO s11 := RCO_fr hRCO_s6 (fun k hk => hfc_s11 k (dj (by decide) k hk))
    obtain ⟨rfl, rfl⟩ := Prod.mk.inj (hT.symm.trans hres)
    exact ⟨hf_s11, hm_s11, trivial, hTK_s11, hRCO_s11⟩
  · replace hT := hT.trans (if_neg h2)
    have hr14 := (hm_s0 55 0).1 rfl
    by_cases h15 : (s0 55 0) < 262
    · replace hT := hT.trans (if_pos h15)
      obtain ⟨j17c, hj17c, hT⟩ := gjx hT
      have j17 : (True) → (f_X3_readOne_0 x0 s0) = j17c  → (fr [34, 53, 54, 55, 56, 57, 58] s0 sZ) ∧ (gMR lgX sZ) ∧ (True) ∧ (TK sZ) ∧ (RCO sZ) := by
        intro  hq hT
        rw [hj17c] at hT
        obtain ⟨r19, s20, hs20⟩ : ∃ rr ss, (f_X3_fail  s0) = (rr, ss) := ⟨_, _, rfl⟩
        replace hT := gby hT hs20
        have hp21 := f_X3_fail_p  s0  hm_s0 hTK_s0 r19 s20 hs20
        obtain ⟨hfc_s20, hm_s20, hp22, hTK_s20, hp23⟩ := hp21
        have hf_s20 : fr [34, 53, 54, 55, 56, 57, 58] s0 s20 := hf_s0.call (by decide) hfc_s20
        have hRCO_s20 : RCO s20 := RCO_fr hRCO_s0 (fun k hk => hfc_s20 k (dj (by decide) k hk))
        obtain ⟨rfl, rfl⟩ := Prod.mk.inj (hT.symm.trans hres)
        exact ⟨hf_s20, hm_s20, trivial, hTK_s20, hRCO_s20⟩
      by_cases h16 : x0 < 5
      · replace hT := hT.trans (if_pos h16)
        have hr24 := (hm_s0 55 0).1 rfl
        obtain ⟨j26c, hj26c, hT⟩ := gjx hT
        have j26 : (True) → (f_X3_readOne_0 x0 s0) = j26c  → (fr [34, 53, 54, 55, 56, 57, 58] s0 sZ) ∧ (gMR lgX sZ) ∧ (True) ∧ (TK sZ) ∧ (RCO sZ) := by
          intro  hq hT
          rw [hj26c] at hT
          exfalso
          omega
        by_cases h25 : (s0 55 0) = 45
        · replace hT := hT.trans (if_pos h25)
          exact j26  trivial hT
        · replace hT := hT.trans (if_neg h25)
          have hr27 := (hm_s0 55 0).1 rfl
          by_cases h28 : (s0 55 0) = 40
          · replace hT := hT.trans (if_pos h28)
            exact j26  trivial hT
          · replace hT := hT.trans (if_neg h28)
            exact j17  trivial hT
      · replace hT := hT.trans (if_neg h16)
        exact j17  trivial hT
    · replace hT := hT.trans (if_neg h15)
      have hr29 := (hm_s0 55 0).1 rfl
      obtain ⟨r31, s32, hs32⟩ : ∃ rr ss, (f_X3_emit ((-1) - ((s0 55 0) - 262)) s0) = (rr, ss) := ⟨_, _, rfl⟩
      replace hT := gby hT hs32
      have hp33 := f_X3_emit_p ((-1) - ((s0 55 0) - 262)) s0 (by omega) hm_s0 hTK_s0 hRCO_s0 (by first | assumption | omega) r31 s32 hs32
      obtain ⟨hfc_s32, hm_s32, hp34, hTK_s32, hRCO_s32⟩ := hp33
      have hf_s32 : fr [34, 53, 54, 55, 56, 57, 58] s0 s32 := hf_s0.call (by decide) hfc_s32
      obtain ⟨r36, s37, hs37⟩ : ∃ rr ss, (f_X3_next  s32) = (rr, ss) := ⟨_, _, rfl⟩
      replace hT := gby hT hs37
      have hp38 := f_X3_next_p  s32  hm_s32 hTK_s32 r36 s37 hs37
      obtain ⟨hfc_s37, hm_s37, hp39, hTK_s37⟩ := hp38
      have hf_s37 : fr [34, 53, 54, 55, 56, 57, 58] s0 s37 := hf_s32.call (by decide) hfc_s37
      have hRCO_s37 : RCO s37 := RCO_fr hRCO_s32 (fun k hk => hfc_s37 k (dj (by decide) k hk))
      obtain ⟨rfl, rfl⟩ := Prod.mk.inj (hT.symm.trans hres)
      exact ⟨hf_s37, hm_s37, trivial, hTK_s37, hRCO_s37⟩
set_option maxRecDepth 100000 in
set_option maxHeartbeats 4000000 in
theorem c_X3_readOne_0 (l : Launch) (D : va_G) (a : Nat → Nat) (cI cJ cS cT : ClassId) (adK adV : Nat → Nat) (kA : Nat) (s0 : gMem) (x0 : Int) (hx0 : in32 x0) (hpre0 : TK s0) (hpre1 : RCO s0) (hpre2 : x0 = 5) : gCS l yX3_readOne cX3_readOne 2 none 8 512 D vwCl (gT cI cJ cS cT) (wdX a cI cJ cS cT) lgX kV rgV [.ref (a 2), gI x0] s0 (f_X3_readOne_0 x0 s0) adK adV kA := by
  refine gCS_of (by decide +kernel) (hwdX a cI cJ cS cT) (Nat.le_of_ble_eq_true rfl) ?_
  intro A p e R s m args below meth c hR E HX
  subst hR
  have hT := f_X3_readOne_0_e x0 s0
  have hf_s0 : fr [34, 53, 54, 55, 56, 57, 58] s0 s0 := fr.rf _ _
  refine k_lv0 (lv' := [(0, .ref (a 2)), (1, gI x0)]) rfl ?_
  refine k_mr (fun hm_s0 => ?_)
  have hTK_s0 := hpre0
  have hRCO_s0 := hpre1
  refine k_aloadn (pc := 0) E 0 dX3_readOne_0 rfl rfl ?_
  obtain ⟨kt1, kt2, kt3, kt4, kt5, kt6, kt7⟩ := id hTK_s0
  refine k_getfI (pc := 1) (q0 := 2) (f := 6) (k := 55) E inX3 rfl rfl (by decide) wm_65 rfl rfl rfl dX3_readOne_1 (fun hr1 => ?_)
  refine k_iconst (pc := 4) E dX3_readOne_4 ?_
  by_cases h2 : (s0 55 0) = 2
  · replace hT := hT.trans (if_pos h2)
    refine k_icmp_ne_f (pc := 5) (tgt := 23) E (by omega) (by omega) dX3_readOne_5 (by decide) h2 ?_
    refine k_aloadn (pc := 8) E 0 dX3_readOne_8 rfl rfl ?_
    refine k_aloadn (pc := 9) E 0 dX3_readOne_9 rfl rfl ?_
    refine k_getfI (pc := 10) (q0 := 2) (f := 8) (k := 57) E inX3 rfl rfl (by decide) wm_67 rfl rfl rfl dX3_readOne_10 (fun hr3 => ?_)
    refine k_mr (fun hm_s0 => ?_)
    refine k_callV (pc := 13) (np := 1) (As := [gI (s0 57 0)]) (st := []) (q0 := 2) E (c_X3_emit l D a cI cJ cS cT s0 (s0 57 0) (by omega) hTK_s0 hRCO_s0 (by first | assumption | omega)) wm_460 wm_3 wm_457 wm_459 wp_13 (by decide +kernel) rfl rfl ⟨by decide, by decide⟩ rfl (Nat.le_of_ble_eq_true rfl) dX3_readOne_13 (fun r5 s6 hs6 hr4 => ?_)
    replace hT := gby hT hs6
    have hp7 := f_X3_emit_p (s0 57 0) s0 (by omega) hm_s0 hTK_s0 hRCO_s0 (by first | assumption | omega) r5 s6 hs6
    obtain ⟨hfc_s6, hm_s6, hp8, hTK_s6, hRCO_s6⟩ := hp7
    have hf_s6 : fr [34, 53, 54, 55, 56, 57, 58] s0 s6 := hf_s0.call (by decide) hfc_s6
    refine k_st (st' := []) rfl ?_
    refine k_aloadn (pc := 16) E 0 dX3_readOne_16 rfl rfl ?_
    refine k_mr (fun hm_s6 => ?_)
    refine k_callVX (pc := 17) (np := 0) (As := []) (st := []) (q0 := 2) E HX rfl rfl (c_X3_next l D a cI cJ cS cT adK adV kA s6  hTK_s6) wm_336 wm_3 wm_333 wm_335 wp_0 (by decide +kernel) ⟨by decide, by decide⟩ rfl (Nat.le_of_ble_eq_true rfl) dX3_readOne_17 (fun r10 s11 hs11 hr9 => ?_)
    replace hT := gby hT hs11
    have hp12 := f_X3_next_p  s6  hm_s6 hTK_s6 r10 s11 hs11
    obtain ⟨hfc_s11, hm_s11, hp13, hTK_s11⟩ := hp12
    have hf_s11 : fr [34, 53, 54, 55, 56, 57, 58] s0 s11 := hf_s6.call (by decide) hfc_s11
    have hRCO_s11 : RCO s11 := RCO_fr hRCO_s6 (fun k hk => hfc_s11 k (dj (by decide) k hk))
    refine k_st (st' := []) rfl ?_
    refine k_goto (pc := 20) (tgt := 130) E dX3_readOne_20 (by decide) ?_
    exact k_rho hT (k_vret (pc := 130) E dX3_readOne_130)
  · replace hT := hT.trans (if_neg h2)
    refine k_icmp_ne_t (pc := 5) (tgt := 23) E (by omega) (by omega) dX3_readOne_5 (by decide) h2 ?_
    refine k_aloadn (pc := 23) E 0 dX3_readOne_23 rfl rfl ?_
    refine k_getfI (pc := 24) (q0 := 2) (f := 6) (k := 55) E inX3 rfl rfl (by decide) wm_65 rfl rfl rfl dX3_readOne_24 (fun hr14 => ?_)
    refine k_sipush (pc := 27) E dX3_readOne_27 (by decide) ?_
    by_cases h15 : (s0 55 0) < 262
    · replace hT := hT.trans (if_pos h15)
      refine k_icmp_lt_t (pc := 30) (tgt := 54) E (by omega) (by omega) dX3_readOne_30 (by decide) h15 ?_
      refine k_iloadn (pc := 54) E 1 dX3_readOne_54 rfl rfl ?_
      refine k_iconst (pc := 55) E dX3_readOne_55 ?_
      obtain ⟨j17c, hj17c, hT⟩ := gjx hT
      have j17 : (True) → (f_X3_readOne_0 x0 s0) = j17c  → gK D vwCl (wdX a cI cJ cS cT) lgX A p l e { frames := 8, cells := 0, slots := 0, locals := 512 } s m args below meth c 2 (gQQ D vwCl (wdX a cI cJ cS cT) lgX A kV rgV below args s) (f_X3_readOne_0 x0 s0) s0 77 [(0, .ref (a 2))] [] := by
        intro  hq hT
        rw [hj17c] at hT
        refine k_aloadn (pc := 77) E 0 dX3_readOne_77 rfl rfl ?_
        refine k_mr (fun hm_s0 => ?_)
        refine k_callV (pc := 78) (np := 0) (As := []) (st := []) (q0 := 2) E (c_X3_fail l D a cI cJ cS cT s0  hTK_s0) wm_428 wm_3 wm_425 wm_427 wp_5 (by decide +kernel) rfl rfl ⟨by decide, by decide⟩ rfl (Nat.le_of_ble_eq_true rfl) dX3_readOne_78 (fun r19 s20 hs20 hr18 => ?_)
        replace hT := gby hT hs20
        have hp21 := f_X3_fail_p  s0  hm_s0 hTK_s0 r19 s20 hs20
        obtain ⟨hfc_s20, hm_s20, hp22, hTK_s20, hp23⟩ := hp21
        have hf_s20 : fr [34, 53, 54, 55, 56, 57, 58] s0 s20 := hf_s0.call (by decide) hfc_s20
        have hRCO_s20 : RCO s20 := RCO_fr hRCO_s0 (fun k hk => hfc_s20 k (dj (by decide) k hk))
        refine k_st (st' := []) rfl ?_
        refine k_goto (pc := 81) (tgt := 130) E dX3_readOne_81 (by decide) ?_
        exact k_rho hT (k_vret (pc := 130) E dX3_readOne_130)
      by_cases h16 : x0 < 5
      · replace hT := hT.trans (if_pos h16)
        refine k_icmp_ge_f (pc := 56) (tgt := 77) E (by omega) (by omega) dX3_readOne_56 (by decide) h16 ?_
        refine k_aloadn (pc := 59) E 0 dX3_readOne_59 rfl rfl ?_
        refine k_getfI (pc := 60) (q0 := 2) (f := 6) (k := 55) E inX3 rfl rfl (by decide) wm_65 rfl rfl rfl dX3_readOne_60 (fun hr24 => ?_)
        refine k_bipush (pc := 63) E dX3_readOne_63 (by decide) ?_
        obtain ⟨j26c, hj26c, hT⟩ := gjx hT
        have j26 : (True) → (f_X3_readOne_0 x0 s0) = j26c  → gK D vwCl (wdX a cI cJ cS cT) lgX A p l e { frames := 8, cells := 0, slots := 0, locals := 512 } s m args below meth c 2 (gQQ D vwCl (wdX a cI cJ cS cT) lgX A kV rgV below args s) (f_X3_readOne_0 x0 s0) s0 84 [(0, .ref (a 2)), (1, gI x0)] [] := by
          intro  hq hT
          rw [hj26c] at hT
          exfalso
          omega
        by_cases h25 : (s0 55 0) = 45
        · replace hT := hT.trans (if_pos h25)
          refine k_icmp_eq_t (pc := 65) (tgt := 84) E (by omega) (by omega) dX3_readOne_65 (by decide) h25 ?_
          exact j26  trivial hT
        · replace hT := hT.trans (if_neg h25)
          refine k_icmp_eq_f (pc := 65) (tgt := 84) E (by omega) (by omega) dX3_readOne_65 (by decide) h25 ?_
          refine k_aloadn (pc := 68) E 0 dX3_readOne_68 rfl rfl ?_
          refine k_getfI (pc := 69) (q0 := 2) (f := 6) (k := 55) E inX3 rfl rfl (by decide) wm_65 rfl rfl rfl dX3_readOne_69 (fun hr27 => ?_)
          refine k_bipush (pc := 72) E dX3_readOne_72 (by decide) ?_
          by_cases h28 : (s0 55 0) = 40
          · replace hT := hT.trans (if_pos h28)
            refine k_icmp_eq_t (pc := 74) (tgt := 84) E (by omega) (by omega) dX3_readOne_74 (by decide) h28 ?_
            exact j26  trivial hT
          · replace hT := hT.trans (if_neg h28)
            refine k_icmp_eq_f (pc := 74) (tgt := 84) E (by omega) (by omega) dX3_readOne_74 (by decide) h28 ?_
            refine k_lv (lv' := [(0, .ref (a 2))]) [0] rfl ?_
            exact j17  trivial hT
      · replace hT := hT.trans (if_neg h16)
        refine k_icmp_ge_t (pc := 56) (tgt := 77) E (by omega) (by omega) dX3_readOne_56 (by decide) h16 ?_
        refine k_lv (lv' := [(0, .ref (a 2))]) [0] rfl ?_
        exact j17  trivial hT
    · replace hT := hT.trans (if_neg h15)
      refine k_icmp_lt_f (pc := 30) (tgt := 54) E (by omega) (by omega) dX3_readOne_30 (by decide) h15 ?_
      refine k_aloadn (pc := 33) E 0 dX3_readOne_33 rfl rfl ?_
      refine k_iconst (pc := 34) E dX3_readOne_34 ?_
      refine k_aloadn (pc := 35) E 0 dX3_readOne_35 rfl rfl ?_
      refine k_getfI (pc := 36) (q0 := 2) (f := 6) (k := 55) E inX3 rfl rfl (by decide) wm_65 rfl rfl rfl dX3_readOne_36 (fun hr29 => ?_)
      refine k_sipush (pc := 39) E dX3_readOne_39 (by decide) ?_
      refine k_isub (pc := 42) E dX3_readOne_42 ?_
      refine k_isub (pc := 43) E dX3_readOne_43 ?_
      refine k_mr (fun hm_s0 => ?_)
      refine k_callV (pc := 44) (np := 1) (As := [gI ((-1) - ((s0 55 0) - 262))]) (st := []) (q0 := 2) E (c_X3_emit l D a cI cJ cS cT s0 ((-1) - ((s0 55 0) - 262)) (by omega) hTK_s0 hRCO_s0 (by first | assumption | omega)) wm_460 wm_3 wm_457 wm_459 wp_13 (by decide +kernel) rfl rfl ⟨by decide, by decide⟩ rfl (Nat.le_of_ble_eq_true rfl) dX3_readOne_44 (fun r31 s32 hs32 hr30 => ?_)
      replace hT := gby hT hs32
      have hp33 := f_X3_emit_p ((-1) - ((s0 55 0) - 262)) s0 (by omega) hm_s0 hTK_s0 hRCO_s0 (by first | assumption | omega) r31 s32 hs32
      obtain ⟨hfc_s32, hm_s32, hp34, hTK_s32, hRCO_s32⟩ := hp33
      have hf_s32 : fr [34, 53, 54, 55, 56, 57, 58] s0 s32 := hf_s0.call (by decide) hfc_s32
      refine k_st (st' := []) rfl ?_
      refine k_aloadn (pc := 47) E 0 dX3_readOne_47 rfl rfl ?_
      refine k_mr (fun hm_s32 => ?_)
      refine k_callVX (pc := 48) (np := 0) (As := []) (st := []) (q0 := 2) E HX rfl rfl (c_X3_next l D a cI cJ cS cT adK adV kA s32  hTK_s32) wm_336 wm_3 wm_333 wm_335 wp_0 (by decide +kernel) ⟨by decide, by decide⟩ rfl (Nat.le_of_ble_eq_true rfl) dX3_readOne_48 (fun r36 s37 hs37 hr35 => ?_)
      replace hT := gby hT hs37
      have hp38 := f_X3_next_p  s32  hm_s32 hTK_s32 r36 s37 hs37
      obtain ⟨hfc_s37, hm_s37, hp39, hTK_s37⟩ := hp38
      have hf_s37 : fr [34, 53, 54, 55, 56, 57, 58] s0 s37 := hf_s32.call (by decide) hfc_s37
      have hRCO_s37 : RCO s37 := RCO_fr hRCO_s32 (fun k hk => hfc_s37 k (dj (by decide) k hk))
      refine k_st (st' := []) rfl ?_
      refine k_goto (pc := 51) (tgt := 130) E dX3_readOne_51 (by decide) ?_
      exact k_rho hT (k_vret (pc := 130) E dX3_readOne_130)

def w_X3_readTerm_0_7 (c1 : Int) : Nat → Int → gMem → Int × gMem
  | 0, v6, s7 => (v6, s7)
  | n8 + 1, v6, s7 => (if v6 < 160 then (if (s7 55 0) = 42 then gb (f_X3_next  s7) (fun r13 s14 => gb (f_X3_readOne_0 c1 s14) (fun r18 s19 => gb (f_X3_emit (-13) s19) (fun r23 s24 => (w_X3_readTerm_0_7 c1 n8 (v6 + 1) s24)))) else (v6, s7)) else (v6, s7))
theorem w_X3_readTerm_0_7_s (c1 : Int) (n8 : Nat) (v6 : Int) (s7 : gMem) : w_X3_readTerm_0_7 c1 (n8 + 1) v6 s7 = (if v6 < 160 then (if (s7 55 0) = 42 then gb (f_X3_next  s7) (fun r13 s14 => gb (f_X3_readOne_0 c1 s14) (fun r18 s19 => gb (f_X3_emit (-13) s19) (fun r23 s24 => (w_X3_readTerm_0_7 c1 n8 (v6 + 1) s24)))) else (v6, s7)) else (v6, s7)) := rfl
def f_X3_readTerm_0 (x0 : Int) (s0 : gMem) : gRes := gb (f_X3_readOne_0 x0 s0) (fun r2 s3 => (gl2 (w_X3_readTerm_0_7 x0 161 0 s3) (fun v55 s56 => (0, s56))))
theorem f_X3_readTerm_0_e (x0 : Int) (s0 : gMem) : f_X3_readTerm_0 x0 s0 = gb (f_X3_readOne_0 x0 s0) (fun r2 s3 => (gl2 (w_X3_readTerm_0_7 x0 161 0 s3) (fun v55 s56 => (0, s56)))) := rfl
set_option maxRecDepth 100000 in
set_option maxHeartbeats 4000000 in
theorem f_X3_readTerm_0_p (x0 : Int) (s0 : gMem) (hx0 : in32 x0) (hm_s0 : gMR lgX s0) (hpre0 : TK s0) (hpre1 : RCO s0) (hpre2 : x0 = 5) (rZ : Int) (sZ : gMem) (hres : f_X3_readTerm_0 x0 s0 = (rZ, sZ)) : (fr [34, 53, 54, 55, 56, 57, 58] s0 sZ) ∧ (gMR lgX sZ) ∧ (True) ∧ (TK sZ) ∧ (RCO sZ) := by
  have hT := f_X3_readTerm_0_e x0 s0
  have hf_s0 : fr [34, 53, 54, 55, 56, 57, 58] s0 s0 := fr.rf _ _
  have hTK_s0 := hpre0
  have hRCO_s0 := hpre1
  obtain ⟨r2, s3, hs3⟩ : ∃ rr ss, (f_X3_readOne_0 x0 s0) = (rr, ss) := ⟨_, _, rfl⟩
  replace hT := gby hT hs3
  have hp4 := f_X3_readOne_0_p x0 s0 (by omega) hm_s0 hTK_s0 hRCO_s0 (by first | assumption | omega) r2 s3 hs3
  obtain ⟨hfc_s3, hm_s3, hp5, hTK_s3, hRCO_s3⟩ := hp4
  have hf_s3 : fr [34, 53, 54, 55, 56, 57, 58] s0 s3 := hf_s0.call (by decide) hfc_s3
  have L29 : ∀ (n30 : Nat) (v27 : Int) (s28 : gMem), ((in32 v27) ∧ (fr [34, 53, 54, 55, 56, 57, 58] s0 s28) ∧ (gMR lgX s28) ∧ (TK s28) ∧ (RCO s28) ∧ (0 ≤ v27 ∧ v27 ≤ 160)) → 160 - v27 < (n30 : Int) → (∀ (w31 : Int) (s32 : gMem), (w_X3_readTerm_0_7 x0 n30 v27 s28) = (w31, s32) → ((in32 w31) ∧ (fr [34, 53, 54, 55, 56, 57, 58] s0 s32) ∧ (gMR lgX s32) ∧ (TK s32) ∧ (RCO s32) ∧ (0 ≤ w31 ∧ w31 ≤ 160)) → (fr [34, 53, 54, 55, 56, 57, 58] s0 sZ) ∧ (gMR lgX sZ) ∧ (True) ∧ (TK sZ) ∧ (RCO sZ)) → (fr [34, 53, 54, 55, 56, 57, 58] s0 sZ) ∧ (gMR lgX sZ) ∧ (True) ∧ (TK sZ) ∧ (RCO sZ) := by
    intro n30; induction n30 with
    | zero =>
      intro v27 s28 hq hm hk
      exfalso
      obtain ⟨hq51, hf_s28, hm_s28, hTK_s28, hRCO_s28, hq52⟩ := hq
      omega
    | succ n30 ih =>
      intro v27 s28 hq hm hk
      obtain ⟨hq53, hf_s28, hm_s28, hTK_s28, hRCO_s28, hq54⟩ := hq
      have hT := w_X3_readTerm_0_7_s x0 n30 v27 s28
      by_cases h33 : v27 < 160
      · replace hT := hT.trans (if_pos h33)
        have hr34 := (hm_s28 55 0).1 rfl
        by_cases h35 : (s28 55 0) = 42
        · replace hT := hT.trans (if_pos h35)
          obtain ⟨r37, s38, hs38⟩ : ∃ rr ss, (f_X3_next  s28) = (rr, ss) := ⟨_, _, rfl⟩
          replace hT := gby hT hs38
          have hp39 := f_X3_next_p  s28  hm_s28 hTK_s28 r37 s38 hs38
          obtain ⟨hfc_s38, hm_s38, hp40, hTK_s38⟩ := hp39
          have hf_s38 : fr [34, 53, 54, 55, 56, 57, 58] s0 s38 := hf_s28.call (by decide) hfc_s38
          have hRCO_s38 : RCO s38 := RCO_fr hRCO_s28 (fun k hk => hfc_s38 k (dj (by decide) k hk))
          obtain ⟨r42, s43, hs43⟩ : ∃ rr ss, (f_X3_readOne_0 x0 s38) = (rr, ss) := ⟨_, _, rfl⟩
          replace hT := gby hT hs43
          have hp44 := f_X3_readOne_0_p x0 s38 (by omega) hm_s38 hTK_s38 hRCO_s38 (by first | assumption | omega) r42 s43 hs43
          obtain ⟨hfc_s43, hm_s43, hp45, hTK_s43, hRCO_s43⟩ := hp44
          have hf_s43 : fr [34, 53, 54, 55, 56, 57, 58] s0 s43 := hf_s38.call (by decide) hfc_s43
          obtain ⟨r47, s48, hs48⟩ : ∃ rr ss, (f_X3_emit (-13) s43) = (rr, ss) := ⟨_, _, rfl⟩
          replace hT := gby hT hs48
          have hp49 := f_X3_emit_p (-13) s43 (by omega) hm_s43 hTK_s43 hRCO_s43 (by first | assumption | omega) r47 s48 hs48
          obtain ⟨hfc_s48, hm_s48, hp50, hTK_s48, hRCO_s48⟩ := hp49
          have hf_s48 : fr [34, 53, 54, 55, 56, 57, 58] s0 s48 := hf_s43.call (by decide) hfc_s48
          exact ih (v27 + 1) s48 ⟨(by omega), hf_s48, hm_s48, hTK_s48, hRCO_s48, (by first | assumption | omega)⟩ (by omega) (fun w31 s32 hw hi => hk w31 s32 (hT.trans hw) hi)
        · replace hT := hT.trans (if_neg h35)
          exact hk v27 s28 hT ⟨(by omega), hf_s28, hm_s28, hTK_s28, hRCO_s28, (by first | assumption | omega)⟩
      · replace hT := hT.trans (if_neg h33)
        exact hk v27 s28 hT ⟨(by omega), hf_s28, hm_s28, hTK_s28, hRCO_s28, (by first | assumption | omega)⟩
  refine L29 161 0 s3 ⟨(by omega), hf_s3, hm_s3, hTK_s3, hRCO_s3, (by first | assumption | omega)⟩ (by omega) (fun v55 s56 hw hq => ?_)
  obtain ⟨hq57, hf_s56, hm_s56, hTK_s56, hRCO_s56, hq58⟩ := hq
  replace hT := gl2y hT hw
  obtain ⟨rfl, rfl⟩ := Prod.mk.inj (hT.symm.trans hres)
  exact ⟨hf_s56, hm_s56, trivial, hTK_s56, hRCO_s56⟩
set_option maxRecDepth 100000 in
set_option maxHeartbeats 4000000 in
theorem c_X3_readTerm_0 (l : Launch) (D : va_G) (a : Nat → Nat) (cI cJ cS cT : ClassId) (adK adV : Nat → Nat) (kA : Nat) (s0 : gMem) (x0 : Int) (hx0 : in32 x0) (hpre0 : TK s0) (hpre1 : RCO s0) (hpre2 : x0 = 5) : gCS l yX3_readTerm cX3_readTerm 3 none 9 576 D vwCl (gT cI cJ cS cT) (wdX a cI cJ cS cT) lgX kV rgV [.ref (a 2), gI x0] s0 (f_X3_readTerm_0 x0 s0) adK adV kA := by
  refine gCS_of (by decide +kernel) (hwdX a cI cJ cS cT) (Nat.le_of_ble_eq_true rfl) ?_
  intro A p e R s m args below meth c hR E HX
  subst hR
  have hT := f_X3_readTerm_0_e x0 s0
  have hf_s0 : fr [34, 53, 54, 55, 56, 57, 58] s0 s0 := fr.rf _ _
  refine k_lv0 (lv' := [(0, .ref (a 2)), (1, gI x0)]) rfl ?_
  refine k_mr (fun hm_s0 => ?_)
  have hTK_s0 := hpre0
  have hRCO_s0 := hpre1
  refine k_aloadn (pc := 0) E 0 dX3_readTerm_0 rfl rfl ?_
  refine k_iloadn (pc := 1) E 1 dX3_readTerm_1 rfl rfl ?_
  refine k_mr (fun hm_s0 => ?_)
  refine k_callVX (pc := 2) (np := 1) (As := [gI x0]) (st := []) (q0 := 2) E HX rfl rfl (c_X3_readOne_0 l D a cI cJ cS cT adK adV kA s0 x0 (by omega) hTK_s0 hRCO_s0 (by first | assumption | omega)) wm_456 wm_3 wm_453 wm_455 wp_12 (by decide +kernel) ⟨by decide, by decide⟩ rfl (Nat.le_of_ble_eq_true rfl) dX3_readTerm_2 (fun r2 s3 hs3 hr1 => ?_)
  replace hT := gby hT hs3
  have hp4 := f_X3_readOne_0_p x0 s0 (by omega) hm_s0 hTK_s0 hRCO_s0 (by first | assumption | omega) r2 s3 hs3
  obtain ⟨hfc_s3, hm_s3, hp5, hTK_s3, hRCO_s3⟩ := hp4
  have hf_s3 : fr [34, 53, 54, 55, 56, 57, 58] s0 s3 := hf_s0.call (by decide) hfc_s3
  refine k_st (st' := []) rfl ?_
  refine k_iconst (pc := 5) E dX3_readTerm_5 ?_
  refine k_istoren (pc := 6) (lv' := [(2, gI 0), (0, .ref (a 2)), (1, gI x0)]) E dX3_readTerm_6 rfl (by decide) rfl ?_
  have L29 : ∀ (n30 : Nat) (v27 : Int) (s28 : gMem), ((in32 v27) ∧ (fr [34, 53, 54, 55, 56, 57, 58] s0 s28) ∧ (TK s28) ∧ (RCO s28) ∧ (0 ≤ v27 ∧ v27 ≤ 160)) → 160 - v27 < (n30 : Int) → (∀ (w31 : Int) (s32 : gMem), (w_X3_readTerm_0_7 x0 n30 v27 s28) = (w31, s32) → ((in32 w31) ∧ (fr [34, 53, 54, 55, 56, 57, 58] s0 s32) ∧ (TK s32) ∧ (RCO s32) ∧ (0 ≤ w31 ∧ w31 ≤ 160)) → gK D vwCl (wdX a cI cJ cS cT) lgX A p l e { frames := 9, cells := 0, slots := 0, locals := 576 } s m args below meth c 3 (gQQ D vwCl (wdX a cI cJ cS cT) lgX A kV rgV below args s) (f_X3_readTerm_0 x0 s0) s32 44 [] []) → gK D vwCl (wdX a cI cJ cS cT) lgX A p l e { frames := 9, cells := 0, slots := 0, locals := 576 } s m args below meth c 3 (gQQ D vwCl (wdX a cI cJ cS cT) lgX A kV rgV below args s) (f_X3_readTerm_0 x0 s0) s28 7 [(0, .ref (a 2)), (1, gI x0), (2, gI v27)] [] := by
    intro n30; induction n30 with
    | zero =>
      intro v27 s28 hq hm hk
      exfalso
      obtain ⟨hq51, hf_s28, hTK_s28, hRCO_s28, hq52⟩ := hq
      omega
    | succ n30 ih =>
      intro v27 s28 hq hm hk
      obtain ⟨hq53, hf_s28, hTK_s28, hRCO_s28, hq54⟩ := hq
      have hT := w_X3_readTerm_0_7_s x0 n30 v27 s28
      refine k_iloadn (pc := 7) E 2 dX3_readTerm_7 rfl rfl ?_
      refine k_sipush (pc := 8) E dX3_readTerm_8 (by decide) ?_
      by_cases h33 : v27 < 160
      · replace hT := hT.trans (if_pos h33)
        refine k_icmp_ge_f (pc := 11) (tgt := 44) E (by omega) (by omega) dX3_readTerm_11 (by decide) h33 ?_
        refine k_aloadn (pc := 14) E 0 dX3_readTerm_14 rfl rfl ?_
        refine k_getfI (pc := 15) (q0 := 2) (f := 6) (k := 55) E inX3 rfl rfl (by decide) wm_65 rfl rfl rfl dX3_readTerm_15 (fun hr34 => ?_)
        refine k_bipush (pc := 18) E dX3_readTerm_18 (by decide) ?_
        by_cases h35 : (s28 55 0) = 42
        · replace hT := hT.trans (if_pos h35)
          refine k_icmp_ne_f (pc := 20) (tgt := 44) E (by omega) (by omega) dX3_readTerm_20 (by decide) h35 ?_
          refine k_aloadn (pc := 23) E 0 dX3_readTerm_23 rfl rfl ?_
          refine k_mr (fun hm_s28 => ?_)
          refine k_callVX (pc := 24) (np := 0) (As := []) (st := []) (q0 := 2) E HX rfl rfl (c_X3_next l D a cI cJ cS cT adK adV kA s28  hTK_s28) wm_336 wm_3 wm_333 wm_335 wp_0 (by decide +kernel) ⟨by decide, by decide⟩ rfl (Nat.le_of_ble_eq_true rfl) dX3_readTerm_24 (fun r37 s38 hs38 hr36 => ?_)
          replace hT := gby hT hs38
          have hp39 := f_X3_next_p  s28  hm_s28 hTK_s28 r37 s38 hs38
          obtain ⟨hfc_s38, hm_s38, hp40, hTK_s38⟩ := hp39
          have hf_s38 : fr [34, 53, 54, 55, 56, 57, 58] s0 s38 := hf_s28.call (by decide) hfc_s38
          have hRCO_s38 : RCO s38 := RCO_fr hRCO_s28 (fun k hk => hfc_s38 k (dj (by decide) k hk))
          refine k_st (st' := []) rfl ?_
          refine k_aloadn (pc := 27) E 0 dX3_readTerm_27 rfl rfl ?_
          refine k_iloadn (pc := 28) E 1 dX3_readTerm_28 rfl rfl ?_
          refine k_mr (fun hm_s38 => ?_)
          refine k_callVX (pc := 29) (np := 1) (As := [gI x0]) (st := []) (q0 := 2) E HX rfl rfl (c_X3_readOne_0 l D a cI cJ cS cT adK adV kA s38 x0 (by omega) hTK_s38 hRCO_s38 (by first | assumption | omega)) wm_456 wm_3 wm_453 wm_455 wp_12 (by decide +kernel) ⟨by decide, by decide⟩ rfl (Nat.le_of_ble_eq_true rfl) dX3_readTerm_29 (fun r42 s43 hs43 hr41 => ?_)
          replace hT := gby hT hs43
          have hp44 := f_X3_readOne_0_p x0 s38 (by omega) hm_s38 hTK_s38 hRCO_s38 (by first | assumption | omega) r42 s43 hs43
          obtain ⟨hfc_s43, hm_s43, hp45, hTK_s43, hRCO_s43⟩ := hp44
          have hf_s43 : fr [34, 53, 54, 55, 56, 57, 58] s0 s43 := hf_s38.call (by decide) hfc_s43
          refine k_st (st' := []) rfl ?_
          refine k_aloadn (pc := 32) E 0 dX3_readTerm_32 rfl rfl ?_
          refine k_bipush (pc := 33) E dX3_readTerm_33 (by decide) ?_
          refine k_mr (fun hm_s43 => ?_)
          refine k_callV (pc := 35) (np := 1) (As := [gI (-13)]) (st := []) (q0 := 2) E (c_X3_emit l D a cI cJ cS cT s43 (-13) (by omega) hTK_s43 hRCO_s43 (by first | assumption | omega)) wm_460 wm_3 wm_457 wm_459 wp_13 (by decide +kernel) rfl rfl ⟨by decide, by decide⟩ rfl (Nat.le_of_ble_eq_true rfl) dX3_readTerm_35 (fun r47 s48 hs48 hr46 => ?_)
          replace hT := gby hT hs48
          have hp49 := f_X3_emit_p (-13) s43 (by omega) hm_s43 hTK_s43 hRCO_s43 (by first | assumption | omega) r47 s48 hs48
          obtain ⟨hfc_s48, hm_s48, hp50, hTK_s48, hRCO_s48⟩ := hp49
          have hf_s48 : fr [34, 53, 54, 55, 56, 57, 58] s0 s48 := hf_s43.call (by decide) hfc_s48
          refine k_st (st' := []) rfl ?_
          refine k_iinc (pc := 38) (lv' := [(2, gI (v27 + 1)), (0, .ref (a 2)), (1, gI x0)]) E 2 dX3_readTerm_38 rfl (by decide) rfl ?_
          refine k_goto (pc := 41) (tgt := 7) E dX3_readTerm_41 (by decide) ?_
          refine k_lv (lv' := [(0, .ref (a 2)), (1, gI x0), (2, gI (v27 + 1))]) [1, 2, 0] rfl ?_
          exact ih (v27 + 1) s48 ⟨(by omega), hf_s48, hTK_s48, hRCO_s48, (by first | assumption | omega)⟩ (by omega) (fun w31 s32 hw hi => hk w31 s32 (hT.trans hw) hi)
        · replace hT := hT.trans (if_neg h35)
          refine k_icmp_ne_t (pc := 20) (tgt := 44) E (by omega) (by omega) dX3_readTerm_20 (by decide) h35 ?_
          refine k_lv (lv' := []) [] rfl ?_
          exact hk v27 s28 hT ⟨(by omega), hf_s28, hTK_s28, hRCO_s28, (by first | assumption | omega)⟩
      · replace hT := hT.trans (if_neg h33)
        refine k_icmp_ge_t (pc := 11) (tgt := 44) E (by omega) (by omega) dX3_readTerm_11 (by decide) h33 ?_
        refine k_lv (lv' := []) [] rfl ?_
        exact hk v27 s28 hT ⟨(by omega), hf_s28, hTK_s28, hRCO_s28, (by first | assumption | omega)⟩
  refine k_lv (lv' := [(0, .ref (a 2)), (1, gI x0), (2, gI 0)]) [1, 2, 0] rfl ?_
  refine L29 161 0 s3 ⟨(by omega), hf_s3, hTK_s3, hRCO_s3, (by first | assumption | omega)⟩ (by omega) (fun v55 s56 hw hq => ?_)
  obtain ⟨hq57, hf_s56, hTK_s56, hRCO_s56, hq58⟩ := hq
  replace hT := gl2y hT hw
  exact k_rho hT (k_vret (pc := 44) E dX3_readTerm_44)

def w_X3_readSum_0_7 (c1 : Int) : Nat → Int → gMem → Int × gMem
  | 0, v6, s7 => (v6, s7)
  | n8 + 1, v6, s7 => (if v6 < 160 then (gj (fun j12c => (if (s7 55 0) = 43 then j12c else (if (s7 55 0) = 45 then j12c else (v6, s7)))) ((gl ((if (s7 55 0) = 43 then (-11) else (-12))) (fun v16 => gb (f_X3_next  s7) (fun r18 s19 => gb (f_X3_readTerm_0 c1 s19) (fun r23 s24 => gb (f_X3_emit v16 s24) (fun r28 s29 => (w_X3_readSum_0_7 c1 n8 (v6 + 1) s29)))))))) else (v6, s7))
theorem w_X3_readSum_0_7_s (c1 : Int) (n8 : Nat) (v6 : Int) (s7 : gMem) : w_X3_readSum_0_7 c1 (n8 + 1) v6 s7 = (if v6 < 160 then (gj (fun j12c => (if (s7 55 0) = 43 then j12c else (if (s7 55 0) = 45 then j12c else (v6, s7)))) ((gl ((if (s7 55 0) = 43 then (-11) else (-12))) (fun v16 => gb (f_X3_next  s7) (fun r18 s19 => gb (f_X3_readTerm_0 c1 s19) (fun r23 s24 => gb (f_X3_emit v16 s24) (fun r28 s29 => (w_X3_readSum_0_7 c1 n8 (v6 + 1) s29)))))))) else (v6, s7)) := rfl
def f_X3_readSum_0 (x0 : Int) (s0 : gMem) : gRes := gb (f_X3_readTerm_0 x0 s0) (fun r2 s3 => (gl2 (w_X3_readSum_0_7 x0 161 0 s3) (fun v75 s76 => (0, s76))))
theorem f_X3_readSum_0_e (x0 : Int) (s0 : gMem) : f_X3_readSum_0 x0 s0 = gb (f_X3_readTerm_0 x0 s0) (fun r2 s3 => (gl2 (w_X3_readSum_0_7 x0 161 0 s3) (fun v75 s76 => (0, s76)))) := rfl
set_option maxRecDepth 100000 in
set_option maxHeartbeats 4000000 in
theorem f_X3_readSum_0_p (x0 : Int) (s0 : gMem) (hx0 : in32 x0) (hm_s0 : gMR lgX s0) (hpre0 : TK s0) (hpre1 : RCO s0) (hpre2 : x0 = 5) (rZ : Int) (sZ : gMem) (hres : f_X3_readSum_0 x0 s0 = (rZ, sZ)) : (fr [34, 53, 54, 55, 56, 57, 58] s0 sZ) ∧ (gMR lgX sZ) ∧ (True) ∧ (TK sZ) ∧ (RCO sZ) := by
  have hT := f_X3_readSum_0_e x0 s0
  have hf_s0 : fr [34, 53, 54, 55, 56, 57, 58] s0 s0 := fr.rf _ _
  have hTK_s0 := hpre0
  have hRCO_s0 := hpre1
  obtain ⟨r2, s3, hs3⟩ : ∃ rr ss, (f_X3_readTerm_0 x0 s0) = (rr, ss) := ⟨_, _, rfl⟩
  replace hT := gby hT hs3
  have hp4 := f_X3_readTerm_0_p x0 s0 (by omega) hm_s0 hTK_s0 hRCO_s0 (by first | assumption | omega) r2 s3 hs3
  obtain ⟨hfc_s3, hm_s3, hp5, hTK_s3, hRCO_s3⟩ := hp4
  have hf_s3 : fr [34, 53, 54, 55, 56, 57, 58] s0 s3 := hf_s0.call (by decide) hfc_s3
  have L39 : ∀ (n40 : Nat) (v37 : Int) (s38 : gMem), ((in32 v37) ∧ (fr [34, 53, 54, 55, 56, 57, 58] s0 s38) ∧ (gMR lgX s38) ∧ (TK s38) ∧ (RCO s38) ∧ (0 ≤ v37 ∧ v37 ≤ 160)) → 160 - v37 < (n40 : Int) → (∀ (w41 : Int) (s42 : gMem), (w_X3_readSum_0_7 x0 n40 v37 s38) = (w41, s42) → ((in32 w41) ∧ (fr [34, 53, 54, 55, 56, 57, 58] s0 s42) ∧ (gMR lgX s42) ∧ (TK s42) ∧ (RCO s42) ∧ (0 ≤ w41 ∧ w41 ≤ 160)) → (fr [34, 53, 54, 55, 56, 57, 58] s0 sZ) ∧ (gMR lgX sZ) ∧ (True) ∧ (TK sZ) ∧ (RCO sZ)) → (fr [34, 53, 54, 55, 56, 57, 58] s0 sZ) ∧ (gMR lgX sZ) ∧ (True) ∧ (TK sZ) ∧ (RCO sZ) := by
    intro n40; induction n40 with
    | zero =>
      intro v37 s38 hq hm hk
      exfalso
      obtain ⟨hq71, hf_s38, hm_s38, hTK_s38, hRCO_s38, hq72⟩ := hq
      omega
    | succ n40 ih =>
      intro v37 s38 hq hm hk
      obtain ⟨hq73, hf_s38, hm_s38, hTK_s38, hRCO_s38, hq74⟩ := hq
      have hT := w_X3_readSum_0_7_s x0 n40 v37 s38
      by_cases h43 : v37 < 160
      · replace hT := hT.trans (if_pos h43)
        have hr44 := (hm_s38 55 0).1 rfl
        obtain ⟨j46c, hj46c, hT⟩ := gjx hT
        have j46 : (True) → (w_X3_readSum_0_7 x0 (n40 + 1) v37 s38) = j46c  → (fr [34, 53, 54, 55, 56, 57, 58] s0 sZ) ∧ (gMR lgX sZ) ∧ (True) ∧ (TK sZ) ∧ (RCO sZ) := by
          intro  hq hT
          rw [hj46c] at hT
          have hr47 := (hm_s38 55 0).1 rfl
          obtain ⟨z68, hz68, hT⟩ := gl1x hT
          have j49 : ∀ (v50 : Int), ((in32 v50) ∧ (-12 ≤ v50 ∧ v50 ≤ -11)) → z68 = v50 → (fr [34, 53, 54, 55, 56, 57, 58] s0 sZ) ∧ (gMR lgX sZ) ∧ (True) ∧ (TK sZ) ∧ (RCO sZ) := by
            intro v50 hq hz
            obtain ⟨hq66, hq67⟩ := hq
            replace hT := gl1y hT hz
            obtain ⟨r52, s53, hs53⟩ : ∃ rr ss, (f_X3_next  s38) = (rr, ss) := ⟨_, _, rfl⟩
            replace hT := gby hT hs53
            have hp54 := f_X3_next_p  s38  hm_s38 hTK_s38 r52 s53 hs53
            obtain ⟨hfc_s53, hm_s53, hp55, hTK_s53⟩ := hp54
            have hf_s53 : fr [34, 53, 54, 55, 56, 57, 58] s0 s53 := hf_s38.call (by decide) hfc_s53
            have hRCO_s53 : RCO s53 := RCO_fr hRCO_s38 (fun k hk => hfc_s53 k (dj (by decide) k hk))
            obtain ⟨r57, s58, hs58⟩ : ∃ rr ss, (f_X3_readTerm_0 x0 s53) = (rr, ss) := ⟨_, _, rfl⟩
            replace hT := gby hT hs58
            have hp59 := f_X3_readTerm_0_p x0 s53 (by omega) hm_s53 hTK_s53 hRCO_s53 (by first | assumption | omega) r57 s58 hs58
            obtain ⟨hfc_s58, hm_s58, hp60, hTK_s58, hRCO_s58⟩ := hp59
            have hf_s58 : fr [34, 53, 54, 55, 56, 57, 58] s0 s58 := hf_s53.call (by decide) hfc_s58
            obtain ⟨r62, s63, hs63⟩ : ∃ rr ss, (f_X3_emit v50 s58) = (rr, ss) := ⟨_, _, rfl⟩
            replace hT := gby hT hs63
            have hp64 := f_X3_emit_p v50 s58 (by omega) hm_s58 hTK_s58 hRCO_s58 (by first | assumption | omega) r62 s63 hs63
            obtain ⟨hfc_s63, hm_s63, hp65, hTK_s63, hRCO_s63⟩ := hp64
            have hf_s63 : fr [34, 53, 54, 55, 56, 57, 58] s0 s63 := hf_s58.call (by decide) hfc_s63
            exact ih (v37 + 1) s63 ⟨(by omega), hf_s63, hm_s63, hTK_s63, hRCO_s63, (by first | assumption | omega)⟩ (by omega) (fun w41 s42 hw hi => hk w41 s42 (hT.trans hw) hi)
          replace hT := hz68
          by_cases h48 : (s38 55 0) = 43
          · replace hT := hT.trans (if_pos h48)
            exact j49 (-11) ⟨(by omega), (by first | assumption | omega)⟩ hT
          · replace hT := hT.trans (if_neg h48)
            exact j49 (-12) ⟨(by omega), (by first | assumption | omega)⟩ hT
        by_cases h45 : (s38 55 0) = 43
        · replace hT := hT.trans (if_pos h45)
          exact j46  trivial hT
        · replace hT := hT.trans (if_neg h45)
          have hr69 := (hm_s38 55 0).1 rfl
          by_cases h70 : (s38 55 0) = 45
          · replace hT := hT.trans (if_pos h70)
            exact j46  trivial hT
          · replace hT := hT.trans (if_neg h70)
            exact hk v37 s38 hT ⟨(by omega), hf_s38, hm_s38, hTK_s38, hRCO_s38, (by first | assumption | omega)⟩
      · replace hT := hT.trans (if_neg h43)
        exact hk v37 s38 hT ⟨(by omega), hf_s38, hm_s38, hTK_s38, hRCO_s38, (by first | assumption | omega)⟩
  refine L39 161 0 s3 ⟨(by omega), hf_s3, hm_s3, hTK_s3, hRCO_s3, (by first | assumption | omega)⟩ (by omega) (fun v75 s76 hw hq => ?_)
  obtain ⟨hq77, hf_s76, hm_s76, hTK_s76, hRCO_s76, hq78⟩ := hq
  replace hT := gl2y hT hw
  obtain ⟨rfl, rfl⟩ := Prod.mk.inj (hT.symm.trans hres)
  exact ⟨hf_s76, hm_s76, trivial, hTK_s76, hRCO_s76⟩
set_option maxRecDepth 100000 in
set_option maxHeartbeats 4000000 in
theorem c_X3_readSum_0 (l : Launch) (D : va_G) (a : Nat → Nat) (cI cJ cS cT : ClassId) (adK adV : Nat → Nat) (kA : Nat) (s0 : gMem) (x0 : Int) (hx0 : in32 x0) (hpre0 : TK s0) (hpre1 : RCO s0) (hpre2 : x0 = 5) : gCS l yX3_readSum cX3_readSum 4 none 10 640 D vwCl (gT cI cJ cS cT) (wdX a cI cJ cS cT) lgX kV rgV [.ref (a 2), gI x0] s0 (f_X3_readSum_0 x0 s0) adK adV kA := by
  refine gCS_of (by decide +kernel) (hwdX a cI cJ cS cT) (Nat.le_of_ble_eq_true rfl) ?_
  intro A p e R s m args below meth c hR E HX
  subst hR
  have hT := f_X3_readSum_0_e x0 s0
  have hf_s0 : fr [34, 53, 54, 55, 56, 57, 58] s0 s0 := fr.rf _ _
  refine k_lv0 (lv' := [(0, .ref (a 2)), (1, gI x0)]) rfl ?_
  refine k_mr (fun hm_s0 => ?_)
  have hTK_s0 := hpre0
  have hRCO_s0 := hpre1
  refine k_aloadn (pc := 0) E 0 dX3_readSum_0 rfl rfl ?_
  refine k_iloadn (pc := 1) E 1 dX3_readSum_1 rfl rfl ?_
  refine k_mr (fun hm_s0 => ?_)
  refine k_callVX (pc := 2) (np := 1) (As := [gI x0]) (st := []) (q0 := 2) E HX rfl rfl (c_X3_readTerm_0 l D a cI cJ cS cT adK adV kA s0 x0 (by omega) hTK_s0 hRCO_s0 (by first | assumption | omega)) wm_452 wm_3 wm_449 wm_451 wp_11 (by decide +kernel) ⟨by decide, by decide⟩ rfl (Nat.le_of_ble_eq_true rfl) dX3_readSum_2 (fun r2 s3 hs3 hr1 => ?_)
  replace hT := gby hT hs3
  have hp4 := f_X3_readTerm_0_p x0 s0 (by omega) hm_s0 hTK_s0 hRCO_s0 (by first | assumption | omega) r2 s3 hs3
  obtain ⟨hfc_s3, hm_s3, hp5, hTK_s3, hRCO_s3⟩ := hp4
  have hf_s3 : fr [34, 53, 54, 55, 56, 57, 58] s0 s3 := hf_s0.call (by decide) hfc_s3
  refine k_st (st' := []) rfl ?_
  refine k_iconst (pc := 5) E dX3_readSum_5 ?_
  refine k_istoren (pc := 6) (lv' := [(2, gI 0), (0, .ref (a 2)), (1, gI x0)]) E dX3_readSum_6 rfl (by decide) rfl ?_
  have L39 : ∀ (n40 : Nat) (v37 : Int) (s38 : gMem), ((in32 v37) ∧ (fr [34, 53, 54, 55, 56, 57, 58] s0 s38) ∧ (TK s38) ∧ (RCO s38) ∧ (0 ≤ v37 ∧ v37 ≤ 160)) → 160 - v37 < (n40 : Int) → (∀ (w41 : Int) (s42 : gMem), (w_X3_readSum_0_7 x0 n40 v37 s38) = (w41, s42) → ((in32 w41) ∧ (fr [34, 53, 54, 55, 56, 57, 58] s0 s42) ∧ (TK s42) ∧ (RCO s42) ∧ (0 ≤ w41 ∧ w41 ≤ 160)) → gK D vwCl (wdX a cI cJ cS cT) lgX A p l e { frames := 10, cells := 0, slots := 0, locals := 640 } s m args below meth c 4 (gQQ D vwCl (wdX a cI cJ cS cT) lgX A kV rgV below args s) (f_X3_readSum_0 x0 s0) s42 69 [] []) → gK D vwCl (wdX a cI cJ cS cT) lgX A p l e { frames := 10, cells := 0, slots := 0, locals := 640 } s m args below meth c 4 (gQQ D vwCl (wdX a cI cJ cS cT) lgX A kV rgV below args s) (f_X3_readSum_0 x0 s0) s38 7 [(0, .ref (a 2)), (1, gI x0), (2, gI v37)] [] := by
    intro n40; induction n40 with
    | zero =>
      intro v37 s38 hq hm hk
      exfalso
      obtain ⟨hq71, hf_s38, hTK_s38, hRCO_s38, hq72⟩ := hq
      omega
    | succ n40 ih =>
      intro v37 s38 hq hm hk
      obtain ⟨hq73, hf_s38, hTK_s38, hRCO_s38, hq74⟩ := hq
      have hT := w_X3_readSum_0_7_s x0 n40 v37 s38
      refine k_iloadn (pc := 7) E 2 dX3_readSum_7 rfl rfl ?_
      refine k_sipush (pc := 8) E dX3_readSum_8 (by decide) ?_
      by_cases h43 : v37 < 160
      · replace hT := hT.trans (if_pos h43)
        refine k_icmp_ge_f (pc := 11) (tgt := 69) E (by omega) (by omega) dX3_readSum_11 (by decide) h43 ?_
        refine k_aloadn (pc := 14) E 0 dX3_readSum_14 rfl rfl ?_
        refine k_getfI (pc := 15) (q0 := 2) (f := 6) (k := 55) E inX3 rfl rfl (by decide) wm_65 rfl rfl rfl dX3_readSum_15 (fun hr44 => ?_)
        refine k_bipush (pc := 18) E dX3_readSum_18 (by decide) ?_
        obtain ⟨j46c, hj46c, hT⟩ := gjx hT
        have j46 : (True) → (w_X3_readSum_0_7 x0 (n40 + 1) v37 s38) = j46c  → gK D vwCl (wdX a cI cJ cS cT) lgX A p l e { frames := 10, cells := 0, slots := 0, locals := 640 } s m args below meth c 4 (gQQ D vwCl (wdX a cI cJ cS cT) lgX A kV rgV below args s) (f_X3_readSum_0 x0 s0) s38 32 [(0, .ref (a 2)), (1, gI x0), (2, gI v37)] [] := by
          intro  hq hT
          rw [hj46c] at hT
          refine k_aloadn (pc := 32) E 0 dX3_readSum_32 rfl rfl ?_
          refine k_getfI (pc := 33) (q0 := 2) (f := 6) (k := 55) E inX3 rfl rfl (by decide) wm_65 rfl rfl rfl dX3_readSum_33 (fun hr47 => ?_)
          refine k_bipush (pc := 36) E dX3_readSum_36 (by decide) ?_
          obtain ⟨z68, hz68, hT⟩ := gl1x hT
          have j49 : ∀ (v50 : Int), ((in32 v50) ∧ (-12 ≤ v50 ∧ v50 ≤ -11)) → z68 = v50 → gK D vwCl (wdX a cI cJ cS cT) lgX A p l e { frames := 10, cells := 0, slots := 0, locals := 640 } s m args below meth c 4 (gQQ D vwCl (wdX a cI cJ cS cT) lgX A kV rgV below args s) (f_X3_readSum_0 x0 s0) s38 48 [(0, .ref (a 2)), (1, gI x0), (2, gI v37)] [gI v50] := by
            intro v50 hq hz
            obtain ⟨hq66, hq67⟩ := hq
            replace hT := gl1y hT hz
            refine k_istoren (pc := 48) (lv' := [(3, gI v50), (0, .ref (a 2)), (1, gI x0), (2, gI v37)]) E dX3_readSum_48 rfl (by decide) rfl ?_
            refine k_aloadn (pc := 49) E 1 dX3_readSum_49 rfl rfl ?_
            refine k_mr (fun hm_s38 => ?_)
            refine k_callVX (pc := 50) (np := 0) (As := []) (st := []) (q0 := 2) E HX rfl rfl (c_X3_next l D a cI cJ cS cT adK adV kA s38  hTK_s38) wm_336 wm_3 wm_333 wm_335 wp_0 (by decide +kernel) ⟨by decide, by decide⟩ rfl (Nat.le_of_ble_eq_true rfl) dX3_readSum_50 (fun r52 s53 hs53 hr51 => ?_)
            replace hT := gby hT hs53
            have hp54 := f_X3_next_p  s38  hm_s38 hTK_s38 r52 s53 hs53
            obtain ⟨hfc_s53, hm_s53, hp55, hTK_s53⟩ := hp54
            have hf_s53 : fr [34, 53, 54, 55, 56, 57, 58] s0 s53 := hf_s38.call (by decide) hfc_s53
            have hRCO_s53 : RCO s53 := RCO_fr hRCO_s38 (fun k hk => hfc_s53 k (dj (by decide) k hk))
            refine k_st (st' := []) rfl ?_
            refine k_aloadn (pc := 53) E 1 dX3_readSum_53 rfl rfl ?_
            refine k_iloadn (pc := 54) E 2 dX3_readSum_54 rfl rfl ?_
            refine k_mr (fun hm_s53 => ?_)
            refine k_callVX (pc := 55) (np := 1) (As := [gI x0]) (st := []) (q0 := 2) E HX rfl rfl (c_X3_readTerm_0 l D a cI cJ cS cT adK adV kA s53 x0 (by omega) hTK_s53 hRCO_s53 (by first | assumption | omega)) wm_452 wm_3 wm_449 wm_451 wp_11 (by decide +kernel) ⟨by decide, by decide⟩ rfl (Nat.le_of_ble_eq_true rfl) dX3_readSum_55 (fun r57 s58 hs58 hr56 => ?_)
            replace hT := gby hT hs58
            have hp59 := f_X3_readTerm_0_p x0 s53 (by omega) hm_s53 hTK_s53 hRCO_s53 (by first | assumption | omega) r57 s58 hs58
            obtain ⟨hfc_s58, hm_s58, hp60, hTK_s58, hRCO_s58⟩ := hp59
            have hf_s58 : fr [34, 53, 54, 55, 56, 57, 58] s0 s58 := hf_s53.call (by decide) hfc_s58
            refine k_st (st' := []) rfl ?_
            refine k_aloadn (pc := 58) E 1 dX3_readSum_58 rfl rfl ?_
            refine k_iloadn (pc := 59) E 0 dX3_readSum_59 rfl rfl ?_
            refine k_mr (fun hm_s58 => ?_)
            refine k_callV (pc := 60) (np := 1) (As := [gI v50]) (st := []) (q0 := 2) E (c_X3_emit l D a cI cJ cS cT s58 v50 (by omega) hTK_s58 hRCO_s58 (by first | assumption | omega)) wm_460 wm_3 wm_457 wm_459 wp_13 (by decide +kernel) rfl rfl ⟨by decide, by decide⟩ rfl (Nat.le_of_ble_eq_true rfl) dX3_readSum_60 (fun r62 s63 hs63 hr61 => ?_)
            replace hT := gby hT hs63
            have hp64 := f_X3_emit_p v50 s58 (by omega) hm_s58 hTK_s58 hRCO_s58 (by first | assumption | omega) r62 s63 hs63
            obtain ⟨hfc_s63, hm_s63, hp65, hTK_s63, hRCO_s63⟩ := hp64
            have hf_s63 : fr [34, 53, 54, 55, 56, 57, 58] s0 s63 := hf_s58.call (by decide) hfc_s63
            refine k_st (st' := []) rfl ?_
            refine k_iinc (pc := 63) (lv' := [(2, gI (v37 + 1)), (3, gI v50), (0, .ref (a 2)), (1, gI x0)]) E 3 dX3_readSum_63 rfl (by decide) rfl ?_
            refine k_goto (pc := 66) (tgt := 7) E dX3_readSum_66 (by decide) ?_
            refine k_lv (lv' := [(0, .ref (a 2)), (1, gI x0), (2, gI (v37 + 1))]) [2, 3, 0] rfl ?_
            exact ih (v37 + 1) s63 ⟨(by omega), hf_s63, hTK_s63, hRCO_s63, (by first | assumption | omega)⟩ (by omega) (fun w41 s42 hw hi => hk w41 s42 (hT.trans hw) hi)
          replace hT := hz68
          by_cases h48 : (s38 55 0) = 43
          · replace hT := hT.trans (if_pos h48)
            refine k_icmp_ne_f (pc := 38) (tgt := 46) E (by omega) (by omega) dX3_readSum_38 (by decide) h48 ?_
            refine k_bipush (pc := 41) E dX3_readSum_41 (by decide) ?_
            refine k_goto (pc := 43) (tgt := 48) E dX3_readSum_43 (by decide) ?_
            exact j49 (-11) ⟨(by omega), (by first | assumption | omega)⟩ hT
          · replace hT := hT.trans (if_neg h48)
            refine k_icmp_ne_t (pc := 38) (tgt := 46) E (by omega) (by omega) dX3_readSum_38 (by decide) h48 ?_
            refine k_bipush (pc := 46) E dX3_readSum_46 (by decide) ?_
            exact j49 (-12) ⟨(by omega), (by first | assumption | omega)⟩ hT
        by_cases h45 : (s38 55 0) = 43
        · replace hT := hT.trans (if_pos h45)
          refine k_icmp_eq_t (pc := 20) (tgt := 32) E (by omega) (by omega) dX3_readSum_20 (by decide) h45 ?_
          exact j46  trivial hT
        · replace hT := hT.trans (if_neg h45)
          refine k_icmp_eq_f (pc := 20) (tgt := 32) E (by omega) (by omega) dX3_readSum_20 (by decide) h45 ?_
          refine k_aloadn (pc := 23) E 0 dX3_readSum_23 rfl rfl ?_
          refine k_getfI (pc := 24) (q0 := 2) (f := 6) (k := 55) E inX3 rfl rfl (by decide) wm_65 rfl rfl rfl dX3_readSum_24 (fun hr69 => ?_)
          refine k_bipush (pc := 27) E dX3_readSum_27 (by decide) ?_
          by_cases h70 : (s38 55 0) = 45
          · replace hT := hT.trans (if_pos h70)
            refine k_icmp_ne_f (pc := 29) (tgt := 69) E (by omega) (by omega) dX3_readSum_29 (by decide) h70 ?_
            exact j46  trivial hT
          · replace hT := hT.trans (if_neg h70)
            refine k_icmp_ne_t (pc := 29) (tgt := 69) E (by omega) (by omega) dX3_readSum_29 (by decide) h70 ?_
            refine k_lv (lv' := []) [] rfl ?_
            exact hk v37 s38 hT ⟨(by omega), hf_s38, hTK_s38, hRCO_s38, (by first | assumption | omega)⟩
      · replace hT := hT.trans (if_neg h43)
        refine k_icmp_ge_t (pc := 11) (tgt := 69) E (by omega) (by omega) dX3_readSum_11 (by decide) h43 ?_
        refine k_lv (lv' := []) [] rfl ?_
        exact hk v37 s38 hT ⟨(by omega), hf_s38, hTK_s38, hRCO_s38, (by first | assumption | omega)⟩
  refine k_lv (lv' := [(0, .ref (a 2)), (1, gI x0), (2, gI 0)]) [1, 2, 0] rfl ?_
  refine L39 161 0 s3 ⟨(by omega), hf_s3, hTK_s3, hRCO_s3, (by first | assumption | omega)⟩ (by omega) (fun v75 s76 hw hq => ?_)
  obtain ⟨hq77, hf_s76, hTK_s76, hRCO_s76, hq78⟩ := hq
  replace hT := gl2y hT hw
  exact k_rho hT (k_vret (pc := 69) E dX3_readSum_69)

def f_X3_readCompared_0 (x0 : Int) (s0 : gMem) : gRes := gb (f_X3_readSum_0 x0 s0) (fun r2 s3 => (gj (fun j8c => (if (s3 55 0) = 60 then j8c else (if (s3 55 0) = 61 then j8c else (0, s3)))) ((gl ((if (s3 55 0) = 60 then (-9) else (-10))) (fun v12 => gb (f_X3_next  s3) (fun r14 s15 => gb (f_X3_readSum_0 x0 s15) (fun r19 s20 => gb (f_X3_emit v12 s20) (fun r24 s25 => (0, s25)))))))))
theorem f_X3_readCompared_0_e (x0 : Int) (s0 : gMem) : f_X3_readCompared_0 x0 s0 = gb (f_X3_readSum_0 x0 s0) (fun r2 s3 => (gj (fun j8c => (if (s3 55 0) = 60 then j8c else (if (s3 55 0) = 61 then j8c else (0, s3)))) ((gl ((if (s3 55 0) = 60 then (-9) else (-10))) (fun v12 => gb (f_X3_next  s3) (fun r14 s15 => gb (f_X3_readSum_0 x0 s15) (fun r19 s20 => gb (f_X3_emit v12 s20) (fun r24 s25 => (0, s25))))))))) := rfl
set_option maxRecDepth 100000 in
set_option maxHeartbeats 4000000 in
theorem f_X3_readCompared_0_p (x0 : Int) (s0 : gMem) (hx0 : in32 x0) (hm_s0 : gMR lgX s0) (hpre0 : TK s0) (hpre1 : RCO s0) (hpre2 : x0 = 5) (rZ : Int) (sZ : gMem) (hres : f_X3_readCompared_0 x0 s0 = (rZ, sZ)) : (fr [34, 53, 54, 55, 56, 57, 58] s0 sZ) ∧ (gMR lgX sZ) ∧ (True) ∧ (TK sZ) ∧ (RCO sZ) := by
  have hT := f_X3_readCompared_0_e x0 s0
  have hf_s0 : fr [34, 53, 54, 55, 56, 57, 58] s0 s0 := fr.rf _ _
  have hTK_s0 := hpre0
  have hRCO_s0 := hpre1
  obtain ⟨r2, s3, hs3⟩ : ∃ rr ss, (f_X3_readSum_0 x0 s0) = (rr, ss) := ⟨_, _, rfl⟩
  replace hT := gby hT hs3
  have hp4 := f_X3_readSum_0_p x0 s0 (by omega) hm_s0 hTK_s0 hRCO_s0 (by first | assumption | omega) r2 s3 hs3
  obtain ⟨hfc_s3, hm_s3, hp5, hTK_s3, hRCO_s3⟩ := hp4
  have hf_s3 : fr [34, 53, 54, 55, 56, 57, 58] s0 s3 := hf_s0.call (by decide) hfc_s3
  have hr6 := (hm_s3 55 0).1 rfl
  obtain ⟨j8c, hj8c, hT⟩ := gjx hT
  have j8 : (True) → (f_X3_readCompared_0 x0 s0) = j8c  → (fr [34, 53, 54, 55, 56, 57, 58] s0 sZ) ∧ (gMR lgX sZ) ∧ (True) ∧ (TK sZ) ∧ (RCO sZ) := by
    intro  hq hT
    rw [hj8c] at hT
    have hr9 := (hm_s3 55 0).1 rfl
    obtain ⟨z30, hz30, hT⟩ := gl1x hT
    have j11 : ∀ (v12 : Int), ((in32 v12) ∧ (-10 ≤ v12 ∧ v12 ≤ -9)) → z30 = v12 → (fr [34, 53, 54, 55, 56, 57, 58] s0 sZ) ∧ (gMR lgX sZ) ∧ (True) ∧ (TK sZ) ∧ (RCO sZ) := by
      intro v12 hq hz
      obtain ⟨hq28, hq29⟩ := hq
      replace hT := gl1y hT hz
      obtain ⟨r14, s15, hs15⟩ : ∃ rr ss, (f_X3_next  s3) = (rr, ss) := ⟨_, _, rfl⟩
      replace hT := gby hT hs15
      have hp16 := f_X3_next_p  s3  hm_s3 hTK_s3 r14 s15 hs15
      obtain ⟨hfc_s15, hm_s15, hp17, hTK_s15⟩ := hp16
      have hf_s15 : fr [34, 53, 54, 55, 56, 57, 58] s0 s15 := hf_s3.call (by decide) hfc_s15
      have hRCO_s15 : RCO s15 := RCO_fr hRCO_s3 (fun k hk => hfc_s15 k (dj (by decide) k hk))
      obtain ⟨r19, s20, hs20⟩ : ∃ rr ss, (f_X3_readSum_0 x0 s15) = (rr, ss) := ⟨_, _, rfl⟩
      replace hT := gby hT hs20
      have hp21 := f_X3_readSum_0_p x0 s15 (by omega) hm_s15 hTK_s15 hRCO_s15 (by first | assumption | omega) r19 s20 hs20
      obtain ⟨hfc_s20, hm_s20, hp22, hTK_s20, hRCO_s20⟩ := hp21
      have hf_s20 : fr [34, 53, 54, 55, 56, 57, 58] s0 s20 := hf_s15.call (by decide) hfc_s20
      obtain ⟨r24, s25, hs25⟩ : ∃ rr ss, (f_X3_emit v12 s20) = (rr, ss) := ⟨_, _, rfl⟩
      replace hT := gby hT hs25
      have hp26 := f_X3_emit_p v12 s20 (by omega) hm_s20 hTK_s20 hRCO_s20 (by first | assumption | omega) r24 s25 hs25
      obtain ⟨hfc_s25, hm_s25, hp27, hTK_s25, hRCO_s25⟩ := hp26
      have hf_s25 : fr [34, 53, 54, 55, 56, 57, 58] s0 s25 := hf_s20.call (by decide) hfc_s25
      obtain ⟨rfl, rfl⟩ := Prod.mk.inj (hT.symm.trans hres)
      exact ⟨hf_s25, hm_s25, trivial, hTK_s25, hRCO_s25⟩
    replace hT := hz30
    by_cases h10 : (s3 55 0) = 60
    · replace hT := hT.trans (if_pos h10)
      exact j11 (-9) ⟨(by omega), (by first | assumption | omega)⟩ hT
    · replace hT := hT.trans (if_neg h10)
      exact j11 (-10) ⟨(by omega), (by first | assumption | omega)⟩ hT
  by_cases h7 : (s3 55 0) = 60
  · replace hT := hT.trans (if_pos h7)
    exact j8  trivial hT
  · replace hT := hT.trans (if_neg h7)
    have hr31 := (hm_s3 55 0).1 rfl
    by_cases h32 : (s3 55 0) = 61
    · replace hT := hT.trans (if_pos h32)
      exact j8  trivial hT
    · replace hT := hT.trans (if_neg h32)
      obtain ⟨rfl, rfl⟩ := Prod.mk.inj (hT.symm.trans hres)
      exact ⟨hf_s3, hm_s3, trivial, hTK_s3, hRCO_s3⟩
set_option maxRecDepth 100000 in
set_option maxHeartbeats 4000000 in
theorem c_X3_readCompared_0 (l : Launch) (D : va_G) (a : Nat → Nat) (cI cJ cS cT : ClassId) (adK adV : Nat → Nat) (kA : Nat) (s0 : gMem) (x0 : Int) (hx0 : in32 x0) (hpre0 : TK s0) (hpre1 : RCO s0) (hpre2 : x0 = 5) : gCS l yX3_readCompared cX3_readCompared 3 none 11 704 D vwCl (gT cI cJ cS cT) (wdX a cI cJ cS cT) lgX kV rgV [.ref (a 2), gI x0] s0 (f_X3_readCompared_0 x0 s0) adK adV kA := by
  refine gCS_of (by decide +kernel) (hwdX a cI cJ cS cT) (Nat.le_of_ble_eq_true rfl) ?_
  intro A p e R s m args below meth c hR E HX
  subst hR
  have hT := f_X3_readCompared_0_e x0 s0
  have hf_s0 : fr [34, 53, 54, 55, 56, 57, 58] s0 s0 := fr.rf _ _
  refine k_lv0 (lv' := [(0, .ref (a 2)), (1, gI x0)]) rfl ?_
  refine k_mr (fun hm_s0 => ?_)
  have hTK_s0 := hpre0
  have hRCO_s0 := hpre1
  refine k_aloadn (pc := 0) E 0 dX3_readCompared_0 rfl rfl ?_
  refine k_iloadn (pc := 1) E 1 dX3_readCompared_1 rfl rfl ?_
  refine k_mr (fun hm_s0 => ?_)
  refine k_callVX (pc := 2) (np := 1) (As := [gI x0]) (st := []) (q0 := 2) E HX rfl rfl (c_X3_readSum_0 l D a cI cJ cS cT adK adV kA s0 x0 (by omega) hTK_s0 hRCO_s0 (by first | assumption | omega)) wm_448 wm_3 wm_445 wm_447 wp_10 (by decide +kernel) ⟨by decide, by decide⟩ rfl (Nat.le_of_ble_eq_true rfl) dX3_readCompared_2 (fun r2 s3 hs3 hr1 => ?_)
  replace hT := gby hT hs3
  have hp4 := f_X3_readSum_0_p x0 s0 (by omega) hm_s0 hTK_s0 hRCO_s0 (by first | assumption | omega) r2 s3 hs3
  obtain ⟨hfc_s3, hm_s3, hp5, hTK_s3, hRCO_s3⟩ := hp4
  have hf_s3 : fr [34, 53, 54, 55, 56, 57, 58] s0 s3 := hf_s0.call (by decide) hfc_s3
  refine k_st (st' := []) rfl ?_
  refine k_aloadn (pc := 5) E 0 dX3_readCompared_5 rfl rfl ?_
  refine k_getfI (pc := 6) (q0 := 2) (f := 6) (k := 55) E inX3 rfl rfl (by decide) wm_65 rfl rfl rfl dX3_readCompared_6 (fun hr6 => ?_)
  refine k_bipush (pc := 9) E dX3_readCompared_9 (by decide) ?_
  obtain ⟨j8c, hj8c, hT⟩ := gjx hT
  have j8 : (True) → (f_X3_readCompared_0 x0 s0) = j8c  → gK D vwCl (wdX a cI cJ cS cT) lgX A p l e { frames := 11, cells := 0, slots := 0, locals := 704 } s m args below meth c 3 (gQQ D vwCl (wdX a cI cJ cS cT) lgX A kV rgV below args s) (f_X3_readCompared_0 x0 s0) s3 23 [(0, .ref (a 2)), (1, gI x0)] [] := by
    intro  hq hT
    rw [hj8c] at hT
    refine k_aloadn (pc := 23) E 0 dX3_readCompared_23 rfl rfl ?_
    refine k_getfI (pc := 24) (q0 := 2) (f := 6) (k := 55) E inX3 rfl rfl (by decide) wm_65 rfl rfl rfl dX3_readCompared_24 (fun hr9 => ?_)
    refine k_bipush (pc := 27) E dX3_readCompared_27 (by decide) ?_
    obtain ⟨z30, hz30, hT⟩ := gl1x hT
    have j11 : ∀ (v12 : Int), ((in32 v12) ∧ (-10 ≤ v12 ∧ v12 ≤ -9)) → z30 = v12 → gK D vwCl (wdX a cI cJ cS cT) lgX A p l e { frames := 11, cells := 0, slots := 0, locals := 704 } s m args below meth c 3 (gQQ D vwCl (wdX a cI cJ cS cT) lgX A kV rgV below args s) (f_X3_readCompared_0 x0 s0) s3 39 [(0, .ref (a 2)), (1, gI x0)] [gI v12] := by
      intro v12 hq hz
      obtain ⟨hq28, hq29⟩ := hq
      replace hT := gl1y hT hz
      refine k_istoren (pc := 39) (lv' := [(2, gI v12), (0, .ref (a 2)), (1, gI x0)]) E dX3_readCompared_39 rfl (by decide) rfl ?_
      refine k_aloadn (pc := 40) E 1 dX3_readCompared_40 rfl rfl ?_
      refine k_mr (fun hm_s3 => ?_)
      refine k_callVX (pc := 41) (np := 0) (As := []) (st := []) (q0 := 2) E HX rfl rfl (c_X3_next l D a cI cJ cS cT adK adV kA s3  hTK_s3) wm_336 wm_3 wm_333 wm_335 wp_0 (by decide +kernel) ⟨by decide, by decide⟩ rfl (Nat.le_of_ble_eq_true rfl) dX3_readCompared_41 (fun r14 s15 hs15 hr13 => ?_)
      replace hT := gby hT hs15
      have hp16 := f_X3_next_p  s3  hm_s3 hTK_s3 r14 s15 hs15
      obtain ⟨hfc_s15, hm_s15, hp17, hTK_s15⟩ := hp16
      have hf_s15 : fr [34, 53, 54, 55, 56, 57, 58] s0 s15 := hf_s3.call (by decide) hfc_s15
      have hRCO_s15 : RCO s15 := RCO_fr hRCO_s3 (fun k hk => hfc_s15 k (dj (by decide) k hk))
      refine k_st (st' := []) rfl ?_
      refine k_aloadn (pc := 44) E 1 dX3_readCompared_44 rfl rfl ?_
      refine k_iloadn (pc := 45) E 2 dX3_readCompared_45 rfl rfl ?_
      refine k_mr (fun hm_s15 => ?_)
      refine k_callVX (pc := 46) (np := 1) (As := [gI x0]) (st := []) (q0 := 2) E HX rfl rfl (c_X3_readSum_0 l D a cI cJ cS cT adK adV kA s15 x0 (by omega) hTK_s15 hRCO_s15 (by first | assumption | omega)) wm_448 wm_3 wm_445 wm_447 wp_10 (by decide +kernel) ⟨by decide, by decide⟩ rfl (Nat.le_of_ble_eq_true rfl) dX3_readCompared_46 (fun r19 s20 hs20 hr18 => ?_)
      replace hT := gby hT hs20
      have hp21 := f_X3_readSum_0_p x0 s15 (by omega) hm_s15 hTK_s15 hRCO_s15 (by first | assumption | omega) r19 s20 hs20
      obtain ⟨hfc_s20, hm_s20, hp22, hTK_s20, hRCO_s20⟩ := hp21
      have hf_s20 : fr [34, 53, 54, 55, 56, 57, 58] s0 s20 := hf_s15.call (by decide) hfc_s20
      refine k_st (st' := []) rfl ?_
      refine k_aloadn (pc := 49) E 1 dX3_readCompared_49 rfl rfl ?_
      refine k_iloadn (pc := 50) E 0 dX3_readCompared_50 rfl rfl ?_
      refine k_mr (fun hm_s20 => ?_)
      refine k_callV (pc := 51) (np := 1) (As := [gI v12]) (st := []) (q0 := 2) E (c_X3_emit l D a cI cJ cS cT s20 v12 (by omega) hTK_s20 hRCO_s20 (by first | assumption | omega)) wm_460 wm_3 wm_457 wm_459 wp_13 (by decide +kernel) rfl rfl ⟨by decide, by decide⟩ rfl (Nat.le_of_ble_eq_true rfl) dX3_readCompared_51 (fun r24 s25 hs25 hr23 => ?_)
      replace hT := gby hT hs25
      have hp26 := f_X3_emit_p v12 s20 (by omega) hm_s20 hTK_s20 hRCO_s20 (by first | assumption | omega) r24 s25 hs25
      obtain ⟨hfc_s25, hm_s25, hp27, hTK_s25, hRCO_s25⟩ := hp26
      have hf_s25 : fr [34, 53, 54, 55, 56, 57, 58] s0 s25 := hf_s20.call (by decide) hfc_s25
      refine k_st (st' := []) rfl ?_
      exact k_rho hT (k_vret (pc := 54) E dX3_readCompared_54)
    replace hT := hz30
    by_cases h10 : (s3 55 0) = 60
    · replace hT := hT.trans (if_pos h10)
      refine k_icmp_ne_f (pc := 29) (tgt := 37) E (by omega) (by omega) dX3_readCompared_29 (by decide) h10 ?_
      refine k_bipush (pc := 32) E dX3_readCompared_32 (by decide) ?_
      refine k_goto (pc := 34) (tgt := 39) E dX3_readCompared_34 (by decide) ?_
      exact j11 (-9) ⟨(by omega), (by first | assumption | omega)⟩ hT
    · replace hT := hT.trans (if_neg h10)
      refine k_icmp_ne_t (pc := 29) (tgt := 37) E (by omega) (by omega) dX3_readCompared_29 (by decide) h10 ?_
      refine k_bipush (pc := 37) E dX3_readCompared_37 (by decide) ?_
      exact j11 (-10) ⟨(by omega), (by first | assumption | omega)⟩ hT
  by_cases h7 : (s3 55 0) = 60
  · replace hT := hT.trans (if_pos h7)
    refine k_icmp_eq_t (pc := 11) (tgt := 23) E (by omega) (by omega) dX3_readCompared_11 (by decide) h7 ?_
    exact j8  trivial hT
  · replace hT := hT.trans (if_neg h7)
    refine k_icmp_eq_f (pc := 11) (tgt := 23) E (by omega) (by omega) dX3_readCompared_11 (by decide) h7 ?_
    refine k_aloadn (pc := 14) E 0 dX3_readCompared_14 rfl rfl ?_
    refine k_getfI (pc := 15) (q0 := 2) (f := 6) (k := 55) E inX3 rfl rfl (by decide) wm_65 rfl rfl rfl dX3_readCompared_15 (fun hr31 => ?_)
    refine k_bipush (pc := 18) E dX3_readCompared_18 (by decide) ?_
    by_cases h32 : (s3 55 0) = 61
    · replace hT := hT.trans (if_pos h32)
      refine k_icmp_ne_f (pc := 20) (tgt := 54) E (by omega) (by omega) dX3_readCompared_20 (by decide) h32 ?_
      exact j8  trivial hT
    · replace hT := hT.trans (if_neg h32)
      refine k_icmp_ne_t (pc := 20) (tgt := 54) E (by omega) (by omega) dX3_readCompared_20 (by decide) h32 ?_
      exact k_rho hT (k_vret (pc := 54) E dX3_readCompared_54)

def f_X3_readNot_0 (x0 : Int) (s0 : gMem) : gRes := (if (s0 55 0) = 261 then (if x0 < 5 then (0, s0) else gb (f_X3_fail  s0) (fun r5 s6 => (0, s6))) else gb (f_X3_readCompared_0 x0 s0) (fun r11 s12 => (0, s12)))
theorem f_X3_readNot_0_e (x0 : Int) (s0 : gMem) : f_X3_readNot_0 x0 s0 = (if (s0 55 0) = 261 then (if x0 < 5 then (0, s0) else gb (f_X3_fail  s0) (fun r5 s6 => (0, s6))) else gb (f_X3_readCompared_0 x0 s0) (fun r11 s12 => (0, s12))) := rfl
set_option maxRecDepth 100000 in
set_option maxHeartbeats 4000000 in
theorem f_X3_readNot_0_p (x0 : Int) (s0 : gMem) (hx0 : in32 x0) (hm_s0 : gMR lgX s0) (hpre0 : TK s0) (hpre1 : RCO s0) (hpre2 : x0 = 5) (rZ : Int) (sZ : gMem) (hres : f_X3_readNot_0 x0 s0 = (rZ, sZ)) : (fr [34, 53, 54, 55, 56, 57, 58] s0 sZ) ∧ (gMR lgX sZ) ∧ (True) ∧ (TK sZ) ∧ (RCO sZ) := by
  have hT := f_X3_readNot_0_e x0 s0
  have hf_s0 : fr [34, 53, 54, 55, 56, 57, 58] s0 s0 := fr.rf _ _
  have hTK_s0 := hpre0
  have hRCO_s0 := hpre1
  have hr1 := (hm_s0 55 0).1 rfl
  by_cases h2 : (s0 55 0) = 261
  · replace hT := hT.trans (if_pos h2)
    by_cases h3 : x0 < 5
    · replace hT := hT.trans (if_pos h3)
      exfalso
      omega
    · replace hT := hT.trans (if_neg h3)
      obtain ⟨r5, s6, hs6⟩ : ∃ rr ss, (f_X3_fail  s0) = (rr, ss) := ⟨_, _, rfl⟩
      replace hT := gby hT hs6
      have hp7 := f_X3_fail_p  s0  hm_s0 hTK_s0 r5 s6 hs6
      obtain ⟨hfc_s6, hm_s6, hp8, hTK_s6, hp9⟩ := hp7
      have hf_s6 : fr [34, 53, 54, 55, 56, 57, 58] s0 s6 := hf_s0.call (by decide) hfc_s6
      have hRCO_s6 : RCO s6 := RCO_fr hRCO_s0 (fun k hk => hfc_s6 k (dj (by decide) k hk))
      obtain ⟨rfl, rfl⟩ := Prod.mk.inj (hT.symm.trans hres)
      exact ⟨hf_s6, hm_s6, trivial, hTK_s6, hRCO_s6⟩
  · replace hT := hT.trans (if_neg h2)
    obtain ⟨r11, s12, hs12⟩ : ∃ rr ss, (f_X3_readCompared_0 x0 s0) = (rr, ss) := ⟨_, _, rfl⟩
    replace hT := gby hT hs12
    have hp13 := f_X3_readCompared_0_p x0 s0 (by omega) hm_s0 hTK_s0 hRCO_s0 (by first | assumption | omega) r11 s12 hs12
    obtain ⟨hfc_s12, hm_s12, hp14, hTK_s12, hRCO_s12⟩ := hp13
    have hf_s12 : fr [34, 53, 54, 55, 56, 57, 58] s0 s12 := hf_s0.call (by decide) hfc_s12
    obtain ⟨rfl, rfl⟩ := Prod.mk.inj (hT.symm.trans hres)
    exact ⟨hf_s12, hm_s12, trivial, hTK_s12, hRCO_s12⟩
set_option maxRecDepth 100000 in
set_option maxHeartbeats 4000000 in
theorem c_X3_readNot_0 (l : Launch) (D : va_G) (a : Nat → Nat) (cI cJ cS cT : ClassId) (adK adV : Nat → Nat) (kA : Nat) (s0 : gMem) (x0 : Int) (hx0 : in32 x0) (hpre0 : TK s0) (hpre1 : RCO s0) (hpre2 : x0 = 5) : gCS l yX3_readNot cX3_readNot 2 none 12 768 D vwCl (gT cI cJ cS cT) (wdX a cI cJ cS cT) lgX kV rgV [.ref (a 2), gI x0] s0 (f_X3_readNot_0 x0 s0) adK adV kA := by
  refine gCS_of (by decide +kernel) (hwdX a cI cJ cS cT) (Nat.le_of_ble_eq_true rfl) ?_
  intro A p e R s m args below meth c hR E HX
  subst hR
  have hT := f_X3_readNot_0_e x0 s0
  have hf_s0 : fr [34, 53, 54, 55, 56, 57, 58] s0 s0 := fr.rf _ _
  refine k_lv0 (lv' := [(0, .ref (a 2)), (1, gI x0)]) rfl ?_
  refine k_mr (fun hm_s0 => ?_)
  have hTK_s0 := hpre0
  have hRCO_s0 := hpre1
  refine k_aloadn (pc := 0) E 0 dX3_readNot_0 rfl rfl ?_
  refine k_getfI (pc := 1) (q0 := 2) (f := 6) (k := 55) E inX3 rfl rfl (by decide) wm_65 rfl rfl rfl dX3_readNot_1 (fun hr1 => ?_)
  refine k_sipush (pc := 4) E dX3_readNot_4 (by decide) ?_
  by_cases h2 : (s0 55 0) = 261
  · replace hT := hT.trans (if_pos h2)
    refine k_icmp_eq_t (pc := 7) (tgt := 18) E (by omega) (by omega) dX3_readNot_7 (by decide) h2 ?_
    refine k_iloadn (pc := 18) E 1 dX3_readNot_18 rfl rfl ?_
    refine k_iconst (pc := 19) E dX3_readNot_19 ?_
    by_cases h3 : x0 < 5
    · replace hT := hT.trans (if_pos h3)
      refine k_icmp_lt_t (pc := 20) (tgt := 30) E (by omega) (by omega) dX3_readNot_20 (by decide) h3 ?_
      exfalso
      omega
    · replace hT := hT.trans (if_neg h3)
      refine k_icmp_lt_f (pc := 20) (tgt := 30) E (by omega) (by omega) dX3_readNot_20 (by decide) h3 ?_
      refine k_aloadn (pc := 23) E 0 dX3_readNot_23 rfl rfl ?_
      refine k_mr (fun hm_s0 => ?_)
      refine k_callV (pc := 24) (np := 0) (As := []) (st := []) (q0 := 2) E (c_X3_fail l D a cI cJ cS cT s0  hTK_s0) wm_428 wm_3 wm_425 wm_427 wp_5 (by decide +kernel) rfl rfl ⟨by decide, by decide⟩ rfl (Nat.le_of_ble_eq_true rfl) dX3_readNot_24 (fun r5 s6 hs6 hr4 => ?_)
      replace hT := gby hT hs6
      have hp7 := f_X3_fail_p  s0  hm_s0 hTK_s0 r5 s6 hs6
      obtain ⟨hfc_s6, hm_s6, hp8, hTK_s6, hp9⟩ := hp7
      have hf_s6 : fr [34, 53, 54, 55, 56, 57, 58] s0 s6 := hf_s0.call (by decide) hfc_s6
      have hRCO_s6 : RCO s6 := RCO_fr hRCO_s0 (fun k hk => hfc_s6 k (dj (by decide) k hk))
      refine k_st (st' := []) rfl ?_
      refine k_goto (pc := 27) (tgt := 47) E dX3_readNot_27 (by decide) ?_
      exact k_rho hT (k_vret (pc := 47) E dX3_readNot_47)
  · replace hT := hT.trans (if_neg h2)
    refine k_icmp_eq_f (pc := 7) (tgt := 18) E (by omega) (by omega) dX3_readNot_7 (by decide) h2 ?_
    refine k_aloadn (pc := 10) E 0 dX3_readNot_10 rfl rfl ?_
    refine k_iloadn (pc := 11) E 1 dX3_readNot_11 rfl rfl ?_
    refine k_mr (fun hm_s0 => ?_)
    refine k_callVX (pc := 12) (np := 1) (As := [gI x0]) (st := []) (q0 := 2) E HX rfl rfl (c_X3_readCompared_0 l D a cI cJ cS cT adK adV kA s0 x0 (by omega) hTK_s0 hRCO_s0 (by first | assumption | omega)) wm_444 wm_3 wm_441 wm_443 wp_9 (by decide +kernel) ⟨by decide, by decide⟩ rfl (Nat.le_of_ble_eq_true rfl) dX3_readNot_12 (fun r11 s12 hs12 hr10 => ?_)
    replace hT := gby hT hs12
    have hp13 := f_X3_readCompared_0_p x0 s0 (by omega) hm_s0 hTK_s0 hRCO_s0 (by first | assumption | omega) r11 s12 hs12
    obtain ⟨hfc_s12, hm_s12, hp14, hTK_s12, hRCO_s12⟩ := hp13
    have hf_s12 : fr [34, 53, 54, 55, 56, 57, 58] s0 s12 := hf_s0.call (by decide) hfc_s12
    refine k_st (st' := []) rfl ?_
    refine k_goto (pc := 15) (tgt := 47) E dX3_readNot_15 (by decide) ?_
    exact k_rho hT (k_vret (pc := 47) E dX3_readNot_47)

def w_X3_readAnd_0_7 (c1 : Int) : Nat → Int → gMem → Int × gMem
  | 0, v6, s7 => (v6, s7)
  | n8 + 1, v6, s7 => (if v6 < 160 then (if (s7 55 0) = 260 then gb (f_X3_next  s7) (fun r13 s14 => gb (f_X3_readNot_0 c1 s14) (fun r18 s19 => gb (f_X3_emit (-8) s19) (fun r23 s24 => (w_X3_readAnd_0_7 c1 n8 (v6 + 1) s24)))) else (v6, s7)) else (v6, s7))
theorem w_X3_readAnd_0_7_s (c1 : Int) (n8 : Nat) (v6 : Int) (s7 : gMem) : w_X3_readAnd_0_7 c1 (n8 + 1) v6 s7 = (if v6 < 160 then (if (s7 55 0) = 260 then gb (f_X3_next  s7) (fun r13 s14 => gb (f_X3_readNot_0 c1 s14) (fun r18 s19 => gb (f_X3_emit (-8) s19) (fun r23 s24 => (w_X3_readAnd_0_7 c1 n8 (v6 + 1) s24)))) else (v6, s7)) else (v6, s7)) := rfl
def f_X3_readAnd_0 (x0 : Int) (s0 : gMem) : gRes := gb (f_X3_readNot_0 x0 s0) (fun r2 s3 => (gl2 (w_X3_readAnd_0_7 x0 161 0 s3) (fun v55 s56 => (0, s56))))
theorem f_X3_readAnd_0_e (x0 : Int) (s0 : gMem) : f_X3_readAnd_0 x0 s0 = gb (f_X3_readNot_0 x0 s0) (fun r2 s3 => (gl2 (w_X3_readAnd_0_7 x0 161 0 s3) (fun v55 s56 => (0, s56)))) := rfl
set_option maxRecDepth 100000 in
set_option maxHeartbeats 4000000 in
theorem f_X3_readAnd_0_p (x0 : Int) (s0 : gMem) (hx0 : in32 x0) (hm_s0 : gMR lgX s0) (hpre0 : TK s0) (hpre1 : RCO s0) (hpre2 : x0 = 5) (rZ : Int) (sZ : gMem) (hres : f_X3_readAnd_0 x0 s0 = (rZ, sZ)) : (fr [34, 53, 54, 55, 56, 57, 58] s0 sZ) ∧ (gMR lgX sZ) ∧ (True) ∧ (TK sZ) ∧ (RCO sZ) := by
  have hT := f_X3_readAnd_0_e x0 s0
  have hf_s0 : fr [34, 53, 54, 55, 56, 57, 58] s0 s0 := fr.rf _ _
  have hTK_s0 := hpre0
  have hRCO_s0 := hpre1
  obtain ⟨r2, s3, hs3⟩ : ∃ rr ss, (f_X3_readNot_0 x0 s0) = (rr, ss) := ⟨_, _, rfl⟩
  replace hT := gby hT hs3
  have hp4 := f_X3_readNot_0_p x0 s0 (by omega) hm_s0 hTK_s0 hRCO_s0 (by first | assumption | omega) r2 s3 hs3
  obtain ⟨hfc_s3, hm_s3, hp5, hTK_s3, hRCO_s3⟩ := hp4
  have hf_s3 : fr [34, 53, 54, 55, 56, 57, 58] s0 s3 := hf_s0.call (by decide) hfc_s3
  have L29 : ∀ (n30 : Nat) (v27 : Int) (s28 : gMem), ((in32 v27) ∧ (fr [34, 53, 54, 55, 56, 57, 58] s0 s28) ∧ (gMR lgX s28) ∧ (TK s28) ∧ (RCO s28) ∧ (0 ≤ v27 ∧ v27 ≤ 160)) → 160 - v27 < (n30 : Int) → (∀ (w31 : Int) (s32 : gMem), (w_X3_readAnd_0_7 x0 n30 v27 s28) = (w31, s32) → ((in32 w31) ∧ (fr [34, 53, 54, 55, 56, 57, 58] s0 s32) ∧ (gMR lgX s32) ∧ (TK s32) ∧ (RCO s32) ∧ (0 ≤ w31 ∧ w31 ≤ 160)) → (fr [34, 53, 54, 55, 56, 57, 58] s0 sZ) ∧ (gMR lgX sZ) ∧ (True) ∧ (TK sZ) ∧ (RCO sZ)) → (fr [34, 53, 54, 55, 56, 57, 58] s0 sZ) ∧ (gMR lgX sZ) ∧ (True) ∧ (TK sZ) ∧ (RCO sZ) := by
    intro n30; induction n30 with
    | zero =>
      intro v27 s28 hq hm hk
      exfalso
      obtain ⟨hq51, hf_s28, hm_s28, hTK_s28, hRCO_s28, hq52⟩ := hq
      omega
    | succ n30 ih =>
      intro v27 s28 hq hm hk
      obtain ⟨hq53, hf_s28, hm_s28, hTK_s28, hRCO_s28, hq54⟩ := hq
      have hT := w_X3_readAnd_0_7_s x0 n30 v27 s28
      by_cases h33 : v27 < 160
      · replace hT := hT.trans (if_pos h33)
        have hr34 := (hm_s28 55 0).1 rfl
        by_cases h35 : (s28 55 0) = 260
        · replace hT := hT.trans (if_pos h35)
          obtain ⟨r37, s38, hs38⟩ : ∃ rr ss, (f_X3_next  s28) = (rr, ss) := ⟨_, _, rfl⟩
          replace hT := gby hT hs38
          have hp39 := f_X3_next_p  s28  hm_s28 hTK_s28 r37 s38 hs38
          obtain ⟨hfc_s38, hm_s38, hp40, hTK_s38⟩ := hp39
          have hf_s38 : fr [34, 53, 54, 55, 56, 57, 58] s0 s38 := hf_s28.call (by decide) hfc_s38
          have hRCO_s38 : RCO s38 := RCO_fr hRCO_s28 (fun k hk => hfc_s38 k (dj (by decide) k hk))
          obtain ⟨r42, s43, hs43⟩ : ∃ rr ss, (f_X3_readNot_0 x0 s38) = (rr, ss) := ⟨_, _, rfl⟩
          replace hT := gby hT hs43
          have hp44 := f_X3_readNot_0_p x0 s38 (by omega) hm_s38 hTK_s38 hRCO_s38 (by first | assumption | omega) r42 s43 hs43
          obtain ⟨hfc_s43, hm_s43, hp45, hTK_s43, hRCO_s43⟩ := hp44
          have hf_s43 : fr [34, 53, 54, 55, 56, 57, 58] s0 s43 := hf_s38.call (by decide) hfc_s43
          obtain ⟨r47, s48, hs48⟩ : ∃ rr ss, (f_X3_emit (-8) s43) = (rr, ss) := ⟨_, _, rfl⟩
          replace hT := gby hT hs48
          have hp49 := f_X3_emit_p (-8) s43 (by omega) hm_s43 hTK_s43 hRCO_s43 (by first | assumption | omega) r47 s48 hs48
          obtain ⟨hfc_s48, hm_s48, hp50, hTK_s48, hRCO_s48⟩ := hp49
          have hf_s48 : fr [34, 53, 54, 55, 56, 57, 58] s0 s48 := hf_s43.call (by decide) hfc_s48
          exact ih (v27 + 1) s48 ⟨(by omega), hf_s48, hm_s48, hTK_s48, hRCO_s48, (by first | assumption | omega)⟩ (by omega) (fun w31 s32 hw hi => hk w31 s32 (hT.trans hw) hi)
        · replace hT := hT.trans (if_neg h35)
          exact hk v27 s28 hT ⟨(by omega), hf_s28, hm_s28, hTK_s28, hRCO_s28, (by first | assumption | omega)⟩
      · replace hT := hT.trans (if_neg h33)
        exact hk v27 s28 hT ⟨(by omega), hf_s28, hm_s28, hTK_s28, hRCO_s28, (by first | assumption | omega)⟩
  refine L29 161 0 s3 ⟨(by omega), hf_s3, hm_s3, hTK_s3, hRCO_s3, (by first | assumption | omega)⟩ (by omega) (fun v55 s56 hw hq => ?_)
  obtain ⟨hq57, hf_s56, hm_s56, hTK_s56, hRCO_s56, hq58⟩ := hq
  replace hT := gl2y hT hw
  obtain ⟨rfl, rfl⟩ := Prod.mk.inj (hT.symm.trans hres)
  exact ⟨hf_s56, hm_s56, trivial, hTK_s56, hRCO_s56⟩
set_option maxRecDepth 100000 in
set_option maxHeartbeats 4000000 in
theorem c_X3_readAnd_0 (l : Launch) (D : va_G) (a : Nat → Nat) (cI cJ cS cT : ClassId) (adK adV : Nat → Nat) (kA : Nat) (s0 : gMem) (x0 : Int) (hx0 : in32 x0) (hpre0 : TK s0) (hpre1 : RCO s0) (hpre2 : x0 = 5) : gCS l yX3_readAnd cX3_readAnd 3 none 13 832 D vwCl (gT cI cJ cS cT) (wdX a cI cJ cS cT) lgX kV rgV [.ref (a 2), gI x0] s0 (f_X3_readAnd_0 x0 s0) adK adV kA := by
  refine gCS_of (by decide +kernel) (hwdX a cI cJ cS cT) (Nat.le_of_ble_eq_true rfl) ?_
  intro A p e R s m args below meth c hR E HX
  subst hR
  have hT := f_X3_readAnd_0_e x0 s0
  have hf_s0 : fr [34, 53, 54, 55, 56, 57, 58] s0 s0 := fr.rf _ _
  refine k_lv0 (lv' := [(0, .ref (a 2)), (1, gI x0)]) rfl ?_
  refine k_mr (fun hm_s0 => ?_)
  have hTK_s0 := hpre0
  have hRCO_s0 := hpre1
  refine k_aloadn (pc := 0) E 0 dX3_readAnd_0 rfl rfl ?_
  refine k_iloadn (pc := 1) E 1 dX3_readAnd_1 rfl rfl ?_
  refine k_mr (fun hm_s0 => ?_)
  refine k_callVX (pc := 2) (np := 1) (As := [gI x0]) (st := []) (q0 := 2) E HX rfl rfl (c_X3_readNot_0 l D a cI cJ cS cT adK adV kA s0 x0 (by omega) hTK_s0 hRCO_s0 (by first | assumption | omega)) wm_440 wm_3 wm_437 wm_439 wp_8 (by decide +kernel) ⟨by decide, by decide⟩ rfl (Nat.le_of_ble_eq_true rfl) dX3_readAnd_2 (fun r2 s3 hs3 hr1 => ?_)
  replace hT := gby hT hs3
  have hp4 := f_X3_readNot_0_p x0 s0 (by omega) hm_s0 hTK_s0 hRCO_s0 (by first | assumption | omega) r2 s3 hs3
  obtain ⟨hfc_s3, hm_s3, hp5, hTK_s3, hRCO_s3⟩ := hp4
  have hf_s3 : fr [34, 53, 54, 55, 56, 57, 58] s0 s3 := hf_s0.call (by decide) hfc_s3
  refine k_st (st' := []) rfl ?_
  refine k_iconst (pc := 5) E dX3_readAnd_5 ?_
  refine k_istoren (pc := 6) (lv' := [(2, gI 0), (0, .ref (a 2)), (1, gI x0)]) E dX3_readAnd_6 rfl (by decide) rfl ?_
  have L29 : ∀ (n30 : Nat) (v27 : Int) (s28 : gMem), ((in32 v27) ∧ (fr [34, 53, 54, 55, 56, 57, 58] s0 s28) ∧ (TK s28) ∧ (RCO s28) ∧ (0 ≤ v27 ∧ v27 ≤ 160)) → 160 - v27 < (n30 : Int) → (∀ (w31 : Int) (s32 : gMem), (w_X3_readAnd_0_7 x0 n30 v27 s28) = (w31, s32) → ((in32 w31) ∧ (fr [34, 53, 54, 55, 56, 57, 58] s0 s32) ∧ (TK s32) ∧ (RCO s32) ∧ (0 ≤ w31 ∧ w31 ≤ 160)) → gK D vwCl (wdX a cI cJ cS cT) lgX A p l e { frames := 13, cells := 0, slots := 0, locals := 832 } s m args below meth c 3 (gQQ D vwCl (wdX a cI cJ cS cT) lgX A kV rgV below args s) (f_X3_readAnd_0 x0 s0) s32 45 [] []) → gK D vwCl (wdX a cI cJ cS cT) lgX A p l e { frames := 13, cells := 0, slots := 0, locals := 832 } s m args below meth c 3 (gQQ D vwCl (wdX a cI cJ cS cT) lgX A kV rgV below args s) (f_X3_readAnd_0 x0 s0) s28 7 [(0, .ref (a 2)), (1, gI x0), (2, gI v27)] [] := by
    intro n30; induction n30 with
    | zero =>
      intro v27 s28 hq hm hk
      exfalso
      obtain ⟨hq51, hf_s28, hTK_s28, hRCO_s28, hq52⟩ := hq
      omega
    | succ n30 ih =>
      intro v27 s28 hq hm hk
      obtain ⟨hq53, hf_s28, hTK_s28, hRCO_s28, hq54⟩ := hq
      have hT := w_X3_readAnd_0_7_s x0 n30 v27 s28
      refine k_iloadn (pc := 7) E 2 dX3_readAnd_7 rfl rfl ?_
      refine k_sipush (pc := 8) E dX3_readAnd_8 (by decide) ?_
      by_cases h33 : v27 < 160
      · replace hT := hT.trans (if_pos h33)
        refine k_icmp_ge_f (pc := 11) (tgt := 45) E (by omega) (by omega) dX3_readAnd_11 (by decide) h33 ?_
        refine k_aloadn (pc := 14) E 0 dX3_readAnd_14 rfl rfl ?_
        refine k_getfI (pc := 15) (q0 := 2) (f := 6) (k := 55) E inX3 rfl rfl (by decide) wm_65 rfl rfl rfl dX3_readAnd_15 (fun hr34 => ?_)
        refine k_sipush (pc := 18) E dX3_readAnd_18 (by decide) ?_
        by_cases h35 : (s28 55 0) = 260
        · replace hT := hT.trans (if_pos h35)
          refine k_icmp_ne_f (pc := 21) (tgt := 45) E (by omega) (by omega) dX3_readAnd_21 (by decide) h35 ?_
          refine k_aloadn (pc := 24) E 0 dX3_readAnd_24 rfl rfl ?_
          refine k_mr (fun hm_s28 => ?_)
          refine k_callVX (pc := 25) (np := 0) (As := []) (st := []) (q0 := 2) E HX rfl rfl (c_X3_next l D a cI cJ cS cT adK adV kA s28  hTK_s28) wm_336 wm_3 wm_333 wm_335 wp_0 (by decide +kernel) ⟨by decide, by decide⟩ rfl (Nat.le_of_ble_eq_true rfl) dX3_readAnd_25 (fun r37 s38 hs38 hr36 => ?_)
          replace hT := gby hT hs38
          have hp39 := f_X3_next_p  s28  hm_s28 hTK_s28 r37 s38 hs38
          obtain ⟨hfc_s38, hm_s38, hp40, hTK_s38⟩ := hp39
          have hf_s38 : fr [34, 53, 54, 55, 56, 57, 58] s0 s38 := hf_s28.call (by decide) hfc_s38
          have hRCO_s38 : RCO s38 := RCO_fr hRCO_s28 (fun k hk => hfc_s38 k (dj (by decide) k hk))
          refine k_st (st' := []) rfl ?_
          refine k_aloadn (pc := 28) E 0 dX3_readAnd_28 rfl rfl ?_
          refine k_iloadn (pc := 29) E 1 dX3_readAnd_29 rfl rfl ?_
          refine k_mr (fun hm_s38 => ?_)
          refine k_callVX (pc := 30) (np := 1) (As := [gI x0]) (st := []) (q0 := 2) E HX rfl rfl (c_X3_readNot_0 l D a cI cJ cS cT adK adV kA s38 x0 (by omega) hTK_s38 hRCO_s38 (by first | assumption | omega)) wm_440 wm_3 wm_437 wm_439 wp_8 (by decide +kernel) ⟨by decide, by decide⟩ rfl (Nat.le_of_ble_eq_true rfl) dX3_readAnd_30 (fun r42 s43 hs43 hr41 => ?_)
          replace hT := gby hT hs43
          have hp44 := f_X3_readNot_0_p x0 s38 (by omega) hm_s38 hTK_s38 hRCO_s38 (by first | assumption | omega) r42 s43 hs43
          obtain ⟨hfc_s43, hm_s43, hp45, hTK_s43, hRCO_s43⟩ := hp44
          have hf_s43 : fr [34, 53, 54, 55, 56, 57, 58] s0 s43 := hf_s38.call (by decide) hfc_s43
          refine k_st (st' := []) rfl ?_
          refine k_aloadn (pc := 33) E 0 dX3_readAnd_33 rfl rfl ?_
          refine k_bipush (pc := 34) E dX3_readAnd_34 (by decide) ?_
          refine k_mr (fun hm_s43 => ?_)
          refine k_callV (pc := 36) (np := 1) (As := [gI (-8)]) (st := []) (q0 := 2) E (c_X3_emit l D a cI cJ cS cT s43 (-8) (by omega) hTK_s43 hRCO_s43 (by first | assumption | omega)) wm_460 wm_3 wm_457 wm_459 wp_13 (by decide +kernel) rfl rfl ⟨by decide, by decide⟩ rfl (Nat.le_of_ble_eq_true rfl) dX3_readAnd_36 (fun r47 s48 hs48 hr46 => ?_)
          replace hT := gby hT hs48
          have hp49 := f_X3_emit_p (-8) s43 (by omega) hm_s43 hTK_s43 hRCO_s43 (by first | assumption | omega) r47 s48 hs48
          obtain ⟨hfc_s48, hm_s48, hp50, hTK_s48, hRCO_s48⟩ := hp49
          have hf_s48 : fr [34, 53, 54, 55, 56, 57, 58] s0 s48 := hf_s43.call (by decide) hfc_s48
          refine k_st (st' := []) rfl ?_
          refine k_iinc (pc := 39) (lv' := [(2, gI (v27 + 1)), (0, .ref (a 2)), (1, gI x0)]) E 2 dX3_readAnd_39 rfl (by decide) rfl ?_
          refine k_goto (pc := 42) (tgt := 7) E dX3_readAnd_42 (by decide) ?_
          refine k_lv (lv' := [(0, .ref (a 2)), (1, gI x0), (2, gI (v27 + 1))]) [1, 2, 0] rfl ?_
          exact ih (v27 + 1) s48 ⟨(by omega), hf_s48, hTK_s48, hRCO_s48, (by first | assumption | omega)⟩ (by omega) (fun w31 s32 hw hi => hk w31 s32 (hT.trans hw) hi)
        · replace hT := hT.trans (if_neg h35)
          refine k_icmp_ne_t (pc := 21) (tgt := 45) E (by omega) (by omega) dX3_readAnd_21 (by decide) h35 ?_
          refine k_lv (lv' := []) [] rfl ?_
          exact hk v27 s28 hT ⟨(by omega), hf_s28, hTK_s28, hRCO_s28, (by first | assumption | omega)⟩
      · replace hT := hT.trans (if_neg h33)
        refine k_icmp_ge_t (pc := 11) (tgt := 45) E (by omega) (by omega) dX3_readAnd_11 (by decide) h33 ?_
        refine k_lv (lv' := []) [] rfl ?_
        exact hk v27 s28 hT ⟨(by omega), hf_s28, hTK_s28, hRCO_s28, (by first | assumption | omega)⟩
  refine k_lv (lv' := [(0, .ref (a 2)), (1, gI x0), (2, gI 0)]) [1, 2, 0] rfl ?_
  refine L29 161 0 s3 ⟨(by omega), hf_s3, hTK_s3, hRCO_s3, (by first | assumption | omega)⟩ (by omega) (fun v55 s56 hw hq => ?_)
  obtain ⟨hq57, hf_s56, hTK_s56, hRCO_s56, hq58⟩ := hq
  replace hT := gl2y hT hw
  exact k_rho hT (k_vret (pc := 45) E dX3_readAnd_45)

def w_X3_readOr_0_7 (c1 : Int) : Nat → Int → gMem → Int × gMem
  | 0, v6, s7 => (v6, s7)
  | n8 + 1, v6, s7 => (if v6 < 160 then (if (s7 55 0) = 259 then gb (f_X3_next  s7) (fun r13 s14 => gb (f_X3_readAnd_0 c1 s14) (fun r18 s19 => gb (f_X3_emit (-7) s19) (fun r23 s24 => (w_X3_readOr_0_7 c1 n8 (v6 + 1) s24)))) else (v6, s7)) else (v6, s7))
theorem w_X3_readOr_0_7_s (c1 : Int) (n8 : Nat) (v6 : Int) (s7 : gMem) : w_X3_readOr_0_7 c1 (n8 + 1) v6 s7 = (if v6 < 160 then (if (s7 55 0) = 259 then gb (f_X3_next  s7) (fun r13 s14 => gb (f_X3_readAnd_0 c1 s14) (fun r18 s19 => gb (f_X3_emit (-7) s19) (fun r23 s24 => (w_X3_readOr_0_7 c1 n8 (v6 + 1) s24)))) else (v6, s7)) else (v6, s7)) := rfl
def f_X3_readOr_0 (x0 : Int) (s0 : gMem) : gRes := gb (f_X3_readAnd_0 x0 s0) (fun r2 s3 => (gl2 (w_X3_readOr_0_7 x0 161 0 s3) (fun v55 s56 => (0, s56))))
theorem f_X3_readOr_0_e (x0 : Int) (s0 : gMem) : f_X3_readOr_0 x0 s0 = gb (f_X3_readAnd_0 x0 s0) (fun r2 s3 => (gl2 (w_X3_readOr_0_7 x0 161 0 s3) (fun v55 s56 => (0, s56)))) := rfl
set_option maxRecDepth 100000 in
set_option maxHeartbeats 4000000 in
theorem f_X3_readOr_0_p (x0 : Int) (s0 : gMem) (hx0 : in32 x0) (hm_s0 : gMR lgX s0) (hpre0 : TK s0) (hpre1 : RCO s0) (hpre2 : x0 = 5) (rZ : Int) (sZ : gMem) (hres : f_X3_readOr_0 x0 s0 = (rZ, sZ)) : (fr [34, 53, 54, 55, 56, 57, 58] s0 sZ) ∧ (gMR lgX sZ) ∧ (True) ∧ (TK sZ) ∧ (RCO sZ) := by
  have hT := f_X3_readOr_0_e x0 s0
  have hf_s0 : fr [34, 53, 54, 55, 56, 57, 58] s0 s0 := fr.rf _ _
  have hTK_s0 := hpre0
  have hRCO_s0 := hpre1
  obtain ⟨r2, s3, hs3⟩ : ∃ rr ss, (f_X3_readAnd_0 x0 s0) = (rr, ss) := ⟨_, _, rfl⟩
  replace hT := gby hT hs3
  have hp4 := f_X3_readAnd_0_p x0 s0 (by omega) hm_s0 hTK_s0 hRCO_s0 (by first | assumption | omega) r2 s3 hs3
  obtain ⟨hfc_s3, hm_s3, hp5, hTK_s3, hRCO_s3⟩ := hp4
  have hf_s3 : fr [34, 53, 54, 55, 56, 57, 58] s0 s3 := hf_s0.call (by decide) hfc_s3
  have L29 : ∀ (n30 : Nat) (v27 : Int) (s28 : gMem), ((in32 v27) ∧ (fr [34, 53, 54, 55, 56, 57, 58] s0 s28) ∧ (gMR lgX s28) ∧ (TK s28) ∧ (RCO s28) ∧ (0 ≤ v27 ∧ v27 ≤ 160)) → 160 - v27 < (n30 : Int) → (∀ (w31 : Int) (s32 : gMem), (w_X3_readOr_0_7 x0 n30 v27 s28) = (w31, s32) → ((in32 w31) ∧ (fr [34, 53, 54, 55, 56, 57, 58] s0 s32) ∧ (gMR lgX s32) ∧ (TK s32) ∧ (RCO s32) ∧ (0 ≤ w31 ∧ w31 ≤ 160)) → (fr [34, 53, 54, 55, 56, 57, 58] s0 sZ) ∧ (gMR lgX sZ) ∧ (True) ∧ (TK sZ) ∧ (RCO sZ)) → (fr [34, 53, 54, 55, 56, 57, 58] s0 sZ) ∧ (gMR lgX sZ) ∧ (True) ∧ (TK sZ) ∧ (RCO sZ) := by
    intro n30; induction n30 with
    | zero =>
      intro v27 s28 hq hm hk
      exfalso
      obtain ⟨hq51, hf_s28, hm_s28, hTK_s28, hRCO_s28, hq52⟩ := hq
      omega
    | succ n30 ih =>
      intro v27 s28 hq hm hk
      obtain ⟨hq53, hf_s28, hm_s28, hTK_s28, hRCO_s28, hq54⟩ := hq
      have hT := w_X3_readOr_0_7_s x0 n30 v27 s28
      by_cases h33 : v27 < 160
      · replace hT := hT.trans (if_pos h33)
        have hr34 := (hm_s28 55 0).1 rfl
        by_cases h35 : (s28 55 0) = 259
        · replace hT := hT.trans (if_pos h35)
          obtain ⟨r37, s38, hs38⟩ : ∃ rr ss, (f_X3_next  s28) = (rr, ss) := ⟨_, _, rfl⟩
          replace hT := gby hT hs38
          have hp39 := f_X3_next_p  s28  hm_s28 hTK_s28 r37 s38 hs38
          obtain ⟨hfc_s38, hm_s38, hp40, hTK_s38⟩ := hp39
          have hf_s38 : fr [34, 53, 54, 55, 56, 57, 58] s0 s38 := hf_s28.call (by decide) hfc_s38
          have hRCO_s38 : RCO s38 := RCO_fr hRCO_s28 (fun k hk => hfc_s38 k (dj (by decide) k hk))
          obtain ⟨r42, s43, hs43⟩ : ∃ rr ss, (f_X3_readAnd_0 x0 s38) = (rr, ss) := ⟨_, _, rfl⟩
          replace hT := gby hT hs43
          have hp44 := f_X3_readAnd_0_p x0 s38 (by omega) hm_s38 hTK_s38 hRCO_s38 (by first | assumption | omega) r42 s43 hs43
          obtain ⟨hfc_s43, hm_s43, hp45, hTK_s43, hRCO_s43⟩ := hp44
          have hf_s43 : fr [34, 53, 54, 55, 56, 57, 58] s0 s43 := hf_s38.call (by decide) hfc_s43
          obtain ⟨r47, s48, hs48⟩ : ∃ rr ss, (f_X3_emit (-7) s43) = (rr, ss) := ⟨_, _, rfl⟩
          replace hT := gby hT hs48
          have hp49 := f_X3_emit_p (-7) s43 (by omega) hm_s43 hTK_s43 hRCO_s43 (by first | assumption | omega) r47 s48 hs48
          obtain ⟨hfc_s48, hm_s48, hp50, hTK_s48, hRCO_s48⟩ := hp49
          have hf_s48 : fr [34, 53, 54, 55, 56, 57, 58] s0 s48 := hf_s43.call (by decide) hfc_s48
          exact ih (v27 + 1) s48 ⟨(by omega), hf_s48, hm_s48, hTK_s48, hRCO_s48, (by first | assumption | omega)⟩ (by omega) (fun w31 s32 hw hi => hk w31 s32 (hT.trans hw) hi)
        · replace hT := hT.trans (if_neg h35)
          exact hk v27 s28 hT ⟨(by omega), hf_s28, hm_s28, hTK_s28, hRCO_s28, (by first | assumption | omega)⟩
      · replace hT := hT.trans (if_neg h33)
        exact hk v27 s28 hT ⟨(by omega), hf_s28, hm_s28, hTK_s28, hRCO_s28, (by first | assumption | omega)⟩
  refine L29 161 0 s3 ⟨(by omega), hf_s3, hm_s3, hTK_s3, hRCO_s3, (by first | assumption | omega)⟩ (by omega) (fun v55 s56 hw hq => ?_)
  obtain ⟨hq57, hf_s56, hm_s56, hTK_s56, hRCO_s56, hq58⟩ := hq
  replace hT := gl2y hT hw
  obtain ⟨rfl, rfl⟩ := Prod.mk.inj (hT.symm.trans hres)
  exact ⟨hf_s56, hm_s56, trivial, hTK_s56, hRCO_s56⟩
set_option maxRecDepth 100000 in
set_option maxHeartbeats 4000000 in
theorem c_X3_readOr_0 (l : Launch) (D : va_G) (a : Nat → Nat) (cI cJ cS cT : ClassId) (adK adV : Nat → Nat) (kA : Nat) (s0 : gMem) (x0 : Int) (hx0 : in32 x0) (hpre0 : TK s0) (hpre1 : RCO s0) (hpre2 : x0 = 5) : gCS l yX3_readOr cX3_readOr 3 none 14 896 D vwCl (gT cI cJ cS cT) (wdX a cI cJ cS cT) lgX kV rgV [.ref (a 2), gI x0] s0 (f_X3_readOr_0 x0 s0) adK adV kA := by
  refine gCS_of (by decide +kernel) (hwdX a cI cJ cS cT) (Nat.le_of_ble_eq_true rfl) ?_
  intro A p e R s m args below meth c hR E HX
  subst hR
  have hT := f_X3_readOr_0_e x0 s0
  have hf_s0 : fr [34, 53, 54, 55, 56, 57, 58] s0 s0 := fr.rf _ _
  refine k_lv0 (lv' := [(0, .ref (a 2)), (1, gI x0)]) rfl ?_
  refine k_mr (fun hm_s0 => ?_)
  have hTK_s0 := hpre0
  have hRCO_s0 := hpre1
  refine k_aloadn (pc := 0) E 0 dX3_readOr_0 rfl rfl ?_
  refine k_iloadn (pc := 1) E 1 dX3_readOr_1 rfl rfl ?_
  refine k_mr (fun hm_s0 => ?_)
  refine k_callVX (pc := 2) (np := 1) (As := [gI x0]) (st := []) (q0 := 2) E HX rfl rfl (c_X3_readAnd_0 l D a cI cJ cS cT adK adV kA s0 x0 (by omega) hTK_s0 hRCO_s0 (by first | assumption | omega)) wm_436 wm_3 wm_433 wm_435 wp_7 (by decide +kernel) ⟨by decide, by decide⟩ rfl (Nat.le_of_ble_eq_true rfl) dX3_readOr_2 (fun r2 s3 hs3 hr1 => ?_)
  replace hT := gby hT hs3
  have hp4 := f_X3_readAnd_0_p x0 s0 (by omega) hm_s0 hTK_s0 hRCO_s0 (by first | assumption | omega) r2 s3 hs3
  obtain ⟨hfc_s3, hm_s3, hp5, hTK_s3, hRCO_s3⟩ := hp4
  have hf_s3 : fr [34, 53, 54, 55, 56, 57, 58] s0 s3 := hf_s0.call (by decide) hfc_s3
  refine k_st (st' := []) rfl ?_
  refine k_iconst (pc := 5) E dX3_readOr_5 ?_
  refine k_istoren (pc := 6) (lv' := [(2, gI 0), (0, .ref (a 2)), (1, gI x0)]) E dX3_readOr_6 rfl (by decide) rfl ?_
  have L29 : ∀ (n30 : Nat) (v27 : Int) (s28 : gMem), ((in32 v27) ∧ (fr [34, 53, 54, 55, 56, 57, 58] s0 s28) ∧ (TK s28) ∧ (RCO s28) ∧ (0 ≤ v27 ∧ v27 ≤ 160)) → 160 - v27 < (n30 : Int) → (∀ (w31 : Int) (s32 : gMem), (w_X3_readOr_0_7 x0 n30 v27 s28) = (w31, s32) → ((in32 w31) ∧ (fr [34, 53, 54, 55, 56, 57, 58] s0 s32) ∧ (TK s32) ∧ (RCO s32) ∧ (0 ≤ w31 ∧ w31 ≤ 160)) → gK D vwCl (wdX a cI cJ cS cT) lgX A p l e { frames := 14, cells := 0, slots := 0, locals := 896 } s m args below meth c 3 (gQQ D vwCl (wdX a cI cJ cS cT) lgX A kV rgV below args s) (f_X3_readOr_0 x0 s0) s32 45 [] []) → gK D vwCl (wdX a cI cJ cS cT) lgX A p l e { frames := 14, cells := 0, slots := 0, locals := 896 } s m args below meth c 3 (gQQ D vwCl (wdX a cI cJ cS cT) lgX A kV rgV below args s) (f_X3_readOr_0 x0 s0) s28 7 [(0, .ref (a 2)), (1, gI x0), (2, gI v27)] [] := by
    intro n30; induction n30 with
    | zero =>
      intro v27 s28 hq hm hk
      exfalso
      obtain ⟨hq51, hf_s28, hTK_s28, hRCO_s28, hq52⟩ := hq
      omega
    | succ n30 ih =>
      intro v27 s28 hq hm hk
      obtain ⟨hq53, hf_s28, hTK_s28, hRCO_s28, hq54⟩ := hq
      have hT := w_X3_readOr_0_7_s x0 n30 v27 s28
      refine k_iloadn (pc := 7) E 2 dX3_readOr_7 rfl rfl ?_
      refine k_sipush (pc := 8) E dX3_readOr_8 (by decide) ?_
      by_cases h33 : v27 < 160
      · replace hT := hT.trans (if_pos h33)
        refine k_icmp_ge_f (pc := 11) (tgt := 45) E (by omega) (by omega) dX3_readOr_11 (by decide) h33 ?_
        refine k_aloadn (pc := 14) E 0 dX3_readOr_14 rfl rfl ?_
        refine k_getfI (pc := 15) (q0 := 2) (f := 6) (k := 55) E inX3 rfl rfl (by decide) wm_65 rfl rfl rfl dX3_readOr_15 (fun hr34 => ?_)
        refine k_sipush (pc := 18) E dX3_readOr_18 (by decide) ?_
        by_cases h35 : (s28 55 0) = 259
        · replace hT := hT.trans (if_pos h35)
          refine k_icmp_ne_f (pc := 21) (tgt := 45) E (by omega) (by omega) dX3_readOr_21 (by decide) h35 ?_
          refine k_aloadn (pc := 24) E 0 dX3_readOr_24 rfl rfl ?_
          refine k_mr (fun hm_s28 => ?_)
          refine k_callVX (pc := 25) (np := 0) (As := []) (st := []) (q0 := 2) E HX rfl rfl (c_X3_next l D a cI cJ cS cT adK adV kA s28  hTK_s28) wm_336 wm_3 wm_333 wm_335 wp_0 (by decide +kernel) ⟨by decide, by decide⟩ rfl (Nat.le_of_ble_eq_true rfl) dX3_readOr_25 (fun r37 s38 hs38 hr36 => ?_)
          replace hT := gby hT hs38
          have hp39 := f_X3_next_p  s28  hm_s28 hTK_s28 r37 s38 hs38
          obtain ⟨hfc_s38, hm_s38, hp40, hTK_s38⟩ := hp39
          have hf_s38 : fr [34, 53, 54, 55, 56, 57, 58] s0 s38 := hf_s28.call (by decide) hfc_s38
          have hRCO_s38 : RCO s38 := RCO_fr hRCO_s28 (fun k hk => hfc_s38 k (dj (by decide) k hk))
          refine k_st (st' := []) rfl ?_
          refine k_aloadn (pc := 28) E 0 dX3_readOr_28 rfl rfl ?_
          refine k_iloadn (pc := 29) E 1 dX3_readOr_29 rfl rfl ?_
          refine k_mr (fun hm_s38 => ?_)
          refine k_callVX (pc := 30) (np := 1) (As := [gI x0]) (st := []) (q0 := 2) E HX rfl rfl (c_X3_readAnd_0 l D a cI cJ cS cT adK adV kA s38 x0 (by omega) hTK_s38 hRCO_s38 (by first | assumption | omega)) wm_436 wm_3 wm_433 wm_435 wp_7 (by decide +kernel) ⟨by decide, by decide⟩ rfl (Nat.le_of_ble_eq_true rfl) dX3_readOr_30 (fun r42 s43 hs43 hr41 => ?_)
          replace hT := gby hT hs43
          have hp44 := f_X3_readAnd_0_p x0 s38 (by omega) hm_s38 hTK_s38 hRCO_s38 (by first | assumption | omega) r42 s43 hs43
          obtain ⟨hfc_s43, hm_s43, hp45, hTK_s43, hRCO_s43⟩ := hp44
          have hf_s43 : fr [34, 53, 54, 55, 56, 57, 58] s0 s43 := hf_s38.call (by decide) hfc_s43
          refine k_st (st' := []) rfl ?_
          refine k_aloadn (pc := 33) E 0 dX3_readOr_33 rfl rfl ?_
          refine k_bipush (pc := 34) E dX3_readOr_34 (by decide) ?_
          refine k_mr (fun hm_s43 => ?_)
          refine k_callV (pc := 36) (np := 1) (As := [gI (-7)]) (st := []) (q0 := 2) E (c_X3_emit l D a cI cJ cS cT s43 (-7) (by omega) hTK_s43 hRCO_s43 (by first | assumption | omega)) wm_460 wm_3 wm_457 wm_459 wp_13 (by decide +kernel) rfl rfl ⟨by decide, by decide⟩ rfl (Nat.le_of_ble_eq_true rfl) dX3_readOr_36 (fun r47 s48 hs48 hr46 => ?_)
          replace hT := gby hT hs48
          have hp49 := f_X3_emit_p (-7) s43 (by omega) hm_s43 hTK_s43 hRCO_s43 (by first | assumption | omega) r47 s48 hs48
          obtain ⟨hfc_s48, hm_s48, hp50, hTK_s48, hRCO_s48⟩ := hp49
          have hf_s48 : fr [34, 53, 54, 55, 56, 57, 58] s0 s48 := hf_s43.call (by decide) hfc_s48
          refine k_st (st' := []) rfl ?_
          refine k_iinc (pc := 39) (lv' := [(2, gI (v27 + 1)), (0, .ref (a 2)), (1, gI x0)]) E 2 dX3_readOr_39 rfl (by decide) rfl ?_
          refine k_goto (pc := 42) (tgt := 7) E dX3_readOr_42 (by decide) ?_
          refine k_lv (lv' := [(0, .ref (a 2)), (1, gI x0), (2, gI (v27 + 1))]) [1, 2, 0] rfl ?_
          exact ih (v27 + 1) s48 ⟨(by omega), hf_s48, hTK_s48, hRCO_s48, (by first | assumption | omega)⟩ (by omega) (fun w31 s32 hw hi => hk w31 s32 (hT.trans hw) hi)
        · replace hT := hT.trans (if_neg h35)
          refine k_icmp_ne_t (pc := 21) (tgt := 45) E (by omega) (by omega) dX3_readOr_21 (by decide) h35 ?_
          refine k_lv (lv' := []) [] rfl ?_
          exact hk v27 s28 hT ⟨(by omega), hf_s28, hTK_s28, hRCO_s28, (by first | assumption | omega)⟩
      · replace hT := hT.trans (if_neg h33)
        refine k_icmp_ge_t (pc := 11) (tgt := 45) E (by omega) (by omega) dX3_readOr_11 (by decide) h33 ?_
        refine k_lv (lv' := []) [] rfl ?_
        exact hk v27 s28 hT ⟨(by omega), hf_s28, hTK_s28, hRCO_s28, (by first | assumption | omega)⟩
  refine k_lv (lv' := [(0, .ref (a 2)), (1, gI x0), (2, gI 0)]) [1, 2, 0] rfl ?_
  refine L29 161 0 s3 ⟨(by omega), hf_s3, hTK_s3, hRCO_s3, (by first | assumption | omega)⟩ (by omega) (fun v55 s56 hw hq => ?_)
  obtain ⟨hq57, hf_s56, hTK_s56, hRCO_s56, hq58⟩ := hq
  replace hT := gl2y hT hw
  exact k_rho hT (k_vret (pc := 45) E dX3_readOr_45)

def f_X3_readOne_1 (x0 : Int) (s0 : gMem) : gRes := (if (s0 55 0) = 2 then gb (f_X3_emit (s0 57 0) s0) (fun r5 s6 => gb (f_X3_next  s6) (fun r10 s11 => (0, s11))) else (if (s0 55 0) < 262 then (gj (fun j17c => (if x0 < 5 then (gj (fun j26c => (if (s0 55 0) = 45 then j26c else (if (s0 55 0) = 40 then j26c else j17c))) ((if (s0 55 0) = 45 then gb (f_X3_next  s0) (fun r30 s31 => gb (f_X3_readOne_0 (x0 + 1) s31) (fun r35 s36 => gb (f_X3_emit (-15) s36) (fun r40 s41 => (0, s41)))) else gb (f_X3_next  s0) (fun r45 s46 => gb (f_X3_readOr_0 (x0 + 1) s46) (fun r50 s51 => gb (f_X3_want 41 s51) (fun r55 s56 => (0, s56))))))) else j17c)) (gb (f_X3_fail  s0) (fun r19 s20 => (0, s20)))) else gb (f_X3_emit ((-1) - ((s0 55 0) - 262)) s0) (fun r63 s64 => gb (f_X3_next  s64) (fun r68 s69 => (0, s69)))))
theorem f_X3_readOne_1_e (x0 : Int) (s0 : gMem) : f_X3_readOne_1 x0 s0 = (if (s0 55 0) = 2 then gb (f_X3_emit (s0 57 0) s0) (fun r5 s6 => gb (f_X3_next  s6) (fun r10 s11 => (0, s11))) else (if (s0 55 0) < 262 then (gj (fun j17c => (if x0 < 5 then (gj (fun j26c => (if (s0 55 0) = 45 then j26c else (if (s0 55 0) = 40 then j26c else j17c))) ((if (s0 55 0) = 45 then gb (f_X3_next  s0) (fun r30 s31 => gb (f_X3_readOne_0 (x0 + 1) s31) (fun r35 s36 => gb (f_X3_emit (-15) s36) (fun r40 s41 => (0, s41)))) else gb (f_X3_next  s0) (fun r45 s46 => gb (f_X3_readOr_0 (x0 + 1) s46) (fun r50 s51 => gb (f_X3_want 41 s51) (fun r55 s56 => (0, s56))))))) else j17c)) (gb (f_X3_fail  s0) (fun r19 s20 => (0, s20)))) else gb (f_X3_emit ((-1) - ((s0 55 0) - 262)) s0) (fun r63 s64 => gb (f_X3_next  s64) (fun r68 s69 => (0, s69))))) := rfl
set_option maxRecDepth 100000 in
set_option maxHeartbeats 4000000 in
theorem f_X3_readOne_1_p (x0 : Int) (s0 : gMem) (hx0 : in32 x0) (hm_s0 : gMR lgX s0) (hpre0 : TK s0) (hpre1 : RCO s0) (hpre2 : x0 = 4) (rZ : Int) (sZ : gMem) (hres : f_X3_readOne_1 x0 s0 = (rZ, sZ)) : (fr [34, 53, 54, 55, 56, 57, 58] s0 sZ) ∧ (gMR lgX sZ) ∧ (True) ∧ (TK sZ) ∧ (RCO sZ) := by
  have hT := f_X3_readOne_1_e x0 s0
  have hf_s0 : fr [34, 53, 54, 55, 56, 57, 58] s0 s0 := fr.rf _ _
  have hTK_s0 := hpre0
  have hRCO_s0 := hpre1
  obtain ⟨kt1, kt2, kt3, kt4, kt5, kt6, kt7⟩ := id hTK_s0
  have hr1 := (hm_s0 55 0).1 rfl
  by_cases h2 : (s0 55 0) = 2
  · replace hT := hT.trans (if_pos h2)
    have hr3 := (hm_s0 57 0).1 rfl
    obtain ⟨r5, s6, hs6⟩ : ∃ rr ss, (f_X3_emit (s0 57 0) s0) = (rr, ss) := ⟨_, _, rfl⟩
    replace hT := gby hT hs6
    have hp7 := f_X3_emit_p (s0 57 0) s0 (by omega) hm_s0 hTK_s0 hRCO_s0 (by first | assumption | omega) r5 s6 hs6
    obtain ⟨hfc_s6, hm_s6, hp8, hTK_s6, hRCO_s6⟩ := hp7
    have hf_s6 : fr [34, 53, 54, 55, 56, 57, 58] s0 s6 := hf_s0.call (by decide) hfc_s6
    obtain ⟨r10, s11, hs11⟩ : ∃ rr ss, (f_X3_next  s6) = (rr, ss) := ⟨_, _, rfl⟩
    replace hT := gby hT hs11
    have hp12 := f_X3_next_p  s6  hm_s6 hTK_s6 r10 s11 hs11
    obtain ⟨hfc_s11, hm_s11, hp13, hTK_s11⟩ := hp12
    have hf_s11 : fr [34, 53, 54, 55, 56, 57, 58] s0 s11 := hf_s6.call (by decide) hfc_s11
    have hRCO_s11 : RCO s11 := RCO_fr hRCO_s6 (fun k hk => hfc_s11 k (dj (by decide) k hk))
    obtain ⟨rfl, rfl⟩ := Prod.mk.inj (hT.symm.trans hres)
    exact ⟨hf_s11, hm_s11, trivial, hTK_s11, hRCO_s11⟩
  · replace hT := hT.trans (if_neg h2)
    have hr14 := (hm_s0 55 0).1 rfl
    by_cases h15 : (s0 55 0) < 262
    · replace hT := hT.trans (if_pos h15)
      obtain ⟨j17c, hj17c, hT⟩ := gjx hT
      have j17 : (True) → (f_X3_readOne_1 x0 s0) = j17c  → (fr [34, 53, 54, 55, 56, 57, 58] s0 sZ) ∧ (gMR lgX sZ) ∧ (True) ∧ (TK sZ) ∧ (RCO sZ) := by
        intro  hq hT
        rw [hj17c] at hT
        obtain ⟨r19, s20, hs20⟩ : ∃ rr ss, (f_X3_fail  s0) = (rr, ss) := ⟨_, _, rfl⟩
        replace hT := gby hT hs20
        have hp21 := f_X3_fail_p  s0  hm_s0 hTK_s0 r19 s20 hs20
        obtain ⟨hfc_s20, hm_s20, hp22, hTK_s20, hp23⟩ := hp21
        have hf_s20 : fr [34, 53, 54, 55, 56, 57, 58] s0 s20 := hf_s0.call (by decide) hfc_s20
        have hRCO_s20 : RCO s20 := RCO_fr hRCO_s0 (fun k hk => hfc_s20 k (dj (by decide) k hk))
        obtain ⟨rfl, rfl⟩ := Prod.mk.inj (hT.symm.trans hres)
        exact ⟨hf_s20, hm_s20, trivial, hTK_s20, hRCO_s20⟩
      by_cases h16 : x0 < 5
      · replace hT := hT.trans (if_pos h16)
        have hr24 := (hm_s0 55 0).1 rfl
        obtain ⟨j26c, hj26c, hT⟩ := gjx hT
        have j26 : (True) → (f_X3_readOne_1 x0 s0) = j26c  → (fr [34, 53, 54, 55, 56, 57, 58] s0 sZ) ∧ (gMR lgX sZ) ∧ (True) ∧ (TK sZ) ∧ (RCO sZ) := by
          intro  hq hT
          rw [hj26c] at hT
          have hr27 := (hm_s0 55 0).1 rfl
          by_cases h28 : (s0 55 0) = 45
          · replace hT := hT.trans (if_pos h28)
            obtain ⟨r30, s31, hs31⟩ : ∃ rr ss, (f_X3_next  s0) = (rr, ss) := ⟨_, _, rfl⟩
            replace hT := gby hT hs31
            have hp32 := f_X3_next_p  s0  hm_s0 hTK_s0 r30 s31 hs31
            obtain ⟨hfc_s31, hm_s31, hp33, hTK_s31⟩ := hp32
            have hf_s31 : fr [34, 53, 54, 55, 56, 57, 58] s0 s31 := hf_s0.call (by decide) hfc_s31
            have hRCO_s31 : RCO s31 := RCO_fr hRCO_s0 (fun k hk => hfc_s31 k (dj (by decide) k hk))
            obtain ⟨r35, s36, hs36⟩ : ∃ rr ss, (f_X3_readOne_0 (x0 + 1) s31) = (rr, ss) := ⟨_, _, rfl⟩
            replace hT := gby hT hs36
            have hp37 := f_X3_readOne_0_p (x0 + 1) s31 (by omega) hm_s31 hTK_s31 hRCO_s31 (by first | assumption | omega) r35 s36 hs36
            obtain ⟨hfc_s36, hm_s36, hp38, hTK_s36, hRCO_s36⟩ := hp37
            have hf_s36 : fr [34, 53, 54, 55, 56, 57, 58] s0 s36 := hf_s31.call (by decide) hfc_s36
            obtain ⟨r40, s41, hs41⟩ : ∃ rr ss, (f_X3_emit (-15) s36) = (rr, ss) := ⟨_, _, rfl⟩
            replace hT := gby hT hs41
            have hp42 := f_X3_emit_p (-15) s36 (by omega) hm_s36 hTK_s36 hRCO_s36 (by first | assumption | omega) r40 s41 hs41
            obtain ⟨hfc_s41, hm_s41, hp43, hTK_s41, hRCO_s41⟩ := hp42
            have hf_s41 : fr [34, 53, 54, 55, 56, 57, 58] s0 s41 := hf_s36.call (by decide) hfc_s41
            obtain ⟨rfl, rfl⟩ := Prod.mk.inj (hT.symm.trans hres)
            exact ⟨hf_s41, hm_s41, trivial, hTK_s41, hRCO_s41⟩
          · replace hT := hT.trans (if_neg h28)
            obtain ⟨r45, s46, hs46⟩ : ∃ rr ss, (f_X3_next  s0) = (rr, ss) := ⟨_, _, rfl⟩
            replace hT := gby hT hs46
            have hp47 := f_X3_next_p  s0  hm_s0 hTK_s0 r45 s46 hs46
            obtain ⟨hfc_s46, hm_s46, hp48, hTK_s46⟩ := hp47
            have hf_s46 : fr [34, 53, 54, 55, 56, 57, 58] s0 s46 := hf_s0.call (by decide) hfc_s46
            have hRCO_s46 : RCO s46 := RCO_fr hRCO_s0 (fun k hk => hfc_s46 k (dj (by decide) k hk))
            obtain ⟨r50, s51, hs51⟩ : ∃ rr ss, (f_X3_readOr_0 (x0 + 1) s46) = (rr, ss) := ⟨_, _, rfl⟩
            replace hT := gby hT hs51
            have hp52 := f_X3_readOr_0_p (x0 + 1) s46 (by omega) hm_s46 hTK_s46 hRCO_s46 (by first | assumption | omega) r50 s51 hs51
            obtain ⟨hfc_s51, hm_s51, hp53, hTK_s51, hRCO_s51⟩ := hp52
            have hf_s51 : fr [34, 53, 54, 55, 56, 57, 58] s0 s51 := hf_s46.call (by decide) hfc_s51
            obtain ⟨r55, s56, hs56⟩ : ∃ rr ss, (f_X3_want 41 s51) = (rr, ss) := ⟨_, _, rfl⟩
            replace hT := gby hT hs56
            have hp57 := f_X3_want_p 41 s51 (by omega) hm_s51 hTK_s51 r55 s56 hs56
            obtain ⟨hfc_s56, hm_s56, hp58, hTK_s56⟩ := hp57
            have hf_s56 : fr [34, 53, 54, 55, 56, 57, 58] s0 s56 := hf_s51.call (by decide) hfc_s56
            have hRCO_s56 : RCO s56 := RCO_fr hRCO_s51 (fun k hk => hfc_s56 k (dj (by decide) k hk))
            obtain ⟨rfl, rfl⟩ := Prod.mk.inj (hT.symm.trans hres)
            exact ⟨hf_s56, hm_s56, trivial, hTK_s56, hRCO_s56⟩
        by_cases h25 : (s0 55 0) = 45
        · replace hT := hT.trans (if_pos h25)
          exact j26  trivial hT
        · replace hT := hT.trans (if_neg h25)
          have hr59 := (hm_s0 55 0).1 rfl
          by_cases h60 : (s0 55 0) = 40
          · replace hT := hT.trans (if_pos h60)
            exact j26  trivial hT
          · replace hT := hT.trans (if_neg h60)
            exact j17  trivial hT
      · replace hT := hT.trans (if_neg h16)
        exact j17  trivial hT
    · replace hT := hT.trans (if_neg h15)
      have hr61 := (hm_s0 55 0).1 rfl
      obtain ⟨r63, s64, hs64⟩ : ∃ rr ss, (f_X3_emit ((-1) - ((s0 55 0) - 262)) s0) = (rr, ss) := ⟨_, _, rfl⟩
      replace hT := gby hT hs64
      have hp65 := f_X3_emit_p ((-1) - ((s0 55 0) - 262)) s0 (by omega) hm_s0 hTK_s0 hRCO_s0 (by first | assumption | omega) r63 s64 hs64
      obtain ⟨hfc_s64, hm_s64, hp66, hTK_s64, hRCO_s64⟩ := hp65
      have hf_s64 : fr [34, 53, 54, 55, 56, 57, 58] s0 s64 := hf_s0.call (by decide) hfc_s64
      obtain ⟨r68, s69, hs69⟩ : ∃ rr ss, (f_X3_next  s64) = (rr, ss) := ⟨_, _, rfl⟩
      replace hT := gby hT hs69
      have hp70 := f_X3_next_p  s64  hm_s64 hTK_s64 r68 s69 hs69
      obtain ⟨hfc_s69, hm_s69, hp71, hTK_s69⟩ := hp70
      have hf_s69 : fr [34, 53, 54, 55, 56, 57, 58] s0 s69 := hf_s64.call (by decide) hfc_s69
      have hRCO_s69 : RCO s69 := RCO_fr hRCO_s64 (fun k hk => hfc_s69 k (dj (by decide) k hk))
      obtain ⟨rfl, rfl⟩ := Prod.mk.inj (hT.symm.trans hres)
      exact ⟨hf_s69, hm_s69, trivial, hTK_s69, hRCO_s69⟩
set_option maxRecDepth 100000 in
set_option maxHeartbeats 4000000 in
theorem c_X3_readOne_1 (l : Launch) (D : va_G) (a : Nat → Nat) (cI cJ cS cT : ClassId) (adK adV : Nat → Nat) (kA : Nat) (s0 : gMem) (x0 : Int) (hx0 : in32 x0) (hpre0 : TK s0) (hpre1 : RCO s0) (hpre2 : x0 = 4) : gCS l yX3_readOne cX3_readOne 2 none 15 960 D vwCl (gT cI cJ cS cT) (wdX a cI cJ cS cT) lgX kV rgV [.ref (a 2), gI x0] s0 (f_X3_readOne_1 x0 s0) adK adV kA := by
  refine gCS_of (by decide +kernel) (hwdX a cI cJ cS cT) (Nat.le_of_ble_eq_true rfl) ?_
  intro A p e R s m args below meth c hR E HX
  subst hR
  have hT := f_X3_readOne_1_e x0 s0
  have hf_s0 : fr [34, 53, 54, 55, 56, 57, 58] s0 s0 := fr.rf _ _
  refine k_lv0 (lv' := [(0, .ref (a 2)), (1, gI x0)]) rfl ?_
  refine k_mr (fun hm_s0 => ?_)
  have hTK_s0 := hpre0
  have hRCO_s0 := hpre1
  refine k_aloadn (pc := 0) E 0 dX3_readOne_0 rfl rfl ?_
  obtain ⟨kt1, kt2, kt3, kt4, kt5, kt6, kt7⟩ := id hTK_s0
  refine k_getfI (pc := 1) (q0 := 2) (f := 6) (k := 55) E inX3 rfl rfl (by decide) wm_65 rfl rfl rfl dX3_readOne_1 (fun hr1 => ?_)
  refine k_iconst (pc := 4) E dX3_readOne_4 ?_
  by_cases h2 : (s0 55 0) = 2
  · replace hT := hT.trans (if_pos h2)
    refine k_icmp_ne_f (pc := 5) (tgt := 23) E (by omega) (by omega) dX3_readOne_5 (by decide) h2 ?_
    refine k_aloadn (pc := 8) E 0 dX3_readOne_8 rfl rfl ?_
    refine k_aloadn (pc := 9) E 0 dX3_readOne_9 rfl rfl ?_
    refine k_getfI (pc := 10) (q0 := 2) (f := 8) (k := 57) E inX3 rfl rfl (by decide) wm_67 rfl rfl rfl dX3_readOne_10 (fun hr3 => ?_)
    refine k_mr (fun hm_s0 => ?_)
    refine k_callV (pc := 13) (np := 1) (As := [gI (s0 57 0)]) (st := []) (q0 := 2) E (c_X3_emit l D a cI cJ cS cT s0 (s0 57 0) (by omega) hTK_s0 hRCO_s0 (by first | assumption | omega)) wm_460 wm_3 wm_457 wm_459 wp_13 (by decide +kernel) rfl rfl ⟨by decide, by decide⟩ rfl (Nat.le_of_ble_eq_true rfl) dX3_readOne_13 (fun r5 s6 hs6 hr4 => ?_)
    replace hT := gby hT hs6
    have hp7 := f_X3_emit_p (s0 57 0) s0 (by omega) hm_s0 hTK_s0 hRCO_s0 (by first | assumption | omega) r5 s6 hs6
    obtain ⟨hfc_s6, hm_s6, hp8, hTK_s6, hRCO_s6⟩ := hp7
    have hf_s6 : fr [34, 53, 54, 55, 56, 57, 58] s0 s6 := hf_s0.call (by decide) hfc_s6
    refine k_st (st' := []) rfl ?_
    refine k_aloadn (pc := 16) E 0 dX3_readOne_16 rfl rfl ?_
    refine k_mr (fun hm_s6 => ?_)
    refine k_callVX (pc := 17) (np := 0) (As := []) (st := []) (q0 := 2) E HX rfl rfl (c_X3_next l D a cI cJ cS cT adK adV kA s6  hTK_s6) wm_336 wm_3 wm_333 wm_335 wp_0 (by decide +kernel) ⟨by decide, by decide⟩ rfl (Nat.le_of_ble_eq_true rfl) dX3_readOne_17 (fun r10 s11 hs11 hr9 => ?_)
    replace hT := gby hT hs11
    have hp12 := f_X3_next_p  s6  hm_s6 hTK_s6 r10 s11 hs11
    obtain ⟨hfc_s11, hm_s11, hp13, hTK_s11⟩ := hp12
    have hf_s11 : fr [34, 53, 54, 55, 56, 57, 58] s0 s11 := hf_s6.call (by decide) hfc_s11
    have hRCO_s11 : RCO s11 := RCO_fr hRCO_s6 (fun k hk => hfc_s11 k (dj (by decide) k hk))
    refine k_st (st' := []) rfl ?_
    refine k_goto (pc := 20) (tgt := 130) E dX3_readOne_20 (by decide) ?_
    exact k_rho hT (k_vret (pc := 130) E dX3_readOne_130)
  · replace hT := hT.trans (if_neg h2)
    refine k_icmp_ne_t (pc := 5) (tgt := 23) E (by omega) (by omega) dX3_readOne_5 (by decide) h2 ?_
    refine k_aloadn (pc := 23) E 0 dX3_readOne_23 rfl rfl ?_
    refine k_getfI (pc := 24) (q0 := 2) (f := 6) (k := 55) E inX3 rfl rfl (by decide) wm_65 rfl rfl rfl dX3_readOne_24 (fun hr14 => ?_)
    refine k_sipush (pc := 27) E dX3_readOne_27 (by decide) ?_
    by_cases h15 : (s0 55 0) < 262
    · replace hT := hT.trans (if_pos h15)
      refine k_icmp_lt_t (pc := 30) (tgt := 54) E (by omega) (by omega) dX3_readOne_30 (by decide) h15 ?_
      refine k_iloadn (pc := 54) E 1 dX3_readOne_54 rfl rfl ?_
      refine k_iconst (pc := 55) E dX3_readOne_55 ?_
      obtain ⟨j17c, hj17c, hT⟩ := gjx hT
      have j17 : (True) → (f_X3_readOne_1 x0 s0) = j17c  → gK D vwCl (wdX a cI cJ cS cT) lgX A p l e { frames := 15, cells := 0, slots := 0, locals := 960 } s m args below meth c 2 (gQQ D vwCl (wdX a cI cJ cS cT) lgX A kV rgV below args s) (f_X3_readOne_1 x0 s0) s0 77 [(0, .ref (a 2))] [] := by
        intro  hq hT
        rw [hj17c] at hT
        refine k_aloadn (pc := 77) E 0 dX3_readOne_77 rfl rfl ?_
        refine k_mr (fun hm_s0 => ?_)
        refine k_callV (pc := 78) (np := 0) (As := []) (st := []) (q0 := 2) E (c_X3_fail l D a cI cJ cS cT s0  hTK_s0) wm_428 wm_3 wm_425 wm_427 wp_5 (by decide +kernel) rfl rfl ⟨by decide, by decide⟩ rfl (Nat.le_of_ble_eq_true rfl) dX3_readOne_78 (fun r19 s20 hs20 hr18 => ?_)
        replace hT := gby hT hs20
        have hp21 := f_X3_fail_p  s0  hm_s0 hTK_s0 r19 s20 hs20
        obtain ⟨hfc_s20, hm_s20, hp22, hTK_s20, hp23⟩ := hp21
        have hf_s20 : fr [34, 53, 54, 55, 56, 57, 58] s0 s20 := hf_s0.call (by decide) hfc_s20
        have hRCO_s20 : RCO s20 := RCO_fr hRCO_s0 (fun k hk => hfc_s20 k (dj (by decide) k hk))
        refine k_st (st' := []) rfl ?_
        refine k_goto (pc := 81) (tgt := 130) E dX3_readOne_81 (by decide) ?_
        exact k_rho hT (k_vret (pc := 130) E dX3_readOne_130)
      by_cases h16 : x0 < 5
      · replace hT := hT.trans (if_pos h16)
        refine k_icmp_ge_f (pc := 56) (tgt := 77) E (by omega) (by omega) dX3_readOne_56 (by decide) h16 ?_
        refine k_aloadn (pc := 59) E 0 dX3_readOne_59 rfl rfl ?_
        refine k_getfI (pc := 60) (q0 := 2) (f := 6) (k := 55) E inX3 rfl rfl (by decide) wm_65 rfl rfl rfl dX3_readOne_60 (fun hr24 => ?_)
        refine k_bipush (pc := 63) E dX3_readOne_63 (by decide) ?_
        obtain ⟨j26c, hj26c, hT⟩ := gjx hT
        have j26 : (True) → (f_X3_readOne_1 x0 s0) = j26c  → gK D vwCl (wdX a cI cJ cS cT) lgX A p l e { frames := 15, cells := 0, slots := 0, locals := 960 } s m args below meth c 2 (gQQ D vwCl (wdX a cI cJ cS cT) lgX A kV rgV below args s) (f_X3_readOne_1 x0 s0) s0 84 [(0, .ref (a 2)), (1, gI x0)] [] := by
          intro  hq hT
          rw [hj26c] at hT
          refine k_aloadn (pc := 84) E 0 dX3_readOne_84 rfl rfl ?_
          refine k_getfI (pc := 85) (q0 := 2) (f := 6) (k := 55) E inX3 rfl rfl (by decide) wm_65 rfl rfl rfl dX3_readOne_85 (fun hr27 => ?_)
          refine k_bipush (pc := 88) E dX3_readOne_88 (by decide) ?_
          by_cases h28 : (s0 55 0) = 45
          · replace hT := hT.trans (if_pos h28)
            refine k_icmp_ne_f (pc := 90) (tgt := 113) E (by omega) (by omega) dX3_readOne_90 (by decide) h28 ?_
            refine k_aloadn (pc := 93) E 0 dX3_readOne_93 rfl rfl ?_
            refine k_mr (fun hm_s0 => ?_)
            refine k_callVX (pc := 94) (np := 0) (As := []) (st := []) (q0 := 2) E HX rfl rfl (c_X3_next l D a cI cJ cS cT adK adV kA s0  hTK_s0) wm_336 wm_3 wm_333 wm_335 wp_0 (by decide +kernel) ⟨by decide, by decide⟩ rfl (Nat.le_of_ble_eq_true rfl) dX3_readOne_94 (fun r30 s31 hs31 hr29 => ?_)
            replace hT := gby hT hs31
            have hp32 := f_X3_next_p  s0  hm_s0 hTK_s0 r30 s31 hs31
            obtain ⟨hfc_s31, hm_s31, hp33, hTK_s31⟩ := hp32
            have hf_s31 : fr [34, 53, 54, 55, 56, 57, 58] s0 s31 := hf_s0.call (by decide) hfc_s31
            have hRCO_s31 : RCO s31 := RCO_fr hRCO_s0 (fun k hk => hfc_s31 k (dj (by decide) k hk))
            refine k_st (st' := []) rfl ?_
            refine k_aloadn (pc := 97) E 0 dX3_readOne_97 rfl rfl ?_
            refine k_iloadn (pc := 98) E 1 dX3_readOne_98 rfl rfl ?_
            refine k_iconst (pc := 99) E dX3_readOne_99 ?_
            refine k_iadd (pc := 100) E dX3_readOne_100 ?_
            refine k_mr (fun hm_s31 => ?_)
            refine k_callVX (pc := 101) (np := 1) (As := [gI (x0 + 1)]) (st := []) (q0 := 2) E HX rfl rfl (c_X3_readOne_0 l D a cI cJ cS cT adK adV kA s31 (x0 + 1) (by omega) hTK_s31 hRCO_s31 (by first | assumption | omega)) wm_456 wm_3 wm_453 wm_455 wp_12 (by decide +kernel) ⟨by decide, by decide⟩ rfl (Nat.le_of_ble_eq_true rfl) dX3_readOne_101 (fun r35 s36 hs36 hr34 => ?_)
            replace hT := gby hT hs36
            have hp37 := f_X3_readOne_0_p (x0 + 1) s31 (by omega) hm_s31 hTK_s31 hRCO_s31 (by first | assumption | omega) r35 s36 hs36
            obtain ⟨hfc_s36, hm_s36, hp38, hTK_s36, hRCO_s36⟩ := hp37
            have hf_s36 : fr [34, 53, 54, 55, 56, 57, 58] s0 s36 := hf_s31.call (by decide) hfc_s36
            refine k_st (st' := []) rfl ?_
            refine k_aloadn (pc := 104) E 0 dX3_readOne_104 rfl rfl ?_
            refine k_bipush (pc := 105) E dX3_readOne_105 (by decide) ?_
            refine k_mr (fun hm_s36 => ?_)
            refine k_callV (pc := 107) (np := 1) (As := [gI (-15)]) (st := []) (q0 := 2) E (c_X3_emit l D a cI cJ cS cT s36 (-15) (by omega) hTK_s36 hRCO_s36 (by first | assumption | omega)) wm_460 wm_3 wm_457 wm_459 wp_13 (by decide +kernel) rfl rfl ⟨by decide, by decide⟩ rfl (Nat.le_of_ble_eq_true rfl) dX3_readOne_107 (fun r40 s41 hs41 hr39 => ?_)
            replace hT := gby hT hs41
            have hp42 := f_X3_emit_p (-15) s36 (by omega) hm_s36 hTK_s36 hRCO_s36 (by first | assumption | omega) r40 s41 hs41
            obtain ⟨hfc_s41, hm_s41, hp43, hTK_s41, hRCO_s41⟩ := hp42
            have hf_s41 : fr [34, 53, 54, 55, 56, 57, 58] s0 s41 := hf_s36.call (by decide) hfc_s41
            refine k_st (st' := []) rfl ?_
            refine k_goto (pc := 110) (tgt := 130) E dX3_readOne_110 (by decide) ?_
            exact k_rho hT (k_vret (pc := 130) E dX3_readOne_130)
          · replace hT := hT.trans (if_neg h28)
            refine k_icmp_ne_t (pc := 90) (tgt := 113) E (by omega) (by omega) dX3_readOne_90 (by decide) h28 ?_
            refine k_aloadn (pc := 113) E 0 dX3_readOne_113 rfl rfl ?_
            refine k_mr (fun hm_s0 => ?_)
            refine k_callVX (pc := 114) (np := 0) (As := []) (st := []) (q0 := 2) E HX rfl rfl (c_X3_next l D a cI cJ cS cT adK adV kA s0  hTK_s0) wm_336 wm_3 wm_333 wm_335 wp_0 (by decide +kernel) ⟨by decide, by decide⟩ rfl (Nat.le_of_ble_eq_true rfl) dX3_readOne_114 (fun r45 s46 hs46 hr44 => ?_)
            replace hT := gby hT hs46
            have hp47 := f_X3_next_p  s0  hm_s0 hTK_s0 r45 s46 hs46
            obtain ⟨hfc_s46, hm_s46, hp48, hTK_s46⟩ := hp47
            have hf_s46 : fr [34, 53, 54, 55, 56, 57, 58] s0 s46 := hf_s0.call (by decide) hfc_s46
            have hRCO_s46 : RCO s46 := RCO_fr hRCO_s0 (fun k hk => hfc_s46 k (dj (by decide) k hk))
            refine k_st (st' := []) rfl ?_
            refine k_aloadn (pc := 117) E 0 dX3_readOne_117 rfl rfl ?_
            refine k_iloadn (pc := 118) E 1 dX3_readOne_118 rfl rfl ?_
            refine k_iconst (pc := 119) E dX3_readOne_119 ?_
            refine k_iadd (pc := 120) E dX3_readOne_120 ?_
            refine k_mr (fun hm_s46 => ?_)
            refine k_callVX (pc := 121) (np := 1) (As := [gI (x0 + 1)]) (st := []) (q0 := 2) E HX rfl rfl (c_X3_readOr_0 l D a cI cJ cS cT adK adV kA s46 (x0 + 1) (by omega) hTK_s46 hRCO_s46 (by first | assumption | omega)) wm_432 wm_3 wm_429 wm_431 wp_6 (by decide +kernel) ⟨by decide, by decide⟩ rfl (Nat.le_of_ble_eq_true rfl) dX3_readOne_121 (fun r50 s51 hs51 hr49 => ?_)
            replace hT := gby hT hs51
            have hp52 := f_X3_readOr_0_p (x0 + 1) s46 (by omega) hm_s46 hTK_s46 hRCO_s46 (by first | assumption | omega) r50 s51 hs51
            obtain ⟨hfc_s51, hm_s51, hp53, hTK_s51, hRCO_s51⟩ := hp52
            have hf_s51 : fr [34, 53, 54, 55, 56, 57, 58] s0 s51 := hf_s46.call (by decide) hfc_s51
            refine k_st (st' := []) rfl ?_
            refine k_aloadn (pc := 124) E 0 dX3_readOne_124 rfl rfl ?_
            refine k_bipush (pc := 125) E dX3_readOne_125 (by decide) ?_
            refine k_mr (fun hm_s51 => ?_)
            refine k_callVX (pc := 127) (np := 1) (As := [gI 41]) (st := []) (q0 := 2) E HX rfl rfl (c_X3_want l D a cI cJ cS cT adK adV kA s51 41 (by omega) hTK_s51) wm_424 wm_3 wm_421 wm_423 wp_4 (by decide +kernel) ⟨by decide, by decide⟩ rfl (Nat.le_of_ble_eq_true rfl) dX3_readOne_127 (fun r55 s56 hs56 hr54 => ?_)
            replace hT := gby hT hs56
            have hp57 := f_X3_want_p 41 s51 (by omega) hm_s51 hTK_s51 r55 s56 hs56
            obtain ⟨hfc_s56, hm_s56, hp58, hTK_s56⟩ := hp57
            have hf_s56 : fr [34, 53, 54, 55, 56, 57, 58] s0 s56 := hf_s51.call (by decide) hfc_s56
            have hRCO_s56 : RCO s56 := RCO_fr hRCO_s51 (fun k hk => hfc_s56 k (dj (by decide) k hk))
            refine k_st (st' := []) rfl ?_
            exact k_rho hT (k_vret (pc := 130) E dX3_readOne_130)
        by_cases h25 : (s0 55 0) = 45
        · replace hT := hT.trans (if_pos h25)
          refine k_icmp_eq_t (pc := 65) (tgt := 84) E (by omega) (by omega) dX3_readOne_65 (by decide) h25 ?_
          exact j26  trivial hT
        · replace hT := hT.trans (if_neg h25)
          refine k_icmp_eq_f (pc := 65) (tgt := 84) E (by omega) (by omega) dX3_readOne_65 (by decide) h25 ?_
          refine k_aloadn (pc := 68) E 0 dX3_readOne_68 rfl rfl ?_
          refine k_getfI (pc := 69) (q0 := 2) (f := 6) (k := 55) E inX3 rfl rfl (by decide) wm_65 rfl rfl rfl dX3_readOne_69 (fun hr59 => ?_)
          refine k_bipush (pc := 72) E dX3_readOne_72 (by decide) ?_
          by_cases h60 : (s0 55 0) = 40
          · replace hT := hT.trans (if_pos h60)
            refine k_icmp_eq_t (pc := 74) (tgt := 84) E (by omega) (by omega) dX3_readOne_74 (by decide) h60 ?_
            exact j26  trivial hT
          · replace hT := hT.trans (if_neg h60)
            refine k_icmp_eq_f (pc := 74) (tgt := 84) E (by omega) (by omega) dX3_readOne_74 (by decide) h60 ?_
            refine k_lv (lv' := [(0, .ref (a 2))]) [0] rfl ?_
            exact j17  trivial hT
      · replace hT := hT.trans (if_neg h16)
        refine k_icmp_ge_t (pc := 56) (tgt := 77) E (by omega) (by omega) dX3_readOne_56 (by decide) h16 ?_
        refine k_lv (lv' := [(0, .ref (a 2))]) [0] rfl ?_
        exact j17  trivial hT
    · replace hT := hT.trans (if_neg h15)
      refine k_icmp_lt_f (pc := 30) (tgt := 54) E (by omega) (by omega) dX3_readOne_30 (by decide) h15 ?_
      refine k_aloadn (pc := 33) E 0 dX3_readOne_33 rfl rfl ?_
      refine k_iconst (pc := 34) E dX3_readOne_34 ?_
      refine k_aloadn (pc := 35) E 0 dX3_readOne_35 rfl rfl ?_
      refine k_getfI (pc := 36) (q0 := 2) (f := 6) (k := 55) E inX3 rfl rfl (by decide) wm_65 rfl rfl rfl dX3_readOne_36 (fun hr61 => ?_)
      refine k_sipush (pc := 39) E dX3_readOne_39 (by decide) ?_
      refine k_isub (pc := 42) E dX3_readOne_42 ?_
      refine k_isub (pc := 43) E dX3_readOne_43 ?_
      refine k_mr (fun hm_s0 => ?_)
      refine k_callV (pc := 44) (np := 1) (As := [gI ((-1) - ((s0 55 0) - 262))]) (st := []) (q0 := 2) E (c_X3_emit l D a cI cJ cS cT s0 ((-1) - ((s0 55 0) - 262)) (by omega) hTK_s0 hRCO_s0 (by first | assumption | omega)) wm_460 wm_3 wm_457 wm_459 wp_13 (by decide +kernel) rfl rfl ⟨by decide, by decide⟩ rfl (Nat.le_of_ble_eq_true rfl) dX3_readOne_44 (fun r63 s64 hs64 hr62 => ?_)
      replace hT := gby hT hs64
      have hp65 := f_X3_emit_p ((-1) - ((s0 55 0) - 262)) s0 (by omega) hm_s0 hTK_s0 hRCO_s0 (by first | assumption | omega) r63 s64 hs64
      obtain ⟨hfc_s64, hm_s64, hp66, hTK_s64, hRCO_s64⟩ := hp65
      have hf_s64 : fr [34, 53, 54, 55, 56, 57, 58] s0 s64 := hf_s0.call (by decide) hfc_s64
      refine k_st (st' := []) rfl ?_
      refine k_aloadn (pc := 47) E 0 dX3_readOne_47 rfl rfl ?_
      refine k_mr (fun hm_s64 => ?_)
      refine k_callVX (pc := 48) (np := 0) (As := []) (st := []) (q0 := 2) E HX rfl rfl (c_X3_next l D a cI cJ cS cT adK adV kA s64  hTK_s64) wm_336 wm_3 wm_333 wm_335 wp_0 (by decide +kernel) ⟨by decide, by decide⟩ rfl (Nat.le_of_ble_eq_true rfl) dX3_readOne_48 (fun r68 s69 hs69 hr67 => ?_)
      replace hT := gby hT hs69
      have hp70 := f_X3_next_p  s64  hm_s64 hTK_s64 r68 s69 hs69
      obtain ⟨hfc_s69, hm_s69, hp71, hTK_s69⟩ := hp70
      have hf_s69 : fr [34, 53, 54, 55, 56, 57, 58] s0 s69 := hf_s64.call (by decide) hfc_s69
      have hRCO_s69 : RCO s69 := RCO_fr hRCO_s64 (fun k hk => hfc_s69 k (dj (by decide) k hk))
      refine k_st (st' := []) rfl ?_
      refine k_goto (pc := 51) (tgt := 130) E dX3_readOne_51 (by decide) ?_
      exact k_rho hT (k_vret (pc := 130) E dX3_readOne_130)

def w_X3_readTerm_1_7 (c1 : Int) : Nat → Int → gMem → Int × gMem
  | 0, v6, s7 => (v6, s7)
  | n8 + 1, v6, s7 => (if v6 < 160 then (if (s7 55 0) = 42 then gb (f_X3_next  s7) (fun r13 s14 => gb (f_X3_readOne_1 c1 s14) (fun r18 s19 => gb (f_X3_emit (-13) s19) (fun r23 s24 => (w_X3_readTerm_1_7 c1 n8 (v6 + 1) s24)))) else (v6, s7)) else (v6, s7))
theorem w_X3_readTerm_1_7_s (c1 : Int) (n8 : Nat) (v6 : Int) (s7 : gMem) : w_X3_readTerm_1_7 c1 (n8 + 1) v6 s7 = (if v6 < 160 then (if (s7 55 0) = 42 then gb (f_X3_next  s7) (fun r13 s14 => gb (f_X3_readOne_1 c1 s14) (fun r18 s19 => gb (f_X3_emit (-13) s19) (fun r23 s24 => (w_X3_readTerm_1_7 c1 n8 (v6 + 1) s24)))) else (v6, s7)) else (v6, s7)) := rfl
def f_X3_readTerm_1 (x0 : Int) (s0 : gMem) : gRes := gb (f_X3_readOne_1 x0 s0) (fun r2 s3 => (gl2 (w_X3_readTerm_1_7 x0 161 0 s3) (fun v55 s56 => (0, s56))))
theorem f_X3_readTerm_1_e (x0 : Int) (s0 : gMem) : f_X3_readTerm_1 x0 s0 = gb (f_X3_readOne_1 x0 s0) (fun r2 s3 => (gl2 (w_X3_readTerm_1_7 x0 161 0 s3) (fun v55 s56 => (0, s56)))) := rfl
set_option maxRecDepth 100000 in
set_option maxHeartbeats 4000000 in
theorem f_X3_readTerm_1_p (x0 : Int) (s0 : gMem) (hx0 : in32 x0) (hm_s0 : gMR lgX s0) (hpre0 : TK s0) (hpre1 : RCO s0) (hpre2 : x0 = 4) (rZ : Int) (sZ : gMem) (hres : f_X3_readTerm_1 x0 s0 = (rZ, sZ)) : (fr [34, 53, 54, 55, 56, 57, 58] s0 sZ) ∧ (gMR lgX sZ) ∧ (True) ∧ (TK sZ) ∧ (RCO sZ) := by
  have hT := f_X3_readTerm_1_e x0 s0
  have hf_s0 : fr [34, 53, 54, 55, 56, 57, 58] s0 s0 := fr.rf _ _
  have hTK_s0 := hpre0
  have hRCO_s0 := hpre1
  obtain ⟨r2, s3, hs3⟩ : ∃ rr ss, (f_X3_readOne_1 x0 s0) = (rr, ss) := ⟨_, _, rfl⟩
  replace hT := gby hT hs3
  have hp4 := f_X3_readOne_1_p x0 s0 (by omega) hm_s0 hTK_s0 hRCO_s0 (by first | assumption | omega) r2 s3 hs3
  obtain ⟨hfc_s3, hm_s3, hp5, hTK_s3, hRCO_s3⟩ := hp4
  have hf_s3 : fr [34, 53, 54, 55, 56, 57, 58] s0 s3 := hf_s0.call (by decide) hfc_s3
  have L29 : ∀ (n30 : Nat) (v27 : Int) (s28 : gMem), ((in32 v27) ∧ (fr [34, 53, 54, 55, 56, 57, 58] s0 s28) ∧ (gMR lgX s28) ∧ (TK s28) ∧ (RCO s28) ∧ (0 ≤ v27 ∧ v27 ≤ 160)) → 160 - v27 < (n30 : Int) → (∀ (w31 : Int) (s32 : gMem), (w_X3_readTerm_1_7 x0 n30 v27 s28) = (w31, s32) → ((in32 w31) ∧ (fr [34, 53, 54, 55, 56, 57, 58] s0 s32) ∧ (gMR lgX s32) ∧ (TK s32) ∧ (RCO s32) ∧ (0 ≤ w31 ∧ w31 ≤ 160)) → (fr [34, 53, 54, 55, 56, 57, 58] s0 sZ) ∧ (gMR lgX sZ) ∧ (True) ∧ (TK sZ) ∧ (RCO sZ)) → (fr [34, 53, 54, 55, 56, 57, 58] s0 sZ) ∧ (gMR lgX sZ) ∧ (True) ∧ (TK sZ) ∧ (RCO sZ) := by
    intro n30; induction n30 with
    | zero =>
      intro v27 s28 hq hm hk
      exfalso
      obtain ⟨hq51, hf_s28, hm_s28, hTK_s28, hRCO_s28, hq52⟩ := hq
      omega
    | succ n30 ih =>
      intro v27 s28 hq hm hk
      obtain ⟨hq53, hf_s28, hm_s28, hTK_s28, hRCO_s28, hq54⟩ := hq
      have hT := w_X3_readTerm_1_7_s x0 n30 v27 s28
      by_cases h33 : v27 < 160
      · replace hT := hT.trans (if_pos h33)
        have hr34 := (hm_s28 55 0).1 rfl
        by_cases h35 : (s28 55 0) = 42
        · replace hT := hT.trans (if_pos h35)
          obtain ⟨r37, s38, hs38⟩ : ∃ rr ss, (f_X3_next  s28) = (rr, ss) := ⟨_, _, rfl⟩
          replace hT := gby hT hs38
          have hp39 := f_X3_next_p  s28  hm_s28 hTK_s28 r37 s38 hs38
          obtain ⟨hfc_s38, hm_s38, hp40, hTK_s38⟩ := hp39
          have hf_s38 : fr [34, 53, 54, 55, 56, 57, 58] s0 s38 := hf_s28.call (by decide) hfc_s38
          have hRCO_s38 : RCO s38 := RCO_fr hRCO_s28 (fun k hk => hfc_s38 k (dj (by decide) k hk))
          obtain ⟨r42, s43, hs43⟩ : ∃ rr ss, (f_X3_readOne_1 x0 s38) = (rr, ss) := ⟨_, _, rfl⟩
          replace hT := gby hT hs43
          have hp44 := f_X3_readOne_1_p x0 s38 (by omega) hm_s38 hTK_s38 hRCO_s38 (by first | assumption | omega) r42 s43 hs43
          obtain ⟨hfc_s43, hm_s43, hp45, hTK_s43, hRCO_s43⟩ := hp44
          have hf_s43 : fr [34, 53, 54, 55, 56, 57, 58] s0 s43 := hf_s38.call (by decide) hfc_s43
          obtain ⟨r47, s48, hs48⟩ : ∃ rr ss, (f_X3_emit (-13) s43) = (rr, ss) := ⟨_, _, rfl⟩
          replace hT := gby hT hs48
          have hp49 := f_X3_emit_p (-13) s43 (by omega) hm_s43 hTK_s43 hRCO_s43 (by first | assumption | omega) r47 s48 hs48
          obtain ⟨hfc_s48, hm_s48, hp50, hTK_s48, hRCO_s48⟩ := hp49
          have hf_s48 : fr [34, 53, 54, 55, 56, 57, 58] s0 s48 := hf_s43.call (by decide) hfc_s48
          exact ih (v27 + 1) s48 ⟨(by omega), hf_s48, hm_s48, hTK_s48, hRCO_s48, (by first | assumption | omega)⟩ (by omega) (fun w31 s32 hw hi => hk w31 s32 (hT.trans hw) hi)
        · replace hT := hT.trans (if_neg h35)
          exact hk v27 s28 hT ⟨(by omega), hf_s28, hm_s28, hTK_s28, hRCO_s28, (by first | assumption | omega)⟩
      · replace hT := hT.trans (if_neg h33)
        exact hk v27 s28 hT ⟨(by omega), hf_s28, hm_s28, hTK_s28, hRCO_s28, (by first | assumption | omega)⟩
  refine L29 161 0 s3 ⟨(by omega), hf_s3, hm_s3, hTK_s3, hRCO_s3, (by first | assumption | omega)⟩ (by omega) (fun v55 s56 hw hq => ?_)
  obtain ⟨hq57, hf_s56, hm_s56, hTK_s56, hRCO_s56, hq58⟩ := hq
  replace hT := gl2y hT hw
  obtain ⟨rfl, rfl⟩ := Prod.mk.inj (hT.symm.trans hres)
  exact ⟨hf_s56, hm_s56, trivial, hTK_s56, hRCO_s56⟩
set_option maxRecDepth 100000 in
set_option maxHeartbeats 4000000 in
theorem c_X3_readTerm_1 (l : Launch) (D : va_G) (a : Nat → Nat) (cI cJ cS cT : ClassId) (adK adV : Nat → Nat) (kA : Nat) (s0 : gMem) (x0 : Int) (hx0 : in32 x0) (hpre0 : TK s0) (hpre1 : RCO s0) (hpre2 : x0 = 4) : gCS l yX3_readTerm cX3_readTerm 3 none 16 1024 D vwCl (gT cI cJ cS cT) (wdX a cI cJ cS cT) lgX kV rgV [.ref (a 2), gI x0] s0 (f_X3_readTerm_1 x0 s0) adK adV kA := by
  refine gCS_of (by decide +kernel) (hwdX a cI cJ cS cT) (Nat.le_of_ble_eq_true rfl) ?_
  intro A p e R s m args below meth c hR E HX
  subst hR
  have hT := f_X3_readTerm_1_e x0 s0
  have hf_s0 : fr [34, 53, 54, 55, 56, 57, 58] s0 s0 := fr.rf _ _
  refine k_lv0 (lv' := [(0, .ref (a 2)), (1, gI x0)]) rfl ?_
  refine k_mr (fun hm_s0 => ?_)
  have hTK_s0 := hpre0
  have hRCO_s0 := hpre1
  refine k_aloadn (pc := 0) E 0 dX3_readTerm_0 rfl rfl ?_
  refine k_iloadn (pc := 1) E 1 dX3_readTerm_1 rfl rfl ?_
  refine k_mr (fun hm_s0 => ?_)
  refine k_callVX (pc := 2) (np := 1) (As := [gI x0]) (st := []) (q0 := 2) E HX rfl rfl (c_X3_readOne_1 l D a cI cJ cS cT adK adV kA s0 x0 (by omega) hTK_s0 hRCO_s0 (by first | assumption | omega)) wm_456 wm_3 wm_453 wm_455 wp_12 (by decide +kernel) ⟨by decide, by decide⟩ rfl (Nat.le_of_ble_eq_true rfl) dX3_readTerm_2 (fun r2 s3 hs3 hr1 => ?_)
  replace hT := gby hT hs3
  have hp4 := f_X3_readOne_1_p x0 s0 (by omega) hm_s0 hTK_s0 hRCO_s0 (by first | assumption | omega) r2 s3 hs3
  obtain ⟨hfc_s3, hm_s3, hp5, hTK_s3, hRCO_s3⟩ := hp4
  have hf_s3 : fr [34, 53, 54, 55, 56, 57, 58] s0 s3 := hf_s0.call (by decide) hfc_s3
  refine k_st (st' := []) rfl ?_
  refine k_iconst (pc := 5) E dX3_readTerm_5 ?_
  refine k_istoren (pc := 6) (lv' := [(2, gI 0), (0, .ref (a 2)), (1, gI x0)]) E dX3_readTerm_6 rfl (by decide) rfl ?_
  have L29 : ∀ (n30 : Nat) (v27 : Int) (s28 : gMem), ((in32 v27) ∧ (fr [34, 53, 54, 55, 56, 57, 58] s0 s28) ∧ (TK s28) ∧ (RCO s28) ∧ (0 ≤ v27 ∧ v27 ≤ 160)) → 160 - v27 < (n30 : Int) → (∀ (w31 : Int) (s32 : gMem), (w_X3_readTerm_1_7 x0 n30 v27 s28) = (w31, s32) → ((in32 w31) ∧ (fr [34, 53, 54, 55, 56, 57, 58] s0 s32) ∧ (TK s32) ∧ (RCO s32) ∧ (0 ≤ w31 ∧ w31 ≤ 160)) → gK D vwCl (wdX a cI cJ cS cT) lgX A p l e { frames := 16, cells := 0, slots := 0, locals := 1024 } s m args below meth c 3 (gQQ D vwCl (wdX a cI cJ cS cT) lgX A kV rgV below args s) (f_X3_readTerm_1 x0 s0) s32 44 [] []) → gK D vwCl (wdX a cI cJ cS cT) lgX A p l e { frames := 16, cells := 0, slots := 0, locals := 1024 } s m args below meth c 3 (gQQ D vwCl (wdX a cI cJ cS cT) lgX A kV rgV below args s) (f_X3_readTerm_1 x0 s0) s28 7 [(0, .ref (a 2)), (1, gI x0), (2, gI v27)] [] := by
    intro n30; induction n30 with
    | zero =>
      intro v27 s28 hq hm hk
      exfalso
      obtain ⟨hq51, hf_s28, hTK_s28, hRCO_s28, hq52⟩ := hq
      omega
    | succ n30 ih =>
      intro v27 s28 hq hm hk
      obtain ⟨hq53, hf_s28, hTK_s28, hRCO_s28, hq54⟩ := hq
      have hT := w_X3_readTerm_1_7_s x0 n30 v27 s28
      refine k_iloadn (pc := 7) E 2 dX3_readTerm_7 rfl rfl ?_
      refine k_sipush (pc := 8) E dX3_readTerm_8 (by decide) ?_
      by_cases h33 : v27 < 160
      · replace hT := hT.trans (if_pos h33)
        refine k_icmp_ge_f (pc := 11) (tgt := 44) E (by omega) (by omega) dX3_readTerm_11 (by decide) h33 ?_
        refine k_aloadn (pc := 14) E 0 dX3_readTerm_14 rfl rfl ?_
        refine k_getfI (pc := 15) (q0 := 2) (f := 6) (k := 55) E inX3 rfl rfl (by decide) wm_65 rfl rfl rfl dX3_readTerm_15 (fun hr34 => ?_)
        refine k_bipush (pc := 18) E dX3_readTerm_18 (by decide) ?_
        by_cases h35 : (s28 55 0) = 42
        · replace hT := hT.trans (if_pos h35)
          refine k_icmp_ne_f (pc := 20) (tgt := 44) E (by omega) (by omega) dX3_readTerm_20 (by decide) h35 ?_
          refine k_aloadn (pc := 23) E 0 dX3_readTerm_23 rfl rfl ?_
          refine k_mr (fun hm_s28 => ?_)
          refine k_callVX (pc := 24) (np := 0) (As := []) (st := []) (q0 := 2) E HX rfl rfl (c_X3_next l D a cI cJ cS cT adK adV kA s28  hTK_s28) wm_336 wm_3 wm_333 wm_335 wp_0 (by decide +kernel) ⟨by decide, by decide⟩ rfl (Nat.le_of_ble_eq_true rfl) dX3_readTerm_24 (fun r37 s38 hs38 hr36 => ?_)
          replace hT := gby hT hs38
          have hp39 := f_X3_next_p  s28  hm_s28 hTK_s28 r37 s38 hs38
          obtain ⟨hfc_s38, hm_s38, hp40, hTK_s38⟩ := hp39
          have hf_s38 : fr [34, 53, 54, 55, 56, 57, 58] s0 s38 := hf_s28.call (by decide) hfc_s38
          have hRCO_s38 : RCO s38 := RCO_fr hRCO_s28 (fun k hk => hfc_s38 k (dj (by decide) k hk))
          refine k_st (st' := []) rfl ?_
          refine k_aloadn (pc := 27) E 0 dX3_readTerm_27 rfl rfl ?_
          refine k_iloadn (pc := 28) E 1 dX3_readTerm_28 rfl rfl ?_
          refine k_mr (fun hm_s38 => ?_)
          refine k_callVX (pc := 29) (np := 1) (As := [gI x0]) (st := []) (q0 := 2) E HX rfl rfl (c_X3_readOne_1 l D a cI cJ cS cT adK adV kA s38 x0 (by omega) hTK_s38 hRCO_s38 (by first | assumption | omega)) wm_456 wm_3 wm_453 wm_455 wp_12 (by decide +kernel) ⟨by decide, by decide⟩ rfl (Nat.le_of_ble_eq_true rfl) dX3_readTerm_29 (fun r42 s43 hs43 hr41 => ?_)
          replace hT := gby hT hs43
          have hp44 := f_X3_readOne_1_p x0 s38 (by omega) hm_s38 hTK_s38 hRCO_s38 (by first | assumption | omega) r42 s43 hs43
          obtain ⟨hfc_s43, hm_s43, hp45, hTK_s43, hRCO_s43⟩ := hp44
          have hf_s43 : fr [34, 53, 54, 55, 56, 57, 58] s0 s43 := hf_s38.call (by decide) hfc_s43
          refine k_st (st' := []) rfl ?_
          refine k_aloadn (pc := 32) E 0 dX3_readTerm_32 rfl rfl ?_
          refine k_bipush (pc := 33) E dX3_readTerm_33 (by decide) ?_
          refine k_mr (fun hm_s43 => ?_)
          refine k_callV (pc := 35) (np := 1) (As := [gI (-13)]) (st := []) (q0 := 2) E (c_X3_emit l D a cI cJ cS cT s43 (-13) (by omega) hTK_s43 hRCO_s43 (by first | assumption | omega)) wm_460 wm_3 wm_457 wm_459 wp_13 (by decide +kernel) rfl rfl ⟨by decide, by decide⟩ rfl (Nat.le_of_ble_eq_true rfl) dX3_readTerm_35 (fun r47 s48 hs48 hr46 => ?_)
          replace hT := gby hT hs48
          have hp49 := f_X3_emit_p (-13) s43 (by omega) hm_s43 hTK_s43 hRCO_s43 (by first | assumption | omega) r47 s48 hs48
          obtain ⟨hfc_s48, hm_s48, hp50, hTK_s48, hRCO_s48⟩ := hp49
          have hf_s48 : fr [34, 53, 54, 55, 56, 57, 58] s0 s48 := hf_s43.call (by decide) hfc_s48
          refine k_st (st' := []) rfl ?_
          refine k_iinc (pc := 38) (lv' := [(2, gI (v27 + 1)), (0, .ref (a 2)), (1, gI x0)]) E 2 dX3_readTerm_38 rfl (by decide) rfl ?_
          refine k_goto (pc := 41) (tgt := 7) E dX3_readTerm_41 (by decide) ?_
          refine k_lv (lv' := [(0, .ref (a 2)), (1, gI x0), (2, gI (v27 + 1))]) [1, 2, 0] rfl ?_
          exact ih (v27 + 1) s48 ⟨(by omega), hf_s48, hTK_s48, hRCO_s48, (by first | assumption | omega)⟩ (by omega) (fun w31 s32 hw hi => hk w31 s32 (hT.trans hw) hi)
        · replace hT := hT.trans (if_neg h35)
          refine k_icmp_ne_t (pc := 20) (tgt := 44) E (by omega) (by omega) dX3_readTerm_20 (by decide) h35 ?_
          refine k_lv (lv' := []) [] rfl ?_
          exact hk v27 s28 hT ⟨(by omega), hf_s28, hTK_s28, hRCO_s28, (by first | assumption | omega)⟩
      · replace hT := hT.trans (if_neg h33)
        refine k_icmp_ge_t (pc := 11) (tgt := 44) E (by omega) (by omega) dX3_readTerm_11 (by decide) h33 ?_
        refine k_lv (lv' := []) [] rfl ?_
        exact hk v27 s28 hT ⟨(by omega), hf_s28, hTK_s28, hRCO_s28, (by first | assumption | omega)⟩
  refine k_lv (lv' := [(0, .ref (a 2)), (1, gI x0), (2, gI 0)]) [1, 2, 0] rfl ?_
  refine L29 161 0 s3 ⟨(by omega), hf_s3, hTK_s3, hRCO_s3, (by first | assumption | omega)⟩ (by omega) (fun v55 s56 hw hq => ?_)
  obtain ⟨hq57, hf_s56, hTK_s56, hRCO_s56, hq58⟩ := hq
  replace hT := gl2y hT hw
  exact k_rho hT (k_vret (pc := 44) E dX3_readTerm_44)

def w_X3_readSum_1_7 (c1 : Int) : Nat → Int → gMem → Int × gMem
  | 0, v6, s7 => (v6, s7)
  | n8 + 1, v6, s7 => (if v6 < 160 then (gj (fun j12c => (if (s7 55 0) = 43 then j12c else (if (s7 55 0) = 45 then j12c else (v6, s7)))) ((gl ((if (s7 55 0) = 43 then (-11) else (-12))) (fun v16 => gb (f_X3_next  s7) (fun r18 s19 => gb (f_X3_readTerm_1 c1 s19) (fun r23 s24 => gb (f_X3_emit v16 s24) (fun r28 s29 => (w_X3_readSum_1_7 c1 n8 (v6 + 1) s29)))))))) else (v6, s7))
theorem w_X3_readSum_1_7_s (c1 : Int) (n8 : Nat) (v6 : Int) (s7 : gMem) : w_X3_readSum_1_7 c1 (n8 + 1) v6 s7 = (if v6 < 160 then (gj (fun j12c => (if (s7 55 0) = 43 then j12c else (if (s7 55 0) = 45 then j12c else (v6, s7)))) ((gl ((if (s7 55 0) = 43 then (-11) else (-12))) (fun v16 => gb (f_X3_next  s7) (fun r18 s19 => gb (f_X3_readTerm_1 c1 s19) (fun r23 s24 => gb (f_X3_emit v16 s24) (fun r28 s29 => (w_X3_readSum_1_7 c1 n8 (v6 + 1) s29)))))))) else (v6, s7)) := rfl
def f_X3_readSum_1 (x0 : Int) (s0 : gMem) : gRes := gb (f_X3_readTerm_1 x0 s0) (fun r2 s3 => (gl2 (w_X3_readSum_1_7 x0 161 0 s3) (fun v75 s76 => (0, s76))))
theorem f_X3_readSum_1_e (x0 : Int) (s0 : gMem) : f_X3_readSum_1 x0 s0 = gb (f_X3_readTerm_1 x0 s0) (fun r2 s3 => (gl2 (w_X3_readSum_1_7 x0 161 0 s3) (fun v75 s76 => (0, s76)))) := rfl
set_option maxRecDepth 100000 in
set_option maxHeartbeats 4000000 in
theorem f_X3_readSum_1_p (x0 : Int) (s0 : gMem) (hx0 : in32 x0) (hm_s0 : gMR lgX s0) (hpre0 : TK s0) (hpre1 : RCO s0) (hpre2 : x0 = 4) (rZ : Int) (sZ : gMem) (hres : f_X3_readSum_1 x0 s0 = (rZ, sZ)) : (fr [34, 53, 54, 55, 56, 57, 58] s0 sZ) ∧ (gMR lgX sZ) ∧ (True) ∧ (TK sZ) ∧ (RCO sZ) := by
  have hT := f_X3_readSum_1_e x0 s0
  have hf_s0 : fr [34, 53, 54, 55, 56, 57, 58] s0 s0 := fr.rf _ _
  have hTK_s0 := hpre0
  have hRCO_s0 := hpre1
  obtain ⟨r2, s3, hs3⟩ : ∃ rr ss, (f_X3_readTerm_1 x0 s0) = (rr, ss) := ⟨_, _, rfl⟩
  replace hT := gby hT hs3
  have hp4 := f_X3_readTerm_1_p x0 s0 (by omega) hm_s0 hTK_s0 hRCO_s0 (by first | assumption | omega) r2 s3 hs3
  obtain ⟨hfc_s3, hm_s3, hp5, hTK_s3, hRCO_s3⟩ := hp4
  have hf_s3 : fr [34, 53, 54, 55, 56, 57, 58] s0 s3 := hf_s0.call (by decide) hfc_s3
  have L39 : ∀ (n40 : Nat) (v37 : Int) (s38 : gMem), ((in32 v37) ∧ (fr [34, 53, 54, 55, 56, 57, 58] s0 s38) ∧ (gMR lgX s38) ∧ (TK s38) ∧ (RCO s38) ∧ (0 ≤ v37 ∧ v37 ≤ 160)) → 160 - v37 < (n40 : Int) → (∀ (w41 : Int) (s42 : gMem), (w_X3_readSum_1_7 x0 n40 v37 s38) = (w41, s42) → ((in32 w41) ∧ (fr [34, 53, 54, 55, 56, 57, 58] s0 s42) ∧ (gMR lgX s42) ∧ (TK s42) ∧ (RCO s42) ∧ (0 ≤ w41 ∧ w41 ≤ 160)) → (fr [34, 53, 54, 55, 56, 57, 58] s0 sZ) ∧ (gMR lgX sZ) ∧ (True) ∧ (TK sZ) ∧ (RCO sZ)) → (fr [34, 53, 54, 55, 56, 57, 58] s0 sZ) ∧ (gMR lgX sZ) ∧ (True) ∧ (TK sZ) ∧ (RCO sZ) := by
    intro n40; induction n40 with
    | zero =>
      intro v37 s38 hq hm hk
      exfalso
      obtain ⟨hq71, hf_s38, hm_s38, hTK_s38, hRCO_s38, hq72⟩ := hq
      omega
    | succ n40 ih =>
      intro v37 s38 hq hm hk
      obtain ⟨hq73, hf_s38, hm_s38, hTK_s38, hRCO_s38, hq74⟩ := hq
      have hT := w_X3_readSum_1_7_s x0 n40 v37 s38
      by_cases h43 : v37 < 160
      · replace hT := hT.trans (if_pos h43)
        have hr44 := (hm_s38 55 0).1 rfl
        obtain ⟨j46c, hj46c, hT⟩ := gjx hT
        have j46 : (True) → (w_X3_readSum_1_7 x0 (n40 + 1) v37 s38) = j46c  → (fr [34, 53, 54, 55, 56, 57, 58] s0 sZ) ∧ (gMR lgX sZ) ∧ (True) ∧ (TK sZ) ∧ (RCO sZ) := by
          intro  hq hT
          rw [hj46c] at hT
          have hr47 := (hm_s38 55 0).1 rfl
          obtain ⟨z68, hz68, hT⟩ := gl1x hT
          have j49 : ∀ (v50 : Int), ((in32 v50) ∧ (-12 ≤ v50 ∧ v50 ≤ -11)) → z68 = v50 → (fr [34, 53, 54, 55, 56, 57, 58] s0 sZ) ∧ (gMR lgX sZ) ∧ (True) ∧ (TK sZ) ∧ (RCO sZ) := by
            intro v50 hq hz
            obtain ⟨hq66, hq67⟩ := hq
            replace hT := gl1y hT hz
            obtain ⟨r52, s53, hs53⟩ : ∃ rr ss, (f_X3_next  s38) = (rr, ss) := ⟨_, _, rfl⟩
            replace hT := gby hT hs53
            have hp54 := f_X3_next_p  s38  hm_s38 hTK_s38 r52 s53 hs53
            obtain ⟨hfc_s53, hm_s53, hp55, hTK_s53⟩ := hp54
            have hf_s53 : fr [34, 53, 54, 55, 56, 57, 58] s0 s53 := hf_s38.call (by decide) hfc_s53
            have hRCO_s53 : RCO s53 := RCO_fr hRCO_s38 (fun k hk => hfc_s53 k (dj (by decide) k hk))
            obtain ⟨r57, s58, hs58⟩ : ∃ rr ss, (f_X3_readTerm_1 x0 s53) = (rr, ss) := ⟨_, _, rfl⟩
            replace hT := gby hT hs58
            have hp59 := f_X3_readTerm_1_p x0 s53 (by omega) hm_s53 hTK_s53 hRCO_s53 (by first | assumption | omega) r57 s58 hs58
            obtain ⟨hfc_s58, hm_s58, hp60, hTK_s58, hRCO_s58⟩ := hp59
            have hf_s58 : fr [34, 53, 54, 55, 56, 57, 58] s0 s58 := hf_s53.call (by decide) hfc_s58
            obtain ⟨r62, s63, hs63⟩ : ∃ rr ss, (f_X3_emit v50 s58) = (rr, ss) := ⟨_, _, rfl⟩
            replace hT := gby hT hs63
            have hp64 := f_X3_emit_p v50 s58 (by omega) hm_s58 hTK_s58 hRCO_s58 (by first | assumption | omega) r62 s63 hs63
            obtain ⟨hfc_s63, hm_s63, hp65, hTK_s63, hRCO_s63⟩ := hp64
            have hf_s63 : fr [34, 53, 54, 55, 56, 57, 58] s0 s63 := hf_s58.call (by decide) hfc_s63
            exact ih (v37 + 1) s63 ⟨(by omega), hf_s63, hm_s63, hTK_s63, hRCO_s63, (by first | assumption | omega)⟩ (by omega) (fun w41 s42 hw hi => hk w41 s42 (hT.trans hw) hi)
          replace hT := hz68
          by_cases h48 : (s38 55 0) = 43
          · replace hT := hT.trans (if_pos h48)
            exact j49 (-11) ⟨(by omega), (by first | assumption | omega)⟩ hT
          · replace hT := hT.trans (if_neg h48)
            exact j49 (-12) ⟨(by omega), (by first | assumption | omega)⟩ hT
        by_cases h45 : (s38 55 0) = 43
        · replace hT := hT.trans (if_pos h45)
          exact j46  trivial hT
        · replace hT := hT.trans (if_neg h45)
          have hr69 := (hm_s38 55 0).1 rfl
          by_cases h70 : (s38 55 0) = 45
          · replace hT := hT.trans (if_pos h70)
            exact j46  trivial hT
          · replace hT := hT.trans (if_neg h70)
            exact hk v37 s38 hT ⟨(by omega), hf_s38, hm_s38, hTK_s38, hRCO_s38, (by first | assumption | omega)⟩
      · replace hT := hT.trans (if_neg h43)
        exact hk v37 s38 hT ⟨(by omega), hf_s38, hm_s38, hTK_s38, hRCO_s38, (by first | assumption | omega)⟩
  refine L39 161 0 s3 ⟨(by omega), hf_s3, hm_s3, hTK_s3, hRCO_s3, (by first | assumption | omega)⟩ (by omega) (fun v75 s76 hw hq => ?_)
  obtain ⟨hq77, hf_s76, hm_s76, hTK_s76, hRCO_s76, hq78⟩ := hq
  replace hT := gl2y hT hw
  obtain ⟨rfl, rfl⟩ := Prod.mk.inj (hT.symm.trans hres)
  exact ⟨hf_s76, hm_s76, trivial, hTK_s76, hRCO_s76⟩
set_option maxRecDepth 100000 in
set_option maxHeartbeats 4000000 in
theorem c_X3_readSum_1 (l : Launch) (D : va_G) (a : Nat → Nat) (cI cJ cS cT : ClassId) (adK adV : Nat → Nat) (kA : Nat) (s0 : gMem) (x0 : Int) (hx0 : in32 x0) (hpre0 : TK s0) (hpre1 : RCO s0) (hpre2 : x0 = 4) : gCS l yX3_readSum cX3_readSum 4 none 17 1088 D vwCl (gT cI cJ cS cT) (wdX a cI cJ cS cT) lgX kV rgV [.ref (a 2), gI x0] s0 (f_X3_readSum_1 x0 s0) adK adV kA := by
  refine gCS_of (by decide +kernel) (hwdX a cI cJ cS cT) (Nat.le_of_ble_eq_true rfl) ?_
  intro A p e R s m args below meth c hR E HX
  subst hR
  have hT := f_X3_readSum_1_e x0 s0
  have hf_s0 : fr [34, 53, 54, 55, 56, 57, 58] s0 s0 := fr.rf _ _
  refine k_lv0 (lv' := [(0, .ref (a 2)), (1, gI x0)]) rfl ?_
  refine k_mr (fun hm_s0 => ?_)
  have hTK_s0 := hpre0
  have hRCO_s0 := hpre1
  refine k_aloadn (pc := 0) E 0 dX3_readSum_0 rfl rfl ?_
  refine k_iloadn (pc := 1) E 1 dX3_readSum_1 rfl rfl ?_
  refine k_mr (fun hm_s0 => ?_)
  refine k_callVX (pc := 2) (np := 1) (As := [gI x0]) (st := []) (q0 := 2) E HX rfl rfl (c_X3_readTerm_1 l D a cI cJ cS cT adK adV kA s0 x0 (by omega) hTK_s0 hRCO_s0 (by first | assumption | omega)) wm_452 wm_3 wm_449 wm_451 wp_11 (by decide +kernel) ⟨by decide, by decide⟩ rfl (Nat.le_of_ble_eq_true rfl) dX3_readSum_2 (fun r2 s3 hs3 hr1 => ?_)
  replace hT := gby hT hs3
  have hp4 := f_X3_readTerm_1_p x0 s0 (by omega) hm_s0 hTK_s0 hRCO_s0 (by first | assumption | omega) r2 s3 hs3
  obtain ⟨hfc_s3, hm_s3, hp5, hTK_s3, hRCO_s3⟩ := hp4
  have hf_s3 : fr [34, 53, 54, 55, 56, 57, 58] s0 s3 := hf_s0.call (by decide) hfc_s3
  refine k_st (st' := []) rfl ?_
  refine k_iconst (pc := 5) E dX3_readSum_5 ?_
  refine k_istoren (pc := 6) (lv' := [(2, gI 0), (0, .ref (a 2)), (1, gI x0)]) E dX3_readSum_6 rfl (by decide) rfl ?_
  have L39 : ∀ (n40 : Nat) (v37 : Int) (s38 : gMem), ((in32 v37) ∧ (fr [34, 53, 54, 55, 56, 57, 58] s0 s38) ∧ (TK s38) ∧ (RCO s38) ∧ (0 ≤ v37 ∧ v37 ≤ 160)) → 160 - v37 < (n40 : Int) → (∀ (w41 : Int) (s42 : gMem), (w_X3_readSum_1_7 x0 n40 v37 s38) = (w41, s42) → ((in32 w41) ∧ (fr [34, 53, 54, 55, 56, 57, 58] s0 s42) ∧ (TK s42) ∧ (RCO s42) ∧ (0 ≤ w41 ∧ w41 ≤ 160)) → gK D vwCl (wdX a cI cJ cS cT) lgX A p l e { frames := 17, cells := 0, slots := 0, locals := 1088 } s m args below meth c 4 (gQQ D vwCl (wdX a cI cJ cS cT) lgX A kV rgV below args s) (f_X3_readSum_1 x0 s0) s42 69 [] []) → gK D vwCl (wdX a cI cJ cS cT) lgX A p l e { frames := 17, cells := 0, slots := 0, locals := 1088 } s m args below meth c 4 (gQQ D vwCl (wdX a cI cJ cS cT) lgX A kV rgV below args s) (f_X3_readSum_1 x0 s0) s38 7 [(0, .ref (a 2)), (1, gI x0), (2, gI v37)] [] := by
    intro n40; induction n40 with
    | zero =>
      intro v37 s38 hq hm hk
      exfalso
      obtain ⟨hq71, hf_s38, hTK_s38, hRCO_s38, hq72⟩ := hq
      omega
    | succ n40 ih =>
      intro v37 s38 hq hm hk
      obtain ⟨hq73, hf_s38, hTK_s38, hRCO_s38, hq74⟩ := hq
      have hT := w_X3_readSum_1_7_s x0 n40 v37 s38
      refine k_iloadn (pc := 7) E 2 dX3_readSum_7 rfl rfl ?_
      refine k_sipush (pc := 8) E dX3_readSum_8 (by decide) ?_
      by_cases h43 : v37 < 160
      · replace hT := hT.trans (if_pos h43)
        refine k_icmp_ge_f (pc := 11) (tgt := 69) E (by omega) (by omega) dX3_readSum_11 (by decide) h43 ?_
        refine k_aloadn (pc := 14) E 0 dX3_readSum_14 rfl rfl ?_
        refine k_getfI (pc := 15) (q0 := 2) (f := 6) (k := 55) E inX3 rfl rfl (by decide) wm_65 rfl rfl rfl dX3_readSum_15 (fun hr44 => ?_)
        refine k_bipush (pc := 18) E dX3_readSum_18 (by decide) ?_
        obtain ⟨j46c, hj46c, hT⟩ := gjx hT
        have j46 : (True) → (w_X3_readSum_1_7 x0 (n40 + 1) v37 s38) = j46c  → gK D vwCl (wdX a cI cJ cS cT) lgX A p l e { frames := 17, cells := 0, slots := 0, locals := 1088 } s m args below meth c 4 (gQQ D vwCl (wdX a cI cJ cS cT) lgX A kV rgV below args s) (f_X3_readSum_1 x0 s0) s38 32 [(0, .ref (a 2)), (1, gI x0), (2, gI v37)] [] := by
          intro  hq hT
          rw [hj46c] at hT
          refine k_aloadn (pc := 32) E 0 dX3_readSum_32 rfl rfl ?_
          refine k_getfI (pc := 33) (q0 := 2) (f := 6) (k := 55) E inX3 rfl rfl (by decide) wm_65 rfl rfl rfl dX3_readSum_33 (fun hr47 => ?_)
          refine k_bipush (pc := 36) E dX3_readSum_36 (by decide) ?_
          obtain ⟨z68, hz68, hT⟩ := gl1x hT
          have j49 : ∀ (v50 : Int), ((in32 v50) ∧ (-12 ≤ v50 ∧ v50 ≤ -11)) → z68 = v50 → gK D vwCl (wdX a cI cJ cS cT) lgX A p l e { frames := 17, cells := 0, slots := 0, locals := 1088 } s m args below meth c 4 (gQQ D vwCl (wdX a cI cJ cS cT) lgX A kV rgV below args s) (f_X3_readSum_1 x0 s0) s38 48 [(0, .ref (a 2)), (1, gI x0), (2, gI v37)] [gI v50] := by
            intro v50 hq hz
            obtain ⟨hq66, hq67⟩ := hq
            replace hT := gl1y hT hz
            refine k_istoren (pc := 48) (lv' := [(3, gI v50), (0, .ref (a 2)), (1, gI x0), (2, gI v37)]) E dX3_readSum_48 rfl (by decide) rfl ?_
            refine k_aloadn (pc := 49) E 1 dX3_readSum_49 rfl rfl ?_
            refine k_mr (fun hm_s38 => ?_)
            refine k_callVX (pc := 50) (np := 0) (As := []) (st := []) (q0 := 2) E HX rfl rfl (c_X3_next l D a cI cJ cS cT adK adV kA s38  hTK_s38) wm_336 wm_3 wm_333 wm_335 wp_0 (by decide +kernel) ⟨by decide, by decide⟩ rfl (Nat.le_of_ble_eq_true rfl) dX3_readSum_50 (fun r52 s53 hs53 hr51 => ?_)
            replace hT := gby hT hs53
            have hp54 := f_X3_next_p  s38  hm_s38 hTK_s38 r52 s53 hs53
            obtain ⟨hfc_s53, hm_s53, hp55, hTK_s53⟩ := hp54
            have hf_s53 : fr [34, 53, 54, 55, 56, 57, 58] s0 s53 := hf_s38.call (by decide) hfc_s53
            have hRCO_s53 : RCO s53 := RCO_fr hRCO_s38 (fun k hk => hfc_s53 k (dj (by decide) k hk))
            refine k_st (st' := []) rfl ?_
            refine k_aloadn (pc := 53) E 1 dX3_readSum_53 rfl rfl ?_
            refine k_iloadn (pc := 54) E 2 dX3_readSum_54 rfl rfl ?_
            refine k_mr (fun hm_s53 => ?_)
            refine k_callVX (pc := 55) (np := 1) (As := [gI x0]) (st := []) (q0 := 2) E HX rfl rfl (c_X3_readTerm_1 l D a cI cJ cS cT adK adV kA s53 x0 (by omega) hTK_s53 hRCO_s53 (by first | assumption | omega)) wm_452 wm_3 wm_449 wm_451 wp_11 (by decide +kernel) ⟨by decide, by decide⟩ rfl (Nat.le_of_ble_eq_true rfl) dX3_readSum_55 (fun r57 s58 hs58 hr56 => ?_)
            replace hT := gby hT hs58
            have hp59 := f_X3_readTerm_1_p x0 s53 (by omega) hm_s53 hTK_s53 hRCO_s53 (by first | assumption | omega) r57 s58 hs58
            obtain ⟨hfc_s58, hm_s58, hp60, hTK_s58, hRCO_s58⟩ := hp59
            have hf_s58 : fr [34, 53, 54, 55, 56, 57, 58] s0 s58 := hf_s53.call (by decide) hfc_s58
            refine k_st (st' := []) rfl ?_
            refine k_aloadn (pc := 58) E 1 dX3_readSum_58 rfl rfl ?_
            refine k_iloadn (pc := 59) E 0 dX3_readSum_59 rfl rfl ?_
            refine k_mr (fun hm_s58 => ?_)
            refine k_callV (pc := 60) (np := 1) (As := [gI v50]) (st := []) (q0 := 2) E (c_X3_emit l D a cI cJ cS cT s58 v50 (by omega) hTK_s58 hRCO_s58 (by first | assumption | omega)) wm_460 wm_3 wm_457 wm_459 wp_13 (by decide +kernel) rfl rfl ⟨by decide, by decide⟩ rfl (Nat.le_of_ble_eq_true rfl) dX3_readSum_60 (fun r62 s63 hs63 hr61 => ?_)
            replace hT := gby hT hs63
            have hp64 := f_X3_emit_p v50 s58 (by omega) hm_s58 hTK_s58 hRCO_s58 (by first | assumption | omega) r62 s63 hs63
            obtain ⟨hfc_s63, hm_s63, hp65, hTK_s63, hRCO_s63⟩ := hp64
            have hf_s63 : fr [34, 53, 54, 55, 56, 57, 58] s0 s63 := hf_s58.call (by decide) hfc_s63
            refine k_st (st' := []) rfl ?_
            refine k_iinc (pc := 63) (lv' := [(2, gI (v37 + 1)), (3, gI v50), (0, .ref (a 2)), (1, gI x0)]) E 3 dX3_readSum_63 rfl (by decide) rfl ?_
            refine k_goto (pc := 66) (tgt := 7) E dX3_readSum_66 (by decide) ?_
            refine k_lv (lv' := [(0, .ref (a 2)), (1, gI x0), (2, gI (v37 + 1))]) [2, 3, 0] rfl ?_
            exact ih (v37 + 1) s63 ⟨(by omega), hf_s63, hTK_s63, hRCO_s63, (by first | assumption | omega)⟩ (by omega) (fun w41 s42 hw hi => hk w41 s42 (hT.trans hw) hi)
          replace hT := hz68
          by_cases h48 : (s38 55 0) = 43
          · replace hT := hT.trans (if_pos h48)
            refine k_icmp_ne_f (pc := 38) (tgt := 46) E (by omega) (by omega) dX3_readSum_38 (by decide) h48 ?_
            refine k_bipush (pc := 41) E dX3_readSum_41 (by decide) ?_
            refine k_goto (pc := 43) (tgt := 48) E dX3_readSum_43 (by decide) ?_
            exact j49 (-11) ⟨(by omega), (by first | assumption | omega)⟩ hT
          · replace hT := hT.trans (if_neg h48)
            refine k_icmp_ne_t (pc := 38) (tgt := 46) E (by omega) (by omega) dX3_readSum_38 (by decide) h48 ?_
            refine k_bipush (pc := 46) E dX3_readSum_46 (by decide) ?_
            exact j49 (-12) ⟨(by omega), (by first | assumption | omega)⟩ hT
        by_cases h45 : (s38 55 0) = 43
        · replace hT := hT.trans (if_pos h45)
          refine k_icmp_eq_t (pc := 20) (tgt := 32) E (by omega) (by omega) dX3_readSum_20 (by decide) h45 ?_
          exact j46  trivial hT
        · replace hT := hT.trans (if_neg h45)
          refine k_icmp_eq_f (pc := 20) (tgt := 32) E (by omega) (by omega) dX3_readSum_20 (by decide) h45 ?_
          refine k_aloadn (pc := 23) E 0 dX3_readSum_23 rfl rfl ?_
          refine k_getfI (pc := 24) (q0 := 2) (f := 6) (k := 55) E inX3 rfl rfl (by decide) wm_65 rfl rfl rfl dX3_readSum_24 (fun hr69 => ?_)
          refine k_bipush (pc := 27) E dX3_readSum_27 (by decide) ?_
          by_cases h70 : (s38 55 0) = 45
          · replace hT := hT.trans (if_pos h70)
            refine k_icmp_ne_f (pc := 29) (tgt := 69) E (by omega) (by omega) dX3_readSum_29 (by decide) h70 ?_
            exact j46  trivial hT
          · replace hT := hT.trans (if_neg h70)
            refine k_icmp_ne_t (pc := 29) (tgt := 69) E (by omega) (by omega) dX3_readSum_29 (by decide) h70 ?_
            refine k_lv (lv' := []) [] rfl ?_
            exact hk v37 s38 hT ⟨(by omega), hf_s38, hTK_s38, hRCO_s38, (by first | assumption | omega)⟩
      · replace hT := hT.trans (if_neg h43)
        refine k_icmp_ge_t (pc := 11) (tgt := 69) E (by omega) (by omega) dX3_readSum_11 (by decide) h43 ?_
        refine k_lv (lv' := []) [] rfl ?_
        exact hk v37 s38 hT ⟨(by omega), hf_s38, hTK_s38, hRCO_s38, (by first | assumption | omega)⟩
  refine k_lv (lv' := [(0, .ref (a 2)), (1, gI x0), (2, gI 0)]) [1, 2, 0] rfl ?_
  refine L39 161 0 s3 ⟨(by omega), hf_s3, hTK_s3, hRCO_s3, (by first | assumption | omega)⟩ (by omega) (fun v75 s76 hw hq => ?_)
  obtain ⟨hq77, hf_s76, hTK_s76, hRCO_s76, hq78⟩ := hq
  replace hT := gl2y hT hw
  exact k_rho hT (k_vret (pc := 69) E dX3_readSum_69)

def f_X3_readCompared_1 (x0 : Int) (s0 : gMem) : gRes := gb (f_X3_readSum_1 x0 s0) (fun r2 s3 => (gj (fun j8c => (if (s3 55 0) = 60 then j8c else (if (s3 55 0) = 61 then j8c else (0, s3)))) ((gl ((if (s3 55 0) = 60 then (-9) else (-10))) (fun v12 => gb (f_X3_next  s3) (fun r14 s15 => gb (f_X3_readSum_1 x0 s15) (fun r19 s20 => gb (f_X3_emit v12 s20) (fun r24 s25 => (0, s25)))))))))
theorem f_X3_readCompared_1_e (x0 : Int) (s0 : gMem) : f_X3_readCompared_1 x0 s0 = gb (f_X3_readSum_1 x0 s0) (fun r2 s3 => (gj (fun j8c => (if (s3 55 0) = 60 then j8c else (if (s3 55 0) = 61 then j8c else (0, s3)))) ((gl ((if (s3 55 0) = 60 then (-9) else (-10))) (fun v12 => gb (f_X3_next  s3) (fun r14 s15 => gb (f_X3_readSum_1 x0 s15) (fun r19 s20 => gb (f_X3_emit v12 s20) (fun r24 s25 => (0, s25))))))))) := rfl
set_option maxRecDepth 100000 in
set_option maxHeartbeats 4000000 in
theorem f_X3_readCompared_1_p (x0 : Int) (s0 : gMem) (hx0 : in32 x0) (hm_s0 : gMR lgX s0) (hpre0 : TK s0) (hpre1 : RCO s0) (hpre2 : x0 = 4) (rZ : Int) (sZ : gMem) (hres : f_X3_readCompared_1 x0 s0 = (rZ, sZ)) : (fr [34, 53, 54, 55, 56, 57, 58] s0 sZ) ∧ (gMR lgX sZ) ∧ (True) ∧ (TK sZ) ∧ (RCO sZ) := by
  have hT := f_X3_readCompared_1_e x0 s0
  have hf_s0 : fr [34, 53, 54, 55, 56, 57, 58] s0 s0 := fr.rf _ _
  have hTK_s0 := hpre0
  have hRCO_s0 := hpre1
  obtain ⟨r2, s3, hs3⟩ : ∃ rr ss, (f_X3_readSum_1 x0 s0) = (rr, ss) := ⟨_, _, rfl⟩
  replace hT := gby hT hs3
  have hp4 := f_X3_readSum_1_p x0 s0 (by omega) hm_s0 hTK_s0 hRCO_s0 (by first | assumption | omega) r2 s3 hs3
  obtain ⟨hfc_s3, hm_s3, hp5, hTK_s3, hRCO_s3⟩ := hp4
  have hf_s3 : fr [34, 53, 54, 55, 56, 57, 58] s0 s3 := hf_s0.call (by decide) hfc_s3
  have hr6 := (hm_s3 55 0).1 rfl
  obtain ⟨j8c, hj8c, hT⟩ := gjx hT
  have j8 : (True) → (f_X3_readCompared_1 x0 s0) = j8c  → (fr [34, 53, 54, 55, 56, 57, 58] s0 sZ) ∧ (gMR lgX sZ) ∧ (True) ∧ (TK sZ) ∧ (RCO sZ) := by
    intro  hq hT
    rw [hj8c] at hT
    have hr9 := (hm_s3 55 0).1 rfl
    obtain ⟨z30, hz30, hT⟩ := gl1x hT
    have j11 : ∀ (v12 : Int), ((in32 v12) ∧ (-10 ≤ v12 ∧ v12 ≤ -9)) → z30 = v12 → (fr [34, 53, 54, 55, 56, 57, 58] s0 sZ) ∧ (gMR lgX sZ) ∧ (True) ∧ (TK sZ) ∧ (RCO sZ) := by
      intro v12 hq hz
      obtain ⟨hq28, hq29⟩ := hq
      replace hT := gl1y hT hz
      obtain ⟨r14, s15, hs15⟩ : ∃ rr ss, (f_X3_next  s3) = (rr, ss) := ⟨_, _, rfl⟩
      replace hT := gby hT hs15
      have hp16 := f_X3_next_p  s3  hm_s3 hTK_s3 r14 s15 hs15
      obtain ⟨hfc_s15, hm_s15, hp17, hTK_s15⟩ := hp16
      have hf_s15 : fr [34, 53, 54, 55, 56, 57, 58] s0 s15 := hf_s3.call (by decide) hfc_s15
      have hRCO_s15 : RCO s15 := RCO_fr hRCO_s3 (fun k hk => hfc_s15 k (dj (by decide) k hk))
      obtain ⟨r19, s20, hs20⟩ : ∃ rr ss, (f_X3_readSum_1 x0 s15) = (rr, ss) := ⟨_, _, rfl⟩
      replace hT := gby hT hs20
      have hp21 := f_X3_readSum_1_p x0 s15 (by omega) hm_s15 hTK_s15 hRCO_s15 (by first | assumption | omega) r19 s20 hs20
      obtain ⟨hfc_s20, hm_s20, hp22, hTK_s20, hRCO_s20⟩ := hp21
      have hf_s20 : fr [34, 53, 54, 55, 56, 57, 58] s0 s20 := hf_s15.call (by decide) hfc_s20
      obtain ⟨r24, s25, hs25⟩ : ∃ rr ss, (f_X3_emit v12 s20) = (rr, ss) := ⟨_, _, rfl⟩
      replace hT := gby hT hs25
      have hp26 := f_X3_emit_p v12 s20 (by omega) hm_s20 hTK_s20 hRCO_s20 (by first | assumption | omega) r24 s25 hs25
      obtain ⟨hfc_s25, hm_s25, hp27, hTK_s25, hRCO_s25⟩ := hp26
      have hf_s25 : fr [34, 53, 54, 55, 56, 57, 58] s0 s25 := hf_s20.call (by decide) hfc_s25
      obtain ⟨rfl, rfl⟩ := Prod.mk.inj (hT.symm.trans hres)
      exact ⟨hf_s25, hm_s25, trivial, hTK_s25, hRCO_s25⟩
    replace hT := hz30
    by_cases h10 : (s3 55 0) = 60
    · replace hT := hT.trans (if_pos h10)
      exact j11 (-9) ⟨(by omega), (by first | assumption | omega)⟩ hT
    · replace hT := hT.trans (if_neg h10)
      exact j11 (-10) ⟨(by omega), (by first | assumption | omega)⟩ hT
  by_cases h7 : (s3 55 0) = 60
  · replace hT := hT.trans (if_pos h7)
    exact j8  trivial hT
  · replace hT := hT.trans (if_neg h7)
    have hr31 := (hm_s3 55 0).1 rfl
    by_cases h32 : (s3 55 0) = 61
    · replace hT := hT.trans (if_pos h32)
      exact j8  trivial hT
    · replace hT := hT.trans (if_neg h32)
      obtain ⟨rfl, rfl⟩ := Prod.mk.inj (hT.symm.trans hres)
      exact ⟨hf_s3, hm_s3, trivial, hTK_s3, hRCO_s3⟩
set_option maxRecDepth 100000 in
set_option maxHeartbeats 4000000 in
theorem c_X3_readCompared_1 (l : Launch) (D : va_G) (a : Nat → Nat) (cI cJ cS cT : ClassId) (adK adV : Nat → Nat) (kA : Nat) (s0 : gMem) (x0 : Int) (hx0 : in32 x0) (hpre0 : TK s0) (hpre1 : RCO s0) (hpre2 : x0 = 4) : gCS l yX3_readCompared cX3_readCompared 3 none 18 1152 D vwCl (gT cI cJ cS cT) (wdX a cI cJ cS cT) lgX kV rgV [.ref (a 2), gI x0] s0 (f_X3_readCompared_1 x0 s0) adK adV kA := by
  refine gCS_of (by decide +kernel) (hwdX a cI cJ cS cT) (Nat.le_of_ble_eq_true rfl) ?_
  intro A p e R s m args below meth c hR E HX
  subst hR
  have hT := f_X3_readCompared_1_e x0 s0
  have hf_s0 : fr [34, 53, 54, 55, 56, 57, 58] s0 s0 := fr.rf _ _
  refine k_lv0 (lv' := [(0, .ref (a 2)), (1, gI x0)]) rfl ?_
  refine k_mr (fun hm_s0 => ?_)
  have hTK_s0 := hpre0
  have hRCO_s0 := hpre1
  refine k_aloadn (pc := 0) E 0 dX3_readCompared_0 rfl rfl ?_
  refine k_iloadn (pc := 1) E 1 dX3_readCompared_1 rfl rfl ?_
  refine k_mr (fun hm_s0 => ?_)
  refine k_callVX (pc := 2) (np := 1) (As := [gI x0]) (st := []) (q0 := 2) E HX rfl rfl (c_X3_readSum_1 l D a cI cJ cS cT adK adV kA s0 x0 (by omega) hTK_s0 hRCO_s0 (by first | assumption | omega)) wm_448 wm_3 wm_445 wm_447 wp_10 (by decide +kernel) ⟨by decide, by decide⟩ rfl (Nat.le_of_ble_eq_true rfl) dX3_readCompared_2 (fun r2 s3 hs3 hr1 => ?_)
  replace hT := gby hT hs3
  have hp4 := f_X3_readSum_1_p x0 s0 (by omega) hm_s0 hTK_s0 hRCO_s0 (by first | assumption | omega) r2 s3 hs3
  obtain ⟨hfc_s3, hm_s3, hp5, hTK_s3, hRCO_s3⟩ := hp4
  have hf_s3 : fr [34, 53, 54, 55, 56, 57, 58] s0 s3 := hf_s0.call (by decide) hfc_s3
  refine k_st (st' := []) rfl ?_
  refine k_aloadn (pc := 5) E 0 dX3_readCompared_5 rfl rfl ?_
  refine k_getfI (pc := 6) (q0 := 2) (f := 6) (k := 55) E inX3 rfl rfl (by decide) wm_65 rfl rfl rfl dX3_readCompared_6 (fun hr6 => ?_)
  refine k_bipush (pc := 9) E dX3_readCompared_9 (by decide) ?_
  obtain ⟨j8c, hj8c, hT⟩ := gjx hT
  have j8 : (True) → (f_X3_readCompared_1 x0 s0) = j8c  → gK D vwCl (wdX a cI cJ cS cT) lgX A p l e { frames := 18, cells := 0, slots := 0, locals := 1152 } s m args below meth c 3 (gQQ D vwCl (wdX a cI cJ cS cT) lgX A kV rgV below args s) (f_X3_readCompared_1 x0 s0) s3 23 [(0, .ref (a 2)), (1, gI x0)] [] := by
    intro  hq hT
    rw [hj8c] at hT
    refine k_aloadn (pc := 23) E 0 dX3_readCompared_23 rfl rfl ?_
    refine k_getfI (pc := 24) (q0 := 2) (f := 6) (k := 55) E inX3 rfl rfl (by decide) wm_65 rfl rfl rfl dX3_readCompared_24 (fun hr9 => ?_)
    refine k_bipush (pc := 27) E dX3_readCompared_27 (by decide) ?_
    obtain ⟨z30, hz30, hT⟩ := gl1x hT
    have j11 : ∀ (v12 : Int), ((in32 v12) ∧ (-10 ≤ v12 ∧ v12 ≤ -9)) → z30 = v12 → gK D vwCl (wdX a cI cJ cS cT) lgX A p l e { frames := 18, cells := 0, slots := 0, locals := 1152 } s m args below meth c 3 (gQQ D vwCl (wdX a cI cJ cS cT) lgX A kV rgV below args s) (f_X3_readCompared_1 x0 s0) s3 39 [(0, .ref (a 2)), (1, gI x0)] [gI v12] := by
      intro v12 hq hz
      obtain ⟨hq28, hq29⟩ := hq
      replace hT := gl1y hT hz
      refine k_istoren (pc := 39) (lv' := [(2, gI v12), (0, .ref (a 2)), (1, gI x0)]) E dX3_readCompared_39 rfl (by decide) rfl ?_
      refine k_aloadn (pc := 40) E 1 dX3_readCompared_40 rfl rfl ?_
      refine k_mr (fun hm_s3 => ?_)
      refine k_callVX (pc := 41) (np := 0) (As := []) (st := []) (q0 := 2) E HX rfl rfl (c_X3_next l D a cI cJ cS cT adK adV kA s3  hTK_s3) wm_336 wm_3 wm_333 wm_335 wp_0 (by decide +kernel) ⟨by decide, by decide⟩ rfl (Nat.le_of_ble_eq_true rfl) dX3_readCompared_41 (fun r14 s15 hs15 hr13 => ?_)
      replace hT := gby hT hs15
      have hp16 := f_X3_next_p  s3  hm_s3 hTK_s3 r14 s15 hs15
      obtain ⟨hfc_s15, hm_s15, hp17, hTK_s15⟩ := hp16
      have hf_s15 : fr [34, 53, 54, 55, 56, 57, 58] s0 s15 := hf_s3.call (by decide) hfc_s15
      have hRCO_s15 : RCO s15 := RCO_fr hRCO_s3 (fun k hk => hfc_s15 k (dj (by decide) k hk))
      refine k_st (st' := []) rfl ?_
      refine k_aloadn (pc := 44) E 1 dX3_readCompared_44 rfl rfl ?_
      refine k_iloadn (pc := 45) E 2 dX3_readCompared_45 rfl rfl ?_
      refine k_mr (fun hm_s15 => ?_)
      refine k_callVX (pc := 46) (np := 1) (As := [gI x0]) (st := []) (q0 := 2) E HX rfl rfl (c_X3_readSum_1 l D a cI cJ cS cT adK adV kA s15 x0 (by omega) hTK_s15 hRCO_s15 (by first | assumption | omega)) wm_448 wm_3 wm_445 wm_447 wp_10 (by decide +kernel) ⟨by decide, by decide⟩ rfl (Nat.le_of_ble_eq_true rfl) dX3_readCompared_46 (fun r19 s20 hs20 hr18 => ?_)
      replace hT := gby hT hs20
      have hp21 := f_X3_readSum_1_p x0 s15 (by omega) hm_s15 hTK_s15 hRCO_s15 (by first | assumption | omega) r19 s20 hs20
      obtain ⟨hfc_s20, hm_s20, hp22, hTK_s20, hRCO_s20⟩ := hp21
      have hf_s20 : fr [34, 53, 54, 55, 56, 57, 58] s0 s20 := hf_s15.call (by decide) hfc_s20
      refine k_st (st' := []) rfl ?_
      refine k_aloadn (pc := 49) E 1 dX3_readCompared_49 rfl rfl ?_
      refine k_iloadn (pc := 50) E 0 dX3_readCompared_50 rfl rfl ?_
      refine k_mr (fun hm_s20 => ?_)
      refine k_callV (pc := 51) (np := 1) (As := [gI v12]) (st := []) (q0 := 2) E (c_X3_emit l D a cI cJ cS cT s20 v12 (by omega) hTK_s20 hRCO_s20 (by first | assumption | omega)) wm_460 wm_3 wm_457 wm_459 wp_13 (by decide +kernel) rfl rfl ⟨by decide, by decide⟩ rfl (Nat.le_of_ble_eq_true rfl) dX3_readCompared_51 (fun r24 s25 hs25 hr23 => ?_)
      replace hT := gby hT hs25
      have hp26 := f_X3_emit_p v12 s20 (by omega) hm_s20 hTK_s20 hRCO_s20 (by first | assumption | omega) r24 s25 hs25
      obtain ⟨hfc_s25, hm_s25, hp27, hTK_s25, hRCO_s25⟩ := hp26
      have hf_s25 : fr [34, 53, 54, 55, 56, 57, 58] s0 s25 := hf_s20.call (by decide) hfc_s25
      refine k_st (st' := []) rfl ?_
      exact k_rho hT (k_vret (pc := 54) E dX3_readCompared_54)
    replace hT := hz30
    by_cases h10 : (s3 55 0) = 60
    · replace hT := hT.trans (if_pos h10)
      refine k_icmp_ne_f (pc := 29) (tgt := 37) E (by omega) (by omega) dX3_readCompared_29 (by decide) h10 ?_
      refine k_bipush (pc := 32) E dX3_readCompared_32 (by decide) ?_
      refine k_goto (pc := 34) (tgt := 39) E dX3_readCompared_34 (by decide) ?_
      exact j11 (-9) ⟨(by omega), (by first | assumption | omega)⟩ hT
    · replace hT := hT.trans (if_neg h10)
      refine k_icmp_ne_t (pc := 29) (tgt := 37) E (by omega) (by omega) dX3_readCompared_29 (by decide) h10 ?_
      refine k_bipush (pc := 37) E dX3_readCompared_37 (by decide) ?_
      exact j11 (-10) ⟨(by omega), (by first | assumption | omega)⟩ hT
  by_cases h7 : (s3 55 0) = 60
  · replace hT := hT.trans (if_pos h7)
    refine k_icmp_eq_t (pc := 11) (tgt := 23) E (by omega) (by omega) dX3_readCompared_11 (by decide) h7 ?_
    exact j8  trivial hT
  · replace hT := hT.trans (if_neg h7)
    refine k_icmp_eq_f (pc := 11) (tgt := 23) E (by omega) (by omega) dX3_readCompared_11 (by decide) h7 ?_
    refine k_aloadn (pc := 14) E 0 dX3_readCompared_14 rfl rfl ?_
    refine k_getfI (pc := 15) (q0 := 2) (f := 6) (k := 55) E inX3 rfl rfl (by decide) wm_65 rfl rfl rfl dX3_readCompared_15 (fun hr31 => ?_)
    refine k_bipush (pc := 18) E dX3_readCompared_18 (by decide) ?_
    by_cases h32 : (s3 55 0) = 61
    · replace hT := hT.trans (if_pos h32)
      refine k_icmp_ne_f (pc := 20) (tgt := 54) E (by omega) (by omega) dX3_readCompared_20 (by decide) h32 ?_
      exact j8  trivial hT
    · replace hT := hT.trans (if_neg h32)
      refine k_icmp_ne_t (pc := 20) (tgt := 54) E (by omega) (by omega) dX3_readCompared_20 (by decide) h32 ?_
      exact k_rho hT (k_vret (pc := 54) E dX3_readCompared_54)

def f_X3_readNot_1 (x0 : Int) (s0 : gMem) : gRes := (if (s0 55 0) = 261 then (if x0 < 5 then gb (f_X3_next  s0) (fun r5 s6 => gb (f_X3_readNot_0 (x0 + 1) s6) (fun r10 s11 => gb (f_X3_emit (-14) s11) (fun r15 s16 => (0, s16)))) else gb (f_X3_fail  s0) (fun r20 s21 => (0, s21))) else gb (f_X3_readCompared_1 x0 s0) (fun r26 s27 => (0, s27)))
theorem f_X3_readNot_1_e (x0 : Int) (s0 : gMem) : f_X3_readNot_1 x0 s0 = (if (s0 55 0) = 261 then (if x0 < 5 then gb (f_X3_next  s0) (fun r5 s6 => gb (f_X3_readNot_0 (x0 + 1) s6) (fun r10 s11 => gb (f_X3_emit (-14) s11) (fun r15 s16 => (0, s16)))) else gb (f_X3_fail  s0) (fun r20 s21 => (0, s21))) else gb (f_X3_readCompared_1 x0 s0) (fun r26 s27 => (0, s27))) := rfl
set_option maxRecDepth 100000 in
set_option maxHeartbeats 4000000 in
theorem f_X3_readNot_1_p (x0 : Int) (s0 : gMem) (hx0 : in32 x0) (hm_s0 : gMR lgX s0) (hpre0 : TK s0) (hpre1 : RCO s0) (hpre2 : x0 = 4) (rZ : Int) (sZ : gMem) (hres : f_X3_readNot_1 x0 s0 = (rZ, sZ)) : (fr [34, 53, 54, 55, 56, 57, 58] s0 sZ) ∧ (gMR lgX sZ) ∧ (True) ∧ (TK sZ) ∧ (RCO sZ) := by
  have hT := f_X3_readNot_1_e x0 s0
  have hf_s0 : fr [34, 53, 54, 55, 56, 57, 58] s0 s0 := fr.rf _ _
  have hTK_s0 := hpre0
  have hRCO_s0 := hpre1
  have hr1 := (hm_s0 55 0).1 rfl
  by_cases h2 : (s0 55 0) = 261
  · replace hT := hT.trans (if_pos h2)
    by_cases h3 : x0 < 5
    · replace hT := hT.trans (if_pos h3)
      obtain ⟨r5, s6, hs6⟩ : ∃ rr ss, (f_X3_next  s0) = (rr, ss) := ⟨_, _, rfl⟩
      replace hT := gby hT hs6
      have hp7 := f_X3_next_p  s0  hm_s0 hTK_s0 r5 s6 hs6
      obtain ⟨hfc_s6, hm_s6, hp8, hTK_s6⟩ := hp7
      have hf_s6 : fr [34, 53, 54, 55, 56, 57, 58] s0 s6 := hf_s0.call (by decide) hfc_s6
      have hRCO_s6 : RCO s6 := RCO_fr hRCO_s0 (fun k hk => hfc_s6 k (dj (by decide) k hk))
      obtain ⟨r10, s11, hs11⟩ : ∃ rr ss, (f_X3_readNot_0 (x0 + 1) s6) = (rr, ss) := ⟨_, _, rfl⟩
      replace hT := gby hT hs11
      have hp12 := f_X3_readNot_0_p (x0 + 1) s6 (by omega) hm_s6 hTK_s6 hRCO_s6 (by first | assumption | omega) r10 s11 hs11
      obtain ⟨hfc_s11, hm_s11, hp13, hTK_s11, hRCO_s11⟩ := hp12
      have hf_s11 : fr [34, 53, 54, 55, 56, 57, 58] s0 s11 := hf_s6.call (by decide) hfc_s11
      obtain ⟨r15, s16, hs16⟩ : ∃ rr ss, (f_X3_emit (-14) s11) = (rr, ss) := ⟨_, _, rfl⟩
      replace hT := gby hT hs16
      have hp17 := f_X3_emit_p (-14) s11 (by omega) hm_s11 hTK_s11 hRCO_s11 (by first | assumption | omega) r15 s16 hs16
      obtain ⟨hfc_s16, hm_s16, hp18, hTK_s16, hRCO_s16⟩ := hp17
      have hf_s16 : fr [34, 53, 54, 55, 56, 57, 58] s0 s16 := hf_s11.call (by decide) hfc_s16
      obtain ⟨rfl, rfl⟩ := Prod.mk.inj (hT.symm.trans hres)
      exact ⟨hf_s16, hm_s16, trivial, hTK_s16, hRCO_s16⟩
    · replace hT := hT.trans (if_neg h3)
      obtain ⟨r20, s21, hs21⟩ : ∃ rr ss, (f_X3_fail  s0) = (rr, ss) := ⟨_, _, rfl⟩
      replace hT := gby hT hs21
      have hp22 := f_X3_fail_p  s0  hm_s0 hTK_s0 r20 s21 hs21
      obtain ⟨hfc_s21, hm_s21, hp23, hTK_s21, hp24⟩ := hp22
      have hf_s21 : fr [34, 53, 54, 55, 56, 57, 58] s0 s21 := hf_s0.call (by decide) hfc_s21
      have hRCO_s21 : RCO s21 := RCO_fr hRCO_s0 (fun k hk => hfc_s21 k (dj (by decide) k hk))
      obtain ⟨rfl, rfl⟩ := Prod.mk.inj (hT.symm.trans hres)
      exact ⟨hf_s21, hm_s21, trivial, hTK_s21, hRCO_s21⟩
  · replace hT := hT.trans (if_neg h2)
    obtain ⟨r26, s27, hs27⟩ : ∃ rr ss, (f_X3_readCompared_1 x0 s0) = (rr, ss) := ⟨_, _, rfl⟩
    replace hT := gby hT hs27
    have hp28 := f_X3_readCompared_1_p x0 s0 (by omega) hm_s0 hTK_s0 hRCO_s0 (by first | assumption | omega) r26 s27 hs27
    obtain ⟨hfc_s27, hm_s27, hp29, hTK_s27, hRCO_s27⟩ := hp28
    have hf_s27 : fr [34, 53, 54, 55, 56, 57, 58] s0 s27 := hf_s0.call (by decide) hfc_s27
    obtain ⟨rfl, rfl⟩ := Prod.mk.inj (hT.symm.trans hres)
    exact ⟨hf_s27, hm_s27, trivial, hTK_s27, hRCO_s27⟩
set_option maxRecDepth 100000 in
set_option maxHeartbeats 4000000 in
theorem c_X3_readNot_1 (l : Launch) (D : va_G) (a : Nat → Nat) (cI cJ cS cT : ClassId) (adK adV : Nat → Nat) (kA : Nat) (s0 : gMem) (x0 : Int) (hx0 : in32 x0) (hpre0 : TK s0) (hpre1 : RCO s0) (hpre2 : x0 = 4) : gCS l yX3_readNot cX3_readNot 2 none 19 1216 D vwCl (gT cI cJ cS cT) (wdX a cI cJ cS cT) lgX kV rgV [.ref (a 2), gI x0] s0 (f_X3_readNot_1 x0 s0) adK adV kA := by
  refine gCS_of (by decide +kernel) (hwdX a cI cJ cS cT) (Nat.le_of_ble_eq_true rfl) ?_
  intro A p e R s m args below meth c hR E HX
  subst hR
  have hT := f_X3_readNot_1_e x0 s0
  have hf_s0 : fr [34, 53, 54, 55, 56, 57, 58] s0 s0 := fr.rf _ _
  refine k_lv0 (lv' := [(0, .ref (a 2)), (1, gI x0)]) rfl ?_
  refine k_mr (fun hm_s0 => ?_)
  have hTK_s0 := hpre0
  have hRCO_s0 := hpre1
  refine k_aloadn (pc := 0) E 0 dX3_readNot_0 rfl rfl ?_
  refine k_getfI (pc := 1) (q0 := 2) (f := 6) (k := 55) E inX3 rfl rfl (by decide) wm_65 rfl rfl rfl dX3_readNot_1 (fun hr1 => ?_)
  refine k_sipush (pc := 4) E dX3_readNot_4 (by decide) ?_
  by_cases h2 : (s0 55 0) = 261
  · replace hT := hT.trans (if_pos h2)
    refine k_icmp_eq_t (pc := 7) (tgt := 18) E (by omega) (by omega) dX3_readNot_7 (by decide) h2 ?_
    refine k_iloadn (pc := 18) E 1 dX3_readNot_18 rfl rfl ?_
    refine k_iconst (pc := 19) E dX3_readNot_19 ?_
    by_cases h3 : x0 < 5
    · replace hT := hT.trans (if_pos h3)
      refine k_icmp_lt_t (pc := 20) (tgt := 30) E (by omega) (by omega) dX3_readNot_20 (by decide) h3 ?_
      refine k_aloadn (pc := 30) E 0 dX3_readNot_30 rfl rfl ?_
      refine k_mr (fun hm_s0 => ?_)
      refine k_callVX (pc := 31) (np := 0) (As := []) (st := []) (q0 := 2) E HX rfl rfl (c_X3_next l D a cI cJ cS cT adK adV kA s0  hTK_s0) wm_336 wm_3 wm_333 wm_335 wp_0 (by decide +kernel) ⟨by decide, by decide⟩ rfl (Nat.le_of_ble_eq_true rfl) dX3_readNot_31 (fun r5 s6 hs6 hr4 => ?_)
      replace hT := gby hT hs6
      have hp7 := f_X3_next_p  s0  hm_s0 hTK_s0 r5 s6 hs6
      obtain ⟨hfc_s6, hm_s6, hp8, hTK_s6⟩ := hp7
      have hf_s6 : fr [34, 53, 54, 55, 56, 57, 58] s0 s6 := hf_s0.call (by decide) hfc_s6
      have hRCO_s6 : RCO s6 := RCO_fr hRCO_s0 (fun k hk => hfc_s6 k (dj (by decide) k hk))
      refine k_st (st' := []) rfl ?_
      refine k_aloadn (pc := 34) E 0 dX3_readNot_34 rfl rfl ?_
      refine k_iloadn (pc := 35) E 1 dX3_readNot_35 rfl rfl ?_
      refine k_iconst (pc := 36) E dX3_readNot_36 ?_
      refine k_iadd (pc := 37) E dX3_readNot_37 ?_
      refine k_mr (fun hm_s6 => ?_)
      refine k_callVX (pc := 38) (np := 1) (As := [gI (x0 + 1)]) (st := []) (q0 := 2) E HX rfl rfl (c_X3_readNot_0 l D a cI cJ cS cT adK adV kA s6 (x0 + 1) (by omega) hTK_s6 hRCO_s6 (by first | assumption | omega)) wm_440 wm_3 wm_437 wm_439 wp_8 (by decide +kernel) ⟨by decide, by decide⟩ rfl (Nat.le_of_ble_eq_true rfl) dX3_readNot_38 (fun r10 s11 hs11 hr9 => ?_)
      replace hT := gby hT hs11
      have hp12 := f_X3_readNot_0_p (x0 + 1) s6 (by omega) hm_s6 hTK_s6 hRCO_s6 (by first | assumption | omega) r10 s11 hs11
      obtain ⟨hfc_s11, hm_s11, hp13, hTK_s11, hRCO_s11⟩ := hp12
      have hf_s11 : fr [34, 53, 54, 55, 56, 57, 58] s0 s11 := hf_s6.call (by decide) hfc_s11
      refine k_st (st' := []) rfl ?_
      refine k_aloadn (pc := 41) E 0 dX3_readNot_41 rfl rfl ?_
      refine k_bipush (pc := 42) E dX3_readNot_42 (by decide) ?_
      refine k_mr (fun hm_s11 => ?_)
      refine k_callV (pc := 44) (np := 1) (As := [gI (-14)]) (st := []) (q0 := 2) E (c_X3_emit l D a cI cJ cS cT s11 (-14) (by omega) hTK_s11 hRCO_s11 (by first | assumption | omega)) wm_460 wm_3 wm_457 wm_459 wp_13 (by decide +kernel) rfl rfl ⟨by decide, by decide⟩ rfl (Nat.le_of_ble_eq_true rfl) dX3_readNot_44 (fun r15 s16 hs16 hr14 => ?_)
      replace hT := gby hT hs16
      have hp17 := f_X3_emit_p (-14) s11 (by omega) hm_s11 hTK_s11 hRCO_s11 (by first | assumption | omega) r15 s16 hs16
      obtain ⟨hfc_s16, hm_s16, hp18, hTK_s16, hRCO_s16⟩ := hp17
      have hf_s16 : fr [34, 53, 54, 55, 56, 57, 58] s0 s16 := hf_s11.call (by decide) hfc_s16
      refine k_st (st' := []) rfl ?_
      exact k_rho hT (k_vret (pc := 47) E dX3_readNot_47)
    · replace hT := hT.trans (if_neg h3)
      refine k_icmp_lt_f (pc := 20) (tgt := 30) E (by omega) (by omega) dX3_readNot_20 (by decide) h3 ?_
      refine k_aloadn (pc := 23) E 0 dX3_readNot_23 rfl rfl ?_
      refine k_mr (fun hm_s0 => ?_)
      refine k_callV (pc := 24) (np := 0) (As := []) (st := []) (q0 := 2) E (c_X3_fail l D a cI cJ cS cT s0  hTK_s0) wm_428 wm_3 wm_425 wm_427 wp_5 (by decide +kernel) rfl rfl ⟨by decide, by decide⟩ rfl (Nat.le_of_ble_eq_true rfl) dX3_readNot_24 (fun r20 s21 hs21 hr19 => ?_)
      replace hT := gby hT hs21
      have hp22 := f_X3_fail_p  s0  hm_s0 hTK_s0 r20 s21 hs21
      obtain ⟨hfc_s21, hm_s21, hp23, hTK_s21, hp24⟩ := hp22
      have hf_s21 : fr [34, 53, 54, 55, 56, 57, 58] s0 s21 := hf_s0.call (by decide) hfc_s21
      have hRCO_s21 : RCO s21 := RCO_fr hRCO_s0 (fun k hk => hfc_s21 k (dj (by decide) k hk))
      refine k_st (st' := []) rfl ?_
      refine k_goto (pc := 27) (tgt := 47) E dX3_readNot_27 (by decide) ?_
      exact k_rho hT (k_vret (pc := 47) E dX3_readNot_47)
  · replace hT := hT.trans (if_neg h2)
    refine k_icmp_eq_f (pc := 7) (tgt := 18) E (by omega) (by omega) dX3_readNot_7 (by decide) h2 ?_
    refine k_aloadn (pc := 10) E 0 dX3_readNot_10 rfl rfl ?_
    refine k_iloadn (pc := 11) E 1 dX3_readNot_11 rfl rfl ?_
    refine k_mr (fun hm_s0 => ?_)
    refine k_callVX (pc := 12) (np := 1) (As := [gI x0]) (st := []) (q0 := 2) E HX rfl rfl (c_X3_readCompared_1 l D a cI cJ cS cT adK adV kA s0 x0 (by omega) hTK_s0 hRCO_s0 (by first | assumption | omega)) wm_444 wm_3 wm_441 wm_443 wp_9 (by decide +kernel) ⟨by decide, by decide⟩ rfl (Nat.le_of_ble_eq_true rfl) dX3_readNot_12 (fun r26 s27 hs27 hr25 => ?_)
    replace hT := gby hT hs27
    have hp28 := f_X3_readCompared_1_p x0 s0 (by omega) hm_s0 hTK_s0 hRCO_s0 (by first | assumption | omega) r26 s27 hs27
    obtain ⟨hfc_s27, hm_s27, hp29, hTK_s27, hRCO_s27⟩ := hp28
    have hf_s27 : fr [34, 53, 54, 55, 56, 57, 58] s0 s27 := hf_s0.call (by decide) hfc_s27
    refine k_st (st' := []) rfl ?_
    refine k_goto (pc := 15) (tgt := 47) E dX3_readNot_15 (by decide) ?_
    exact k_rho hT (k_vret (pc := 47) E dX3_readNot_47)

def w_X3_readAnd_1_7 (c1 : Int) : Nat → Int → gMem → Int × gMem
  | 0, v6, s7 => (v6, s7)
  | n8 + 1, v6, s7 => (if v6 < 160 then (if (s7 55 0) = 260 then gb (f_X3_next  s7) (fun r13 s14 => gb (f_X3_readNot_1 c1 s14) (fun r18 s19 => gb (f_X3_emit (-8) s19) (fun r23 s24 => (w_X3_readAnd_1_7 c1 n8 (v6 + 1) s24)))) else (v6, s7)) else (v6, s7))
theorem w_X3_readAnd_1_7_s (c1 : Int) (n8 : Nat) (v6 : Int) (s7 : gMem) : w_X3_readAnd_1_7 c1 (n8 + 1) v6 s7 = (if v6 < 160 then (if (s7 55 0) = 260 then gb (f_X3_next  s7) (fun r13 s14 => gb (f_X3_readNot_1 c1 s14) (fun r18 s19 => gb (f_X3_emit (-8) s19) (fun r23 s24 => (w_X3_readAnd_1_7 c1 n8 (v6 + 1) s24)))) else (v6, s7)) else (v6, s7)) := rfl
def f_X3_readAnd_1 (x0 : Int) (s0 : gMem) : gRes := gb (f_X3_readNot_1 x0 s0) (fun r2 s3 => (gl2 (w_X3_readAnd_1_7 x0 161 0 s3) (fun v55 s56 => (0, s56))))
theorem f_X3_readAnd_1_e (x0 : Int) (s0 : gMem) : f_X3_readAnd_1 x0 s0 = gb (f_X3_readNot_1 x0 s0) (fun r2 s3 => (gl2 (w_X3_readAnd_1_7 x0 161 0 s3) (fun v55 s56 => (0, s56)))) := rfl
set_option maxRecDepth 100000 in
set_option maxHeartbeats 4000000 in
theorem f_X3_readAnd_1_p (x0 : Int) (s0 : gMem) (hx0 : in32 x0) (hm_s0 : gMR lgX s0) (hpre0 : TK s0) (hpre1 : RCO s0) (hpre2 : x0 = 4) (rZ : Int) (sZ : gMem) (hres : f_X3_readAnd_1 x0 s0 = (rZ, sZ)) : (fr [34, 53, 54, 55, 56, 57, 58] s0 sZ) ∧ (gMR lgX sZ) ∧ (True) ∧ (TK sZ) ∧ (RCO sZ) := by
  have hT := f_X3_readAnd_1_e x0 s0
  have hf_s0 : fr [34, 53, 54, 55, 56, 57, 58] s0 s0 := fr.rf _ _
  have hTK_s0 := hpre0
  have hRCO_s0 := hpre1
  obtain ⟨r2, s3, hs3⟩ : ∃ rr ss, (f_X3_readNot_1 x0 s0) = (rr, ss) := ⟨_, _, rfl⟩
  replace hT := gby hT hs3
  have hp4 := f_X3_readNot_1_p x0 s0 (by omega) hm_s0 hTK_s0 hRCO_s0 (by first | assumption | omega) r2 s3 hs3
  obtain ⟨hfc_s3, hm_s3, hp5, hTK_s3, hRCO_s3⟩ := hp4
  have hf_s3 : fr [34, 53, 54, 55, 56, 57, 58] s0 s3 := hf_s0.call (by decide) hfc_s3
  have L29 : ∀ (n30 : Nat) (v27 : Int) (s28 : gMem), ((in32 v27) ∧ (fr [34, 53, 54, 55, 56, 57, 58] s0 s28) ∧ (gMR lgX s28) ∧ (TK s28) ∧ (RCO s28) ∧ (0 ≤ v27 ∧ v27 ≤ 160)) → 160 - v27 < (n30 : Int) → (∀ (w31 : Int) (s32 : gMem), (w_X3_readAnd_1_7 x0 n30 v27 s28) = (w31, s32) → ((in32 w31) ∧ (fr [34, 53, 54, 55, 56, 57, 58] s0 s32) ∧ (gMR lgX s32) ∧ (TK s32) ∧ (RCO s32) ∧ (0 ≤ w31 ∧ w31 ≤ 160)) → (fr [34, 53, 54, 55, 56, 57, 58] s0 sZ) ∧ (gMR lgX sZ) ∧ (True) ∧ (TK sZ) ∧ (RCO sZ)) → (fr [34, 53, 54, 55, 56, 57, 58] s0 sZ) ∧ (gMR lgX sZ) ∧ (True) ∧ (TK sZ) ∧ (RCO sZ) := by
    intro n30; induction n30 with
    | zero =>
      intro v27 s28 hq hm hk
      exfalso
      obtain ⟨hq51, hf_s28, hm_s28, hTK_s28, hRCO_s28, hq52⟩ := hq
      omega
    | succ n30 ih =>
      intro v27 s28 hq hm hk
      obtain ⟨hq53, hf_s28, hm_s28, hTK_s28, hRCO_s28, hq54⟩ := hq
      have hT := w_X3_readAnd_1_7_s x0 n30 v27 s28
      by_cases h33 : v27 < 160
      · replace hT := hT.trans (if_pos h33)
        have hr34 := (hm_s28 55 0).1 rfl
        by_cases h35 : (s28 55 0) = 260
        · replace hT := hT.trans (if_pos h35)
          obtain ⟨r37, s38, hs38⟩ : ∃ rr ss, (f_X3_next  s28) = (rr, ss) := ⟨_, _, rfl⟩
          replace hT := gby hT hs38
          have hp39 := f_X3_next_p  s28  hm_s28 hTK_s28 r37 s38 hs38
          obtain ⟨hfc_s38, hm_s38, hp40, hTK_s38⟩ := hp39
          have hf_s38 : fr [34, 53, 54, 55, 56, 57, 58] s0 s38 := hf_s28.call (by decide) hfc_s38
          have hRCO_s38 : RCO s38 := RCO_fr hRCO_s28 (fun k hk => hfc_s38 k (dj (by decide) k hk))
          obtain ⟨r42, s43, hs43⟩ : ∃ rr ss, (f_X3_readNot_1 x0 s38) = (rr, ss) := ⟨_, _, rfl⟩
          replace hT := gby hT hs43
          have hp44 := f_X3_readNot_1_p x0 s38 (by omega) hm_s38 hTK_s38 hRCO_s38 (by first | assumption | omega) r42 s43 hs43
          obtain ⟨hfc_s43, hm_s43, hp45, hTK_s43, hRCO_s43⟩ := hp44
          have hf_s43 : fr [34, 53, 54, 55, 56, 57, 58] s0 s43 := hf_s38.call (by decide) hfc_s43
          obtain ⟨r47, s48, hs48⟩ : ∃ rr ss, (f_X3_emit (-8) s43) = (rr, ss) := ⟨_, _, rfl⟩
          replace hT := gby hT hs48
          have hp49 := f_X3_emit_p (-8) s43 (by omega) hm_s43 hTK_s43 hRCO_s43 (by first | assumption | omega) r47 s48 hs48
          obtain ⟨hfc_s48, hm_s48, hp50, hTK_s48, hRCO_s48⟩ := hp49
          have hf_s48 : fr [34, 53, 54, 55, 56, 57, 58] s0 s48 := hf_s43.call (by decide) hfc_s48
          exact ih (v27 + 1) s48 ⟨(by omega), hf_s48, hm_s48, hTK_s48, hRCO_s48, (by first | assumption | omega)⟩ (by omega) (fun w31 s32 hw hi => hk w31 s32 (hT.trans hw) hi)
        · replace hT := hT.trans (if_neg h35)
          exact hk v27 s28 hT ⟨(by omega), hf_s28, hm_s28, hTK_s28, hRCO_s28, (by first | assumption | omega)⟩
      · replace hT := hT.trans (if_neg h33)
        exact hk v27 s28 hT ⟨(by omega), hf_s28, hm_s28, hTK_s28, hRCO_s28, (by first | assumption | omega)⟩
  refine L29 161 0 s3 ⟨(by omega), hf_s3, hm_s3, hTK_s3, hRCO_s3, (by first | assumption | omega)⟩ (by omega) (fun v55 s56 hw hq => ?_)
  obtain ⟨hq57, hf_s56, hm_s56, hTK_s56, hRCO_s56, hq58⟩ := hq
  replace hT := gl2y hT hw
  obtain ⟨rfl, rfl⟩ := Prod.mk.inj (hT.symm.trans hres)
  exact ⟨hf_s56, hm_s56, trivial, hTK_s56, hRCO_s56⟩
set_option maxRecDepth 100000 in
set_option maxHeartbeats 4000000 in
theorem c_X3_readAnd_1 (l : Launch) (D : va_G) (a : Nat → Nat) (cI cJ cS cT : ClassId) (adK adV : Nat → Nat) (kA : Nat) (s0 : gMem) (x0 : Int) (hx0 : in32 x0) (hpre0 : TK s0) (hpre1 : RCO s0) (hpre2 : x0 = 4) : gCS l yX3_readAnd cX3_readAnd 3 none 20 1280 D vwCl (gT cI cJ cS cT) (wdX a cI cJ cS cT) lgX kV rgV [.ref (a 2), gI x0] s0 (f_X3_readAnd_1 x0 s0) adK adV kA := by
  refine gCS_of (by decide +kernel) (hwdX a cI cJ cS cT) (Nat.le_of_ble_eq_true rfl) ?_
  intro A p e R s m args below meth c hR E HX
  subst hR
  have hT := f_X3_readAnd_1_e x0 s0
  have hf_s0 : fr [34, 53, 54, 55, 56, 57, 58] s0 s0 := fr.rf _ _
  refine k_lv0 (lv' := [(0, .ref (a 2)), (1, gI x0)]) rfl ?_
  refine k_mr (fun hm_s0 => ?_)
  have hTK_s0 := hpre0
  have hRCO_s0 := hpre1
  refine k_aloadn (pc := 0) E 0 dX3_readAnd_0 rfl rfl ?_
  refine k_iloadn (pc := 1) E 1 dX3_readAnd_1 rfl rfl ?_
  refine k_mr (fun hm_s0 => ?_)
  refine k_callVX (pc := 2) (np := 1) (As := [gI x0]) (st := []) (q0 := 2) E HX rfl rfl (c_X3_readNot_1 l D a cI cJ cS cT adK adV kA s0 x0 (by omega) hTK_s0 hRCO_s0 (by first | assumption | omega)) wm_440 wm_3 wm_437 wm_439 wp_8 (by decide +kernel) ⟨by decide, by decide⟩ rfl (Nat.le_of_ble_eq_true rfl) dX3_readAnd_2 (fun r2 s3 hs3 hr1 => ?_)
  replace hT := gby hT hs3
  have hp4 := f_X3_readNot_1_p x0 s0 (by omega) hm_s0 hTK_s0 hRCO_s0 (by first | assumption | omega) r2 s3 hs3
  obtain ⟨hfc_s3, hm_s3, hp5, hTK_s3, hRCO_s3⟩ := hp4
  have hf_s3 : fr [34, 53, 54, 55, 56, 57, 58] s0 s3 := hf_s0.call (by decide) hfc_s3
  refine k_st (st' := []) rfl ?_
  refine k_iconst (pc := 5) E dX3_readAnd_5 ?_
  refine k_istoren (pc := 6) (lv' := [(2, gI 0), (0, .ref (a 2)), (1, gI x0)]) E dX3_readAnd_6 rfl (by decide) rfl ?_
  have L29 : ∀ (n30 : Nat) (v27 : Int) (s28 : gMem), ((in32 v27) ∧ (fr [34, 53, 54, 55, 56, 57, 58] s0 s28) ∧ (TK s28) ∧ (RCO s28) ∧ (0 ≤ v27 ∧ v27 ≤ 160)) → 160 - v27 < (n30 : Int) → (∀ (w31 : Int) (s32 : gMem), (w_X3_readAnd_1_7 x0 n30 v27 s28) = (w31, s32) → ((in32 w31) ∧ (fr [34, 53, 54, 55, 56, 57, 58] s0 s32) ∧ (TK s32) ∧ (RCO s32) ∧ (0 ≤ w31 ∧ w31 ≤ 160)) → gK D vwCl (wdX a cI cJ cS cT) lgX A p l e { frames := 20, cells := 0, slots := 0, locals := 1280 } s m args below meth c 3 (gQQ D vwCl (wdX a cI cJ cS cT) lgX A kV rgV below args s) (f_X3_readAnd_1 x0 s0) s32 45 [] []) → gK D vwCl (wdX a cI cJ cS cT) lgX A p l e { frames := 20, cells := 0, slots := 0, locals := 1280 } s m args below meth c 3 (gQQ D vwCl (wdX a cI cJ cS cT) lgX A kV rgV below args s) (f_X3_readAnd_1 x0 s0) s28 7 [(0, .ref (a 2)), (1, gI x0), (2, gI v27)] [] := by
    intro n30; induction n30 with
    | zero =>
      intro v27 s28 hq hm hk
      exfalso
      obtain ⟨hq51, hf_s28, hTK_s28, hRCO_s28, hq52⟩ := hq
      omega
    | succ n30 ih =>
      intro v27 s28 hq hm hk
      obtain ⟨hq53, hf_s28, hTK_s28, hRCO_s28, hq54⟩ := hq
      have hT := w_X3_readAnd_1_7_s x0 n30 v27 s28
      refine k_iloadn (pc := 7) E 2 dX3_readAnd_7 rfl rfl ?_
      refine k_sipush (pc := 8) E dX3_readAnd_8 (by decide) ?_
      by_cases h33 : v27 < 160
      · replace hT := hT.trans (if_pos h33)
        refine k_icmp_ge_f (pc := 11) (tgt := 45) E (by omega) (by omega) dX3_readAnd_11 (by decide) h33 ?_
        refine k_aloadn (pc := 14) E 0 dX3_readAnd_14 rfl rfl ?_
        refine k_getfI (pc := 15) (q0 := 2) (f := 6) (k := 55) E inX3 rfl rfl (by decide) wm_65 rfl rfl rfl dX3_readAnd_15 (fun hr34 => ?_)
        refine k_sipush (pc := 18) E dX3_readAnd_18 (by decide) ?_
        by_cases h35 : (s28 55 0) = 260
        · replace hT := hT.trans (if_pos h35)
          refine k_icmp_ne_f (pc := 21) (tgt := 45) E (by omega) (by omega) dX3_readAnd_21 (by decide) h35 ?_
          refine k_aloadn (pc := 24) E 0 dX3_readAnd_24 rfl rfl ?_
          refine k_mr (fun hm_s28 => ?_)
          refine k_callVX (pc := 25) (np := 0) (As := []) (st := []) (q0 := 2) E HX rfl rfl (c_X3_next l D a cI cJ cS cT adK adV kA s28  hTK_s28) wm_336 wm_3 wm_333 wm_335 wp_0 (by decide +kernel) ⟨by decide, by decide⟩ rfl (Nat.le_of_ble_eq_true rfl) dX3_readAnd_25 (fun r37 s38 hs38 hr36 => ?_)
          replace hT := gby hT hs38
          have hp39 := f_X3_next_p  s28  hm_s28 hTK_s28 r37 s38 hs38
          obtain ⟨hfc_s38, hm_s38, hp40, hTK_s38⟩ := hp39
          have hf_s38 : fr [34, 53, 54, 55, 56, 57, 58] s0 s38 := hf_s28.call (by decide) hfc_s38
          have hRCO_s38 : RCO s38 := RCO_fr hRCO_s28 (fun k hk => hfc_s38 k (dj (by decide) k hk))
          refine k_st (st' := []) rfl ?_
          refine k_aloadn (pc := 28) E 0 dX3_readAnd_28 rfl rfl ?_
          refine k_iloadn (pc := 29) E 1 dX3_readAnd_29 rfl rfl ?_
          refine k_mr (fun hm_s38 => ?_)
          refine k_callVX (pc := 30) (np := 1) (As := [gI x0]) (st := []) (q0 := 2) E HX rfl rfl (c_X3_readNot_1 l D a cI cJ cS cT adK adV kA s38 x0 (by omega) hTK_s38 hRCO_s38 (by first | assumption | omega)) wm_440 wm_3 wm_437 wm_439 wp_8 (by decide +kernel) ⟨by decide, by decide⟩ rfl (Nat.le_of_ble_eq_true rfl) dX3_readAnd_30 (fun r42 s43 hs43 hr41 => ?_)
          replace hT := gby hT hs43
          have hp44 := f_X3_readNot_1_p x0 s38 (by omega) hm_s38 hTK_s38 hRCO_s38 (by first | assumption | omega) r42 s43 hs43
          obtain ⟨hfc_s43, hm_s43, hp45, hTK_s43, hRCO_s43⟩ := hp44
          have hf_s43 : fr [34, 53, 54, 55, 56, 57, 58] s0 s43 := hf_s38.call (by decide) hfc_s43
          refine k_st (st' := []) rfl ?_
          refine k_aloadn (pc := 33) E 0 dX3_readAnd_33 rfl rfl ?_
          refine k_bipush (pc := 34) E dX3_readAnd_34 (by decide) ?_
          refine k_mr (fun hm_s43 => ?_)
          refine k_callV (pc := 36) (np := 1) (As := [gI (-8)]) (st := []) (q0 := 2) E (c_X3_emit l D a cI cJ cS cT s43 (-8) (by omega) hTK_s43 hRCO_s43 (by first | assumption | omega)) wm_460 wm_3 wm_457 wm_459 wp_13 (by decide +kernel) rfl rfl ⟨by decide, by decide⟩ rfl (Nat.le_of_ble_eq_true rfl) dX3_readAnd_36 (fun r47 s48 hs48 hr46 => ?_)
          replace hT := gby hT hs48
          have hp49 := f_X3_emit_p (-8) s43 (by omega) hm_s43 hTK_s43 hRCO_s43 (by first | assumption | omega) r47 s48 hs48
          obtain ⟨hfc_s48, hm_s48, hp50, hTK_s48, hRCO_s48⟩ := hp49
          have hf_s48 : fr [34, 53, 54, 55, 56, 57, 58] s0 s48 := hf_s43.call (by decide) hfc_s48
          refine k_st (st' := []) rfl ?_
          refine k_iinc (pc := 39) (lv' := [(2, gI (v27 + 1)), (0, .ref (a 2)), (1, gI x0)]) E 2 dX3_readAnd_39 rfl (by decide) rfl ?_
          refine k_goto (pc := 42) (tgt := 7) E dX3_readAnd_42 (by decide) ?_
          refine k_lv (lv' := [(0, .ref (a 2)), (1, gI x0), (2, gI (v27 + 1))]) [1, 2, 0] rfl ?_
          exact ih (v27 + 1) s48 ⟨(by omega), hf_s48, hTK_s48, hRCO_s48, (by first | assumption | omega)⟩ (by omega) (fun w31 s32 hw hi => hk w31 s32 (hT.trans hw) hi)
        · replace hT := hT.trans (if_neg h35)
          refine k_icmp_ne_t (pc := 21) (tgt := 45) E (by omega) (by omega) dX3_readAnd_21 (by decide) h35 ?_
          refine k_lv (lv' := []) [] rfl ?_
          exact hk v27 s28 hT ⟨(by omega), hf_s28, hTK_s28, hRCO_s28, (by first | assumption | omega)⟩
      · replace hT := hT.trans (if_neg h33)
        refine k_icmp_ge_t (pc := 11) (tgt := 45) E (by omega) (by omega) dX3_readAnd_11 (by decide) h33 ?_
        refine k_lv (lv' := []) [] rfl ?_
        exact hk v27 s28 hT ⟨(by omega), hf_s28, hTK_s28, hRCO_s28, (by first | assumption | omega)⟩
  refine k_lv (lv' := [(0, .ref (a 2)), (1, gI x0), (2, gI 0)]) [1, 2, 0] rfl ?_
  refine L29 161 0 s3 ⟨(by omega), hf_s3, hTK_s3, hRCO_s3, (by first | assumption | omega)⟩ (by omega) (fun v55 s56 hw hq => ?_)
  obtain ⟨hq57, hf_s56, hTK_s56, hRCO_s56, hq58⟩ := hq
  replace hT := gl2y hT hw
  exact k_rho hT (k_vret (pc := 45) E dX3_readAnd_45)

def w_X3_readOr_1_7 (c1 : Int) : Nat → Int → gMem → Int × gMem
  | 0, v6, s7 => (v6, s7)
  | n8 + 1, v6, s7 => (if v6 < 160 then (if (s7 55 0) = 259 then gb (f_X3_next  s7) (fun r13 s14 => gb (f_X3_readAnd_1 c1 s14) (fun r18 s19 => gb (f_X3_emit (-7) s19) (fun r23 s24 => (w_X3_readOr_1_7 c1 n8 (v6 + 1) s24)))) else (v6, s7)) else (v6, s7))
theorem w_X3_readOr_1_7_s (c1 : Int) (n8 : Nat) (v6 : Int) (s7 : gMem) : w_X3_readOr_1_7 c1 (n8 + 1) v6 s7 = (if v6 < 160 then (if (s7 55 0) = 259 then gb (f_X3_next  s7) (fun r13 s14 => gb (f_X3_readAnd_1 c1 s14) (fun r18 s19 => gb (f_X3_emit (-7) s19) (fun r23 s24 => (w_X3_readOr_1_7 c1 n8 (v6 + 1) s24)))) else (v6, s7)) else (v6, s7)) := rfl
def f_X3_readOr_1 (x0 : Int) (s0 : gMem) : gRes := gb (f_X3_readAnd_1 x0 s0) (fun r2 s3 => (gl2 (w_X3_readOr_1_7 x0 161 0 s3) (fun v55 s56 => (0, s56))))
theorem f_X3_readOr_1_e (x0 : Int) (s0 : gMem) : f_X3_readOr_1 x0 s0 = gb (f_X3_readAnd_1 x0 s0) (fun r2 s3 => (gl2 (w_X3_readOr_1_7 x0 161 0 s3) (fun v55 s56 => (0, s56)))) := rfl
set_option maxRecDepth 100000 in
set_option maxHeartbeats 4000000 in
theorem f_X3_readOr_1_p (x0 : Int) (s0 : gMem) (hx0 : in32 x0) (hm_s0 : gMR lgX s0) (hpre0 : TK s0) (hpre1 : RCO s0) (hpre2 : x0 = 4) (rZ : Int) (sZ : gMem) (hres : f_X3_readOr_1 x0 s0 = (rZ, sZ)) : (fr [34, 53, 54, 55, 56, 57, 58] s0 sZ) ∧ (gMR lgX sZ) ∧ (True) ∧ (TK sZ) ∧ (RCO sZ) := by
  have hT := f_X3_readOr_1_e x0 s0
  have hf_s0 : fr [34, 53, 54, 55, 56, 57, 58] s0 s0 := fr.rf _ _
  have hTK_s0 := hpre0
  have hRCO_s0 := hpre1
  obtain ⟨r2, s3, hs3⟩ : ∃ rr ss, (f_X3_readAnd_1 x0 s0) = (rr, ss) := ⟨_, _, rfl⟩
  replace hT := gby hT hs3
  have hp4 := f_X3_readAnd_1_p x0 s0 (by omega) hm_s0 hTK_s0 hRCO_s0 (by first | assumption | omega) r2 s3 hs3
  obtain ⟨hfc_s3, hm_s3, hp5, hTK_s3, hRCO_s3⟩ := hp4
  have hf_s3 : fr [34, 53, 54, 55, 56, 57, 58] s0 s3 := hf_s0.call (by decide) hfc_s3
  have L29 : ∀ (n30 : Nat) (v27 : Int) (s28 : gMem), ((in32 v27) ∧ (fr [34, 53, 54, 55, 56, 57, 58] s0 s28) ∧ (gMR lgX s28) ∧ (TK s28) ∧ (RCO s28) ∧ (0 ≤ v27 ∧ v27 ≤ 160)) → 160 - v27 < (n30 : Int) → (∀ (w31 : Int) (s32 : gMem), (w_X3_readOr_1_7 x0 n30 v27 s28) = (w31, s32) → ((in32 w31) ∧ (fr [34, 53, 54, 55, 56, 57, 58] s0 s32) ∧ (gMR lgX s32) ∧ (TK s32) ∧ (RCO s32) ∧ (0 ≤ w31 ∧ w31 ≤ 160)) → (fr [34, 53, 54, 55, 56, 57, 58] s0 sZ) ∧ (gMR lgX sZ) ∧ (True) ∧ (TK sZ) ∧ (RCO sZ)) → (fr [34, 53, 54, 55, 56, 57, 58] s0 sZ) ∧ (gMR lgX sZ) ∧ (True) ∧ (TK sZ) ∧ (RCO sZ) := by
    intro n30; induction n30 with
    | zero =>
      intro v27 s28 hq hm hk
      exfalso
      obtain ⟨hq51, hf_s28, hm_s28, hTK_s28, hRCO_s28, hq52⟩ := hq
      omega
    | succ n30 ih =>
      intro v27 s28 hq hm hk
      obtain ⟨hq53, hf_s28, hm_s28, hTK_s28, hRCO_s28, hq54⟩ := hq
      have hT := w_X3_readOr_1_7_s x0 n30 v27 s28
      by_cases h33 : v27 < 160
      · replace hT := hT.trans (if_pos h33)
        have hr34 := (hm_s28 55 0).1 rfl
        by_cases h35 : (s28 55 0) = 259
        · replace hT := hT.trans (if_pos h35)
          obtain ⟨r37, s38, hs38⟩ : ∃ rr ss, (f_X3_next  s28) = (rr, ss) := ⟨_, _, rfl⟩
          replace hT := gby hT hs38
          have hp39 := f_X3_next_p  s28  hm_s28 hTK_s28 r37 s38 hs38
          obtain ⟨hfc_s38, hm_s38, hp40, hTK_s38⟩ := hp39
          have hf_s38 : fr [34, 53, 54, 55, 56, 57, 58] s0 s38 := hf_s28.call (by decide) hfc_s38
          have hRCO_s38 : RCO s38 := RCO_fr hRCO_s28 (fun k hk => hfc_s38 k (dj (by decide) k hk))
          obtain ⟨r42, s43, hs43⟩ : ∃ rr ss, (f_X3_readAnd_1 x0 s38) = (rr, ss) := ⟨_, _, rfl⟩
          replace hT := gby hT hs43
          have hp44 := f_X3_readAnd_1_p x0 s38 (by omega) hm_s38 hTK_s38 hRCO_s38 (by first | assumption | omega) r42 s43 hs43
          obtain ⟨hfc_s43, hm_s43, hp45, hTK_s43, hRCO_s43⟩ := hp44
          have hf_s43 : fr [34, 53, 54, 55, 56, 57, 58] s0 s43 := hf_s38.call (by decide) hfc_s43
          obtain ⟨r47, s48, hs48⟩ : ∃ rr ss, (f_X3_emit (-7) s43) = (rr, ss) := ⟨_, _, rfl⟩
          replace hT := gby hT hs48
          have hp49 := f_X3_emit_p (-7) s43 (by omega) hm_s43 hTK_s43 hRCO_s43 (by first | assumption | omega) r47 s48 hs48
          obtain ⟨hfc_s48, hm_s48, hp50, hTK_s48, hRCO_s48⟩ := hp49
          have hf_s48 : fr [34, 53, 54, 55, 56, 57, 58] s0 s48 := hf_s43.call (by decide) hfc_s48
          exact ih (v27 + 1) s48 ⟨(by omega), hf_s48, hm_s48, hTK_s48, hRCO_s48, (by first | assumption | omega)⟩ (by omega) (fun w31 s32 hw hi => hk w31 s32 (hT.trans hw) hi)
        · replace hT := hT.trans (if_neg h35)
          exact hk v27 s28 hT ⟨(by omega), hf_s28, hm_s28, hTK_s28, hRCO_s28, (by first | assumption | omega)⟩
      · replace hT := hT.trans (if_neg h33)
        exact hk v27 s28 hT ⟨(by omega), hf_s28, hm_s28, hTK_s28, hRCO_s28, (by first | assumption | omega)⟩
  refine L29 161 0 s3 ⟨(by omega), hf_s3, hm_s3, hTK_s3, hRCO_s3, (by first | assumption | omega)⟩ (by omega) (fun v55 s56 hw hq => ?_)
  obtain ⟨hq57, hf_s56, hm_s56, hTK_s56, hRCO_s56, hq58⟩ := hq
  replace hT := gl2y hT hw
  obtain ⟨rfl, rfl⟩ := Prod.mk.inj (hT.symm.trans hres)
  exact ⟨hf_s56, hm_s56, trivial, hTK_s56, hRCO_s56⟩
set_option maxRecDepth 100000 in
set_option maxHeartbeats 4000000 in
theorem c_X3_readOr_1 (l : Launch) (D : va_G) (a : Nat → Nat) (cI cJ cS cT : ClassId) (adK adV : Nat → Nat) (kA : Nat) (s0 : gMem) (x0 : Int) (hx0 : in32 x0) (hpre0 : TK s0) (hpre1 : RCO s0) (hpre2 : x0 = 4) : gCS l yX3_readOr cX3_readOr 3 none 21 1344 D vwCl (gT cI cJ cS cT) (wdX a cI cJ cS cT) lgX kV rgV [.ref (a 2), gI x0] s0 (f_X3_readOr_1 x0 s0) adK adV kA := by
  refine gCS_of (by decide +kernel) (hwdX a cI cJ cS cT) (Nat.le_of_ble_eq_true rfl) ?_
  intro A p e R s m args below meth c hR E HX
  subst hR
  have hT := f_X3_readOr_1_e x0 s0
  have hf_s0 : fr [34, 53, 54, 55, 56, 57, 58] s0 s0 := fr.rf _ _
  refine k_lv0 (lv' := [(0, .ref (a 2)), (1, gI x0)]) rfl ?_
  refine k_mr (fun hm_s0 => ?_)
  have hTK_s0 := hpre0
  have hRCO_s0 := hpre1
  refine k_aloadn (pc := 0) E 0 dX3_readOr_0 rfl rfl ?_
  refine k_iloadn (pc := 1) E 1 dX3_readOr_1 rfl rfl ?_
  refine k_mr (fun hm_s0 => ?_)
  refine k_callVX (pc := 2) (np := 1) (As := [gI x0]) (st := []) (q0 := 2) E HX rfl rfl (c_X3_readAnd_1 l D a cI cJ cS cT adK adV kA s0 x0 (by omega) hTK_s0 hRCO_s0 (by first | assumption | omega)) wm_436 wm_3 wm_433 wm_435 wp_7 (by decide +kernel) ⟨by decide, by decide⟩ rfl (Nat.le_of_ble_eq_true rfl) dX3_readOr_2 (fun r2 s3 hs3 hr1 => ?_)
  replace hT := gby hT hs3
  have hp4 := f_X3_readAnd_1_p x0 s0 (by omega) hm_s0 hTK_s0 hRCO_s0 (by first | assumption | omega) r2 s3 hs3
  obtain ⟨hfc_s3, hm_s3, hp5, hTK_s3, hRCO_s3⟩ := hp4
  have hf_s3 : fr [34, 53, 54, 55, 56, 57, 58] s0 s3 := hf_s0.call (by decide) hfc_s3
  refine k_st (st' := []) rfl ?_
  refine k_iconst (pc := 5) E dX3_readOr_5 ?_
  refine k_istoren (pc := 6) (lv' := [(2, gI 0), (0, .ref (a 2)), (1, gI x0)]) E dX3_readOr_6 rfl (by decide) rfl ?_
  have L29 : ∀ (n30 : Nat) (v27 : Int) (s28 : gMem), ((in32 v27) ∧ (fr [34, 53, 54, 55, 56, 57, 58] s0 s28) ∧ (TK s28) ∧ (RCO s28) ∧ (0 ≤ v27 ∧ v27 ≤ 160)) → 160 - v27 < (n30 : Int) → (∀ (w31 : Int) (s32 : gMem), (w_X3_readOr_1_7 x0 n30 v27 s28) = (w31, s32) → ((in32 w31) ∧ (fr [34, 53, 54, 55, 56, 57, 58] s0 s32) ∧ (TK s32) ∧ (RCO s32) ∧ (0 ≤ w31 ∧ w31 ≤ 160)) → gK D vwCl (wdX a cI cJ cS cT) lgX A p l e { frames := 21, cells := 0, slots := 0, locals := 1344 } s m args below meth c 3 (gQQ D vwCl (wdX a cI cJ cS cT) lgX A kV rgV below args s) (f_X3_readOr_1 x0 s0) s32 45 [] []) → gK D vwCl (wdX a cI cJ cS cT) lgX A p l e { frames := 21, cells := 0, slots := 0, locals := 1344 } s m args below meth c 3 (gQQ D vwCl (wdX a cI cJ cS cT) lgX A kV rgV below args s) (f_X3_readOr_1 x0 s0) s28 7 [(0, .ref (a 2)), (1, gI x0), (2, gI v27)] [] := by
    intro n30; induction n30 with
    | zero =>
      intro v27 s28 hq hm hk
      exfalso
      obtain ⟨hq51, hf_s28, hTK_s28, hRCO_s28, hq52⟩ := hq
      omega
    | succ n30 ih =>
      intro v27 s28 hq hm hk
      obtain ⟨hq53, hf_s28, hTK_s28, hRCO_s28, hq54⟩ := hq
      have hT := w_X3_readOr_1_7_s x0 n30 v27 s28
      refine k_iloadn (pc := 7) E 2 dX3_readOr_7 rfl rfl ?_
      refine k_sipush (pc := 8) E dX3_readOr_8 (by decide) ?_
      by_cases h33 : v27 < 160
      · replace hT := hT.trans (if_pos h33)
        refine k_icmp_ge_f (pc := 11) (tgt := 45) E (by omega) (by omega) dX3_readOr_11 (by decide) h33 ?_
        refine k_aloadn (pc := 14) E 0 dX3_readOr_14 rfl rfl ?_
        refine k_getfI (pc := 15) (q0 := 2) (f := 6) (k := 55) E inX3 rfl rfl (by decide) wm_65 rfl rfl rfl dX3_readOr_15 (fun hr34 => ?_)
        refine k_sipush (pc := 18) E dX3_readOr_18 (by decide) ?_
        by_cases h35 : (s28 55 0) = 259
        · replace hT := hT.trans (if_pos h35)
          refine k_icmp_ne_f (pc := 21) (tgt := 45) E (by omega) (by omega) dX3_readOr_21 (by decide) h35 ?_
          refine k_aloadn (pc := 24) E 0 dX3_readOr_24 rfl rfl ?_
          refine k_mr (fun hm_s28 => ?_)
          refine k_callVX (pc := 25) (np := 0) (As := []) (st := []) (q0 := 2) E HX rfl rfl (c_X3_next l D a cI cJ cS cT adK adV kA s28  hTK_s28) wm_336 wm_3 wm_333 wm_335 wp_0 (by decide +kernel) ⟨by decide, by decide⟩ rfl (Nat.le_of_ble_eq_true rfl) dX3_readOr_25 (fun r37 s38 hs38 hr36 => ?_)
          replace hT := gby hT hs38
          have hp39 := f_X3_next_p  s28  hm_s28 hTK_s28 r37 s38 hs38
          obtain ⟨hfc_s38, hm_s38, hp40, hTK_s38⟩ := hp39
          have hf_s38 : fr [34, 53, 54, 55, 56, 57, 58] s0 s38 := hf_s28.call (by decide) hfc_s38
          have hRCO_s38 : RCO s38 := RCO_fr hRCO_s28 (fun k hk => hfc_s38 k (dj (by decide) k hk))
          refine k_st (st' := []) rfl ?_
          refine k_aloadn (pc := 28) E 0 dX3_readOr_28 rfl rfl ?_
          refine k_iloadn (pc := 29) E 1 dX3_readOr_29 rfl rfl ?_
          refine k_mr (fun hm_s38 => ?_)
          refine k_callVX (pc := 30) (np := 1) (As := [gI x0]) (st := []) (q0 := 2) E HX rfl rfl (c_X3_readAnd_1 l D a cI cJ cS cT adK adV kA s38 x0 (by omega) hTK_s38 hRCO_s38 (by first | assumption | omega)) wm_436 wm_3 wm_433 wm_435 wp_7 (by decide +kernel) ⟨by decide, by decide⟩ rfl (Nat.le_of_ble_eq_true rfl) dX3_readOr_30 (fun r42 s43 hs43 hr41 => ?_)
          replace hT := gby hT hs43
          have hp44 := f_X3_readAnd_1_p x0 s38 (by omega) hm_s38 hTK_s38 hRCO_s38 (by first | assumption | omega) r42 s43 hs43
          obtain ⟨hfc_s43, hm_s43, hp45, hTK_s43, hRCO_s43⟩ := hp44
          have hf_s43 : fr [34, 53, 54, 55, 56, 57, 58] s0 s43 := hf_s38.call (by decide) hfc_s43
          refine k_st (st' := []) rfl ?_
          refine k_aloadn (pc := 33) E 0 dX3_readOr_33 rfl rfl ?_
          refine k_bipush (pc := 34) E dX3_readOr_34 (by decide) ?_
          refine k_mr (fun hm_s43 => ?_)
          refine k_callV (pc := 36) (np := 1) (As := [gI (-7)]) (st := []) (q0 := 2) E (c_X3_emit l D a cI cJ cS cT s43 (-7) (by omega) hTK_s43 hRCO_s43 (by first | assumption | omega)) wm_460 wm_3 wm_457 wm_459 wp_13 (by decide +kernel) rfl rfl ⟨by decide, by decide⟩ rfl (Nat.le_of_ble_eq_true rfl) dX3_readOr_36 (fun r47 s48 hs48 hr46 => ?_)
          replace hT := gby hT hs48
          have hp49 := f_X3_emit_p (-7) s43 (by omega) hm_s43 hTK_s43 hRCO_s43 (by first | assumption | omega) r47 s48 hs48
          obtain ⟨hfc_s48, hm_s48, hp50, hTK_s48, hRCO_s48⟩ := hp49
          have hf_s48 : fr [34, 53, 54, 55, 56, 57, 58] s0 s48 := hf_s43.call (by decide) hfc_s48
          refine k_st (st' := []) rfl ?_
          refine k_iinc (pc := 39) (lv' := [(2, gI (v27 + 1)), (0, .ref (a 2)), (1, gI x0)]) E 2 dX3_readOr_39 rfl (by decide) rfl ?_
          refine k_goto (pc := 42) (tgt := 7) E dX3_readOr_42 (by decide) ?_
          refine k_lv (lv' := [(0, .ref (a 2)), (1, gI x0), (2, gI (v27 + 1))]) [1, 2, 0] rfl ?_
          exact ih (v27 + 1) s48 ⟨(by omega), hf_s48, hTK_s48, hRCO_s48, (by first | assumption | omega)⟩ (by omega) (fun w31 s32 hw hi => hk w31 s32 (hT.trans hw) hi)
        · replace hT := hT.trans (if_neg h35)
          refine k_icmp_ne_t (pc := 21) (tgt := 45) E (by omega) (by omega) dX3_readOr_21 (by decide) h35 ?_
          refine k_lv (lv' := []) [] rfl ?_
          exact hk v27 s28 hT ⟨(by omega), hf_s28, hTK_s28, hRCO_s28, (by first | assumption | omega)⟩
      · replace hT := hT.trans (if_neg h33)
        refine k_icmp_ge_t (pc := 11) (tgt := 45) E (by omega) (by omega) dX3_readOr_11 (by decide) h33 ?_
        refine k_lv (lv' := []) [] rfl ?_
        exact hk v27 s28 hT ⟨(by omega), hf_s28, hTK_s28, hRCO_s28, (by first | assumption | omega)⟩
  refine k_lv (lv' := [(0, .ref (a 2)), (1, gI x0), (2, gI 0)]) [1, 2, 0] rfl ?_
  refine L29 161 0 s3 ⟨(by omega), hf_s3, hTK_s3, hRCO_s3, (by first | assumption | omega)⟩ (by omega) (fun v55 s56 hw hq => ?_)
  obtain ⟨hq57, hf_s56, hTK_s56, hRCO_s56, hq58⟩ := hq
  replace hT := gl2y hT hw
  exact k_rho hT (k_vret (pc := 45) E dX3_readOr_45)

def f_X3_readOne_2 (x0 : Int) (s0 : gMem) : gRes := (if (s0 55 0) = 2 then gb (f_X3_emit (s0 57 0) s0) (fun r5 s6 => gb (f_X3_next  s6) (fun r10 s11 => (0, s11))) else (if (s0 55 0) < 262 then (gj (fun j17c => (if x0 < 5 then (gj (fun j26c => (if (s0 55 0) = 45 then j26c else (if (s0 55 0) = 40 then j26c else j17c))) ((if (s0 55 0) = 45 then gb (f_X3_next  s0) (fun r30 s31 => gb (f_X3_readOne_1 (x0 + 1) s31) (fun r35 s36 => gb (f_X3_emit (-15) s36) (fun r40 s41 => (0, s41)))) else gb (f_X3_next  s0) (fun r45 s46 => gb (f_X3_readOr_1 (x0 + 1) s46) (fun r50 s51 => gb (f_X3_want 41 s51) (fun r55 s56 => (0, s56))))))) else j17c)) (gb (f_X3_fail  s0) (fun r19 s20 => (0, s20)))) else gb (f_X3_emit ((-1) - ((s0 55 0) - 262)) s0) (fun r63 s64 => gb (f_X3_next  s64) (fun r68 s69 => (0, s69)))))
theorem f_X3_readOne_2_e (x0 : Int) (s0 : gMem) : f_X3_readOne_2 x0 s0 = (if (s0 55 0) = 2 then gb (f_X3_emit (s0 57 0) s0) (fun r5 s6 => gb (f_X3_next  s6) (fun r10 s11 => (0, s11))) else (if (s0 55 0) < 262 then (gj (fun j17c => (if x0 < 5 then (gj (fun j26c => (if (s0 55 0) = 45 then j26c else (if (s0 55 0) = 40 then j26c else j17c))) ((if (s0 55 0) = 45 then gb (f_X3_next  s0) (fun r30 s31 => gb (f_X3_readOne_1 (x0 + 1) s31) (fun r35 s36 => gb (f_X3_emit (-15) s36) (fun r40 s41 => (0, s41)))) else gb (f_X3_next  s0) (fun r45 s46 => gb (f_X3_readOr_1 (x0 + 1) s46) (fun r50 s51 => gb (f_X3_want 41 s51) (fun r55 s56 => (0, s56))))))) else j17c)) (gb (f_X3_fail  s0) (fun r19 s20 => (0, s20)))) else gb (f_X3_emit ((-1) - ((s0 55 0) - 262)) s0) (fun r63 s64 => gb (f_X3_next  s64) (fun r68 s69 => (0, s69))))) := rfl
set_option maxRecDepth 100000 in
set_option maxHeartbeats 4000000 in
theorem f_X3_readOne_2_p (x0 : Int) (s0 : gMem) (hx0 : in32 x0) (hm_s0 : gMR lgX s0) (hpre0 : TK s0) (hpre1 : RCO s0) (hpre2 : x0 = 3) (rZ : Int) (sZ : gMem) (hres : f_X3_readOne_2 x0 s0 = (rZ, sZ)) : (fr [34, 53, 54, 55, 56, 57, 58] s0 sZ) ∧ (gMR lgX sZ) ∧ (True) ∧ (TK sZ) ∧ (RCO sZ) := by
  have hT := f_X3_readOne_2_e x0 s0
  have hf_s0 : fr [34, 53, 54, 55, 56, 57, 58] s0 s0 := fr.rf _ _
  have hTK_s0 := hpre0
  have hRCO_s0 := hpre1
  obtain ⟨kt1, kt2, kt3, kt4, kt5, kt6, kt7⟩ := id hTK_s0
  have hr1 := (hm_s0 55 0).1 rfl
  by_cases h2 : (s0 55 0) = 2
  · replace hT := hT.trans (if_pos h2)
    have hr3 := (hm_s0 57 0).1 rfl
    obtain ⟨r5, s6, hs6⟩ : ∃ rr ss, (f_X3_emit (s0 57 0) s0) = (rr, ss) := ⟨_, _, rfl⟩
    replace hT := gby hT hs6
    have hp7 := f_X3_emit_p (s0 57 0) s0 (by omega) hm_s0 hTK_s0 hRCO_s0 (by first | assumption | omega) r5 s6 hs6
    obtain ⟨hfc_s6, hm_s6, hp8, hTK_s6, hRCO_s6⟩ := hp7
    have hf_s6 : fr [34, 53, 54, 55, 56, 57, 58] s0 s6 := hf_s0.call (by decide) hfc_s6
    obtain ⟨r10, s11, hs11⟩ : ∃ rr ss, (f_X3_next  s6) = (rr, ss) := ⟨_, _, rfl⟩
    replace hT := gby hT hs11
    have hp12 := f_X3_next_p  s6  hm_s6 hTK_s6 r10 s11 hs11
    obtain ⟨hfc_s11, hm_s11, hp13, hTK_s11⟩ := hp12
    have hf_s11 : fr [34, 53, 54, 55, 56, 57, 58] s0 s11 := hf_s6.call (by decide) hfc_s11
    have hRCO_s11 : RCO s11 := RCO_fr hRCO_s6 (fun k hk => hfc_s11 k (dj (by decide) k hk))
    obtain ⟨rfl, rfl⟩ := Prod.mk.inj (hT.symm.trans hres)
    exact ⟨hf_s11, hm_s11, trivial, hTK_s11, hRCO_s11⟩
  · replace hT := hT.trans (if_neg h2)
    have hr14 := (hm_s0 55 0).1 rfl
    by_cases h15 : (s0 55 0) < 262
    · replace hT := hT.trans (if_pos h15)
      obtain ⟨j17c, hj17c, hT⟩ := gjx hT
      have j17 : (True) → (f_X3_readOne_2 x0 s0) = j17c  → (fr [34, 53, 54, 55, 56, 57, 58] s0 sZ) ∧ (gMR lgX sZ) ∧ (True) ∧ (TK sZ) ∧ (RCO sZ) := by
        intro  hq hT
        rw [hj17c] at hT
        obtain ⟨r19, s20, hs20⟩ : ∃ rr ss, (f_X3_fail  s0) = (rr, ss) := ⟨_, _, rfl⟩
        replace hT := gby hT hs20
        have hp21 := f_X3_fail_p  s0  hm_s0 hTK_s0 r19 s20 hs20
        obtain ⟨hfc_s20, hm_s20, hp22, hTK_s20, hp23⟩ := hp21
        have hf_s20 : fr [34, 53, 54, 55, 56, 57, 58] s0 s20 := hf_s0.call (by decide) hfc_s20
        have hRCO_s20 : RCO s20 := RCO_fr hRCO_s0 (fun k hk => hfc_s20 k (dj (by decide) k hk))
        obtain ⟨rfl, rfl⟩ := Prod.mk.inj (hT.symm.trans hres)
        exact ⟨hf_s20, hm_s20, trivial, hTK_s20, hRCO_s20⟩
      by_cases h16 : x0 < 5
      · replace hT := hT.trans (if_pos h16)
        have hr24 := (hm_s0 55 0).1 rfl
        obtain ⟨j26c, hj26c, hT⟩ := gjx hT
        have j26 : (True) → (f_X3_readOne_2 x0 s0) = j26c  → (fr [34, 53, 54, 55, 56, 57, 58] s0 sZ) ∧ (gMR lgX sZ) ∧ (True) ∧ (TK sZ) ∧ (RCO sZ) := by
          intro  hq hT
          rw [hj26c] at hT
          have hr27 := (hm_s0 55 0).1 rfl
          by_cases h28 : (s0 55 0) = 45
          · replace hT := hT.trans (if_pos h28)
            obtain ⟨r30, s31, hs31⟩ : ∃ rr ss, (f_X3_next  s0) = (rr, ss) := ⟨_, _, rfl⟩
            replace hT := gby hT hs31
            have hp32 := f_X3_next_p  s0  hm_s0 hTK_s0 r30 s31 hs31
            obtain ⟨hfc_s31, hm_s31, hp33, hTK_s31⟩ := hp32
            have hf_s31 : fr [34, 53, 54, 55, 56, 57, 58] s0 s31 := hf_s0.call (by decide) hfc_s31
            have hRCO_s31 : RCO s31 := RCO_fr hRCO_s0 (fun k hk => hfc_s31 k (dj (by decide) k hk))
            obtain ⟨r35, s36, hs36⟩ : ∃ rr ss, (f_X3_readOne_1 (x0 + 1) s31) = (rr, ss) := ⟨_, _, rfl⟩
            replace hT := gby hT hs36
            have hp37 := f_X3_readOne_1_p (x0 + 1) s31 (by omega) hm_s31 hTK_s31 hRCO_s31 (by first | assumption | omega) r35 s36 hs36
            obtain ⟨hfc_s36, hm_s36, hp38, hTK_s36, hRCO_s36⟩ := hp37
            have hf_s36 : fr [34, 53, 54, 55, 56, 57, 58] s0 s36 := hf_s31.call (by decide) hfc_s36
            obtain ⟨r40, s41, hs41⟩ : ∃ rr ss, (f_X3_emit (-15) s36) = (rr, ss) := ⟨_, _, rfl⟩
            replace hT := gby hT hs41
            have hp42 := f_X3_emit_p (-15) s36 (by omega) hm_s36 hTK_s36 hRCO_s36 (by first | assumption | omega) r40 s41 hs41
            obtain ⟨hfc_s41, hm_s41, hp43, hTK_s41, hRCO_s41⟩ := hp42
            have hf_s41 : fr [34, 53, 54, 55, 56, 57, 58] s0 s41 := hf_s36.call (by decide) hfc_s41
            obtain ⟨rfl, rfl⟩ := Prod.mk.inj (hT.symm.trans hres)
            exact ⟨hf_s41, hm_s41, trivial, hTK_s41, hRCO_s41⟩
          · replace hT := hT.trans (if_neg h28)
            obtain ⟨r45, s46, hs46⟩ : ∃ rr ss, (f_X3_next  s0) = (rr, ss) := ⟨_, _, rfl⟩
            replace hT := gby hT hs46
            have hp47 := f_X3_next_p  s0  hm_s0 hTK_s0 r45 s46 hs46
            obtain ⟨hfc_s46, hm_s46, hp48, hTK_s46⟩ := hp47
            have hf_s46 : fr [34, 53, 54, 55, 56, 57, 58] s0 s46 := hf_s0.call (by decide) hfc_s46
            have hRCO_s46 : RCO s46 := RCO_fr hRCO_s0 (fun k hk => hfc_s46 k (dj (by decide) k hk))
            obtain ⟨r50, s51, hs51⟩ : ∃ rr ss, (f_X3_readOr_1 (x0 + 1) s46) = (rr, ss) := ⟨_, _, rfl⟩
            replace hT := gby hT hs51
            have hp52 := f_X3_readOr_1_p (x0 + 1) s46 (by omega) hm_s46 hTK_s46 hRCO_s46 (by first | assumption | omega) r50 s51 hs51
            obtain ⟨hfc_s51, hm_s51, hp53, hTK_s51, hRCO_s51⟩ := hp52
            have hf_s51 : fr [34, 53, 54, 55, 56, 57, 58] s0 s51 := hf_s46.call (by decide) hfc_s51
            obtain ⟨r55, s56, hs56⟩ : ∃ rr ss, (f_X3_want 41 s51) = (rr, ss) := ⟨_, _, rfl⟩
            replace hT := gby hT hs56
            have hp57 := f_X3_want_p 41 s51 (by omega) hm_s51 hTK_s51 r55 s56 hs56
            obtain ⟨hfc_s56, hm_s56, hp58, hTK_s56⟩ := hp57
            have hf_s56 : fr [34, 53, 54, 55, 56, 57, 58] s0 s56 := hf_s51.call (by decide) hfc_s56
            have hRCO_s56 : RCO s56 := RCO_fr hRCO_s51 (fun k hk => hfc_s56 k (dj (by decide) k hk))
            obtain ⟨rfl, rfl⟩ := Prod.mk.inj (hT.symm.trans hres)
            exact ⟨hf_s56, hm_s56, trivial, hTK_s56, hRCO_s56⟩
        by_cases h25 : (s0 55 0) = 45
        · replace hT := hT.trans (if_pos h25)
          exact j26  trivial hT
        · replace hT := hT.trans (if_neg h25)
          have hr59 := (hm_s0 55 0).1 rfl
          by_cases h60 : (s0 55 0) = 40
          · replace hT := hT.trans (if_pos h60)
            exact j26  trivial hT
          · replace hT := hT.trans (if_neg h60)
            exact j17  trivial hT
      · replace hT := hT.trans (if_neg h16)
        exact j17  trivial hT
    · replace hT := hT.trans (if_neg h15)
      have hr61 := (hm_s0 55 0).1 rfl
      obtain ⟨r63, s64, hs64⟩ : ∃ rr ss, (f_X3_emit ((-1) - ((s0 55 0) - 262)) s0) = (rr, ss) := ⟨_, _, rfl⟩
      replace hT := gby hT hs64
      have hp65 := f_X3_emit_p ((-1) - ((s0 55 0) - 262)) s0 (by omega) hm_s0 hTK_s0 hRCO_s0 (by first | assumption | omega) r63 s64 hs64
      obtain ⟨hfc_s64, hm_s64, hp66, hTK_s64, hRCO_s64⟩ := hp65
      have hf_s64 : fr [34, 53, 54, 55, 56, 57, 58] s0 s64 := hf_s0.call (by decide) hfc_s64
      obtain ⟨r68, s69, hs69⟩ : ∃ rr ss, (f_X3_next  s64) = (rr, ss) := ⟨_, _, rfl⟩
      replace hT := gby hT hs69
      have hp70 := f_X3_next_p  s64  hm_s64 hTK_s64 r68 s69 hs69
      obtain ⟨hfc_s69, hm_s69, hp71, hTK_s69⟩ := hp70
      have hf_s69 : fr [34, 53, 54, 55, 56, 57, 58] s0 s69 := hf_s64.call (by decide) hfc_s69
      have hRCO_s69 : RCO s69 := RCO_fr hRCO_s64 (fun k hk => hfc_s69 k (dj (by decide) k hk))
      obtain ⟨rfl, rfl⟩ := Prod.mk.inj (hT.symm.trans hres)
      exact ⟨hf_s69, hm_s69, trivial, hTK_s69, hRCO_s69⟩
set_option maxRecDepth 100000 in
set_option maxHeartbeats 4000000 in
theorem c_X3_readOne_2 (l : Launch) (D : va_G) (a : Nat → Nat) (cI cJ cS cT : ClassId) (adK adV : Nat → Nat) (kA : Nat) (s0 : gMem) (x0 : Int) (hx0 : in32 x0) (hpre0 : TK s0) (hpre1 : RCO s0) (hpre2 : x0 = 3) : gCS l yX3_readOne cX3_readOne 2 none 22 1408 D vwCl (gT cI cJ cS cT) (wdX a cI cJ cS cT) lgX kV rgV [.ref (a 2), gI x0] s0 (f_X3_readOne_2 x0 s0) adK adV kA := by
  refine gCS_of (by decide +kernel) (hwdX a cI cJ cS cT) (Nat.le_of_ble_eq_true rfl) ?_
  intro A p e R s m args below meth c hR E HX
  subst hR
  have hT := f_X3_readOne_2_e x0 s0
  have hf_s0 : fr [34, 53, 54, 55, 56, 57, 58] s0 s0 := fr.rf _ _
  refine k_lv0 (lv' := [(0, .ref (a 2)), (1, gI x0)]) rfl ?_
  refine k_mr (fun hm_s0 => ?_)
  have hTK_s0 := hpre0
  have hRCO_s0 := hpre1
  refine k_aloadn (pc := 0) E 0 dX3_readOne_0 rfl rfl ?_
  obtain ⟨kt1, kt2, kt3, kt4, kt5, kt6, kt7⟩ := id hTK_s0
  refine k_getfI (pc := 1) (q0 := 2) (f := 6) (k := 55) E inX3 rfl rfl (by decide) wm_65 rfl rfl rfl dX3_readOne_1 (fun hr1 => ?_)
  refine k_iconst (pc := 4) E dX3_readOne_4 ?_
  by_cases h2 : (s0 55 0) = 2
  · replace hT := hT.trans (if_pos h2)
    refine k_icmp_ne_f (pc := 5) (tgt := 23) E (by omega) (by omega) dX3_readOne_5 (by decide) h2 ?_
    refine k_aloadn (pc := 8) E 0 dX3_readOne_8 rfl rfl ?_
    refine k_aloadn (pc := 9) E 0 dX3_readOne_9 rfl rfl ?_
    refine k_getfI (pc := 10) (q0 := 2) (f := 8) (k := 57) E inX3 rfl rfl (by decide) wm_67 rfl rfl rfl dX3_readOne_10 (fun hr3 => ?_)
    refine k_mr (fun hm_s0 => ?_)
    refine k_callV (pc := 13) (np := 1) (As := [gI (s0 57 0)]) (st := []) (q0 := 2) E (c_X3_emit l D a cI cJ cS cT s0 (s0 57 0) (by omega) hTK_s0 hRCO_s0 (by first | assumption | omega)) wm_460 wm_3 wm_457 wm_459 wp_13 (by decide +kernel) rfl rfl ⟨by decide, by decide⟩ rfl (Nat.le_of_ble_eq_true rfl) dX3_readOne_13 (fun r5 s6 hs6 hr4 => ?_)
    replace hT := gby hT hs6
    have hp7 := f_X3_emit_p (s0 57 0) s0 (by omega) hm_s0 hTK_s0 hRCO_s0 (by first | assumption | omega) r5 s6 hs6
    obtain ⟨hfc_s6, hm_s6, hp8, hTK_s6, hRCO_s6⟩ := hp7
    have hf_s6 : fr [34, 53, 54, 55, 56, 57, 58] s0 s6 := hf_s0.call (by decide) hfc_s6
    refine k_st (st' := []) rfl ?_
    refine k_aloadn (pc := 16) E 0 dX3_readOne_16 rfl rfl ?_
    refine k_mr (fun hm_s6 => ?_)
    refine k_callVX (pc := 17) (np := 0) (As := []) (st := []) (q0 := 2) E HX rfl rfl (c_X3_next l D a cI cJ cS cT adK adV kA s6  hTK_s6) wm_336 wm_3 wm_333 wm_335 wp_0 (by decide +kernel) ⟨by decide, by decide⟩ rfl (Nat.le_of_ble_eq_true rfl) dX3_readOne_17 (fun r10 s11 hs11 hr9 => ?_)
    replace hT := gby hT hs11
    have hp12 := f_X3_next_p  s6  hm_s6 hTK_s6 r10 s11 hs11
    obtain ⟨hfc_s11, hm_s11, hp13, hTK_s11⟩ := hp12
    have hf_s11 : fr [34, 53, 54, 55, 56, 57, 58] s0 s11 := hf_s6.call (by decide) hfc_s11
    have hRCO_s11 : RCO s11 := RCO_fr hRCO_s6 (fun k hk => hfc_s11 k (dj (by decide) k hk))
    refine k_st (st' := []) rfl ?_
    refine k_goto (pc := 20) (tgt := 130) E dX3_readOne_20 (by decide) ?_
    exact k_rho hT (k_vret (pc := 130) E dX3_readOne_130)
  · replace hT := hT.trans (if_neg h2)
    refine k_icmp_ne_t (pc := 5) (tgt := 23) E (by omega) (by omega) dX3_readOne_5 (by decide) h2 ?_
    refine k_aloadn (pc := 23) E 0 dX3_readOne_23 rfl rfl ?_
    refine k_getfI (pc := 24) (q0 := 2) (f := 6) (k := 55) E inX3 rfl rfl (by decide) wm_65 rfl rfl rfl dX3_readOne_24 (fun hr14 => ?_)
    refine k_sipush (pc := 27) E dX3_readOne_27 (by decide) ?_
    by_cases h15 : (s0 55 0) < 262
    · replace hT := hT.trans (if_pos h15)
      refine k_icmp_lt_t (pc := 30) (tgt := 54) E (by omega) (by omega) dX3_readOne_30 (by decide) h15 ?_
      refine k_iloadn (pc := 54) E 1 dX3_readOne_54 rfl rfl ?_
      refine k_iconst (pc := 55) E dX3_readOne_55 ?_
      obtain ⟨j17c, hj17c, hT⟩ := gjx hT
      have j17 : (True) → (f_X3_readOne_2 x0 s0) = j17c  → gK D vwCl (wdX a cI cJ cS cT) lgX A p l e { frames := 22, cells := 0, slots := 0, locals := 1408 } s m args below meth c 2 (gQQ D vwCl (wdX a cI cJ cS cT) lgX A kV rgV below args s) (f_X3_readOne_2 x0 s0) s0 77 [(0, .ref (a 2))] [] := by
        intro  hq hT
        rw [hj17c] at hT
        refine k_aloadn (pc := 77) E 0 dX3_readOne_77 rfl rfl ?_
        refine k_mr (fun hm_s0 => ?_)
        refine k_callV (pc := 78) (np := 0) (As := []) (st := []) (q0 := 2) E (c_X3_fail l D a cI cJ cS cT s0  hTK_s0) wm_428 wm_3 wm_425 wm_427 wp_5 (by decide +kernel) rfl rfl ⟨by decide, by decide⟩ rfl (Nat.le_of_ble_eq_true rfl) dX3_readOne_78 (fun r19 s20 hs20 hr18 => ?_)
        replace hT := gby hT hs20
        have hp21 := f_X3_fail_p  s0  hm_s0 hTK_s0 r19 s20 hs20
        obtain ⟨hfc_s20, hm_s20, hp22, hTK_s20, hp23⟩ := hp21
        have hf_s20 : fr [34, 53, 54, 55, 56, 57, 58] s0 s20 := hf_s0.call (by decide) hfc_s20
        have hRCO_s20 : RCO s20 := RCO_fr hRCO_s0 (fun k hk => hfc_s20 k (dj (by decide) k hk))
        refine k_st (st' := []) rfl ?_
        refine k_goto (pc := 81) (tgt := 130) E dX3_readOne_81 (by decide) ?_
        exact k_rho hT (k_vret (pc := 130) E dX3_readOne_130)
      by_cases h16 : x0 < 5
      · replace hT := hT.trans (if_pos h16)
        refine k_icmp_ge_f (pc := 56) (tgt := 77) E (by omega) (by omega) dX3_readOne_56 (by decide) h16 ?_
        refine k_aloadn (pc := 59) E 0 dX3_readOne_59 rfl rfl ?_
        refine k_getfI (pc := 60) (q0 := 2) (f := 6) (k := 55) E inX3 rfl rfl (by decide) wm_65 rfl rfl rfl dX3_readOne_60 (fun hr24 => ?_)
        refine k_bipush (pc := 63) E dX3_readOne_63 (by decide) ?_
        obtain ⟨j26c, hj26c, hT⟩ := gjx hT
        have j26 : (True) → (f_X3_readOne_2 x0 s0) = j26c  → gK D vwCl (wdX a cI cJ cS cT) lgX A p l e { frames := 22, cells := 0, slots := 0, locals := 1408 } s m args below meth c 2 (gQQ D vwCl (wdX a cI cJ cS cT) lgX A kV rgV below args s) (f_X3_readOne_2 x0 s0) s0 84 [(0, .ref (a 2)), (1, gI x0)] [] := by
          intro  hq hT
          rw [hj26c] at hT
          refine k_aloadn (pc := 84) E 0 dX3_readOne_84 rfl rfl ?_
          refine k_getfI (pc := 85) (q0 := 2) (f := 6) (k := 55) E inX3 rfl rfl (by decide) wm_65 rfl rfl rfl dX3_readOne_85 (fun hr27 => ?_)
          refine k_bipush (pc := 88) E dX3_readOne_88 (by decide) ?_
          by_cases h28 : (s0 55 0) = 45
          · replace hT := hT.trans (if_pos h28)
            refine k_icmp_ne_f (pc := 90) (tgt := 113) E (by omega) (by omega) dX3_readOne_90 (by decide) h28 ?_
            refine k_aloadn (pc := 93) E 0 dX3_readOne_93 rfl rfl ?_
            refine k_mr (fun hm_s0 => ?_)
            refine k_callVX (pc := 94) (np := 0) (As := []) (st := []) (q0 := 2) E HX rfl rfl (c_X3_next l D a cI cJ cS cT adK adV kA s0  hTK_s0) wm_336 wm_3 wm_333 wm_335 wp_0 (by decide +kernel) ⟨by decide, by decide⟩ rfl (Nat.le_of_ble_eq_true rfl) dX3_readOne_94 (fun r30 s31 hs31 hr29 => ?_)
            replace hT := gby hT hs31
            have hp32 := f_X3_next_p  s0  hm_s0 hTK_s0 r30 s31 hs31
            obtain ⟨hfc_s31, hm_s31, hp33, hTK_s31⟩ := hp32
            have hf_s31 : fr [34, 53, 54, 55, 56, 57, 58] s0 s31 := hf_s0.call (by decide) hfc_s31
            have hRCO_s31 : RCO s31 := RCO_fr hRCO_s0 (fun k hk => hfc_s31 k (dj (by decide) k hk))
            refine k_st (st' := []) rfl ?_
            refine k_aloadn (pc := 97) E 0 dX3_readOne_97 rfl rfl ?_
            refine k_iloadn (pc := 98) E 1 dX3_readOne_98 rfl rfl ?_
            refine k_iconst (pc := 99) E dX3_readOne_99 ?_
            refine k_iadd (pc := 100) E dX3_readOne_100 ?_
            refine k_mr (fun hm_s31 => ?_)
            refine k_callVX (pc := 101) (np := 1) (As := [gI (x0 + 1)]) (st := []) (q0 := 2) E HX rfl rfl (c_X3_readOne_1 l D a cI cJ cS cT adK adV kA s31 (x0 + 1) (by omega) hTK_s31 hRCO_s31 (by first | assumption | omega)) wm_456 wm_3 wm_453 wm_455 wp_12 (by decide +kernel) ⟨by decide, by decide⟩ rfl (Nat.le_of_ble_eq_true rfl) dX3_readOne_101 (fun r35 s36 hs36 hr34 => ?_)
            replace hT := gby hT hs36
            have hp37 := f_X3_readOne_1_p (x0 + 1) s31 (by omega) hm_s31 hTK_s31 hRCO_s31 (by first | assumption | omega) r35 s36 hs36
            obtain ⟨hfc_s36, hm_s36, hp38, hTK_s36, hRCO_s36⟩ := hp37
            have hf_s36 : fr [34, 53, 54, 55, 56, 57, 58] s0 s36 := hf_s31.call (by decide) hfc_s36
            refine k_st (st' := []) rfl ?_
            refine k_aloadn (pc := 104) E 0 dX3_readOne_104 rfl rfl ?_
            refine k_bipush (pc := 105) E dX3_readOne_105 (by decide) ?_
            refine k_mr (fun hm_s36 => ?_)
            refine k_callV (pc := 107) (np := 1) (As := [gI (-15)]) (st := []) (q0 := 2) E (c_X3_emit l D a cI cJ cS cT s36 (-15) (by omega) hTK_s36 hRCO_s36 (by first | assumption | omega)) wm_460 wm_3 wm_457 wm_459 wp_13 (by decide +kernel) rfl rfl ⟨by decide, by decide⟩ rfl (Nat.le_of_ble_eq_true rfl) dX3_readOne_107 (fun r40 s41 hs41 hr39 => ?_)
            replace hT := gby hT hs41
            have hp42 := f_X3_emit_p (-15) s36 (by omega) hm_s36 hTK_s36 hRCO_s36 (by first | assumption | omega) r40 s41 hs41
            obtain ⟨hfc_s41, hm_s41, hp43, hTK_s41, hRCO_s41⟩ := hp42
            have hf_s41 : fr [34, 53, 54, 55, 56, 57, 58] s0 s41 := hf_s36.call (by decide) hfc_s41
            refine k_st (st' := []) rfl ?_
            refine k_goto (pc := 110) (tgt := 130) E dX3_readOne_110 (by decide) ?_
            exact k_rho hT (k_vret (pc := 130) E dX3_readOne_130)
          · replace hT := hT.trans (if_neg h28)
            refine k_icmp_ne_t (pc := 90) (tgt := 113) E (by omega) (by omega) dX3_readOne_90 (by decide) h28 ?_
            refine k_aloadn (pc := 113) E 0 dX3_readOne_113 rfl rfl ?_
            refine k_mr (fun hm_s0 => ?_)
            refine k_callVX (pc := 114) (np := 0) (As := []) (st := []) (q0 := 2) E HX rfl rfl (c_X3_next l D a cI cJ cS cT adK adV kA s0  hTK_s0) wm_336 wm_3 wm_333 wm_335 wp_0 (by decide +kernel) ⟨by decide, by decide⟩ rfl (Nat.le_of_ble_eq_true rfl) dX3_readOne_114 (fun r45 s46 hs46 hr44 => ?_)
            replace hT := gby hT hs46
            have hp47 := f_X3_next_p  s0  hm_s0 hTK_s0 r45 s46 hs46
            obtain ⟨hfc_s46, hm_s46, hp48, hTK_s46⟩ := hp47
            have hf_s46 : fr [34, 53, 54, 55, 56, 57, 58] s0 s46 := hf_s0.call (by decide) hfc_s46
            have hRCO_s46 : RCO s46 := RCO_fr hRCO_s0 (fun k hk => hfc_s46 k (dj (by decide) k hk))
            refine k_st (st' := []) rfl ?_
            refine k_aloadn (pc := 117) E 0 dX3_readOne_117 rfl rfl ?_
            refine k_iloadn (pc := 118) E 1 dX3_readOne_118 rfl rfl ?_
            refine k_iconst (pc := 119) E dX3_readOne_119 ?_
            refine k_iadd (pc := 120) E dX3_readOne_120 ?_
            refine k_mr (fun hm_s46 => ?_)
            refine k_callVX (pc := 121) (np := 1) (As := [gI (x0 + 1)]) (st := []) (q0 := 2) E HX rfl rfl (c_X3_readOr_1 l D a cI cJ cS cT adK adV kA s46 (x0 + 1) (by omega) hTK_s46 hRCO_s46 (by first | assumption | omega)) wm_432 wm_3 wm_429 wm_431 wp_6 (by decide +kernel) ⟨by decide, by decide⟩ rfl (Nat.le_of_ble_eq_true rfl) dX3_readOne_121 (fun r50 s51 hs51 hr49 => ?_)
            replace hT := gby hT hs51
            have hp52 := f_X3_readOr_1_p (x0 + 1) s46 (by omega) hm_s46 hTK_s46 hRCO_s46 (by first | assumption | omega) r50 s51 hs51
            obtain ⟨hfc_s51, hm_s51, hp53, hTK_s51, hRCO_s51⟩ := hp52
            have hf_s51 : fr [34, 53, 54, 55, 56, 57, 58] s0 s51 := hf_s46.call (by decide) hfc_s51
            refine k_st (st' := []) rfl ?_
            refine k_aloadn (pc := 124) E 0 dX3_readOne_124 rfl rfl ?_
            refine k_bipush (pc := 125) E dX3_readOne_125 (by decide) ?_
            refine k_mr (fun hm_s51 => ?_)
            refine k_callVX (pc := 127) (np := 1) (As := [gI 41]) (st := []) (q0 := 2) E HX rfl rfl (c_X3_want l D a cI cJ cS cT adK adV kA s51 41 (by omega) hTK_s51) wm_424 wm_3 wm_421 wm_423 wp_4 (by decide +kernel) ⟨by decide, by decide⟩ rfl (Nat.le_of_ble_eq_true rfl) dX3_readOne_127 (fun r55 s56 hs56 hr54 => ?_)
            replace hT := gby hT hs56
            have hp57 := f_X3_want_p 41 s51 (by omega) hm_s51 hTK_s51 r55 s56 hs56
            obtain ⟨hfc_s56, hm_s56, hp58, hTK_s56⟩ := hp57
            have hf_s56 : fr [34, 53, 54, 55, 56, 57, 58] s0 s56 := hf_s51.call (by decide) hfc_s56
            have hRCO_s56 : RCO s56 := RCO_fr hRCO_s51 (fun k hk => hfc_s56 k (dj (by decide) k hk))
            refine k_st (st' := []) rfl ?_
            exact k_rho hT (k_vret (pc := 130) E dX3_readOne_130)
        by_cases h25 : (s0 55 0) = 45
        · replace hT := hT.trans (if_pos h25)
          refine k_icmp_eq_t (pc := 65) (tgt := 84) E (by omega) (by omega) dX3_readOne_65 (by decide) h25 ?_
          exact j26  trivial hT
        · replace hT := hT.trans (if_neg h25)
          refine k_icmp_eq_f (pc := 65) (tgt := 84) E (by omega) (by omega) dX3_readOne_65 (by decide) h25 ?_
          refine k_aloadn (pc := 68) E 0 dX3_readOne_68 rfl rfl ?_
          refine k_getfI (pc := 69) (q0 := 2) (f := 6) (k := 55) E inX3 rfl rfl (by decide) wm_65 rfl rfl rfl dX3_readOne_69 (fun hr59 => ?_)
          refine k_bipush (pc := 72) E dX3_readOne_72 (by decide) ?_
          by_cases h60 : (s0 55 0) = 40
          · replace hT := hT.trans (if_pos h60)
            refine k_icmp_eq_t (pc := 74) (tgt := 84) E (by omega) (by omega) dX3_readOne_74 (by decide) h60 ?_
            exact j26  trivial hT
          · replace hT := hT.trans (if_neg h60)
            refine k_icmp_eq_f (pc := 74) (tgt := 84) E (by omega) (by omega) dX3_readOne_74 (by decide) h60 ?_
            refine k_lv (lv' := [(0, .ref (a 2))]) [0] rfl ?_
            exact j17  trivial hT
      · replace hT := hT.trans (if_neg h16)
        refine k_icmp_ge_t (pc := 56) (tgt := 77) E (by omega) (by omega) dX3_readOne_56 (by decide) h16 ?_
        refine k_lv (lv' := [(0, .ref (a 2))]) [0] rfl ?_
        exact j17  trivial hT
    · replace hT := hT.trans (if_neg h15)
      refine k_icmp_lt_f (pc := 30) (tgt := 54) E (by omega) (by omega) dX3_readOne_30 (by decide) h15 ?_
      refine k_aloadn (pc := 33) E 0 dX3_readOne_33 rfl rfl ?_
      refine k_iconst (pc := 34) E dX3_readOne_34 ?_
      refine k_aloadn (pc := 35) E 0 dX3_readOne_35 rfl rfl ?_
      refine k_getfI (pc := 36) (q0 := 2) (f := 6) (k := 55) E inX3 rfl rfl (by decide) wm_65 rfl rfl rfl dX3_readOne_36 (fun hr61 => ?_)
      refine k_sipush (pc := 39) E dX3_readOne_39 (by decide) ?_
      refine k_isub (pc := 42) E dX3_readOne_42 ?_
      refine k_isub (pc := 43) E dX3_readOne_43 ?_
      refine k_mr (fun hm_s0 => ?_)
      refine k_callV (pc := 44) (np := 1) (As := [gI ((-1) - ((s0 55 0) - 262))]) (st := []) (q0 := 2) E (c_X3_emit l D a cI cJ cS cT s0 ((-1) - ((s0 55 0) - 262)) (by omega) hTK_s0 hRCO_s0 (by first | assumption | omega)) wm_460 wm_3 wm_457 wm_459 wp_13 (by decide +kernel) rfl rfl ⟨by decide, by decide⟩ rfl (Nat.le_of_ble_eq_true rfl) dX3_readOne_44 (fun r63 s64 hs64 hr62 => ?_)
      replace hT := gby hT hs64
      have hp65 := f_X3_emit_p ((-1) - ((s0 55 0) - 262)) s0 (by omega) hm_s0 hTK_s0 hRCO_s0 (by first | assumption | omega) r63 s64 hs64
      obtain ⟨hfc_s64, hm_s64, hp66, hTK_s64, hRCO_s64⟩ := hp65
      have hf_s64 : fr [34, 53, 54, 55, 56, 57, 58] s0 s64 := hf_s0.call (by decide) hfc_s64
      refine k_st (st' := []) rfl ?_
      refine k_aloadn (pc := 47) E 0 dX3_readOne_47 rfl rfl ?_
      refine k_mr (fun hm_s64 => ?_)
      refine k_callVX (pc := 48) (np := 0) (As := []) (st := []) (q0 := 2) E HX rfl rfl (c_X3_next l D a cI cJ cS cT adK adV kA s64  hTK_s64) wm_336 wm_3 wm_333 wm_335 wp_0 (by decide +kernel) ⟨by decide, by decide⟩ rfl (Nat.le_of_ble_eq_true rfl) dX3_readOne_48 (fun r68 s69 hs69 hr67 => ?_)
      replace hT := gby hT hs69
      have hp70 := f_X3_next_p  s64  hm_s64 hTK_s64 r68 s69 hs69
      obtain ⟨hfc_s69, hm_s69, hp71, hTK_s69⟩ := hp70
      have hf_s69 : fr [34, 53, 54, 55, 56, 57, 58] s0 s69 := hf_s64.call (by decide) hfc_s69
      have hRCO_s69 : RCO s69 := RCO_fr hRCO_s64 (fun k hk => hfc_s69 k (dj (by decide) k hk))
      refine k_st (st' := []) rfl ?_
      refine k_goto (pc := 51) (tgt := 130) E dX3_readOne_51 (by decide) ?_
      exact k_rho hT (k_vret (pc := 130) E dX3_readOne_130)

def w_X3_readTerm_2_7 (c1 : Int) : Nat → Int → gMem → Int × gMem
  | 0, v6, s7 => (v6, s7)
  | n8 + 1, v6, s7 => (if v6 < 160 then (if (s7 55 0) = 42 then gb (f_X3_next  s7) (fun r13 s14 => gb (f_X3_readOne_2 c1 s14) (fun r18 s19 => gb (f_X3_emit (-13) s19) (fun r23 s24 => (w_X3_readTerm_2_7 c1 n8 (v6 + 1) s24)))) else (v6, s7)) else (v6, s7))
theorem w_X3_readTerm_2_7_s (c1 : Int) (n8 : Nat) (v6 : Int) (s7 : gMem) : w_X3_readTerm_2_7 c1 (n8 + 1) v6 s7 = (if v6 < 160 then (if (s7 55 0) = 42 then gb (f_X3_next  s7) (fun r13 s14 => gb (f_X3_readOne_2 c1 s14) (fun r18 s19 => gb (f_X3_emit (-13) s19) (fun r23 s24 => (w_X3_readTerm_2_7 c1 n8 (v6 + 1) s24)))) else (v6, s7)) else (v6, s7)) := rfl
def f_X3_readTerm_2 (x0 : Int) (s0 : gMem) : gRes := gb (f_X3_readOne_2 x0 s0) (fun r2 s3 => (gl2 (w_X3_readTerm_2_7 x0 161 0 s3) (fun v55 s56 => (0, s56))))
theorem f_X3_readTerm_2_e (x0 : Int) (s0 : gMem) : f_X3_readTerm_2 x0 s0 = gb (f_X3_readOne_2 x0 s0) (fun r2 s3 => (gl2 (w_X3_readTerm_2_7 x0 161 0 s3) (fun v55 s56 => (0, s56)))) := rfl
set_option maxRecDepth 100000 in
set_option maxHeartbeats 4000000 in
theorem f_X3_readTerm_2_p (x0 : Int) (s0 : gMem) (hx0 : in32 x0) (hm_s0 : gMR lgX s0) (hpre0 : TK s0) (hpre1 : RCO s0) (hpre2 : x0 = 3) (rZ : Int) (sZ : gMem) (hres : f_X3_readTerm_2 x0 s0 = (rZ, sZ)) : (fr [34, 53, 54, 55, 56, 57, 58] s0 sZ) ∧ (gMR lgX sZ) ∧ (True) ∧ (TK sZ) ∧ (RCO sZ) := by
  have hT := f_X3_readTerm_2_e x0 s0
  have hf_s0 : fr [34, 53, 54, 55, 56, 57, 58] s0 s0 := fr.rf _ _
  have hTK_s0 := hpre0
  have hRCO_s0 := hpre1
  obtain ⟨r2, s3, hs3⟩ : ∃ rr ss, (f_X3_readOne_2 x0 s0) = (rr, ss) := ⟨_, _, rfl⟩
  replace hT := gby hT hs3
  have hp4 := f_X3_readOne_2_p x0 s0 (by omega) hm_s0 hTK_s0 hRCO_s0 (by first | assumption | omega) r2 s3 hs3
  obtain ⟨hfc_s3, hm_s3, hp5, hTK_s3, hRCO_s3⟩ := hp4
  have hf_s3 : fr [34, 53, 54, 55, 56, 57, 58] s0 s3 := hf_s0.call (by decide) hfc_s3
  have L29 : ∀ (n30 : Nat) (v27 : Int) (s28 : gMem), ((in32 v27) ∧ (fr [34, 53, 54, 55, 56, 57, 58] s0 s28) ∧ (gMR lgX s28) ∧ (TK s28) ∧ (RCO s28) ∧ (0 ≤ v27 ∧ v27 ≤ 160)) → 160 - v27 < (n30 : Int) → (∀ (w31 : Int) (s32 : gMem), (w_X3_readTerm_2_7 x0 n30 v27 s28) = (w31, s32) → ((in32 w31) ∧ (fr [34, 53, 54, 55, 56, 57, 58] s0 s32) ∧ (gMR lgX s32) ∧ (TK s32) ∧ (RCO s32) ∧ (0 ≤ w31 ∧ w31 ≤ 160)) → (fr [34, 53, 54, 55, 56, 57, 58] s0 sZ) ∧ (gMR lgX sZ) ∧ (True) ∧ (TK sZ) ∧ (RCO sZ)) → (fr [34, 53, 54, 55, 56, 57, 58] s0 sZ) ∧ (gMR lgX sZ) ∧ (True) ∧ (TK sZ) ∧ (RCO sZ) := by
    intro n30; induction n30 with
    | zero =>
      intro v27 s28 hq hm hk
      exfalso
      obtain ⟨hq51, hf_s28, hm_s28, hTK_s28, hRCO_s28, hq52⟩ := hq
      omega
    | succ n30 ih =>
      intro v27 s28 hq hm hk
      obtain ⟨hq53, hf_s28, hm_s28, hTK_s28, hRCO_s28, hq54⟩ := hq
      have hT := w_X3_readTerm_2_7_s x0 n30 v27 s28
      by_cases h33 : v27 < 160
      · replace hT := hT.trans (if_pos h33)
        have hr34 := (hm_s28 55 0).1 rfl
        by_cases h35 : (s28 55 0) = 42
        · replace hT := hT.trans (if_pos h35)
          obtain ⟨r37, s38, hs38⟩ : ∃ rr ss, (f_X3_next  s28) = (rr, ss) := ⟨_, _, rfl⟩
          replace hT := gby hT hs38
          have hp39 := f_X3_next_p  s28  hm_s28 hTK_s28 r37 s38 hs38
          obtain ⟨hfc_s38, hm_s38, hp40, hTK_s38⟩ := hp39
          have hf_s38 : fr [34, 53, 54, 55, 56, 57, 58] s0 s38 := hf_s28.call (by decide) hfc_s38
          have hRCO_s38 : RCO s38 := RCO_fr hRCO_s28 (fun k hk => hfc_s38 k (dj (by decide) k hk))
          obtain ⟨r42, s43, hs43⟩ : ∃ rr ss, (f_X3_readOne_2 x0 s38) = (rr, ss) := ⟨_, _, rfl⟩
          replace hT := gby hT hs43
          have hp44 := f_X3_readOne_2_p x0 s38 (by omega) hm_s38 hTK_s38 hRCO_s38 (by first | assumption | omega) r42 s43 hs43
          obtain ⟨hfc_s43, hm_s43, hp45, hTK_s43, hRCO_s43⟩ := hp44
          have hf_s43 : fr [34, 53, 54, 55, 56, 57, 58] s0 s43 := hf_s38.call (by decide) hfc_s43
          obtain ⟨r47, s48, hs48⟩ : ∃ rr ss, (f_X3_emit (-13) s43) = (rr, ss) := ⟨_, _, rfl⟩
          replace hT := gby hT hs48
          have hp49 := f_X3_emit_p (-13) s43 (by omega) hm_s43 hTK_s43 hRCO_s43 (by first | assumption | omega) r47 s48 hs48
          obtain ⟨hfc_s48, hm_s48, hp50, hTK_s48, hRCO_s48⟩ := hp49
          have hf_s48 : fr [34, 53, 54, 55, 56, 57, 58] s0 s48 := hf_s43.call (by decide) hfc_s48
          exact ih (v27 + 1) s48 ⟨(by omega), hf_s48, hm_s48, hTK_s48, hRCO_s48, (by first | assumption | omega)⟩ (by omega) (fun w31 s32 hw hi => hk w31 s32 (hT.trans hw) hi)
        · replace hT := hT.trans (if_neg h35)
          exact hk v27 s28 hT ⟨(by omega), hf_s28, hm_s28, hTK_s28, hRCO_s28, (by first | assumption | omega)⟩
      · replace hT := hT.trans (if_neg h33)
        exact hk v27 s28 hT ⟨(by omega), hf_s28, hm_s28, hTK_s28, hRCO_s28, (by first | assumption | omega)⟩
  refine L29 161 0 s3 ⟨(by omega), hf_s3, hm_s3, hTK_s3, hRCO_s3, (by first | assumption | omega)⟩ (by omega) (fun v55 s56 hw hq => ?_)
  obtain ⟨hq57, hf_s56, hm_s56, hTK_s56, hRCO_s56, hq58⟩ := hq
  replace hT := gl2y hT hw
  obtain ⟨rfl, rfl⟩ := Prod.mk.inj (hT.symm.trans hres)
  exact ⟨hf_s56, hm_s56, trivial, hTK_s56, hRCO_s56⟩
set_option maxRecDepth 100000 in
set_option maxHeartbeats 4000000 in
theorem c_X3_readTerm_2 (l : Launch) (D : va_G) (a : Nat → Nat) (cI cJ cS cT : ClassId) (adK adV : Nat → Nat) (kA : Nat) (s0 : gMem) (x0 : Int) (hx0 : in32 x0) (hpre0 : TK s0) (hpre1 : RCO s0) (hpre2 : x0 = 3) : gCS l yX3_readTerm cX3_readTerm 3 none 23 1472 D vwCl (gT cI cJ cS cT) (wdX a cI cJ cS cT) lgX kV rgV [.ref (a 2), gI x0] s0 (f_X3_readTerm_2 x0 s0) adK adV kA := by
  refine gCS_of (by decide +kernel) (hwdX a cI cJ cS cT) (Nat.le_of_ble_eq_true rfl) ?_
  intro A p e R s m args below meth c hR E HX
  subst hR
  have hT := f_X3_readTerm_2_e x0 s0
  have hf_s0 : fr [34, 53, 54, 55, 56, 57, 58] s0 s0 := fr.rf _ _
  refine k_lv0 (lv' := [(0, .ref (a 2)), (1, gI x0)]) rfl ?_
  refine k_mr (fun hm_s0 => ?_)
  have hTK_s0 := hpre0
  have hRCO_s0 := hpre1
  refine k_aloadn (pc := 0) E 0 dX3_readTerm_0 rfl rfl ?_
  refine k_iloadn (pc := 1) E 1 dX3_readTerm_1 rfl rfl ?_
  refine k_mr (fun hm_s0 => ?_)
  refine k_callVX (pc := 2) (np := 1) (As := [gI x0]) (st := []) (q0 := 2) E HX rfl rfl (c_X3_readOne_2 l D a cI cJ cS cT adK adV kA s0 x0 (by omega) hTK_s0 hRCO_s0 (by first | assumption | omega)) wm_456 wm_3 wm_453 wm_455 wp_12 (by decide +kernel) ⟨by decide, by decide⟩ rfl (Nat.le_of_ble_eq_true rfl) dX3_readTerm_2 (fun r2 s3 hs3 hr1 => ?_)
  replace hT := gby hT hs3
  have hp4 := f_X3_readOne_2_p x0 s0 (by omega) hm_s0 hTK_s0 hRCO_s0 (by first | assumption | omega) r2 s3 hs3
  obtain ⟨hfc_s3, hm_s3, hp5, hTK_s3, hRCO_s3⟩ := hp4
  have hf_s3 : fr [34, 53, 54, 55, 56, 57, 58] s0 s3 := hf_s0.call (by decide) hfc_s3
  refine k_st (st' := []) rfl ?_
  refine k_iconst (pc := 5) E dX3_readTerm_5 ?_
  refine k_istoren (pc := 6) (lv' := [(2, gI 0), (0, .ref (a 2)), (1, gI x0)]) E dX3_readTerm_6 rfl (by decide) rfl ?_
  have L29 : ∀ (n30 : Nat) (v27 : Int) (s28 : gMem), ((in32 v27) ∧ (fr [34, 53, 54, 55, 56, 57, 58] s0 s28) ∧ (TK s28) ∧ (RCO s28) ∧ (0 ≤ v27 ∧ v27 ≤ 160)) → 160 - v27 < (n30 : Int) → (∀ (w31 : Int) (s32 : gMem), (w_X3_readTerm_2_7 x0 n30 v27 s28) = (w31, s32) → ((in32 w31) ∧ (fr [34, 53, 54, 55, 56, 57, 58] s0 s32) ∧ (TK s32) ∧ (RCO s32) ∧ (0 ≤ w31 ∧ w31 ≤ 160)) → gK D vwCl (wdX a cI cJ cS cT) lgX A p l e { frames := 23, cells := 0, slots := 0, locals := 1472 } s m args below meth c 3 (gQQ D vwCl (wdX a cI cJ cS cT) lgX A kV rgV below args s) (f_X3_readTerm_2 x0 s0) s32 44 [] []) → gK D vwCl (wdX a cI cJ cS cT) lgX A p l e { frames := 23, cells := 0, slots := 0, locals := 1472 } s m args below meth c 3 (gQQ D vwCl (wdX a cI cJ cS cT) lgX A kV rgV below args s) (f_X3_readTerm_2 x0 s0) s28 7 [(0, .ref (a 2)), (1, gI x0), (2, gI v27)] [] := by
    intro n30; induction n30 with
    | zero =>
      intro v27 s28 hq hm hk
      exfalso
      obtain ⟨hq51, hf_s28, hTK_s28, hRCO_s28, hq52⟩ := hq
      omega
    | succ n30 ih =>
      intro v27 s28 hq hm hk
      obtain ⟨hq53, hf_s28, hTK_s28, hRCO_s28, hq54⟩ := hq
      have hT := w_X3_readTerm_2_7_s x0 n30 v27 s28
      refine k_iloadn (pc := 7) E 2 dX3_readTerm_7 rfl rfl ?_
      refine k_sipush (pc := 8) E dX3_readTerm_8 (by decide) ?_
      by_cases h33 : v27 < 160
      · replace hT := hT.trans (if_pos h33)
        refine k_icmp_ge_f (pc := 11) (tgt := 44) E (by omega) (by omega) dX3_readTerm_11 (by decide) h33 ?_
        refine k_aloadn (pc := 14) E 0 dX3_readTerm_14 rfl rfl ?_
        refine k_getfI (pc := 15) (q0 := 2) (f := 6) (k := 55) E inX3 rfl rfl (by decide) wm_65 rfl rfl rfl dX3_readTerm_15 (fun hr34 => ?_)
        refine k_bipush (pc := 18) E dX3_readTerm_18 (by decide) ?_
        by_cases h35 : (s28 55 0) = 42
        · replace hT := hT.trans (if_pos h35)
          refine k_icmp_ne_f (pc := 20) (tgt := 44) E (by omega) (by omega) dX3_readTerm_20 (by decide) h35 ?_
          refine k_aloadn (pc := 23) E 0 dX3_readTerm_23 rfl rfl ?_
          refine k_mr (fun hm_s28 => ?_)
          refine k_callVX (pc := 24) (np := 0) (As := []) (st := []) (q0 := 2) E HX rfl rfl (c_X3_next l D a cI cJ cS cT adK adV kA s28  hTK_s28) wm_336 wm_3 wm_333 wm_335 wp_0 (by decide +kernel) ⟨by decide, by decide⟩ rfl (Nat.le_of_ble_eq_true rfl) dX3_readTerm_24 (fun r37 s38 hs38 hr36 => ?_)
          replace hT := gby hT hs38
          have hp39 := f_X3_next_p  s28  hm_s28 hTK_s28 r37 s38 hs38
          obtain ⟨hfc_s38, hm_s38, hp40, hTK_s38⟩ := hp39
          have hf_s38 : fr [34, 53, 54, 55, 56, 57, 58] s0 s38 := hf_s28.call (by decide) hfc_s38
          have hRCO_s38 : RCO s38 := RCO_fr hRCO_s28 (fun k hk => hfc_s38 k (dj (by decide) k hk))
          refine k_st (st' := []) rfl ?_
          refine k_aloadn (pc := 27) E 0 dX3_readTerm_27 rfl rfl ?_
          refine k_iloadn (pc := 28) E 1 dX3_readTerm_28 rfl rfl ?_
          refine k_mr (fun hm_s38 => ?_)
          refine k_callVX (pc := 29) (np := 1) (As := [gI x0]) (st := []) (q0 := 2) E HX rfl rfl (c_X3_readOne_2 l D a cI cJ cS cT adK adV kA s38 x0 (by omega) hTK_s38 hRCO_s38 (by first | assumption | omega)) wm_456 wm_3 wm_453 wm_455 wp_12 (by decide +kernel) ⟨by decide, by decide⟩ rfl (Nat.le_of_ble_eq_true rfl) dX3_readTerm_29 (fun r42 s43 hs43 hr41 => ?_)
          replace hT := gby hT hs43
          have hp44 := f_X3_readOne_2_p x0 s38 (by omega) hm_s38 hTK_s38 hRCO_s38 (by first | assumption | omega) r42 s43 hs43
          obtain ⟨hfc_s43, hm_s43, hp45, hTK_s43, hRCO_s43⟩ := hp44
          have hf_s43 : fr [34, 53, 54, 55, 56, 57, 58] s0 s43 := hf_s38.call (by decide) hfc_s43
          refine k_st (st' := []) rfl ?_
          refine k_aloadn (pc := 32) E 0 dX3_readTerm_32 rfl rfl ?_
          refine k_bipush (pc := 33) E dX3_readTerm_33 (by decide) ?_
          refine k_mr (fun hm_s43 => ?_)
          refine k_callV (pc := 35) (np := 1) (As := [gI (-13)]) (st := []) (q0 := 2) E (c_X3_emit l D a cI cJ cS cT s43 (-13) (by omega) hTK_s43 hRCO_s43 (by first | assumption | omega)) wm_460 wm_3 wm_457 wm_459 wp_13 (by decide +kernel) rfl rfl ⟨by decide, by decide⟩ rfl (Nat.le_of_ble_eq_true rfl) dX3_readTerm_35 (fun r47 s48 hs48 hr46 => ?_)
          replace hT := gby hT hs48
          have hp49 := f_X3_emit_p (-13) s43 (by omega) hm_s43 hTK_s43 hRCO_s43 (by first | assumption | omega) r47 s48 hs48
          obtain ⟨hfc_s48, hm_s48, hp50, hTK_s48, hRCO_s48⟩ := hp49
          have hf_s48 : fr [34, 53, 54, 55, 56, 57, 58] s0 s48 := hf_s43.call (by decide) hfc_s48
          refine k_st (st' := []) rfl ?_
          refine k_iinc (pc := 38) (lv' := [(2, gI (v27 + 1)), (0, .ref (a 2)), (1, gI x0)]) E 2 dX3_readTerm_38 rfl (by decide) rfl ?_
          refine k_goto (pc := 41) (tgt := 7) E dX3_readTerm_41 (by decide) ?_
          refine k_lv (lv' := [(0, .ref (a 2)), (1, gI x0), (2, gI (v27 + 1))]) [1, 2, 0] rfl ?_
          exact ih (v27 + 1) s48 ⟨(by omega), hf_s48, hTK_s48, hRCO_s48, (by first | assumption | omega)⟩ (by omega) (fun w31 s32 hw hi => hk w31 s32 (hT.trans hw) hi)
        · replace hT := hT.trans (if_neg h35)
          refine k_icmp_ne_t (pc := 20) (tgt := 44) E (by omega) (by omega) dX3_readTerm_20 (by decide) h35 ?_
          refine k_lv (lv' := []) [] rfl ?_
          exact hk v27 s28 hT ⟨(by omega), hf_s28, hTK_s28, hRCO_s28, (by first | assumption | omega)⟩
      · replace hT := hT.trans (if_neg h33)
        refine k_icmp_ge_t (pc := 11) (tgt := 44) E (by omega) (by omega) dX3_readTerm_11 (by decide) h33 ?_
        refine k_lv (lv' := []) [] rfl ?_
        exact hk v27 s28 hT ⟨(by omega), hf_s28, hTK_s28, hRCO_s28, (by first | assumption | omega)⟩
  refine k_lv (lv' := [(0, .ref (a 2)), (1, gI x0), (2, gI 0)]) [1, 2, 0] rfl ?_
  refine L29 161 0 s3 ⟨(by omega), hf_s3, hTK_s3, hRCO_s3, (by first | assumption | omega)⟩ (by omega) (fun v55 s56 hw hq => ?_)
  obtain ⟨hq57, hf_s56, hTK_s56, hRCO_s56, hq58⟩ := hq
  replace hT := gl2y hT hw
  exact k_rho hT (k_vret (pc := 44) E dX3_readTerm_44)

def w_X3_readSum_2_7 (c1 : Int) : Nat → Int → gMem → Int × gMem
  | 0, v6, s7 => (v6, s7)
  | n8 + 1, v6, s7 => (if v6 < 160 then (gj (fun j12c => (if (s7 55 0) = 43 then j12c else (if (s7 55 0) = 45 then j12c else (v6, s7)))) ((gl ((if (s7 55 0) = 43 then (-11) else (-12))) (fun v16 => gb (f_X3_next  s7) (fun r18 s19 => gb (f_X3_readTerm_2 c1 s19) (fun r23 s24 => gb (f_X3_emit v16 s24) (fun r28 s29 => (w_X3_readSum_2_7 c1 n8 (v6 + 1) s29)))))))) else (v6, s7))
theorem w_X3_readSum_2_7_s (c1 : Int) (n8 : Nat) (v6 : Int) (s7 : gMem) : w_X3_readSum_2_7 c1 (n8 + 1) v6 s7 = (if v6 < 160 then (gj (fun j12c => (if (s7 55 0) = 43 then j12c else (if (s7 55 0) = 45 then j12c else (v6, s7)))) ((gl ((if (s7 55 0) = 43 then (-11) else (-12))) (fun v16 => gb (f_X3_next  s7) (fun r18 s19 => gb (f_X3_readTerm_2 c1 s19) (fun r23 s24 => gb (f_X3_emit v16 s24) (fun r28 s29 => (w_X3_readSum_2_7 c1 n8 (v6 + 1) s29)))))))) else (v6, s7)) := rfl
def f_X3_readSum_2 (x0 : Int) (s0 : gMem) : gRes := gb (f_X3_readTerm_2 x0 s0) (fun r2 s3 => (gl2 (w_X3_readSum_2_7 x0 161 0 s3) (fun v75 s76 => (0, s76))))
theorem f_X3_readSum_2_e (x0 : Int) (s0 : gMem) : f_X3_readSum_2 x0 s0 = gb (f_X3_readTerm_2 x0 s0) (fun r2 s3 => (gl2 (w_X3_readSum_2_7 x0 161 0 s3) (fun v75 s76 => (0, s76)))) := rfl
set_option maxRecDepth 100000 in
set_option maxHeartbeats 4000000 in
theorem f_X3_readSum_2_p (x0 : Int) (s0 : gMem) (hx0 : in32 x0) (hm_s0 : gMR lgX s0) (hpre0 : TK s0) (hpre1 : RCO s0) (hpre2 : x0 = 3) (rZ : Int) (sZ : gMem) (hres : f_X3_readSum_2 x0 s0 = (rZ, sZ)) : (fr [34, 53, 54, 55, 56, 57, 58] s0 sZ) ∧ (gMR lgX sZ) ∧ (True) ∧ (TK sZ) ∧ (RCO sZ) := by
  have hT := f_X3_readSum_2_e x0 s0
  have hf_s0 : fr [34, 53, 54, 55, 56, 57, 58] s0 s0 := fr.rf _ _
  have hTK_s0 := hpre0
  have hRCO_s0 := hpre1
  obtain ⟨r2, s3, hs3⟩ : ∃ rr ss, (f_X3_readTerm_2 x0 s0) = (rr, ss) := ⟨_, _, rfl⟩
  replace hT := gby hT hs3
  have hp4 := f_X3_readTerm_2_p x0 s0 (by omega) hm_s0 hTK_s0 hRCO_s0 (by first | assumption | omega) r2 s3 hs3
  obtain ⟨hfc_s3, hm_s3, hp5, hTK_s3, hRCO_s3⟩ := hp4
  have hf_s3 : fr [34, 53, 54, 55, 56, 57, 58] s0 s3 := hf_s0.call (by decide) hfc_s3
  have L39 : ∀ (n40 : Nat) (v37 : Int) (s38 : gMem), ((in32 v37) ∧ (fr [34, 53, 54, 55, 56, 57, 58] s0 s38) ∧ (gMR lgX s38) ∧ (TK s38) ∧ (RCO s38) ∧ (0 ≤ v37 ∧ v37 ≤ 160)) → 160 - v37 < (n40 : Int) → (∀ (w41 : Int) (s42 : gMem), (w_X3_readSum_2_7 x0 n40 v37 s38) = (w41, s42) → ((in32 w41) ∧ (fr [34, 53, 54, 55, 56, 57, 58] s0 s42) ∧ (gMR lgX s42) ∧ (TK s42) ∧ (RCO s42) ∧ (0 ≤ w41 ∧ w41 ≤ 160)) → (fr [34, 53, 54, 55, 56, 57, 58] s0 sZ) ∧ (gMR lgX sZ) ∧ (True) ∧ (TK sZ) ∧ (RCO sZ)) → (fr [34, 53, 54, 55, 56, 57, 58] s0 sZ) ∧ (gMR lgX sZ) ∧ (True) ∧ (TK sZ) ∧ (RCO sZ) := by
    intro n40; induction n40 with
    | zero =>
      intro v37 s38 hq hm hk
      exfalso
      obtain ⟨hq71, hf_s38, hm_s38, hTK_s38, hRCO_s38, hq72⟩ := hq
      omega
    | succ n40 ih =>
      intro v37 s38 hq hm hk
      obtain ⟨hq73, hf_s38, hm_s38, hTK_s38, hRCO_s38, hq74⟩ := hq
      have hT := w_X3_readSum_2_7_s x0 n40 v37 s38
      by_cases h43 : v37 < 160
      · replace hT := hT.trans (if_pos h43)
        have hr44 := (hm_s38 55 0).1 rfl
        obtain ⟨j46c, hj46c, hT⟩ := gjx hT
        have j46 : (True) → (w_X3_readSum_2_7 x0 (n40 + 1) v37 s38) = j46c  → (fr [34, 53, 54, 55, 56, 57, 58] s0 sZ) ∧ (gMR lgX sZ) ∧ (True) ∧ (TK sZ) ∧ (RCO sZ) := by
          intro  hq hT
          rw [hj46c] at hT
          have hr47 := (hm_s38 55 0).1 rfl
          obtain ⟨z68, hz68, hT⟩ := gl1x hT
          have j49 : ∀ (v50 : Int), ((in32 v50) ∧ (-12 ≤ v50 ∧ v50 ≤ -11)) → z68 = v50 → (fr [34, 53, 54, 55, 56, 57, 58] s0 sZ) ∧ (gMR lgX sZ) ∧ (True) ∧ (TK sZ) ∧ (RCO sZ) := by
            intro v50 hq hz
            obtain ⟨hq66, hq67⟩ := hq
            replace hT := gl1y hT hz
            obtain ⟨r52, s53, hs53⟩ : ∃ rr ss, (f_X3_next  s38) = (rr, ss) := ⟨_, _, rfl⟩
            replace hT := gby hT hs53
            have hp54 := f_X3_next_p  s38  hm_s38 hTK_s38 r52 s53 hs53
            obtain ⟨hfc_s53, hm_s53, hp55, hTK_s53⟩ := hp54
            have hf_s53 : fr [34, 53, 54, 55, 56, 57, 58] s0 s53 := hf_s38.call (by decide) hfc_s53
            have hRCO_s53 : RCO s53 := RCO_fr hRCO_s38 (fun k hk => hfc_s53 k (dj (by decide) k hk))
            obtain ⟨r57, s58, hs58⟩ : ∃ rr ss, (f_X3_readTerm_2 x0 s53) = (rr, ss) := ⟨_, _, rfl⟩
            replace hT := gby hT hs58
            have hp59 := f_X3_readTerm_2_p x0 s53 (by omega) hm_s53 hTK_s53 hRCO_s53 (by first | assumption | omega) r57 s58 hs58
            obtain ⟨hfc_s58, hm_s58, hp60, hTK_s58, hRCO_s58⟩ := hp59
            have hf_s58 : fr [34, 53, 54, 55, 56, 57, 58] s0 s58 := hf_s53.call (by decide) hfc_s58
            obtain ⟨r62, s63, hs63⟩ : ∃ rr ss, (f_X3_emit v50 s58) = (rr, ss) := ⟨_, _, rfl⟩
            replace hT := gby hT hs63
            have hp64 := f_X3_emit_p v50 s58 (by omega) hm_s58 hTK_s58 hRCO_s58 (by first | assumption | omega) r62 s63 hs63
            obtain ⟨hfc_s63, hm_s63, hp65, hTK_s63, hRCO_s63⟩ := hp64
            have hf_s63 : fr [34, 53, 54, 55, 56, 57, 58] s0 s63 := hf_s58.call (by decide) hfc_s63
            exact ih (v37 + 1) s63 ⟨(by omega), hf_s63, hm_s63, hTK_s63, hRCO_s63, (by first | assumption | omega)⟩ (by omega) (fun w41 s42 hw hi => hk w41 s42 (hT.trans hw) hi)
          replace hT := hz68
          by_cases h48 : (s38 55 0) = 43
          · replace hT := hT.trans (if_pos h48)
            exact j49 (-11) ⟨(by omega), (by first | assumption | omega)⟩ hT
          · replace hT := hT.trans (if_neg h48)
            exact j49 (-12) ⟨(by omega), (by first | assumption | omega)⟩ hT
        by_cases h45 : (s38 55 0) = 43
        · replace hT := hT.trans (if_pos h45)
          exact j46  trivial hT
        · replace hT := hT.trans (if_neg h45)
          have hr69 := (hm_s38 55 0).1 rfl
          by_cases h70 : (s38 55 0) = 45
          · replace hT := hT.trans (if_pos h70)
            exact j46  trivial hT
          · replace hT := hT.trans (if_neg h70)
            exact hk v37 s38 hT ⟨(by omega), hf_s38, hm_s38, hTK_s38, hRCO_s38, (by first | assumption | omega)⟩
      · replace hT := hT.trans (if_neg h43)
        exact hk v37 s38 hT ⟨(by omega), hf_s38, hm_s38, hTK_s38, hRCO_s38, (by first | assumption | omega)⟩
  refine L39 161 0 s3 ⟨(by omega), hf_s3, hm_s3, hTK_s3, hRCO_s3, (by first | assumption | omega)⟩ (by omega) (fun v75 s76 hw hq => ?_)
  obtain ⟨hq77, hf_s76, hm_s76, hTK_s76, hRCO_s76, hq78⟩ := hq
  replace hT := gl2y hT hw
  obtain ⟨rfl, rfl⟩ := Prod.mk.inj (hT.symm.trans hres)
  exact ⟨hf_s76, hm_s76, trivial, hTK_s76, hRCO_s76⟩
set_option maxRecDepth 100000 in
set_option maxHeartbeats 4000000 in
theorem c_X3_readSum_2 (l : Launch) (D : va_G) (a : Nat → Nat) (cI cJ cS cT : ClassId) (adK adV : Nat → Nat) (kA : Nat) (s0 : gMem) (x0 : Int) (hx0 : in32 x0) (hpre0 : TK s0) (hpre1 : RCO s0) (hpre2 : x0 = 3) : gCS l yX3_readSum cX3_readSum 4 none 24 1536 D vwCl (gT cI cJ cS cT) (wdX a cI cJ cS cT) lgX kV rgV [.ref (a 2), gI x0] s0 (f_X3_readSum_2 x0 s0) adK adV kA := by
  refine gCS_of (by decide +kernel) (hwdX a cI cJ cS cT) (Nat.le_of_ble_eq_true rfl) ?_
  intro A p e R s m args below meth c hR E HX
  subst hR
  have hT := f_X3_readSum_2_e x0 s0
  have hf_s0 : fr [34, 53, 54, 55, 56, 57, 58] s0 s0 := fr.rf _ _
  refine k_lv0 (lv' := [(0, .ref (a 2)), (1, gI x0)]) rfl ?_
  refine k_mr (fun hm_s0 => ?_)
  have hTK_s0 := hpre0
  have hRCO_s0 := hpre1
  refine k_aloadn (pc := 0) E 0 dX3_readSum_0 rfl rfl ?_
  refine k_iloadn (pc := 1) E 1 dX3_readSum_1 rfl rfl ?_
  refine k_mr (fun hm_s0 => ?_)
  refine k_callVX (pc := 2) (np := 1) (As := [gI x0]) (st := []) (q0 := 2) E HX rfl rfl (c_X3_readTerm_2 l D a cI cJ cS cT adK adV kA s0 x0 (by omega) hTK_s0 hRCO_s0 (by first | assumption | omega)) wm_452 wm_3 wm_449 wm_451 wp_11 (by decide +kernel) ⟨by decide, by decide⟩ rfl (Nat.le_of_ble_eq_true rfl) dX3_readSum_2 (fun r2 s3 hs3 hr1 => ?_)
  replace hT := gby hT hs3
  have hp4 := f_X3_readTerm_2_p x0 s0 (by omega) hm_s0 hTK_s0 hRCO_s0 (by first | assumption | omega) r2 s3 hs3
  obtain ⟨hfc_s3, hm_s3, hp5, hTK_s3, hRCO_s3⟩ := hp4
  have hf_s3 : fr [34, 53, 54, 55, 56, 57, 58] s0 s3 := hf_s0.call (by decide) hfc_s3
  refine k_st (st' := []) rfl ?_
  refine k_iconst (pc := 5) E dX3_readSum_5 ?_
  refine k_istoren (pc := 6) (lv' := [(2, gI 0), (0, .ref (a 2)), (1, gI x0)]) E dX3_readSum_6 rfl (by decide) rfl ?_
  have L39 : ∀ (n40 : Nat) (v37 : Int) (s38 : gMem), ((in32 v37) ∧ (fr [34, 53, 54, 55, 56, 57, 58] s0 s38) ∧ (TK s38) ∧ (RCO s38) ∧ (0 ≤ v37 ∧ v37 ≤ 160)) → 160 - v37 < (n40 : Int) → (∀ (w41 : Int) (s42 : gMem), (w_X3_readSum_2_7 x0 n40 v37 s38) = (w41, s42) → ((in32 w41) ∧ (fr [34, 53, 54, 55, 56, 57, 58] s0 s42) ∧ (TK s42) ∧ (RCO s42) ∧ (0 ≤ w41 ∧ w41 ≤ 160)) → gK D vwCl (wdX a cI cJ cS cT) lgX A p l e { frames := 24, cells := 0, slots := 0, locals := 1536 } s m args below meth c 4 (gQQ D vwCl (wdX a cI cJ cS cT) lgX A kV rgV below args s) (f_X3_readSum_2 x0 s0) s42 69 [] []) → gK D vwCl (wdX a cI cJ cS cT) lgX A p l e { frames := 24, cells := 0, slots := 0, locals := 1536 } s m args below meth c 4 (gQQ D vwCl (wdX a cI cJ cS cT) lgX A kV rgV below args s) (f_X3_readSum_2 x0 s0) s38 7 [(0, .ref (a 2)), (1, gI x0), (2, gI v37)] [] := by
    intro n40; induction n40 with
    | zero =>
      intro v37 s38 hq hm hk
      exfalso
      obtain ⟨hq71, hf_s38, hTK_s38, hRCO_s38, hq72⟩ := hq
      omega
    | succ n40 ih =>
      intro v37 s38 hq hm hk
      obtain ⟨hq73, hf_s38, hTK_s38, hRCO_s38, hq74⟩ := hq
      have hT := w_X3_readSum_2_7_s x0 n40 v37 s38
      refine k_iloadn (pc := 7) E 2 dX3_readSum_7 rfl rfl ?_
      refine k_sipush (pc := 8) E dX3_readSum_8 (by decide) ?_
      by_cases h43 : v37 < 160
      · replace hT := hT.trans (if_pos h43)
        refine k_icmp_ge_f (pc := 11) (tgt := 69) E (by omega) (by omega) dX3_readSum_11 (by decide) h43 ?_
        refine k_aloadn (pc := 14) E 0 dX3_readSum_14 rfl rfl ?_
        refine k_getfI (pc := 15) (q0 := 2) (f := 6) (k := 55) E inX3 rfl rfl (by decide) wm_65 rfl rfl rfl dX3_readSum_15 (fun hr44 => ?_)
        refine k_bipush (pc := 18) E dX3_readSum_18 (by decide) ?_
        obtain ⟨j46c, hj46c, hT⟩ := gjx hT
        have j46 : (True) → (w_X3_readSum_2_7 x0 (n40 + 1) v37 s38) = j46c  → gK D vwCl (wdX a cI cJ cS cT) lgX A p l e { frames := 24, cells := 0, slots := 0, locals := 1536 } s m args below meth c 4 (gQQ D vwCl (wdX a cI cJ cS cT) lgX A kV rgV below args s) (f_X3_readSum_2 x0 s0) s38 32 [(0, .ref (a 2)), (1, gI x0), (2, gI v37)] [] := by
          intro  hq hT
          rw [hj46c] at hT
          refine k_aloadn (pc := 32) E 0 dX3_readSum_32 rfl rfl ?_
          refine k_getfI (pc := 33) (q0 := 2) (f := 6) (k := 55) E inX3 rfl rfl (by decide) wm_65 rfl rfl rfl dX3_readSum_33 (fun hr47 => ?_)
          refine k_bipush (pc := 36) E dX3_readSum_36 (by decide) ?_
          obtain ⟨z68, hz68, hT⟩ := gl1x hT
          have j49 : ∀ (v50 : Int), ((in32 v50) ∧ (-12 ≤ v50 ∧ v50 ≤ -11)) → z68 = v50 → gK D vwCl (wdX a cI cJ cS cT) lgX A p l e { frames := 24, cells := 0, slots := 0, locals := 1536 } s m args below meth c 4 (gQQ D vwCl (wdX a cI cJ cS cT) lgX A kV rgV below args s) (f_X3_readSum_2 x0 s0) s38 48 [(0, .ref (a 2)), (1, gI x0), (2, gI v37)] [gI v50] := by
            intro v50 hq hz
            obtain ⟨hq66, hq67⟩ := hq
            replace hT := gl1y hT hz
            refine k_istoren (pc := 48) (lv' := [(3, gI v50), (0, .ref (a 2)), (1, gI x0), (2, gI v37)]) E dX3_readSum_48 rfl (by decide) rfl ?_
            refine k_aloadn (pc := 49) E 1 dX3_readSum_49 rfl rfl ?_
            refine k_mr (fun hm_s38 => ?_)
            refine k_callVX (pc := 50) (np := 0) (As := []) (st := []) (q0 := 2) E HX rfl rfl (c_X3_next l D a cI cJ cS cT adK adV kA s38  hTK_s38) wm_336 wm_3 wm_333 wm_335 wp_0 (by decide +kernel) ⟨by decide, by decide⟩ rfl (Nat.le_of_ble_eq_true rfl) dX3_readSum_50 (fun r52 s53 hs53 hr51 => ?_)
            replace hT := gby hT hs53
            have hp54 := f_X3_next_p  s38  hm_s38 hTK_s38 r52 s53 hs53
            obtain ⟨hfc_s53, hm_s53, hp55, hTK_s53⟩ := hp54
            have hf_s53 : fr [34, 53, 54, 55, 56, 57, 58] s0 s53 := hf_s38.call (by decide) hfc_s53
            have hRCO_s53 : RCO s53 := RCO_fr hRCO_s38 (fun k hk => hfc_s53 k (dj (by decide) k hk))
            refine k_st (st' := []) rfl ?_
            refine k_aloadn (pc := 53) E 1 dX3_readSum_53 rfl rfl ?_
            refine k_iloadn (pc := 54) E 2 dX3_readSum_54 rfl rfl ?_
            refine k_mr (fun hm_s53 => ?_)
            refine k_callVX (pc := 55) (np := 1) (As := [gI x0]) (st := []) (q0 := 2) E HX rfl rfl (c_X3_readTerm_2 l D a cI cJ cS cT adK adV kA s53 x0 (by omega) hTK_s53 hRCO_s53 (by first | assumption | omega)) wm_452 wm_3 wm_449 wm_451 wp_11 (by decide +kernel) ⟨by decide, by decide⟩ rfl (Nat.le_of_ble_eq_true rfl) dX3_readSum_55 (fun r57 s58 hs58 hr56 => ?_)
            replace hT := gby hT hs58
            have hp59 := f_X3_readTerm_2_p x0 s53 (by omega) hm_s53 hTK_s53 hRCO_s53 (by first | assumption | omega) r57 s58 hs58
            obtain ⟨hfc_s58, hm_s58, hp60, hTK_s58, hRCO_s58⟩ := hp59
            have hf_s58 : fr [34, 53, 54, 55, 56, 57, 58] s0 s58 := hf_s53.call (by decide) hfc_s58
            refine k_st (st' := []) rfl ?_
            refine k_aloadn (pc := 58) E 1 dX3_readSum_58 rfl rfl ?_
            refine k_iloadn (pc := 59) E 0 dX3_readSum_59 rfl rfl ?_
            refine k_mr (fun hm_s58 => ?_)
            refine k_callV (pc := 60) (np := 1) (As := [gI v50]) (st := []) (q0 := 2) E (c_X3_emit l D a cI cJ cS cT s58 v50 (by omega) hTK_s58 hRCO_s58 (by first | assumption | omega)) wm_460 wm_3 wm_457 wm_459 wp_13 (by decide +kernel) rfl rfl ⟨by decide, by decide⟩ rfl (Nat.le_of_ble_eq_true rfl) dX3_readSum_60 (fun r62 s63 hs63 hr61 => ?_)
            replace hT := gby hT hs63
            have hp64 := f_X3_emit_p v50 s58 (by omega) hm_s58 hTK_s58 hRCO_s58 (by first | assumption | omega) r62 s63 hs63
            obtain ⟨hfc_s63, hm_s63, hp65, hTK_s63, hRCO_s63⟩ := hp64
            have hf_s63 : fr [34, 53, 54, 55, 56, 57, 58] s0 s63 := hf_s58.call (by decide) hfc_s63
            refine k_st (st' := []) rfl ?_
            refine k_iinc (pc := 63) (lv' := [(2, gI (v37 + 1)), (3, gI v50), (0, .ref (a 2)), (1, gI x0)]) E 3 dX3_readSum_63 rfl (by decide) rfl ?_
            refine k_goto (pc := 66) (tgt := 7) E dX3_readSum_66 (by decide) ?_
            refine k_lv (lv' := [(0, .ref (a 2)), (1, gI x0), (2, gI (v37 + 1))]) [2, 3, 0] rfl ?_
            exact ih (v37 + 1) s63 ⟨(by omega), hf_s63, hTK_s63, hRCO_s63, (by first | assumption | omega)⟩ (by omega) (fun w41 s42 hw hi => hk w41 s42 (hT.trans hw) hi)
          replace hT := hz68
          by_cases h48 : (s38 55 0) = 43
          · replace hT := hT.trans (if_pos h48)
            refine k_icmp_ne_f (pc := 38) (tgt := 46) E (by omega) (by omega) dX3_readSum_38 (by decide) h48 ?_
            refine k_bipush (pc := 41) E dX3_readSum_41 (by decide) ?_
            refine k_goto (pc := 43) (tgt := 48) E dX3_readSum_43 (by decide) ?_
            exact j49 (-11) ⟨(by omega), (by first | assumption | omega)⟩ hT
          · replace hT := hT.trans (if_neg h48)
            refine k_icmp_ne_t (pc := 38) (tgt := 46) E (by omega) (by omega) dX3_readSum_38 (by decide) h48 ?_
            refine k_bipush (pc := 46) E dX3_readSum_46 (by decide) ?_
            exact j49 (-12) ⟨(by omega), (by first | assumption | omega)⟩ hT
        by_cases h45 : (s38 55 0) = 43
        · replace hT := hT.trans (if_pos h45)
          refine k_icmp_eq_t (pc := 20) (tgt := 32) E (by omega) (by omega) dX3_readSum_20 (by decide) h45 ?_
          exact j46  trivial hT
        · replace hT := hT.trans (if_neg h45)
          refine k_icmp_eq_f (pc := 20) (tgt := 32) E (by omega) (by omega) dX3_readSum_20 (by decide) h45 ?_
          refine k_aloadn (pc := 23) E 0 dX3_readSum_23 rfl rfl ?_
          refine k_getfI (pc := 24) (q0 := 2) (f := 6) (k := 55) E inX3 rfl rfl (by decide) wm_65 rfl rfl rfl dX3_readSum_24 (fun hr69 => ?_)
          refine k_bipush (pc := 27) E dX3_readSum_27 (by decide) ?_
          by_cases h70 : (s38 55 0) = 45
          · replace hT := hT.trans (if_pos h70)
            refine k_icmp_ne_f (pc := 29) (tgt := 69) E (by omega) (by omega) dX3_readSum_29 (by decide) h70 ?_
            exact j46  trivial hT
          · replace hT := hT.trans (if_neg h70)
            refine k_icmp_ne_t (pc := 29) (tgt := 69) E (by omega) (by omega) dX3_readSum_29 (by decide) h70 ?_
            refine k_lv (lv' := []) [] rfl ?_
            exact hk v37 s38 hT ⟨(by omega), hf_s38, hTK_s38, hRCO_s38, (by first | assumption | omega)⟩
      · replace hT := hT.trans (if_neg h43)
        refine k_icmp_ge_t (pc := 11) (tgt := 69) E (by omega) (by omega) dX3_readSum_11 (by decide) h43 ?_
        refine k_lv (lv' := []) [] rfl ?_
        exact hk v37 s38 hT ⟨(by omega), hf_s38, hTK_s38, hRCO_s38, (by first | assumption | omega)⟩
  refine k_lv (lv' := [(0, .ref (a 2)), (1, gI x0), (2, gI 0)]) [1, 2, 0] rfl ?_
  refine L39 161 0 s3 ⟨(by omega), hf_s3, hTK_s3, hRCO_s3, (by first | assumption | omega)⟩ (by omega) (fun v75 s76 hw hq => ?_)
  obtain ⟨hq77, hf_s76, hTK_s76, hRCO_s76, hq78⟩ := hq
  replace hT := gl2y hT hw
  exact k_rho hT (k_vret (pc := 69) E dX3_readSum_69)

def f_X3_readCompared_2 (x0 : Int) (s0 : gMem) : gRes := gb (f_X3_readSum_2 x0 s0) (fun r2 s3 => (gj (fun j8c => (if (s3 55 0) = 60 then j8c else (if (s3 55 0) = 61 then j8c else (0, s3)))) ((gl ((if (s3 55 0) = 60 then (-9) else (-10))) (fun v12 => gb (f_X3_next  s3) (fun r14 s15 => gb (f_X3_readSum_2 x0 s15) (fun r19 s20 => gb (f_X3_emit v12 s20) (fun r24 s25 => (0, s25)))))))))
theorem f_X3_readCompared_2_e (x0 : Int) (s0 : gMem) : f_X3_readCompared_2 x0 s0 = gb (f_X3_readSum_2 x0 s0) (fun r2 s3 => (gj (fun j8c => (if (s3 55 0) = 60 then j8c else (if (s3 55 0) = 61 then j8c else (0, s3)))) ((gl ((if (s3 55 0) = 60 then (-9) else (-10))) (fun v12 => gb (f_X3_next  s3) (fun r14 s15 => gb (f_X3_readSum_2 x0 s15) (fun r19 s20 => gb (f_X3_emit v12 s20) (fun r24 s25 => (0, s25))))))))) := rfl
set_option maxRecDepth 100000 in
set_option maxHeartbeats 4000000 in
theorem f_X3_readCompared_2_p (x0 : Int) (s0 : gMem) (hx0 : in32 x0) (hm_s0 : gMR lgX s0) (hpre0 : TK s0) (hpre1 : RCO s0) (hpre2 : x0 = 3) (rZ : Int) (sZ : gMem) (hres : f_X3_readCompared_2 x0 s0 = (rZ, sZ)) : (fr [34, 53, 54, 55, 56, 57, 58] s0 sZ) ∧ (gMR lgX sZ) ∧ (True) ∧ (TK sZ) ∧ (RCO sZ) := by
  have hT := f_X3_readCompared_2_e x0 s0
  have hf_s0 : fr [34, 53, 54, 55, 56, 57, 58] s0 s0 := fr.rf _ _
  have hTK_s0 := hpre0
  have hRCO_s0 := hpre1
  obtain ⟨r2, s3, hs3⟩ : ∃ rr ss, (f_X3_readSum_2 x0 s0) = (rr, ss) := ⟨_, _, rfl⟩
  replace hT := gby hT hs3
  have hp4 := f_X3_readSum_2_p x0 s0 (by omega) hm_s0 hTK_s0 hRCO_s0 (by first | assumption | omega) r2 s3 hs3
  obtain ⟨hfc_s3, hm_s3, hp5, hTK_s3, hRCO_s3⟩ := hp4
  have hf_s3 : fr [34, 53, 54, 55, 56, 57, 58] s0 s3 := hf_s0.call (by decide) hfc_s3
  have hr6 := (hm_s3 55 0).1 rfl
  obtain ⟨j8c, hj8c, hT⟩ := gjx hT
  have j8 : (True) → (f_X3_readCompared_2 x0 s0) = j8c  → (fr [34, 53, 54, 55, 56, 57, 58] s0 sZ) ∧ (gMR lgX sZ) ∧ (True) ∧ (TK sZ) ∧ (RCO sZ) := by
    intro  hq hT
    rw [hj8c] at hT
    have hr9 := (hm_s3 55 0).1 rfl
    obtain ⟨z30, hz30, hT⟩ := gl1x hT
    have j11 : ∀ (v12 : Int), ((in32 v12) ∧ (-10 ≤ v12 ∧ v12 ≤ -9)) → z30 = v12 → (fr [34, 53, 54, 55, 56, 57, 58] s0 sZ) ∧ (gMR lgX sZ) ∧ (True) ∧ (TK sZ) ∧ (RCO sZ) := by
      intro v12 hq hz
      obtain ⟨hq28, hq29⟩ := hq
      replace hT := gl1y hT hz
      obtain ⟨r14, s15, hs15⟩ : ∃ rr ss, (f_X3_next  s3) = (rr, ss) := ⟨_, _, rfl⟩
      replace hT := gby hT hs15
      have hp16 := f_X3_next_p  s3  hm_s3 hTK_s3 r14 s15 hs15
      obtain ⟨hfc_s15, hm_s15, hp17, hTK_s15⟩ := hp16
      have hf_s15 : fr [34, 53, 54, 55, 56, 57, 58] s0 s15 := hf_s3.call (by decide) hfc_s15
      have hRCO_s15 : RCO s15 := RCO_fr hRCO_s3 (fun k hk => hfc_s15 k (dj (by decide) k hk))
      obtain ⟨r19, s20, hs20⟩ : ∃ rr ss, (f_X3_readSum_2 x0 s15) = (rr, ss) := ⟨_, _, rfl⟩
      replace hT := gby hT hs20
      have hp21 := f_X3_readSum_2_p x0 s15 (by omega) hm_s15 hTK_s15 hRCO_s15 (by first | assumption | omega) r19 s20 hs20
      obtain ⟨hfc_s20, hm_s20, hp22, hTK_s20, hRCO_s20⟩ := hp21
      have hf_s20 : fr [34, 53, 54, 55, 56, 57, 58] s0 s20 := hf_s15.call (by decide) hfc_s20
      obtain ⟨r24, s25, hs25⟩ : ∃ rr ss, (f_X3_emit v12 s20) = (rr, ss) := ⟨_, _, rfl⟩
      replace hT := gby hT hs25
      have hp26 := f_X3_emit_p v12 s20 (by omega) hm_s20 hTK_s20 hRCO_s20 (by first | assumption | omega) r24 s25 hs25
      obtain ⟨hfc_s25, hm_s25, hp27, hTK_s25, hRCO_s25⟩ := hp26
      have hf_s25 : fr [34, 53, 54, 55, 56, 57, 58] s0 s25 := hf_s20.call (by decide) hfc_s25
      obtain ⟨rfl, rfl⟩ := Prod.mk.inj (hT.symm.trans hres)
      exact ⟨hf_s25, hm_s25, trivial, hTK_s25, hRCO_s25⟩
    replace hT := hz30
    by_cases h10 : (s3 55 0) = 60
    · replace hT := hT.trans (if_pos h10)
      exact j11 (-9) ⟨(by omega), (by first | assumption | omega)⟩ hT
    · replace hT := hT.trans (if_neg h10)
      exact j11 (-10) ⟨(by omega), (by first | assumption | omega)⟩ hT
  by_cases h7 : (s3 55 0) = 60
  · replace hT := hT.trans (if_pos h7)
    exact j8  trivial hT
  · replace hT := hT.trans (if_neg h7)
    have hr31 := (hm_s3 55 0).1 rfl
    by_cases h32 : (s3 55 0) = 61
    · replace hT := hT.trans (if_pos h32)
      exact j8  trivial hT
    · replace hT := hT.trans (if_neg h32)
      obtain ⟨rfl, rfl⟩ := Prod.mk.inj (hT.symm.trans hres)
      exact ⟨hf_s3, hm_s3, trivial, hTK_s3, hRCO_s3⟩
set_option maxRecDepth 100000 in
set_option maxHeartbeats 4000000 in
theorem c_X3_readCompared_2 (l : Launch) (D : va_G) (a : Nat → Nat) (cI cJ cS cT : ClassId) (adK adV : Nat → Nat) (kA : Nat) (s0 : gMem) (x0 : Int) (hx0 : in32 x0) (hpre0 : TK s0) (hpre1 : RCO s0) (hpre2 : x0 = 3) : gCS l yX3_readCompared cX3_readCompared 3 none 25 1600 D vwCl (gT cI cJ cS cT) (wdX a cI cJ cS cT) lgX kV rgV [.ref (a 2), gI x0] s0 (f_X3_readCompared_2 x0 s0) adK adV kA := by
  refine gCS_of (by decide +kernel) (hwdX a cI cJ cS cT) (Nat.le_of_ble_eq_true rfl) ?_
  intro A p e R s m args below meth c hR E HX
  subst hR
  have hT := f_X3_readCompared_2_e x0 s0
  have hf_s0 : fr [34, 53, 54, 55, 56, 57, 58] s0 s0 := fr.rf _ _
  refine k_lv0 (lv' := [(0, .ref (a 2)), (1, gI x0)]) rfl ?_
  refine k_mr (fun hm_s0 => ?_)
  have hTK_s0 := hpre0
  have hRCO_s0 := hpre1
  refine k_aloadn (pc := 0) E 0 dX3_readCompared_0 rfl rfl ?_
  refine k_iloadn (pc := 1) E 1 dX3_readCompared_1 rfl rfl ?_
  refine k_mr (fun hm_s0 => ?_)
  refine k_callVX (pc := 2) (np := 1) (As := [gI x0]) (st := []) (q0 := 2) E HX rfl rfl (c_X3_readSum_2 l D a cI cJ cS cT adK adV kA s0 x0 (by omega) hTK_s0 hRCO_s0 (by first | assumption | omega)) wm_448 wm_3 wm_445 wm_447 wp_10 (by decide +kernel) ⟨by decide, by decide⟩ rfl (Nat.le_of_ble_eq_true rfl) dX3_readCompared_2 (fun r2 s3 hs3 hr1 => ?_)
  replace hT := gby hT hs3
  have hp4 := f_X3_readSum_2_p x0 s0 (by omega) hm_s0 hTK_s0 hRCO_s0 (by first | assumption | omega) r2 s3 hs3
  obtain ⟨hfc_s3, hm_s3, hp5, hTK_s3, hRCO_s3⟩ := hp4
  have hf_s3 : fr [34, 53, 54, 55, 56, 57, 58] s0 s3 := hf_s0.call (by decide) hfc_s3
  refine k_st (st' := []) rfl ?_
  refine k_aloadn (pc := 5) E 0 dX3_readCompared_5 rfl rfl ?_
  refine k_getfI (pc := 6) (q0 := 2) (f := 6) (k := 55) E inX3 rfl rfl (by decide) wm_65 rfl rfl rfl dX3_readCompared_6 (fun hr6 => ?_)
  refine k_bipush (pc := 9) E dX3_readCompared_9 (by decide) ?_
  obtain ⟨j8c, hj8c, hT⟩ := gjx hT
  have j8 : (True) → (f_X3_readCompared_2 x0 s0) = j8c  → gK D vwCl (wdX a cI cJ cS cT) lgX A p l e { frames := 25, cells := 0, slots := 0, locals := 1600 } s m args below meth c 3 (gQQ D vwCl (wdX a cI cJ cS cT) lgX A kV rgV below args s) (f_X3_readCompared_2 x0 s0) s3 23 [(0, .ref (a 2)), (1, gI x0)] [] := by
    intro  hq hT
    rw [hj8c] at hT
    refine k_aloadn (pc := 23) E 0 dX3_readCompared_23 rfl rfl ?_
    refine k_getfI (pc := 24) (q0 := 2) (f := 6) (k := 55) E inX3 rfl rfl (by decide) wm_65 rfl rfl rfl dX3_readCompared_24 (fun hr9 => ?_)
    refine k_bipush (pc := 27) E dX3_readCompared_27 (by decide) ?_
    obtain ⟨z30, hz30, hT⟩ := gl1x hT
    have j11 : ∀ (v12 : Int), ((in32 v12) ∧ (-10 ≤ v12 ∧ v12 ≤ -9)) → z30 = v12 → gK D vwCl (wdX a cI cJ cS cT) lgX A p l e { frames := 25, cells := 0, slots := 0, locals := 1600 } s m args below meth c 3 (gQQ D vwCl (wdX a cI cJ cS cT) lgX A kV rgV below args s) (f_X3_readCompared_2 x0 s0) s3 39 [(0, .ref (a 2)), (1, gI x0)] [gI v12] := by
      intro v12 hq hz
      obtain ⟨hq28, hq29⟩ := hq
      replace hT := gl1y hT hz
      refine k_istoren (pc := 39) (lv' := [(2, gI v12), (0, .ref (a 2)), (1, gI x0)]) E dX3_readCompared_39 rfl (by decide) rfl ?_
      refine k_aloadn (pc := 40) E 1 dX3_readCompared_40 rfl rfl ?_
      refine k_mr (fun hm_s3 => ?_)
      refine k_callVX (pc := 41) (np := 0) (As := []) (st := []) (q0 := 2) E HX rfl rfl (c_X3_next l D a cI cJ cS cT adK adV kA s3  hTK_s3) wm_336 wm_3 wm_333 wm_335 wp_0 (by decide +kernel) ⟨by decide, by decide⟩ rfl (Nat.le_of_ble_eq_true rfl) dX3_readCompared_41 (fun r14 s15 hs15 hr13 => ?_)
      replace hT := gby hT hs15
      have hp16 := f_X3_next_p  s3  hm_s3 hTK_s3 r14 s15 hs15
      obtain ⟨hfc_s15, hm_s15, hp17, hTK_s15⟩ := hp16
      have hf_s15 : fr [34, 53, 54, 55, 56, 57, 58] s0 s15 := hf_s3.call (by decide) hfc_s15
      have hRCO_s15 : RCO s15 := RCO_fr hRCO_s3 (fun k hk => hfc_s15 k (dj (by decide) k hk))
      refine k_st (st' := []) rfl ?_
      refine k_aloadn (pc := 44) E 1 dX3_readCompared_44 rfl rfl ?_
      refine k_iloadn (pc := 45) E 2 dX3_readCompared_45 rfl rfl ?_
      refine k_mr (fun hm_s15 => ?_)
      refine k_callVX (pc := 46) (np := 1) (As := [gI x0]) (st := []) (q0 := 2) E HX rfl rfl (c_X3_readSum_2 l D a cI cJ cS cT adK adV kA s15 x0 (by omega) hTK_s15 hRCO_s15 (by first | assumption | omega)) wm_448 wm_3 wm_445 wm_447 wp_10 (by decide +kernel) ⟨by decide, by decide⟩ rfl (Nat.le_of_ble_eq_true rfl) dX3_readCompared_46 (fun r19 s20 hs20 hr18 => ?_)
      replace hT := gby hT hs20
      have hp21 := f_X3_readSum_2_p x0 s15 (by omega) hm_s15 hTK_s15 hRCO_s15 (by first | assumption | omega) r19 s20 hs20
      obtain ⟨hfc_s20, hm_s20, hp22, hTK_s20, hRCO_s20⟩ := hp21
      have hf_s20 : fr [34, 53, 54, 55, 56, 57, 58] s0 s20 := hf_s15.call (by decide) hfc_s20
      refine k_st (st' := []) rfl ?_
      refine k_aloadn (pc := 49) E 1 dX3_readCompared_49 rfl rfl ?_
      refine k_iloadn (pc := 50) E 0 dX3_readCompared_50 rfl rfl ?_
      refine k_mr (fun hm_s20 => ?_)
      refine k_callV (pc := 51) (np := 1) (As := [gI v12]) (st := []) (q0 := 2) E (c_X3_emit l D a cI cJ cS cT s20 v12 (by omega) hTK_s20 hRCO_s20 (by first | assumption | omega)) wm_460 wm_3 wm_457 wm_459 wp_13 (by decide +kernel) rfl rfl ⟨by decide, by decide⟩ rfl (Nat.le_of_ble_eq_true rfl) dX3_readCompared_51 (fun r24 s25 hs25 hr23 => ?_)
      replace hT := gby hT hs25
      have hp26 := f_X3_emit_p v12 s20 (by omega) hm_s20 hTK_s20 hRCO_s20 (by first | assumption | omega) r24 s25 hs25
      obtain ⟨hfc_s25, hm_s25, hp27, hTK_s25, hRCO_s25⟩ := hp26
      have hf_s25 : fr [34, 53, 54, 55, 56, 57, 58] s0 s25 := hf_s20.call (by decide) hfc_s25
      refine k_st (st' := []) rfl ?_
      exact k_rho hT (k_vret (pc := 54) E dX3_readCompared_54)
    replace hT := hz30
    by_cases h10 : (s3 55 0) = 60
    · replace hT := hT.trans (if_pos h10)
      refine k_icmp_ne_f (pc := 29) (tgt := 37) E (by omega) (by omega) dX3_readCompared_29 (by decide) h10 ?_
      refine k_bipush (pc := 32) E dX3_readCompared_32 (by decide) ?_
      refine k_goto (pc := 34) (tgt := 39) E dX3_readCompared_34 (by decide) ?_
      exact j11 (-9) ⟨(by omega), (by first | assumption | omega)⟩ hT
    · replace hT := hT.trans (if_neg h10)
      refine k_icmp_ne_t (pc := 29) (tgt := 37) E (by omega) (by omega) dX3_readCompared_29 (by decide) h10 ?_
      refine k_bipush (pc := 37) E dX3_readCompared_37 (by decide) ?_
      exact j11 (-10) ⟨(by omega), (by first | assumption | omega)⟩ hT
  by_cases h7 : (s3 55 0) = 60
  · replace hT := hT.trans (if_pos h7)
    refine k_icmp_eq_t (pc := 11) (tgt := 23) E (by omega) (by omega) dX3_readCompared_11 (by decide) h7 ?_
    exact j8  trivial hT
  · replace hT := hT.trans (if_neg h7)
    refine k_icmp_eq_f (pc := 11) (tgt := 23) E (by omega) (by omega) dX3_readCompared_11 (by decide) h7 ?_
    refine k_aloadn (pc := 14) E 0 dX3_readCompared_14 rfl rfl ?_
    refine k_getfI (pc := 15) (q0 := 2) (f := 6) (k := 55) E inX3 rfl rfl (by decide) wm_65 rfl rfl rfl dX3_readCompared_15 (fun hr31 => ?_)
    refine k_bipush (pc := 18) E dX3_readCompared_18 (by decide) ?_
    by_cases h32 : (s3 55 0) = 61
    · replace hT := hT.trans (if_pos h32)
      refine k_icmp_ne_f (pc := 20) (tgt := 54) E (by omega) (by omega) dX3_readCompared_20 (by decide) h32 ?_
      exact j8  trivial hT
    · replace hT := hT.trans (if_neg h32)
      refine k_icmp_ne_t (pc := 20) (tgt := 54) E (by omega) (by omega) dX3_readCompared_20 (by decide) h32 ?_
      exact k_rho hT (k_vret (pc := 54) E dX3_readCompared_54)

def f_X3_readNot_2 (x0 : Int) (s0 : gMem) : gRes := (if (s0 55 0) = 261 then (if x0 < 5 then gb (f_X3_next  s0) (fun r5 s6 => gb (f_X3_readNot_1 (x0 + 1) s6) (fun r10 s11 => gb (f_X3_emit (-14) s11) (fun r15 s16 => (0, s16)))) else gb (f_X3_fail  s0) (fun r20 s21 => (0, s21))) else gb (f_X3_readCompared_2 x0 s0) (fun r26 s27 => (0, s27)))
theorem f_X3_readNot_2_e (x0 : Int) (s0 : gMem) : f_X3_readNot_2 x0 s0 = (if (s0 55 0) = 261 then (if x0 < 5 then gb (f_X3_next  s0) (fun r5 s6 => gb (f_X3_readNot_1 (x0 + 1) s6) (fun r10 s11 => gb (f_X3_emit (-14) s11) (fun r15 s16 => (0, s16)))) else gb (f_X3_fail  s0) (fun r20 s21 => (0, s21))) else gb (f_X3_readCompared_2 x0 s0) (fun r26 s27 => (0, s27))) := rfl
set_option maxRecDepth 100000 in
set_option maxHeartbeats 4000000 in
theorem f_X3_readNot_2_p (x0 : Int) (s0 : gMem) (hx0 : in32 x0) (hm_s0 : gMR lgX s0) (hpre0 : TK s0) (hpre1 : RCO s0) (hpre2 : x0 = 3) (rZ : Int) (sZ : gMem) (hres : f_X3_readNot_2 x0 s0 = (rZ, sZ)) : (fr [34, 53, 54, 55, 56, 57, 58] s0 sZ) ∧ (gMR lgX sZ) ∧ (True) ∧ (TK sZ) ∧ (RCO sZ) := by
  have hT := f_X3_readNot_2_e x0 s0
  have hf_s0 : fr [34, 53, 54, 55, 56, 57, 58] s0 s0 := fr.rf _ _
  have hTK_s0 := hpre0
  have hRCO_s0 := hpre1
  have hr1 := (hm_s0 55 0).1 rfl
  by_cases h2 : (s0 55 0) = 261
  · replace hT := hT.trans (if_pos h2)
    by_cases h3 : x0 < 5
    · replace hT := hT.trans (if_pos h3)
      obtain ⟨r5, s6, hs6⟩ : ∃ rr ss, (f_X3_next  s0) = (rr, ss) := ⟨_, _, rfl⟩
      replace hT := gby hT hs6
      have hp7 := f_X3_next_p  s0  hm_s0 hTK_s0 r5 s6 hs6
      obtain ⟨hfc_s6, hm_s6, hp8, hTK_s6⟩ := hp7
      have hf_s6 : fr [34, 53, 54, 55, 56, 57, 58] s0 s6 := hf_s0.call (by decide) hfc_s6
      have hRCO_s6 : RCO s6 := RCO_fr hRCO_s0 (fun k hk => hfc_s6 k (dj (by decide) k hk))
      obtain ⟨r10, s11, hs11⟩ : ∃ rr ss, (f_X3_readNot_1 (x0 + 1) s6) = (rr, ss) := ⟨_, _, rfl⟩
      replace hT := gby hT hs11
      have hp12 := f_X3_readNot_1_p (x0 + 1) s6 (by omega) hm_s6 hTK_s6 hRCO_s6 (by first | assumption | omega) r10 s11 hs11
      obtain ⟨hfc_s11, hm_s11, hp13, hTK_s11, hRCO_s11⟩ := hp12
      have hf_s11 : fr [34, 53, 54, 55, 56, 57, 58] s0 s11 := hf_s6.call (by decide) hfc_s11
      obtain ⟨r15, s16, hs16⟩ : ∃ rr ss, (f_X3_emit (-14) s11) = (rr, ss) := ⟨_, _, rfl⟩
      replace hT := gby hT hs16
      have hp17 := f_X3_emit_p (-14) s11 (by omega) hm_s11 hTK_s11 hRCO_s11 (by first | assumption | omega) r15 s16 hs16
      obtain ⟨hfc_s16, hm_s16, hp18, hTK_s16, hRCO_s16⟩ := hp17
      have hf_s16 : fr [34, 53, 54, 55, 56, 57, 58] s0 s16 := hf_s11.call (by decide) hfc_s16
      obtain ⟨rfl, rfl⟩ := Prod.mk.inj (hT.symm.trans hres)
      exact ⟨hf_s16, hm_s16, trivial, hTK_s16, hRCO_s16⟩
    · replace hT := hT.trans (if_neg h3)
      obtain ⟨r20, s21, hs21⟩ : ∃ rr ss, (f_X3_fail  s0) = (rr, ss) := ⟨_, _, rfl⟩
      replace hT := gby hT hs21
      have hp22 := f_X3_fail_p  s0  hm_s0 hTK_s0 r20 s21 hs21
      obtain ⟨hfc_s21, hm_s21, hp23, hTK_s21, hp24⟩ := hp22
      have hf_s21 : fr [34, 53, 54, 55, 56, 57, 58] s0 s21 := hf_s0.call (by decide) hfc_s21
      have hRCO_s21 : RCO s21 := RCO_fr hRCO_s0 (fun k hk => hfc_s21 k (dj (by decide) k hk))
      obtain ⟨rfl, rfl⟩ := Prod.mk.inj (hT.symm.trans hres)
      exact ⟨hf_s21, hm_s21, trivial, hTK_s21, hRCO_s21⟩
  · replace hT := hT.trans (if_neg h2)
    obtain ⟨r26, s27, hs27⟩ : ∃ rr ss, (f_X3_readCompared_2 x0 s0) = (rr, ss) := ⟨_, _, rfl⟩
    replace hT := gby hT hs27
    have hp28 := f_X3_readCompared_2_p x0 s0 (by omega) hm_s0 hTK_s0 hRCO_s0 (by first | assumption | omega) r26 s27 hs27
    obtain ⟨hfc_s27, hm_s27, hp29, hTK_s27, hRCO_s27⟩ := hp28
    have hf_s27 : fr [34, 53, 54, 55, 56, 57, 58] s0 s27 := hf_s0.call (by decide) hfc_s27
    obtain ⟨rfl, rfl⟩ := Prod.mk.inj (hT.symm.trans hres)
    exact ⟨hf_s27, hm_s27, trivial, hTK_s27, hRCO_s27⟩
set_option maxRecDepth 100000 in
set_option maxHeartbeats 4000000 in
theorem c_X3_readNot_2 (l : Launch) (D : va_G) (a : Nat → Nat) (cI cJ cS cT : ClassId) (adK adV : Nat → Nat) (kA : Nat) (s0 : gMem) (x0 : Int) (hx0 : in32 x0) (hpre0 : TK s0) (hpre1 : RCO s0) (hpre2 : x0 = 3) : gCS l yX3_readNot cX3_readNot 2 none 26 1664 D vwCl (gT cI cJ cS cT) (wdX a cI cJ cS cT) lgX kV rgV [.ref (a 2), gI x0] s0 (f_X3_readNot_2 x0 s0) adK adV kA := by
  refine gCS_of (by decide +kernel) (hwdX a cI cJ cS cT) (Nat.le_of_ble_eq_true rfl) ?_
  intro A p e R s m args below meth c hR E HX
  subst hR
  have hT := f_X3_readNot_2_e x0 s0
  have hf_s0 : fr [34, 53, 54, 55, 56, 57, 58] s0 s0 := fr.rf _ _
  refine k_lv0 (lv' := [(0, .ref (a 2)), (1, gI x0)]) rfl ?_
  refine k_mr (fun hm_s0 => ?_)
  have hTK_s0 := hpre0
  have hRCO_s0 := hpre1
  refine k_aloadn (pc := 0) E 0 dX3_readNot_0 rfl rfl ?_
  refine k_getfI (pc := 1) (q0 := 2) (f := 6) (k := 55) E inX3 rfl rfl (by decide) wm_65 rfl rfl rfl dX3_readNot_1 (fun hr1 => ?_)
  refine k_sipush (pc := 4) E dX3_readNot_4 (by decide) ?_
  by_cases h2 : (s0 55 0) = 261
  · replace hT := hT.trans (if_pos h2)
    refine k_icmp_eq_t (pc := 7) (tgt := 18) E (by omega) (by omega) dX3_readNot_7 (by decide) h2 ?_
    refine k_iloadn (pc := 18) E 1 dX3_readNot_18 rfl rfl ?_
    refine k_iconst (pc := 19) E dX3_readNot_19 ?_
    by_cases h3 : x0 < 5
    · replace hT := hT.trans (if_pos h3)
      refine k_icmp_lt_t (pc := 20) (tgt := 30) E (by omega) (by omega) dX3_readNot_20 (by decide) h3 ?_
      refine k_aloadn (pc := 30) E 0 dX3_readNot_30 rfl rfl ?_
      refine k_mr (fun hm_s0 => ?_)
      refine k_callVX (pc := 31) (np := 0) (As := []) (st := []) (q0 := 2) E HX rfl rfl (c_X3_next l D a cI cJ cS cT adK adV kA s0  hTK_s0) wm_336 wm_3 wm_333 wm_335 wp_0 (by decide +kernel) ⟨by decide, by decide⟩ rfl (Nat.le_of_ble_eq_true rfl) dX3_readNot_31 (fun r5 s6 hs6 hr4 => ?_)
      replace hT := gby hT hs6
      have hp7 := f_X3_next_p  s0  hm_s0 hTK_s0 r5 s6 hs6
      obtain ⟨hfc_s6, hm_s6, hp8, hTK_s6⟩ := hp7
      have hf_s6 : fr [34, 53, 54, 55, 56, 57, 58] s0 s6 := hf_s0.call (by decide) hfc_s6
      have hRCO_s6 : RCO s6 := RCO_fr hRCO_s0 (fun k hk => hfc_s6 k (dj (by decide) k hk))
      refine k_st (st' := []) rfl ?_
      refine k_aloadn (pc := 34) E 0 dX3_readNot_34 rfl rfl ?_
      refine k_iloadn (pc := 35) E 1 dX3_readNot_35 rfl rfl ?_
      refine k_iconst (pc := 36) E dX3_readNot_36 ?_
      refine k_iadd (pc := 37) E dX3_readNot_37 ?_
      refine k_mr (fun hm_s6 => ?_)
      refine k_callVX (pc := 38) (np := 1) (As := [gI (x0 + 1)]) (st := []) (q0 := 2) E HX rfl rfl (c_X3_readNot_1 l D a cI cJ cS cT adK adV kA s6 (x0 + 1) (by omega) hTK_s6 hRCO_s6 (by first | assumption | omega)) wm_440 wm_3 wm_437 wm_439 wp_8 (by decide +kernel) ⟨by decide, by decide⟩ rfl (Nat.le_of_ble_eq_true rfl) dX3_readNot_38 (fun r10 s11 hs11 hr9 => ?_)
      replace hT := gby hT hs11
      have hp12 := f_X3_readNot_1_p (x0 + 1) s6 (by omega) hm_s6 hTK_s6 hRCO_s6 (by first | assumption | omega) r10 s11 hs11
      obtain ⟨hfc_s11, hm_s11, hp13, hTK_s11, hRCO_s11⟩ := hp12
      have hf_s11 : fr [34, 53, 54, 55, 56, 57, 58] s0 s11 := hf_s6.call (by decide) hfc_s11
      refine k_st (st' := []) rfl ?_
      refine k_aloadn (pc := 41) E 0 dX3_readNot_41 rfl rfl ?_
      refine k_bipush (pc := 42) E dX3_readNot_42 (by decide) ?_
      refine k_mr (fun hm_s11 => ?_)
      refine k_callV (pc := 44) (np := 1) (As := [gI (-14)]) (st := []) (q0 := 2) E (c_X3_emit l D a cI cJ cS cT s11 (-14) (by omega) hTK_s11 hRCO_s11 (by first | assumption | omega)) wm_460 wm_3 wm_457 wm_459 wp_13 (by decide +kernel) rfl rfl ⟨by decide, by decide⟩ rfl (Nat.le_of_ble_eq_true rfl) dX3_readNot_44 (fun r15 s16 hs16 hr14 => ?_)
      replace hT := gby hT hs16
      have hp17 := f_X3_emit_p (-14) s11 (by omega) hm_s11 hTK_s11 hRCO_s11 (by first | assumption | omega) r15 s16 hs16
      obtain ⟨hfc_s16, hm_s16, hp18, hTK_s16, hRCO_s16⟩ := hp17
      have hf_s16 : fr [34, 53, 54, 55, 56, 57, 58] s0 s16 := hf_s11.call (by decide) hfc_s16
      refine k_st (st' := []) rfl ?_
      exact k_rho hT (k_vret (pc := 47) E dX3_readNot_47)
    · replace hT := hT.trans (if_neg h3)
      refine k_icmp_lt_f (pc := 20) (tgt := 30) E (by omega) (by omega) dX3_readNot_20 (by decide) h3 ?_
      refine k_aloadn (pc := 23) E 0 dX3_readNot_23 rfl rfl ?_
      refine k_mr (fun hm_s0 => ?_)
      refine k_callV (pc := 24) (np := 0) (As := []) (st := []) (q0 := 2) E (c_X3_fail l D a cI cJ cS cT s0  hTK_s0) wm_428 wm_3 wm_425 wm_427 wp_5 (by decide +kernel) rfl rfl ⟨by decide, by decide⟩ rfl (Nat.le_of_ble_eq_true rfl) dX3_readNot_24 (fun r20 s21 hs21 hr19 => ?_)
      replace hT := gby hT hs21
      have hp22 := f_X3_fail_p  s0  hm_s0 hTK_s0 r20 s21 hs21
      obtain ⟨hfc_s21, hm_s21, hp23, hTK_s21, hp24⟩ := hp22
      have hf_s21 : fr [34, 53, 54, 55, 56, 57, 58] s0 s21 := hf_s0.call (by decide) hfc_s21
      have hRCO_s21 : RCO s21 := RCO_fr hRCO_s0 (fun k hk => hfc_s21 k (dj (by decide) k hk))
      refine k_st (st' := []) rfl ?_
      refine k_goto (pc := 27) (tgt := 47) E dX3_readNot_27 (by decide) ?_
      exact k_rho hT (k_vret (pc := 47) E dX3_readNot_47)
  · replace hT := hT.trans (if_neg h2)
    refine k_icmp_eq_f (pc := 7) (tgt := 18) E (by omega) (by omega) dX3_readNot_7 (by decide) h2 ?_
    refine k_aloadn (pc := 10) E 0 dX3_readNot_10 rfl rfl ?_
    refine k_iloadn (pc := 11) E 1 dX3_readNot_11 rfl rfl ?_
    refine k_mr (fun hm_s0 => ?_)
    refine k_callVX (pc := 12) (np := 1) (As := [gI x0]) (st := []) (q0 := 2) E HX rfl rfl (c_X3_readCompared_2 l D a cI cJ cS cT adK adV kA s0 x0 (by omega) hTK_s0 hRCO_s0 (by first | assumption | omega)) wm_444 wm_3 wm_441 wm_443 wp_9 (by decide +kernel) ⟨by decide, by decide⟩ rfl (Nat.le_of_ble_eq_true rfl) dX3_readNot_12 (fun r26 s27 hs27 hr25 => ?_)
    replace hT := gby hT hs27
    have hp28 := f_X3_readCompared_2_p x0 s0 (by omega) hm_s0 hTK_s0 hRCO_s0 (by first | assumption | omega) r26 s27 hs27
    obtain ⟨hfc_s27, hm_s27, hp29, hTK_s27, hRCO_s27⟩ := hp28
    have hf_s27 : fr [34, 53, 54, 55, 56, 57, 58] s0 s27 := hf_s0.call (by decide) hfc_s27
    refine k_st (st' := []) rfl ?_
    refine k_goto (pc := 15) (tgt := 47) E dX3_readNot_15 (by decide) ?_
    exact k_rho hT (k_vret (pc := 47) E dX3_readNot_47)

def w_X3_readAnd_2_7 (c1 : Int) : Nat → Int → gMem → Int × gMem
  | 0, v6, s7 => (v6, s7)
  | n8 + 1, v6, s7 => (if v6 < 160 then (if (s7 55 0) = 260 then gb (f_X3_next  s7) (fun r13 s14 => gb (f_X3_readNot_2 c1 s14) (fun r18 s19 => gb (f_X3_emit (-8) s19) (fun r23 s24 => (w_X3_readAnd_2_7 c1 n8 (v6 + 1) s24)))) else (v6, s7)) else (v6, s7))
theorem w_X3_readAnd_2_7_s (c1 : Int) (n8 : Nat) (v6 : Int) (s7 : gMem) : w_X3_readAnd_2_7 c1 (n8 + 1) v6 s7 = (if v6 < 160 then (if (s7 55 0) = 260 then gb (f_X3_next  s7) (fun r13 s14 => gb (f_X3_readNot_2 c1 s14) (fun r18 s19 => gb (f_X3_emit (-8) s19) (fun r23 s24 => (w_X3_readAnd_2_7 c1 n8 (v6 + 1) s24)))) else (v6, s7)) else (v6, s7)) := rfl
def f_X3_readAnd_2 (x0 : Int) (s0 : gMem) : gRes := gb (f_X3_readNot_2 x0 s0) (fun r2 s3 => (gl2 (w_X3_readAnd_2_7 x0 161 0 s3) (fun v55 s56 => (0, s56))))
theorem f_X3_readAnd_2_e (x0 : Int) (s0 : gMem) : f_X3_readAnd_2 x0 s0 = gb (f_X3_readNot_2 x0 s0) (fun r2 s3 => (gl2 (w_X3_readAnd_2_7 x0 161 0 s3) (fun v55 s56 => (0, s56)))) := rfl
set_option maxRecDepth 100000 in
set_option maxHeartbeats 4000000 in
theorem f_X3_readAnd_2_p (x0 : Int) (s0 : gMem) (hx0 : in32 x0) (hm_s0 : gMR lgX s0) (hpre0 : TK s0) (hpre1 : RCO s0) (hpre2 : x0 = 3) (rZ : Int) (sZ : gMem) (hres : f_X3_readAnd_2 x0 s0 = (rZ, sZ)) : (fr [34, 53, 54, 55, 56, 57, 58] s0 sZ) ∧ (gMR lgX sZ) ∧ (True) ∧ (TK sZ) ∧ (RCO sZ) := by
  have hT := f_X3_readAnd_2_e x0 s0
  have hf_s0 : fr [34, 53, 54, 55, 56, 57, 58] s0 s0 := fr.rf _ _
  have hTK_s0 := hpre0
  have hRCO_s0 := hpre1
  obtain ⟨r2, s3, hs3⟩ : ∃ rr ss, (f_X3_readNot_2 x0 s0) = (rr, ss) := ⟨_, _, rfl⟩
  replace hT := gby hT hs3
  have hp4 := f_X3_readNot_2_p x0 s0 (by omega) hm_s0 hTK_s0 hRCO_s0 (by first | assumption | omega) r2 s3 hs3
  obtain ⟨hfc_s3, hm_s3, hp5, hTK_s3, hRCO_s3⟩ := hp4
  have hf_s3 : fr [34, 53, 54, 55, 56, 57, 58] s0 s3 := hf_s0.call (by decide) hfc_s3
  have L29 : ∀ (n30 : Nat) (v27 : Int) (s28 : gMem), ((in32 v27) ∧ (fr [34, 53, 54, 55, 56, 57, 58] s0 s28) ∧ (gMR lgX s28) ∧ (TK s28) ∧ (RCO s28) ∧ (0 ≤ v27 ∧ v27 ≤ 160)) → 160 - v27 < (n30 : Int) → (∀ (w31 : Int) (s32 : gMem), (w_X3_readAnd_2_7 x0 n30 v27 s28) = (w31, s32) → ((in32 w31) ∧ (fr [34, 53, 54, 55, 56, 57, 58] s0 s32) ∧ (gMR lgX s32) ∧ (TK s32) ∧ (RCO s32) ∧ (0 ≤ w31 ∧ w31 ≤ 160)) → (fr [34, 53, 54, 55, 56, 57, 58] s0 sZ) ∧ (gMR lgX sZ) ∧ (True) ∧ (TK sZ) ∧ (RCO sZ)) → (fr [34, 53, 54, 55, 56, 57, 58] s0 sZ) ∧ (gMR lgX sZ) ∧ (True) ∧ (TK sZ) ∧ (RCO sZ) := by
    intro n30; induction n30 with
    | zero =>
      intro v27 s28 hq hm hk
      exfalso
      obtain ⟨hq51, hf_s28, hm_s28, hTK_s28, hRCO_s28, hq52⟩ := hq
      omega
    | succ n30 ih =>
      intro v27 s28 hq hm hk
      obtain ⟨hq53, hf_s28, hm_s28, hTK_s28, hRCO_s28, hq54⟩ := hq
      have hT := w_X3_readAnd_2_7_s x0 n30 v27 s28
      by_cases h33 : v27 < 160
      · replace hT := hT.trans (if_pos h33)
        have hr34 := (hm_s28 55 0).1 rfl
        by_cases h35 : (s28 55 0) = 260
        · replace hT := hT.trans (if_pos h35)
          obtain ⟨r37, s38, hs38⟩ : ∃ rr ss, (f_X3_next  s28) = (rr, ss) := ⟨_, _, rfl⟩
          replace hT := gby hT hs38
          have hp39 := f_X3_next_p  s28  hm_s28 hTK_s28 r37 s38 hs38
          obtain ⟨hfc_s38, hm_s38, hp40, hTK_s38⟩ := hp39
          have hf_s38 : fr [34, 53, 54, 55, 56, 57, 58] s0 s38 := hf_s28.call (by decide) hfc_s38
          have hRCO_s38 : RCO s38 := RCO_fr hRCO_s28 (fun k hk => hfc_s38 k (dj (by decide) k hk))
          obtain ⟨r42, s43, hs43⟩ : ∃ rr ss, (f_X3_readNot_2 x0 s38) = (rr, ss) := ⟨_, _, rfl⟩
          replace hT := gby hT hs43
          have hp44 := f_X3_readNot_2_p x0 s38 (by omega) hm_s38 hTK_s38 hRCO_s38 (by first | assumption | omega) r42 s43 hs43
          obtain ⟨hfc_s43, hm_s43, hp45, hTK_s43, hRCO_s43⟩ := hp44
          have hf_s43 : fr [34, 53, 54, 55, 56, 57, 58] s0 s43 := hf_s38.call (by decide) hfc_s43
          obtain ⟨r47, s48, hs48⟩ : ∃ rr ss, (f_X3_emit (-8) s43) = (rr, ss) := ⟨_, _, rfl⟩
          replace hT := gby hT hs48
          have hp49 := f_X3_emit_p (-8) s43 (by omega) hm_s43 hTK_s43 hRCO_s43 (by first | assumption | omega) r47 s48 hs48
          obtain ⟨hfc_s48, hm_s48, hp50, hTK_s48, hRCO_s48⟩ := hp49
          have hf_s48 : fr [34, 53, 54, 55, 56, 57, 58] s0 s48 := hf_s43.call (by decide) hfc_s48
          exact ih (v27 + 1) s48 ⟨(by omega), hf_s48, hm_s48, hTK_s48, hRCO_s48, (by first | assumption | omega)⟩ (by omega) (fun w31 s32 hw hi => hk w31 s32 (hT.trans hw) hi)
        · replace hT := hT.trans (if_neg h35)
          exact hk v27 s28 hT ⟨(by omega), hf_s28, hm_s28, hTK_s28, hRCO_s28, (by first | assumption | omega)⟩
      · replace hT := hT.trans (if_neg h33)
        exact hk v27 s28 hT ⟨(by omega), hf_s28, hm_s28, hTK_s28, hRCO_s28, (by first | assumption | omega)⟩
  refine L29 161 0 s3 ⟨(by omega), hf_s3, hm_s3, hTK_s3, hRCO_s3, (by first | assumption | omega)⟩ (by omega) (fun v55 s56 hw hq => ?_)
  obtain ⟨hq57, hf_s56, hm_s56, hTK_s56, hRCO_s56, hq58⟩ := hq
  replace hT := gl2y hT hw
  obtain ⟨rfl, rfl⟩ := Prod.mk.inj (hT.symm.trans hres)
  exact ⟨hf_s56, hm_s56, trivial, hTK_s56, hRCO_s56⟩
set_option maxRecDepth 100000 in
set_option maxHeartbeats 4000000 in
theorem c_X3_readAnd_2 (l : Launch) (D : va_G) (a : Nat → Nat) (cI cJ cS cT : ClassId) (adK adV : Nat → Nat) (kA : Nat) (s0 : gMem) (x0 : Int) (hx0 : in32 x0) (hpre0 : TK s0) (hpre1 : RCO s0) (hpre2 : x0 = 3) : gCS l yX3_readAnd cX3_readAnd 3 none 27 1728 D vwCl (gT cI cJ cS cT) (wdX a cI cJ cS cT) lgX kV rgV [.ref (a 2), gI x0] s0 (f_X3_readAnd_2 x0 s0) adK adV kA := by
  refine gCS_of (by decide +kernel) (hwdX a cI cJ cS cT) (Nat.le_of_ble_eq_true rfl) ?_
  intro A p e R s m args below meth c hR E HX
  subst hR
  have hT := f_X3_readAnd_2_e x0 s0
  have hf_s0 : fr [34, 53, 54, 55, 56, 57, 58] s0 s0 := fr.rf _ _
  refine k_lv0 (lv' := [(0, .ref (a 2)), (1, gI x0)]) rfl ?_
  refine k_mr (fun hm_s0 => ?_)
  have hTK_s0 := hpre0
  have hRCO_s0 := hpre1
  refine k_aloadn (pc := 0) E 0 dX3_readAnd_0 rfl rfl ?_
  refine k_iloadn (pc := 1) E 1 dX3_readAnd_1 rfl rfl ?_
  refine k_mr (fun hm_s0 => ?_)
  refine k_callVX (pc := 2) (np := 1) (As := [gI x0]) (st := []) (q0 := 2) E HX rfl rfl (c_X3_readNot_2 l D a cI cJ cS cT adK adV kA s0 x0 (by omega) hTK_s0 hRCO_s0 (by first | assumption | omega)) wm_440 wm_3 wm_437 wm_439 wp_8 (by decide +kernel) ⟨by decide, by decide⟩ rfl (Nat.le_of_ble_eq_true rfl) dX3_readAnd_2 (fun r2 s3 hs3 hr1 => ?_)
  replace hT := gby hT hs3
  have hp4 := f_X3_readNot_2_p x0 s0 (by omega) hm_s0 hTK_s0 hRCO_s0 (by first | assumption | omega) r2 s3 hs3
  obtain ⟨hfc_s3, hm_s3, hp5, hTK_s3, hRCO_s3⟩ := hp4
  have hf_s3 : fr [34, 53, 54, 55, 56, 57, 58] s0 s3 := hf_s0.call (by decide) hfc_s3
  refine k_st (st' := []) rfl ?_
  refine k_iconst (pc := 5) E dX3_readAnd_5 ?_
  refine k_istoren (pc := 6) (lv' := [(2, gI 0), (0, .ref (a 2)), (1, gI x0)]) E dX3_readAnd_6 rfl (by decide) rfl ?_
  have L29 : ∀ (n30 : Nat) (v27 : Int) (s28 : gMem), ((in32 v27) ∧ (fr [34, 53, 54, 55, 56, 57, 58] s0 s28) ∧ (TK s28) ∧ (RCO s28) ∧ (0 ≤ v27 ∧ v27 ≤ 160)) → 160 - v27 < (n30 : Int) → (∀ (w31 : Int) (s32 : gMem), (w_X3_readAnd_2_7 x0 n30 v27 s28) = (w31, s32) → ((in32 w31) ∧ (fr [34, 53, 54, 55, 56, 57, 58] s0 s32) ∧ (TK s32) ∧ (RCO s32) ∧ (0 ≤ w31 ∧ w31 ≤ 160)) → gK D vwCl (wdX a cI cJ cS cT) lgX A p l e { frames := 27, cells := 0, slots := 0, locals := 1728 } s m args below meth c 3 (gQQ D vwCl (wdX a cI cJ cS cT) lgX A kV rgV below args s) (f_X3_readAnd_2 x0 s0) s32 45 [] []) → gK D vwCl (wdX a cI cJ cS cT) lgX A p l e { frames := 27, cells := 0, slots := 0, locals := 1728 } s m args below meth c 3 (gQQ D vwCl (wdX a cI cJ cS cT) lgX A kV rgV below args s) (f_X3_readAnd_2 x0 s0) s28 7 [(0, .ref (a 2)), (1, gI x0), (2, gI v27)] [] := by
    intro n30; induction n30 with
    | zero =>
      intro v27 s28 hq hm hk
      exfalso
      obtain ⟨hq51, hf_s28, hTK_s28, hRCO_s28, hq52⟩ := hq
      omega
    | succ n30 ih =>
      intro v27 s28 hq hm hk
      obtain ⟨hq53, hf_s28, hTK_s28, hRCO_s28, hq54⟩ := hq
      have hT := w_X3_readAnd_2_7_s x0 n30 v27 s28
      refine k_iloadn (pc := 7) E 2 dX3_readAnd_7 rfl rfl ?_
      refine k_sipush (pc := 8) E dX3_readAnd_8 (by decide) ?_
      by_cases h33 : v27 < 160
      · replace hT := hT.trans (if_pos h33)
        refine k_icmp_ge_f (pc := 11) (tgt := 45) E (by omega) (by omega) dX3_readAnd_11 (by decide) h33 ?_
        refine k_aloadn (pc := 14) E 0 dX3_readAnd_14 rfl rfl ?_
        refine k_getfI (pc := 15) (q0 := 2) (f := 6) (k := 55) E inX3 rfl rfl (by decide) wm_65 rfl rfl rfl dX3_readAnd_15 (fun hr34 => ?_)
        refine k_sipush (pc := 18) E dX3_readAnd_18 (by decide) ?_
        by_cases h35 : (s28 55 0) = 260
        · replace hT := hT.trans (if_pos h35)
          refine k_icmp_ne_f (pc := 21) (tgt := 45) E (by omega) (by omega) dX3_readAnd_21 (by decide) h35 ?_
          refine k_aloadn (pc := 24) E 0 dX3_readAnd_24 rfl rfl ?_
          refine k_mr (fun hm_s28 => ?_)
          refine k_callVX (pc := 25) (np := 0) (As := []) (st := []) (q0 := 2) E HX rfl rfl (c_X3_next l D a cI cJ cS cT adK adV kA s28  hTK_s28) wm_336 wm_3 wm_333 wm_335 wp_0 (by decide +kernel) ⟨by decide, by decide⟩ rfl (Nat.le_of_ble_eq_true rfl) dX3_readAnd_25 (fun r37 s38 hs38 hr36 => ?_)
          replace hT := gby hT hs38
          have hp39 := f_X3_next_p  s28  hm_s28 hTK_s28 r37 s38 hs38
          obtain ⟨hfc_s38, hm_s38, hp40, hTK_s38⟩ := hp39
          have hf_s38 : fr [34, 53, 54, 55, 56, 57, 58] s0 s38 := hf_s28.call (by decide) hfc_s38
          have hRCO_s38 : RCO s38 := RCO_fr hRCO_s28 (fun k hk => hfc_s38 k (dj (by decide) k hk))
          refine k_st (st' := []) rfl ?_
          refine k_aloadn (pc := 28) E 0 dX3_readAnd_28 rfl rfl ?_
          refine k_iloadn (pc := 29) E 1 dX3_readAnd_29 rfl rfl ?_
          refine k_mr (fun hm_s38 => ?_)
          refine k_callVX (pc := 30) (np := 1) (As := [gI x0]) (st := []) (q0 := 2) E HX rfl rfl (c_X3_readNot_2 l D a cI cJ cS cT adK adV kA s38 x0 (by omega) hTK_s38 hRCO_s38 (by first | assumption | omega)) wm_440 wm_3 wm_437 wm_439 wp_8 (by decide +kernel) ⟨by decide, by decide⟩ rfl (Nat.le_of_ble_eq_true rfl) dX3_readAnd_30 (fun r42 s43 hs43 hr41 => ?_)
          replace hT := gby hT hs43
          have hp44 := f_X3_readNot_2_p x0 s38 (by omega) hm_s38 hTK_s38 hRCO_s38 (by first | assumption | omega) r42 s43 hs43
          obtain ⟨hfc_s43, hm_s43, hp45, hTK_s43, hRCO_s43⟩ := hp44
          have hf_s43 : fr [34, 53, 54, 55, 56, 57, 58] s0 s43 := hf_s38.call (by decide) hfc_s43
          refine k_st (st' := []) rfl ?_
          refine k_aloadn (pc := 33) E 0 dX3_readAnd_33 rfl rfl ?_
          refine k_bipush (pc := 34) E dX3_readAnd_34 (by decide) ?_
          refine k_mr (fun hm_s43 => ?_)
          refine k_callV (pc := 36) (np := 1) (As := [gI (-8)]) (st := []) (q0 := 2) E (c_X3_emit l D a cI cJ cS cT s43 (-8) (by omega) hTK_s43 hRCO_s43 (by first | assumption | omega)) wm_460 wm_3 wm_457 wm_459 wp_13 (by decide +kernel) rfl rfl ⟨by decide, by decide⟩ rfl (Nat.le_of_ble_eq_true rfl) dX3_readAnd_36 (fun r47 s48 hs48 hr46 => ?_)
          replace hT := gby hT hs48
          have hp49 := f_X3_emit_p (-8) s43 (by omega) hm_s43 hTK_s43 hRCO_s43 (by first | assumption | omega) r47 s48 hs48
          obtain ⟨hfc_s48, hm_s48, hp50, hTK_s48, hRCO_s48⟩ := hp49
          have hf_s48 : fr [34, 53, 54, 55, 56, 57, 58] s0 s48 := hf_s43.call (by decide) hfc_s48
          refine k_st (st' := []) rfl ?_
          refine k_iinc (pc := 39) (lv' := [(2, gI (v27 + 1)), (0, .ref (a 2)), (1, gI x0)]) E 2 dX3_readAnd_39 rfl (by decide) rfl ?_
          refine k_goto (pc := 42) (tgt := 7) E dX3_readAnd_42 (by decide) ?_
          refine k_lv (lv' := [(0, .ref (a 2)), (1, gI x0), (2, gI (v27 + 1))]) [1, 2, 0] rfl ?_
          exact ih (v27 + 1) s48 ⟨(by omega), hf_s48, hTK_s48, hRCO_s48, (by first | assumption | omega)⟩ (by omega) (fun w31 s32 hw hi => hk w31 s32 (hT.trans hw) hi)
        · replace hT := hT.trans (if_neg h35)
          refine k_icmp_ne_t (pc := 21) (tgt := 45) E (by omega) (by omega) dX3_readAnd_21 (by decide) h35 ?_
          refine k_lv (lv' := []) [] rfl ?_
          exact hk v27 s28 hT ⟨(by omega), hf_s28, hTK_s28, hRCO_s28, (by first | assumption | omega)⟩
      · replace hT := hT.trans (if_neg h33)
        refine k_icmp_ge_t (pc := 11) (tgt := 45) E (by omega) (by omega) dX3_readAnd_11 (by decide) h33 ?_
        refine k_lv (lv' := []) [] rfl ?_
        exact hk v27 s28 hT ⟨(by omega), hf_s28, hTK_s28, hRCO_s28, (by first | assumption | omega)⟩
  refine k_lv (lv' := [(0, .ref (a 2)), (1, gI x0), (2, gI 0)]) [1, 2, 0] rfl ?_
  refine L29 161 0 s3 ⟨(by omega), hf_s3, hTK_s3, hRCO_s3, (by first | assumption | omega)⟩ (by omega) (fun v55 s56 hw hq => ?_)
  obtain ⟨hq57, hf_s56, hTK_s56, hRCO_s56, hq58⟩ := hq
  replace hT := gl2y hT hw
  exact k_rho hT (k_vret (pc := 45) E dX3_readAnd_45)

def w_X3_readOr_2_7 (c1 : Int) : Nat → Int → gMem → Int × gMem
  | 0, v6, s7 => (v6, s7)
  | n8 + 1, v6, s7 => (if v6 < 160 then (if (s7 55 0) = 259 then gb (f_X3_next  s7) (fun r13 s14 => gb (f_X3_readAnd_2 c1 s14) (fun r18 s19 => gb (f_X3_emit (-7) s19) (fun r23 s24 => (w_X3_readOr_2_7 c1 n8 (v6 + 1) s24)))) else (v6, s7)) else (v6, s7))
theorem w_X3_readOr_2_7_s (c1 : Int) (n8 : Nat) (v6 : Int) (s7 : gMem) : w_X3_readOr_2_7 c1 (n8 + 1) v6 s7 = (if v6 < 160 then (if (s7 55 0) = 259 then gb (f_X3_next  s7) (fun r13 s14 => gb (f_X3_readAnd_2 c1 s14) (fun r18 s19 => gb (f_X3_emit (-7) s19) (fun r23 s24 => (w_X3_readOr_2_7 c1 n8 (v6 + 1) s24)))) else (v6, s7)) else (v6, s7)) := rfl
def f_X3_readOr_2 (x0 : Int) (s0 : gMem) : gRes := gb (f_X3_readAnd_2 x0 s0) (fun r2 s3 => (gl2 (w_X3_readOr_2_7 x0 161 0 s3) (fun v55 s56 => (0, s56))))
theorem f_X3_readOr_2_e (x0 : Int) (s0 : gMem) : f_X3_readOr_2 x0 s0 = gb (f_X3_readAnd_2 x0 s0) (fun r2 s3 => (gl2 (w_X3_readOr_2_7 x0 161 0 s3) (fun v55 s56 => (0, s56)))) := rfl
set_option maxRecDepth 100000 in
set_option maxHeartbeats 4000000 in
theorem f_X3_readOr_2_p (x0 : Int) (s0 : gMem) (hx0 : in32 x0) (hm_s0 : gMR lgX s0) (hpre0 : TK s0) (hpre1 : RCO s0) (hpre2 : x0 = 3) (rZ : Int) (sZ : gMem) (hres : f_X3_readOr_2 x0 s0 = (rZ, sZ)) : (fr [34, 53, 54, 55, 56, 57, 58] s0 sZ) ∧ (gMR lgX sZ) ∧ (True) ∧ (TK sZ) ∧ (RCO sZ) := by
  have hT := f_X3_readOr_2_e x0 s0
  have hf_s0 : fr [34, 53, 54, 55, 56, 57, 58] s0 s0 := fr.rf _ _
  have hTK_s0 := hpre0
  have hRCO_s0 := hpre1
  obtain ⟨r2, s3, hs3⟩ : ∃ rr ss, (f_X3_readAnd_2 x0 s0) = (rr, ss) := ⟨_, _, rfl⟩
  replace hT := gby hT hs3
  have hp4 := f_X3_readAnd_2_p x0 s0 (by omega) hm_s0 hTK_s0 hRCO_s0 (by first | assumption | omega) r2 s3 hs3
  obtain ⟨hfc_s3, hm_s3, hp5, hTK_s3, hRCO_s3⟩ := hp4
  have hf_s3 : fr [34, 53, 54, 55, 56, 57, 58] s0 s3 := hf_s0.call (by decide) hfc_s3
  have L29 : ∀ (n30 : Nat) (v27 : Int) (s28 : gMem), ((in32 v27) ∧ (fr [34, 53, 54, 55, 56, 57, 58] s0 s28) ∧ (gMR lgX s28) ∧ (TK s28) ∧ (RCO s28) ∧ (0 ≤ v27 ∧ v27 ≤ 160)) → 160 - v27 < (n30 : Int) → (∀ (w31 : Int) (s32 : gMem), (w_X3_readOr_2_7 x0 n30 v27 s28) = (w31, s32) → ((in32 w31) ∧ (fr [34, 53, 54, 55, 56, 57, 58] s0 s32) ∧ (gMR lgX s32) ∧ (TK s32) ∧ (RCO s32) ∧ (0 ≤ w31 ∧ w31 ≤ 160)) → (fr [34, 53, 54, 55, 56, 57, 58] s0 sZ) ∧ (gMR lgX sZ) ∧ (True) ∧ (TK sZ) ∧ (RCO sZ)) → (fr [34, 53, 54, 55, 56, 57, 58] s0 sZ) ∧ (gMR lgX sZ) ∧ (True) ∧ (TK sZ) ∧ (RCO sZ) := by
    intro n30; induction n30 with
    | zero =>
      intro v27 s28 hq hm hk
      exfalso
      obtain ⟨hq51, hf_s28, hm_s28, hTK_s28, hRCO_s28, hq52⟩ := hq
      omega
    | succ n30 ih =>
      intro v27 s28 hq hm hk
      obtain ⟨hq53, hf_s28, hm_s28, hTK_s28, hRCO_s28, hq54⟩ := hq
      have hT := w_X3_readOr_2_7_s x0 n30 v27 s28
      by_cases h33 : v27 < 160
      · replace hT := hT.trans (if_pos h33)
        have hr34 := (hm_s28 55 0).1 rfl
        by_cases h35 : (s28 55 0) = 259
        · replace hT := hT.trans (if_pos h35)
          obtain ⟨r37, s38, hs38⟩ : ∃ rr ss, (f_X3_next  s28) = (rr, ss) := ⟨_, _, rfl⟩
          replace hT := gby hT hs38
          have hp39 := f_X3_next_p  s28  hm_s28 hTK_s28 r37 s38 hs38
          obtain ⟨hfc_s38, hm_s38, hp40, hTK_s38⟩ := hp39
          have hf_s38 : fr [34, 53, 54, 55, 56, 57, 58] s0 s38 := hf_s28.call (by decide) hfc_s38
          have hRCO_s38 : RCO s38 := RCO_fr hRCO_s28 (fun k hk => hfc_s38 k (dj (by decide) k hk))
          obtain ⟨r42, s43, hs43⟩ : ∃ rr ss, (f_X3_readAnd_2 x0 s38) = (rr, ss) := ⟨_, _, rfl⟩
          replace hT := gby hT hs43
          have hp44 := f_X3_readAnd_2_p x0 s38 (by omega) hm_s38 hTK_s38 hRCO_s38 (by first | assumption | omega) r42 s43 hs43
          obtain ⟨hfc_s43, hm_s43, hp45, hTK_s43, hRCO_s43⟩ := hp44
          have hf_s43 : fr [34, 53, 54, 55, 56, 57, 58] s0 s43 := hf_s38.call (by decide) hfc_s43
          obtain ⟨r47, s48, hs48⟩ : ∃ rr ss, (f_X3_emit (-7) s43) = (rr, ss) := ⟨_, _, rfl⟩
          replace hT := gby hT hs48
          have hp49 := f_X3_emit_p (-7) s43 (by omega) hm_s43 hTK_s43 hRCO_s43 (by first | assumption | omega) r47 s48 hs48
          obtain ⟨hfc_s48, hm_s48, hp50, hTK_s48, hRCO_s48⟩ := hp49
          have hf_s48 : fr [34, 53, 54, 55, 56, 57, 58] s0 s48 := hf_s43.call (by decide) hfc_s48
          exact ih (v27 + 1) s48 ⟨(by omega), hf_s48, hm_s48, hTK_s48, hRCO_s48, (by first | assumption | omega)⟩ (by omega) (fun w31 s32 hw hi => hk w31 s32 (hT.trans hw) hi)
        · replace hT := hT.trans (if_neg h35)
          exact hk v27 s28 hT ⟨(by omega), hf_s28, hm_s28, hTK_s28, hRCO_s28, (by first | assumption | omega)⟩
      · replace hT := hT.trans (if_neg h33)
        exact hk v27 s28 hT ⟨(by omega), hf_s28, hm_s28, hTK_s28, hRCO_s28, (by first | assumption | omega)⟩
  refine L29 161 0 s3 ⟨(by omega), hf_s3, hm_s3, hTK_s3, hRCO_s3, (by first | assumption | omega)⟩ (by omega) (fun v55 s56 hw hq => ?_)
  obtain ⟨hq57, hf_s56, hm_s56, hTK_s56, hRCO_s56, hq58⟩ := hq
  replace hT := gl2y hT hw
  obtain ⟨rfl, rfl⟩ := Prod.mk.inj (hT.symm.trans hres)
  exact ⟨hf_s56, hm_s56, trivial, hTK_s56, hRCO_s56⟩
set_option maxRecDepth 100000 in
set_option maxHeartbeats 4000000 in
theorem c_X3_readOr_2 (l : Launch) (D : va_G) (a : Nat → Nat) (cI cJ cS cT : ClassId) (adK adV : Nat → Nat) (kA : Nat) (s0 : gMem) (x0 : Int) (hx0 : in32 x0) (hpre0 : TK s0) (hpre1 : RCO s0) (hpre2 : x0 = 3) : gCS l yX3_readOr cX3_readOr 3 none 28 1792 D vwCl (gT cI cJ cS cT) (wdX a cI cJ cS cT) lgX kV rgV [.ref (a 2), gI x0] s0 (f_X3_readOr_2 x0 s0) adK adV kA := by
  refine gCS_of (by decide +kernel) (hwdX a cI cJ cS cT) (Nat.le_of_ble_eq_true rfl) ?_
  intro A p e R s m args below meth c hR E HX
  subst hR
  have hT := f_X3_readOr_2_e x0 s0
  have hf_s0 : fr [34, 53, 54, 55, 56, 57, 58] s0 s0 := fr.rf _ _
  refine k_lv0 (lv' := [(0, .ref (a 2)), (1, gI x0)]) rfl ?_
  refine k_mr (fun hm_s0 => ?_)
  have hTK_s0 := hpre0
  have hRCO_s0 := hpre1
  refine k_aloadn (pc := 0) E 0 dX3_readOr_0 rfl rfl ?_
  refine k_iloadn (pc := 1) E 1 dX3_readOr_1 rfl rfl ?_
  refine k_mr (fun hm_s0 => ?_)
  refine k_callVX (pc := 2) (np := 1) (As := [gI x0]) (st := []) (q0 := 2) E HX rfl rfl (c_X3_readAnd_2 l D a cI cJ cS cT adK adV kA s0 x0 (by omega) hTK_s0 hRCO_s0 (by first | assumption | omega)) wm_436 wm_3 wm_433 wm_435 wp_7 (by decide +kernel) ⟨by decide, by decide⟩ rfl (Nat.le_of_ble_eq_true rfl) dX3_readOr_2 (fun r2 s3 hs3 hr1 => ?_)
  replace hT := gby hT hs3
  have hp4 := f_X3_readAnd_2_p x0 s0 (by omega) hm_s0 hTK_s0 hRCO_s0 (by first | assumption | omega) r2 s3 hs3
  obtain ⟨hfc_s3, hm_s3, hp5, hTK_s3, hRCO_s3⟩ := hp4
  have hf_s3 : fr [34, 53, 54, 55, 56, 57, 58] s0 s3 := hf_s0.call (by decide) hfc_s3
  refine k_st (st' := []) rfl ?_
  refine k_iconst (pc := 5) E dX3_readOr_5 ?_
  refine k_istoren (pc := 6) (lv' := [(2, gI 0), (0, .ref (a 2)), (1, gI x0)]) E dX3_readOr_6 rfl (by decide) rfl ?_
  have L29 : ∀ (n30 : Nat) (v27 : Int) (s28 : gMem), ((in32 v27) ∧ (fr [34, 53, 54, 55, 56, 57, 58] s0 s28) ∧ (TK s28) ∧ (RCO s28) ∧ (0 ≤ v27 ∧ v27 ≤ 160)) → 160 - v27 < (n30 : Int) → (∀ (w31 : Int) (s32 : gMem), (w_X3_readOr_2_7 x0 n30 v27 s28) = (w31, s32) → ((in32 w31) ∧ (fr [34, 53, 54, 55, 56, 57, 58] s0 s32) ∧ (TK s32) ∧ (RCO s32) ∧ (0 ≤ w31 ∧ w31 ≤ 160)) → gK D vwCl (wdX a cI cJ cS cT) lgX A p l e { frames := 28, cells := 0, slots := 0, locals := 1792 } s m args below meth c 3 (gQQ D vwCl (wdX a cI cJ cS cT) lgX A kV rgV below args s) (f_X3_readOr_2 x0 s0) s32 45 [] []) → gK D vwCl (wdX a cI cJ cS cT) lgX A p l e { frames := 28, cells := 0, slots := 0, locals := 1792 } s m args below meth c 3 (gQQ D vwCl (wdX a cI cJ cS cT) lgX A kV rgV below args s) (f_X3_readOr_2 x0 s0) s28 7 [(0, .ref (a 2)), (1, gI x0), (2, gI v27)] [] := by
    intro n30; induction n30 with
    | zero =>
      intro v27 s28 hq hm hk
      exfalso
      obtain ⟨hq51, hf_s28, hTK_s28, hRCO_s28, hq52⟩ := hq
      omega
    | succ n30 ih =>
      intro v27 s28 hq hm hk
      obtain ⟨hq53, hf_s28, hTK_s28, hRCO_s28, hq54⟩ := hq
      have hT := w_X3_readOr_2_7_s x0 n30 v27 s28
      refine k_iloadn (pc := 7) E 2 dX3_readOr_7 rfl rfl ?_
      refine k_sipush (pc := 8) E dX3_readOr_8 (by decide) ?_
      by_cases h33 : v27 < 160
      · replace hT := hT.trans (if_pos h33)
        refine k_icmp_ge_f (pc := 11) (tgt := 45) E (by omega) (by omega) dX3_readOr_11 (by decide) h33 ?_
        refine k_aloadn (pc := 14) E 0 dX3_readOr_14 rfl rfl ?_
        refine k_getfI (pc := 15) (q0 := 2) (f := 6) (k := 55) E inX3 rfl rfl (by decide) wm_65 rfl rfl rfl dX3_readOr_15 (fun hr34 => ?_)
        refine k_sipush (pc := 18) E dX3_readOr_18 (by decide) ?_
        by_cases h35 : (s28 55 0) = 259
        · replace hT := hT.trans (if_pos h35)
          refine k_icmp_ne_f (pc := 21) (tgt := 45) E (by omega) (by omega) dX3_readOr_21 (by decide) h35 ?_
          refine k_aloadn (pc := 24) E 0 dX3_readOr_24 rfl rfl ?_
          refine k_mr (fun hm_s28 => ?_)
          refine k_callVX (pc := 25) (np := 0) (As := []) (st := []) (q0 := 2) E HX rfl rfl (c_X3_next l D a cI cJ cS cT adK adV kA s28  hTK_s28) wm_336 wm_3 wm_333 wm_335 wp_0 (by decide +kernel) ⟨by decide, by decide⟩ rfl (Nat.le_of_ble_eq_true rfl) dX3_readOr_25 (fun r37 s38 hs38 hr36 => ?_)
          replace hT := gby hT hs38
          have hp39 := f_X3_next_p  s28  hm_s28 hTK_s28 r37 s38 hs38
          obtain ⟨hfc_s38, hm_s38, hp40, hTK_s38⟩ := hp39
          have hf_s38 : fr [34, 53, 54, 55, 56, 57, 58] s0 s38 := hf_s28.call (by decide) hfc_s38
          have hRCO_s38 : RCO s38 := RCO_fr hRCO_s28 (fun k hk => hfc_s38 k (dj (by decide) k hk))
          refine k_st (st' := []) rfl ?_
          refine k_aloadn (pc := 28) E 0 dX3_readOr_28 rfl rfl ?_
          refine k_iloadn (pc := 29) E 1 dX3_readOr_29 rfl rfl ?_
          refine k_mr (fun hm_s38 => ?_)
          refine k_callVX (pc := 30) (np := 1) (As := [gI x0]) (st := []) (q0 := 2) E HX rfl rfl (c_X3_readAnd_2 l D a cI cJ cS cT adK adV kA s38 x0 (by omega) hTK_s38 hRCO_s38 (by first | assumption | omega)) wm_436 wm_3 wm_433 wm_435 wp_7 (by decide +kernel) ⟨by decide, by decide⟩ rfl (Nat.le_of_ble_eq_true rfl) dX3_readOr_30 (fun r42 s43 hs43 hr41 => ?_)
          replace hT := gby hT hs43
          have hp44 := f_X3_readAnd_2_p x0 s38 (by omega) hm_s38 hTK_s38 hRCO_s38 (by first | assumption | omega) r42 s43 hs43
          obtain ⟨hfc_s43, hm_s43, hp45, hTK_s43, hRCO_s43⟩ := hp44
          have hf_s43 : fr [34, 53, 54, 55, 56, 57, 58] s0 s43 := hf_s38.call (by decide) hfc_s43
          refine k_st (st' := []) rfl ?_
          refine k_aloadn (pc := 33) E 0 dX3_readOr_33 rfl rfl ?_
          refine k_bipush (pc := 34) E dX3_readOr_34 (by decide) ?_
          refine k_mr (fun hm_s43 => ?_)
          refine k_callV (pc := 36) (np := 1) (As := [gI (-7)]) (st := []) (q0 := 2) E (c_X3_emit l D a cI cJ cS cT s43 (-7) (by omega) hTK_s43 hRCO_s43 (by first | assumption | omega)) wm_460 wm_3 wm_457 wm_459 wp_13 (by decide +kernel) rfl rfl ⟨by decide, by decide⟩ rfl (Nat.le_of_ble_eq_true rfl) dX3_readOr_36 (fun r47 s48 hs48 hr46 => ?_)
          replace hT := gby hT hs48
          have hp49 := f_X3_emit_p (-7) s43 (by omega) hm_s43 hTK_s43 hRCO_s43 (by first | assumption | omega) r47 s48 hs48
          obtain ⟨hfc_s48, hm_s48, hp50, hTK_s48, hRCO_s48⟩ := hp49
          have hf_s48 : fr [34, 53, 54, 55, 56, 57, 58] s0 s48 := hf_s43.call (by decide) hfc_s48
          refine k_st (st' := []) rfl ?_
          refine k_iinc (pc := 39) (lv' := [(2, gI (v27 + 1)), (0, .ref (a 2)), (1, gI x0)]) E 2 dX3_readOr_39 rfl (by decide) rfl ?_
          refine k_goto (pc := 42) (tgt := 7) E dX3_readOr_42 (by decide) ?_
          refine k_lv (lv' := [(0, .ref (a 2)), (1, gI x0), (2, gI (v27 + 1))]) [1, 2, 0] rfl ?_
          exact ih (v27 + 1) s48 ⟨(by omega), hf_s48, hTK_s48, hRCO_s48, (by first | assumption | omega)⟩ (by omega) (fun w31 s32 hw hi => hk w31 s32 (hT.trans hw) hi)
        · replace hT := hT.trans (if_neg h35)
          refine k_icmp_ne_t (pc := 21) (tgt := 45) E (by omega) (by omega) dX3_readOr_21 (by decide) h35 ?_
          refine k_lv (lv' := []) [] rfl ?_
          exact hk v27 s28 hT ⟨(by omega), hf_s28, hTK_s28, hRCO_s28, (by first | assumption | omega)⟩
      · replace hT := hT.trans (if_neg h33)
        refine k_icmp_ge_t (pc := 11) (tgt := 45) E (by omega) (by omega) dX3_readOr_11 (by decide) h33 ?_
        refine k_lv (lv' := []) [] rfl ?_
        exact hk v27 s28 hT ⟨(by omega), hf_s28, hTK_s28, hRCO_s28, (by first | assumption | omega)⟩
  refine k_lv (lv' := [(0, .ref (a 2)), (1, gI x0), (2, gI 0)]) [1, 2, 0] rfl ?_
  refine L29 161 0 s3 ⟨(by omega), hf_s3, hTK_s3, hRCO_s3, (by first | assumption | omega)⟩ (by omega) (fun v55 s56 hw hq => ?_)
  obtain ⟨hq57, hf_s56, hTK_s56, hRCO_s56, hq58⟩ := hq
  replace hT := gl2y hT hw
  exact k_rho hT (k_vret (pc := 45) E dX3_readOr_45)

def f_X3_readOne_3 (x0 : Int) (s0 : gMem) : gRes := (if (s0 55 0) = 2 then gb (f_X3_emit (s0 57 0) s0) (fun r5 s6 => gb (f_X3_next  s6) (fun r10 s11 => (0, s11))) else (if (s0 55 0) < 262 then (gj (fun j17c => (if x0 < 5 then (gj (fun j26c => (if (s0 55 0) = 45 then j26c else (if (s0 55 0) = 40 then j26c else j17c))) ((if (s0 55 0) = 45 then gb (f_X3_next  s0) (fun r30 s31 => gb (f_X3_readOne_2 (x0 + 1) s31) (fun r35 s36 => gb (f_X3_emit (-15) s36) (fun r40 s41 => (0, s41)))) else gb (f_X3_next  s0) (fun r45 s46 => gb (f_X3_readOr_2 (x0 + 1) s46) (fun r50 s51 => gb (f_X3_want 41 s51) (fun r55 s56 => (0, s56))))))) else j17c)) (gb (f_X3_fail  s0) (fun r19 s20 => (0, s20)))) else gb (f_X3_emit ((-1) - ((s0 55 0) - 262)) s0) (fun r63 s64 => gb (f_X3_next  s64) (fun r68 s69 => (0, s69)))))
theorem f_X3_readOne_3_e (x0 : Int) (s0 : gMem) : f_X3_readOne_3 x0 s0 = (if (s0 55 0) = 2 then gb (f_X3_emit (s0 57 0) s0) (fun r5 s6 => gb (f_X3_next  s6) (fun r10 s11 => (0, s11))) else (if (s0 55 0) < 262 then (gj (fun j17c => (if x0 < 5 then (gj (fun j26c => (if (s0 55 0) = 45 then j26c else (if (s0 55 0) = 40 then j26c else j17c))) ((if (s0 55 0) = 45 then gb (f_X3_next  s0) (fun r30 s31 => gb (f_X3_readOne_2 (x0 + 1) s31) (fun r35 s36 => gb (f_X3_emit (-15) s36) (fun r40 s41 => (0, s41)))) else gb (f_X3_next  s0) (fun r45 s46 => gb (f_X3_readOr_2 (x0 + 1) s46) (fun r50 s51 => gb (f_X3_want 41 s51) (fun r55 s56 => (0, s56))))))) else j17c)) (gb (f_X3_fail  s0) (fun r19 s20 => (0, s20)))) else gb (f_X3_emit ((-1) - ((s0 55 0) - 262)) s0) (fun r63 s64 => gb (f_X3_next  s64) (fun r68 s69 => (0, s69))))) := rfl
set_option maxRecDepth 100000 in
set_option maxHeartbeats 4000000 in
theorem f_X3_readOne_3_p (x0 : Int) (s0 : gMem) (hx0 : in32 x0) (hm_s0 : gMR lgX s0) (hpre0 : TK s0) (hpre1 : RCO s0) (hpre2 : x0 = 2) (rZ : Int) (sZ : gMem) (hres : f_X3_readOne_3 x0 s0 = (rZ, sZ)) : (fr [34, 53, 54, 55, 56, 57, 58] s0 sZ) ∧ (gMR lgX sZ) ∧ (True) ∧ (TK sZ) ∧ (RCO sZ) := by
  have hT := f_X3_readOne_3_e x0 s0
  have hf_s0 : fr [34, 53, 54, 55, 56, 57, 58] s0 s0 := fr.rf _ _
  have hTK_s0 := hpre0
  have hRCO_s0 := hpre1
  obtain ⟨kt1, kt2, kt3, kt4, kt5, kt6, kt7⟩ := id hTK_s0
  have hr1 := (hm_s0 55 0).1 rfl
  by_cases h2 : (s0 55 0) = 2
  · replace hT := hT.trans (if_pos h2)
    have hr3 := (hm_s0 57 0).1 rfl
    obtain ⟨r5, s6, hs6⟩ : ∃ rr ss, (f_X3_emit (s0 57 0) s0) = (rr, ss) := ⟨_, _, rfl⟩
    replace hT := gby hT hs6
    have hp7 := f_X3_emit_p (s0 57 0) s0 (by omega) hm_s0 hTK_s0 hRCO_s0 (by first | assumption | omega) r5 s6 hs6
    obtain ⟨hfc_s6, hm_s6, hp8, hTK_s6, hRCO_s6⟩ := hp7
    have hf_s6 : fr [34, 53, 54, 55, 56, 57, 58] s0 s6 := hf_s0.call (by decide) hfc_s6
    obtain ⟨r10, s11, hs11⟩ : ∃ rr ss, (f_X3_next  s6) = (rr, ss) := ⟨_, _, rfl⟩
    replace hT := gby hT hs11
    have hp12 := f_X3_next_p  s6  hm_s6 hTK_s6 r10 s11 hs11
    obtain ⟨hfc_s11, hm_s11, hp13, hTK_s11⟩ := hp12
    have hf_s11 : fr [34, 53, 54, 55, 56, 57, 58] s0 s11 := hf_s6.call (by decide) hfc_s11
    have hRCO_s11 : RCO s11 := RCO_fr hRCO_s6 (fun k hk => hfc_s11 k (dj (by decide) k hk))
    obtain ⟨rfl, rfl⟩ := Prod.mk.inj (hT.symm.trans hres)
    exact ⟨hf_s11, hm_s11, trivial, hTK_s11, hRCO_s11⟩
  · replace hT := hT.trans (if_neg h2)
    have hr14 := (hm_s0 55 0).1 rfl
    by_cases h15 : (s0 55 0) < 262
    · replace hT := hT.trans (if_pos h15)
      obtain ⟨j17c, hj17c, hT⟩ := gjx hT
      have j17 : (True) → (f_X3_readOne_3 x0 s0) = j17c  → (fr [34, 53, 54, 55, 56, 57, 58] s0 sZ) ∧ (gMR lgX sZ) ∧ (True) ∧ (TK sZ) ∧ (RCO sZ) := by
        intro  hq hT
        rw [hj17c] at hT
        obtain ⟨r19, s20, hs20⟩ : ∃ rr ss, (f_X3_fail  s0) = (rr, ss) := ⟨_, _, rfl⟩
        replace hT := gby hT hs20
        have hp21 := f_X3_fail_p  s0  hm_s0 hTK_s0 r19 s20 hs20
        obtain ⟨hfc_s20, hm_s20, hp22, hTK_s20, hp23⟩ := hp21
        have hf_s20 : fr [34, 53, 54, 55, 56, 57, 58] s0 s20 := hf_s0.call (by decide) hfc_s20
        have hRCO_s20 : RCO s20 := RCO_fr hRCO_s0 (fun k hk => hfc_s20 k (dj (by decide) k hk))
        obtain ⟨rfl, rfl⟩ := Prod.mk.inj (hT.symm.trans hres)
        exact ⟨hf_s20, hm_s20, trivial, hTK_s20, hRCO_s20⟩
      by_cases h16 : x0 < 5
      · replace hT := hT.trans (if_pos h16)
        have hr24 := (hm_s0 55 0).1 rfl
        obtain ⟨j26c, hj26c, hT⟩ := gjx hT
        have j26 : (True) → (f_X3_readOne_3 x0 s0) = j26c  → (fr [34, 53, 54, 55, 56, 57, 58] s0 sZ) ∧ (gMR lgX sZ) ∧ (True) ∧ (TK sZ) ∧ (RCO sZ) := by
          intro  hq hT
          rw [hj26c] at hT
          have hr27 := (hm_s0 55 0).1 rfl
          by_cases h28 : (s0 55 0) = 45
          · replace hT := hT.trans (if_pos h28)
            obtain ⟨r30, s31, hs31⟩ : ∃ rr ss, (f_X3_next  s0) = (rr, ss) := ⟨_, _, rfl⟩
            replace hT := gby hT hs31
            have hp32 := f_X3_next_p  s0  hm_s0 hTK_s0 r30 s31 hs31
            obtain ⟨hfc_s31, hm_s31, hp33, hTK_s31⟩ := hp32
            have hf_s31 : fr [34, 53, 54, 55, 56, 57, 58] s0 s31 := hf_s0.call (by decide) hfc_s31
            have hRCO_s31 : RCO s31 := RCO_fr hRCO_s0 (fun k hk => hfc_s31 k (dj (by decide) k hk))
            obtain ⟨r35, s36, hs36⟩ : ∃ rr ss, (f_X3_readOne_2 (x0 + 1) s31) = (rr, ss) := ⟨_, _, rfl⟩
            replace hT := gby hT hs36
            have hp37 := f_X3_readOne_2_p (x0 + 1) s31 (by omega) hm_s31 hTK_s31 hRCO_s31 (by first | assumption | omega) r35 s36 hs36
            obtain ⟨hfc_s36, hm_s36, hp38, hTK_s36, hRCO_s36⟩ := hp37
            have hf_s36 : fr [34, 53, 54, 55, 56, 57, 58] s0 s36 := hf_s31.call (by decide) hfc_s36
            obtain ⟨r40, s41, hs41⟩ : ∃ rr ss, (f_X3_emit (-15) s36) = (rr, ss) := ⟨_, _, rfl⟩
            replace hT := gby hT hs41
            have hp42 := f_X3_emit_p (-15) s36 (by omega) hm_s36 hTK_s36 hRCO_s36 (by first | assumption | omega) r40 s41 hs41
            obtain ⟨hfc_s41, hm_s41, hp43, hTK_s41, hRCO_s41⟩ := hp42
            have hf_s41 : fr [34, 53, 54, 55, 56, 57, 58] s0 s41 := hf_s36.call (by decide) hfc_s41
            obtain ⟨rfl, rfl⟩ := Prod.mk.inj (hT.symm.trans hres)
            exact ⟨hf_s41, hm_s41, trivial, hTK_s41, hRCO_s41⟩
          · replace hT := hT.trans (if_neg h28)
            obtain ⟨r45, s46, hs46⟩ : ∃ rr ss, (f_X3_next  s0) = (rr, ss) := ⟨_, _, rfl⟩
            replace hT := gby hT hs46
            have hp47 := f_X3_next_p  s0  hm_s0 hTK_s0 r45 s46 hs46
            obtain ⟨hfc_s46, hm_s46, hp48, hTK_s46⟩ := hp47
            have hf_s46 : fr [34, 53, 54, 55, 56, 57, 58] s0 s46 := hf_s0.call (by decide) hfc_s46
            have hRCO_s46 : RCO s46 := RCO_fr hRCO_s0 (fun k hk => hfc_s46 k (dj (by decide) k hk))
            obtain ⟨r50, s51, hs51⟩ : ∃ rr ss, (f_X3_readOr_2 (x0 + 1) s46) = (rr, ss) := ⟨_, _, rfl⟩
            replace hT := gby hT hs51
            have hp52 := f_X3_readOr_2_p (x0 + 1) s46 (by omega) hm_s46 hTK_s46 hRCO_s46 (by first | assumption | omega) r50 s51 hs51
            obtain ⟨hfc_s51, hm_s51, hp53, hTK_s51, hRCO_s51⟩ := hp52
            have hf_s51 : fr [34, 53, 54, 55, 56, 57, 58] s0 s51 := hf_s46.call (by decide) hfc_s51
            obtain ⟨r55, s56, hs56⟩ : ∃ rr ss, (f_X3_want 41 s51) = (rr, ss) := ⟨_, _, rfl⟩
            replace hT := gby hT hs56
            have hp57 := f_X3_want_p 41 s51 (by omega) hm_s51 hTK_s51 r55 s56 hs56
            obtain ⟨hfc_s56, hm_s56, hp58, hTK_s56⟩ := hp57
            have hf_s56 : fr [34, 53, 54, 55, 56, 57, 58] s0 s56 := hf_s51.call (by decide) hfc_s56
            have hRCO_s56 : RCO s56 := RCO_fr hRCO_s51 (fun k hk => hfc_s56 k (dj (by decide) k hk))
            obtain ⟨rfl, rfl⟩ := Prod.mk.inj (hT.symm.trans hres)
            exact ⟨hf_s56, hm_s56, trivial, hTK_s56, hRCO_s56⟩
        by_cases h25 : (s0 55 0) = 45
        · replace hT := hT.trans (if_pos h25)
          exact j26  trivial hT
        · replace hT := hT.trans (if_neg h25)
          have hr59 := (hm_s0 55 0).1 rfl
          by_cases h60 : (s0 55 0) = 40
          · replace hT := hT.trans (if_pos h60)
            exact j26  trivial hT
          · replace hT := hT.trans (if_neg h60)
            exact j17  trivial hT
      · replace hT := hT.trans (if_neg h16)
        exact j17  trivial hT
    · replace hT := hT.trans (if_neg h15)
      have hr61 := (hm_s0 55 0).1 rfl
      obtain ⟨r63, s64, hs64⟩ : ∃ rr ss, (f_X3_emit ((-1) - ((s0 55 0) - 262)) s0) = (rr, ss) := ⟨_, _, rfl⟩
      replace hT := gby hT hs64
      have hp65 := f_X3_emit_p ((-1) - ((s0 55 0) - 262)) s0 (by omega) hm_s0 hTK_s0 hRCO_s0 (by first | assumption | omega) r63 s64 hs64
      obtain ⟨hfc_s64, hm_s64, hp66, hTK_s64, hRCO_s64⟩ := hp65
      have hf_s64 : fr [34, 53, 54, 55, 56, 57, 58] s0 s64 := hf_s0.call (by decide) hfc_s64
      obtain ⟨r68, s69, hs69⟩ : ∃ rr ss, (f_X3_next  s64) = (rr, ss) := ⟨_, _, rfl⟩
      replace hT := gby hT hs69
      have hp70 := f_X3_next_p  s64  hm_s64 hTK_s64 r68 s69 hs69
      obtain ⟨hfc_s69, hm_s69, hp71, hTK_s69⟩ := hp70
      have hf_s69 : fr [34, 53, 54, 55, 56, 57, 58] s0 s69 := hf_s64.call (by decide) hfc_s69
      have hRCO_s69 : RCO s69 := RCO_fr hRCO_s64 (fun k hk => hfc_s69 k (dj (by decide) k hk))
      obtain ⟨rfl, rfl⟩ := Prod.mk.inj (hT.symm.trans hres)
      exact ⟨hf_s69, hm_s69, trivial, hTK_s69, hRCO_s69⟩
set_option maxRecDepth 100000 in
set_option maxHeartbeats 4000000 in
theorem c_X3_readOne_3 (l : Launch) (D : va_G) (a : Nat → Nat) (cI cJ cS cT : ClassId) (adK adV : Nat → Nat) (kA : Nat) (s0 : gMem) (x0 : Int) (hx0 : in32 x0) (hpre0 : TK s0) (hpre1 : RCO s0) (hpre2 : x0 = 2) : gCS l yX3_readOne cX3_readOne 2 none 29 1856 D vwCl (gT cI cJ cS cT) (wdX a cI cJ cS cT) lgX kV rgV [.ref (a 2), gI x0] s0 (f_X3_readOne_3 x0 s0) adK adV kA := by
  refine gCS_of (by decide +kernel) (hwdX a cI cJ cS cT) (Nat.le_of_ble_eq_true rfl) ?_
  intro A p e R s m args below meth c hR E HX
  subst hR
  have hT := f_X3_readOne_3_e x0 s0
  have hf_s0 : fr [34, 53, 54, 55, 56, 57, 58] s0 s0 := fr.rf _ _
  refine k_lv0 (lv' := [(0, .ref (a 2)), (1, gI x0)]) rfl ?_
  refine k_mr (fun hm_s0 => ?_)
  have hTK_s0 := hpre0
  have hRCO_s0 := hpre1
  refine k_aloadn (pc := 0) E 0 dX3_readOne_0 rfl rfl ?_
  obtain ⟨kt1, kt2, kt3, kt4, kt5, kt6, kt7⟩ := id hTK_s0
  refine k_getfI (pc := 1) (q0 := 2) (f := 6) (k := 55) E inX3 rfl rfl (by decide) wm_65 rfl rfl rfl dX3_readOne_1 (fun hr1 => ?_)
  refine k_iconst (pc := 4) E dX3_readOne_4 ?_
  by_cases h2 : (s0 55 0) = 2
  · replace hT := hT.trans (if_pos h2)
    refine k_icmp_ne_f (pc := 5) (tgt := 23) E (by omega) (by omega) dX3_readOne_5 (by decide) h2 ?_
    refine k_aloadn (pc := 8) E 0 dX3_readOne_8 rfl rfl ?_
    refine k_aloadn (pc := 9) E 0 dX3_readOne_9 rfl rfl ?_
    refine k_getfI (pc := 10) (q0 := 2) (f := 8) (k := 57) E inX3 rfl rfl (by decide) wm_67 rfl rfl rfl dX3_readOne_10 (fun hr3 => ?_)
    refine k_mr (fun hm_s0 => ?_)
    refine k_callV (pc := 13) (np := 1) (As := [gI (s0 57 0)]) (st := []) (q0 := 2) E (c_X3_emit l D a cI cJ cS cT s0 (s0 57 0) (by omega) hTK_s0 hRCO_s0 (by first | assumption | omega)) wm_460 wm_3 wm_457 wm_459 wp_13 (by decide +kernel) rfl rfl ⟨by decide, by decide⟩ rfl (Nat.le_of_ble_eq_true rfl) dX3_readOne_13 (fun r5 s6 hs6 hr4 => ?_)
    replace hT := gby hT hs6
    have hp7 := f_X3_emit_p (s0 57 0) s0 (by omega) hm_s0 hTK_s0 hRCO_s0 (by first | assumption | omega) r5 s6 hs6
    obtain ⟨hfc_s6, hm_s6, hp8, hTK_s6, hRCO_s6⟩ := hp7
    have hf_s6 : fr [34, 53, 54, 55, 56, 57, 58] s0 s6 := hf_s0.call (by decide) hfc_s6
    refine k_st (st' := []) rfl ?_
    refine k_aloadn (pc := 16) E 0 dX3_readOne_16 rfl rfl ?_
    refine k_mr (fun hm_s6 => ?_)
    refine k_callVX (pc := 17) (np := 0) (As := []) (st := []) (q0 := 2) E HX rfl rfl (c_X3_next l D a cI cJ cS cT adK adV kA s6  hTK_s6) wm_336 wm_3 wm_333 wm_335 wp_0 (by decide +kernel) ⟨by decide, by decide⟩ rfl (Nat.le_of_ble_eq_true rfl) dX3_readOne_17 (fun r10 s11 hs11 hr9 => ?_)
    replace hT := gby hT hs11
    have hp12 := f_X3_next_p  s6  hm_s6 hTK_s6 r10 s11 hs11
    obtain ⟨hfc_s11, hm_s11, hp13, hTK_s11⟩ := hp12
    have hf_s11 : fr [34, 53, 54, 55, 56, 57, 58] s0 s11 := hf_s6.call (by decide) hfc_s11
    have hRCO_s11 : RCO s11 := RCO_fr hRCO_s6 (fun k hk => hfc_s11 k (dj (by decide) k hk))
    refine k_st (st' := []) rfl ?_
    refine k_goto (pc := 20) (tgt := 130) E dX3_readOne_20 (by decide) ?_
    exact k_rho hT (k_vret (pc := 130) E dX3_readOne_130)
  · replace hT := hT.trans (if_neg h2)
    refine k_icmp_ne_t (pc := 5) (tgt := 23) E (by omega) (by omega) dX3_readOne_5 (by decide) h2 ?_
    refine k_aloadn (pc := 23) E 0 dX3_readOne_23 rfl rfl ?_
    refine k_getfI (pc := 24) (q0 := 2) (f := 6) (k := 55) E inX3 rfl rfl (by decide) wm_65 rfl rfl rfl dX3_readOne_24 (fun hr14 => ?_)
    refine k_sipush (pc := 27) E dX3_readOne_27 (by decide) ?_
    by_cases h15 : (s0 55 0) < 262
    · replace hT := hT.trans (if_pos h15)
      refine k_icmp_lt_t (pc := 30) (tgt := 54) E (by omega) (by omega) dX3_readOne_30 (by decide) h15 ?_
      refine k_iloadn (pc := 54) E 1 dX3_readOne_54 rfl rfl ?_
      refine k_iconst (pc := 55) E dX3_readOne_55 ?_
      obtain ⟨j17c, hj17c, hT⟩ := gjx hT
      have j17 : (True) → (f_X3_readOne_3 x0 s0) = j17c  → gK D vwCl (wdX a cI cJ cS cT) lgX A p l e { frames := 29, cells := 0, slots := 0, locals := 1856 } s m args below meth c 2 (gQQ D vwCl (wdX a cI cJ cS cT) lgX A kV rgV below args s) (f_X3_readOne_3 x0 s0) s0 77 [(0, .ref (a 2))] [] := by
        intro  hq hT
        rw [hj17c] at hT
        refine k_aloadn (pc := 77) E 0 dX3_readOne_77 rfl rfl ?_
        refine k_mr (fun hm_s0 => ?_)
        refine k_callV (pc := 78) (np := 0) (As := []) (st := []) (q0 := 2) E (c_X3_fail l D a cI cJ cS cT s0  hTK_s0) wm_428 wm_3 wm_425 wm_427 wp_5 (by decide +kernel) rfl rfl ⟨by decide, by decide⟩ rfl (Nat.le_of_ble_eq_true rfl) dX3_readOne_78 (fun r19 s20 hs20 hr18 => ?_)
        replace hT := gby hT hs20
        have hp21 := f_X3_fail_p  s0  hm_s0 hTK_s0 r19 s20 hs20
        obtain ⟨hfc_s20, hm_s20, hp22, hTK_s20, hp23⟩ := hp21
        have hf_s20 : fr [34, 53, 54, 55, 56, 57, 58] s0 s20 := hf_s0.call (by decide) hfc_s20
        have hRCO_s20 : RCO s20 := RCO_fr hRCO_s0 (fun k hk => hfc_s20 k (dj (by decide) k hk))
        refine k_st (st' := []) rfl ?_
        refine k_goto (pc := 81) (tgt := 130) E dX3_readOne_81 (by decide) ?_
        exact k_rho hT (k_vret (pc := 130) E dX3_readOne_130)
      by_cases h16 : x0 < 5
      · replace hT := hT.trans (if_pos h16)
        refine k_icmp_ge_f (pc := 56) (tgt := 77) E (by omega) (by omega) dX3_readOne_56 (by decide) h16 ?_
        refine k_aloadn (pc := 59) E 0 dX3_readOne_59 rfl rfl ?_
        refine k_getfI (pc := 60) (q0 := 2) (f := 6) (k := 55) E inX3 rfl rfl (by decide) wm_65 rfl rfl rfl dX3_readOne_60 (fun hr24 => ?_)
        refine k_bipush (pc := 63) E dX3_readOne_63 (by decide) ?_
        obtain ⟨j26c, hj26c, hT⟩ := gjx hT
        have j26 : (True) → (f_X3_readOne_3 x0 s0) = j26c  → gK D vwCl (wdX a cI cJ cS cT) lgX A p l e { frames := 29, cells := 0, slots := 0, locals := 1856 } s m args below meth c 2 (gQQ D vwCl (wdX a cI cJ cS cT) lgX A kV rgV below args s) (f_X3_readOne_3 x0 s0) s0 84 [(0, .ref (a 2)), (1, gI x0)] [] := by
          intro  hq hT
          rw [hj26c] at hT
          refine k_aloadn (pc := 84) E 0 dX3_readOne_84 rfl rfl ?_
          refine k_getfI (pc := 85) (q0 := 2) (f := 6) (k := 55) E inX3 rfl rfl (by decide) wm_65 rfl rfl rfl dX3_readOne_85 (fun hr27 => ?_)
          refine k_bipush (pc := 88) E dX3_readOne_88 (by decide) ?_
          by_cases h28 : (s0 55 0) = 45
          · replace hT := hT.trans (if_pos h28)
            refine k_icmp_ne_f (pc := 90) (tgt := 113) E (by omega) (by omega) dX3_readOne_90 (by decide) h28 ?_
            refine k_aloadn (pc := 93) E 0 dX3_readOne_93 rfl rfl ?_
            refine k_mr (fun hm_s0 => ?_)
            refine k_callVX (pc := 94) (np := 0) (As := []) (st := []) (q0 := 2) E HX rfl rfl (c_X3_next l D a cI cJ cS cT adK adV kA s0  hTK_s0) wm_336 wm_3 wm_333 wm_335 wp_0 (by decide +kernel) ⟨by decide, by decide⟩ rfl (Nat.le_of_ble_eq_true rfl) dX3_readOne_94 (fun r30 s31 hs31 hr29 => ?_)
            replace hT := gby hT hs31
            have hp32 := f_X3_next_p  s0  hm_s0 hTK_s0 r30 s31 hs31
            obtain ⟨hfc_s31, hm_s31, hp33, hTK_s31⟩ := hp32
            have hf_s31 : fr [34, 53, 54, 55, 56, 57, 58] s0 s31 := hf_s0.call (by decide) hfc_s31
            have hRCO_s31 : RCO s31 := RCO_fr hRCO_s0 (fun k hk => hfc_s31 k (dj (by decide) k hk))
            refine k_st (st' := []) rfl ?_
            refine k_aloadn (pc := 97) E 0 dX3_readOne_97 rfl rfl ?_
            refine k_iloadn (pc := 98) E 1 dX3_readOne_98 rfl rfl ?_
            refine k_iconst (pc := 99) E dX3_readOne_99 ?_
            refine k_iadd (pc := 100) E dX3_readOne_100 ?_
            refine k_mr (fun hm_s31 => ?_)
            refine k_callVX (pc := 101) (np := 1) (As := [gI (x0 + 1)]) (st := []) (q0 := 2) E HX rfl rfl (c_X3_readOne_2 l D a cI cJ cS cT adK adV kA s31 (x0 + 1) (by omega) hTK_s31 hRCO_s31 (by first | assumption | omega)) wm_456 wm_3 wm_453 wm_455 wp_12 (by decide +kernel) ⟨by decide, by decide⟩ rfl (Nat.le_of_ble_eq_true rfl) dX3_readOne_101 (fun r35 s36 hs36 hr34 => ?_)
            replace hT := gby hT hs36
            have hp37 := f_X3_readOne_2_p (x0 + 1) s31 (by omega) hm_s31 hTK_s31 hRCO_s31 (by first | assumption | omega) r35 s36 hs36
            obtain ⟨hfc_s36, hm_s36, hp38, hTK_s36, hRCO_s36⟩ := hp37
            have hf_s36 : fr [34, 53, 54, 55, 56, 57, 58] s0 s36 := hf_s31.call (by decide) hfc_s36
            refine k_st (st' := []) rfl ?_
            refine k_aloadn (pc := 104) E 0 dX3_readOne_104 rfl rfl ?_
            refine k_bipush (pc := 105) E dX3_readOne_105 (by decide) ?_
            refine k_mr (fun hm_s36 => ?_)
            refine k_callV (pc := 107) (np := 1) (As := [gI (-15)]) (st := []) (q0 := 2) E (c_X3_emit l D a cI cJ cS cT s36 (-15) (by omega) hTK_s36 hRCO_s36 (by first | assumption | omega)) wm_460 wm_3 wm_457 wm_459 wp_13 (by decide +kernel) rfl rfl ⟨by decide, by decide⟩ rfl (Nat.le_of_ble_eq_true rfl) dX3_readOne_107 (fun r40 s41 hs41 hr39 => ?_)
            replace hT := gby hT hs41
            have hp42 := f_X3_emit_p (-15) s36 (by omega) hm_s36 hTK_s36 hRCO_s36 (by first | assumption | omega) r40 s41 hs41
            obtain ⟨hfc_s41, hm_s41, hp43, hTK_s41, hRCO_s41⟩ := hp42
            have hf_s41 : fr [34, 53, 54, 55, 56, 57, 58] s0 s41 := hf_s36.call (by decide) hfc_s41
            refine k_st (st' := []) rfl ?_
            refine k_goto (pc := 110) (tgt := 130) E dX3_readOne_110 (by decide) ?_
            exact k_rho hT (k_vret (pc := 130) E dX3_readOne_130)
          · replace hT := hT.trans (if_neg h28)
            refine k_icmp_ne_t (pc := 90) (tgt := 113) E (by omega) (by omega) dX3_readOne_90 (by decide) h28 ?_
            refine k_aloadn (pc := 113) E 0 dX3_readOne_113 rfl rfl ?_
            refine k_mr (fun hm_s0 => ?_)
            refine k_callVX (pc := 114) (np := 0) (As := []) (st := []) (q0 := 2) E HX rfl rfl (c_X3_next l D a cI cJ cS cT adK adV kA s0  hTK_s0) wm_336 wm_3 wm_333 wm_335 wp_0 (by decide +kernel) ⟨by decide, by decide⟩ rfl (Nat.le_of_ble_eq_true rfl) dX3_readOne_114 (fun r45 s46 hs46 hr44 => ?_)
            replace hT := gby hT hs46
            have hp47 := f_X3_next_p  s0  hm_s0 hTK_s0 r45 s46 hs46
            obtain ⟨hfc_s46, hm_s46, hp48, hTK_s46⟩ := hp47
            have hf_s46 : fr [34, 53, 54, 55, 56, 57, 58] s0 s46 := hf_s0.call (by decide) hfc_s46
            have hRCO_s46 : RCO s46 := RCO_fr hRCO_s0 (fun k hk => hfc_s46 k (dj (by decide) k hk))
            refine k_st (st' := []) rfl ?_
            refine k_aloadn (pc := 117) E 0 dX3_readOne_117 rfl rfl ?_
            refine k_iloadn (pc := 118) E 1 dX3_readOne_118 rfl rfl ?_
            refine k_iconst (pc := 119) E dX3_readOne_119 ?_
            refine k_iadd (pc := 120) E dX3_readOne_120 ?_
            refine k_mr (fun hm_s46 => ?_)
            refine k_callVX (pc := 121) (np := 1) (As := [gI (x0 + 1)]) (st := []) (q0 := 2) E HX rfl rfl (c_X3_readOr_2 l D a cI cJ cS cT adK adV kA s46 (x0 + 1) (by omega) hTK_s46 hRCO_s46 (by first | assumption | omega)) wm_432 wm_3 wm_429 wm_431 wp_6 (by decide +kernel) ⟨by decide, by decide⟩ rfl (Nat.le_of_ble_eq_true rfl) dX3_readOne_121 (fun r50 s51 hs51 hr49 => ?_)
            replace hT := gby hT hs51
            have hp52 := f_X3_readOr_2_p (x0 + 1) s46 (by omega) hm_s46 hTK_s46 hRCO_s46 (by first | assumption | omega) r50 s51 hs51
            obtain ⟨hfc_s51, hm_s51, hp53, hTK_s51, hRCO_s51⟩ := hp52
            have hf_s51 : fr [34, 53, 54, 55, 56, 57, 58] s0 s51 := hf_s46.call (by decide) hfc_s51
            refine k_st (st' := []) rfl ?_
            refine k_aloadn (pc := 124) E 0 dX3_readOne_124 rfl rfl ?_
            refine k_bipush (pc := 125) E dX3_readOne_125 (by decide) ?_
            refine k_mr (fun hm_s51 => ?_)
            refine k_callVX (pc := 127) (np := 1) (As := [gI 41]) (st := []) (q0 := 2) E HX rfl rfl (c_X3_want l D a cI cJ cS cT adK adV kA s51 41 (by omega) hTK_s51) wm_424 wm_3 wm_421 wm_423 wp_4 (by decide +kernel) ⟨by decide, by decide⟩ rfl (Nat.le_of_ble_eq_true rfl) dX3_readOne_127 (fun r55 s56 hs56 hr54 => ?_)
            replace hT := gby hT hs56
            have hp57 := f_X3_want_p 41 s51 (by omega) hm_s51 hTK_s51 r55 s56 hs56
            obtain ⟨hfc_s56, hm_s56, hp58, hTK_s56⟩ := hp57
            have hf_s56 : fr [34, 53, 54, 55, 56, 57, 58] s0 s56 := hf_s51.call (by decide) hfc_s56
            have hRCO_s56 : RCO s56 := RCO_fr hRCO_s51 (fun k hk => hfc_s56 k (dj (by decide) k hk))
            refine k_st (st' := []) rfl ?_
            exact k_rho hT (k_vret (pc := 130) E dX3_readOne_130)
        by_cases h25 : (s0 55 0) = 45
        · replace hT := hT.trans (if_pos h25)
          refine k_icmp_eq_t (pc := 65) (tgt := 84) E (by omega) (by omega) dX3_readOne_65 (by decide) h25 ?_
          exact j26  trivial hT
        · replace hT := hT.trans (if_neg h25)
          refine k_icmp_eq_f (pc := 65) (tgt := 84) E (by omega) (by omega) dX3_readOne_65 (by decide) h25 ?_
          refine k_aloadn (pc := 68) E 0 dX3_readOne_68 rfl rfl ?_
          refine k_getfI (pc := 69) (q0 := 2) (f := 6) (k := 55) E inX3 rfl rfl (by decide) wm_65 rfl rfl rfl dX3_readOne_69 (fun hr59 => ?_)
          refine k_bipush (pc := 72) E dX3_readOne_72 (by decide) ?_
          by_cases h60 : (s0 55 0) = 40
          · replace hT := hT.trans (if_pos h60)
            refine k_icmp_eq_t (pc := 74) (tgt := 84) E (by omega) (by omega) dX3_readOne_74 (by decide) h60 ?_
            exact j26  trivial hT
          · replace hT := hT.trans (if_neg h60)
            refine k_icmp_eq_f (pc := 74) (tgt := 84) E (by omega) (by omega) dX3_readOne_74 (by decide) h60 ?_
            refine k_lv (lv' := [(0, .ref (a 2))]) [0] rfl ?_
            exact j17  trivial hT
      · replace hT := hT.trans (if_neg h16)
        refine k_icmp_ge_t (pc := 56) (tgt := 77) E (by omega) (by omega) dX3_readOne_56 (by decide) h16 ?_
        refine k_lv (lv' := [(0, .ref (a 2))]) [0] rfl ?_
        exact j17  trivial hT
    · replace hT := hT.trans (if_neg h15)
      refine k_icmp_lt_f (pc := 30) (tgt := 54) E (by omega) (by omega) dX3_readOne_30 (by decide) h15 ?_
      refine k_aloadn (pc := 33) E 0 dX3_readOne_33 rfl rfl ?_
      refine k_iconst (pc := 34) E dX3_readOne_34 ?_
      refine k_aloadn (pc := 35) E 0 dX3_readOne_35 rfl rfl ?_
      refine k_getfI (pc := 36) (q0 := 2) (f := 6) (k := 55) E inX3 rfl rfl (by decide) wm_65 rfl rfl rfl dX3_readOne_36 (fun hr61 => ?_)
      refine k_sipush (pc := 39) E dX3_readOne_39 (by decide) ?_
      refine k_isub (pc := 42) E dX3_readOne_42 ?_
      refine k_isub (pc := 43) E dX3_readOne_43 ?_
      refine k_mr (fun hm_s0 => ?_)
      refine k_callV (pc := 44) (np := 1) (As := [gI ((-1) - ((s0 55 0) - 262))]) (st := []) (q0 := 2) E (c_X3_emit l D a cI cJ cS cT s0 ((-1) - ((s0 55 0) - 262)) (by omega) hTK_s0 hRCO_s0 (by first | assumption | omega)) wm_460 wm_3 wm_457 wm_459 wp_13 (by decide +kernel) rfl rfl ⟨by decide, by decide⟩ rfl (Nat.le_of_ble_eq_true rfl) dX3_readOne_44 (fun r63 s64 hs64 hr62 => ?_)
      replace hT := gby hT hs64
      have hp65 := f_X3_emit_p ((-1) - ((s0 55 0) - 262)) s0 (by omega) hm_s0 hTK_s0 hRCO_s0 (by first | assumption | omega) r63 s64 hs64
      obtain ⟨hfc_s64, hm_s64, hp66, hTK_s64, hRCO_s64⟩ := hp65
      have hf_s64 : fr [34, 53, 54, 55, 56, 57, 58] s0 s64 := hf_s0.call (by decide) hfc_s64
      refine k_st (st' := []) rfl ?_
      refine k_aloadn (pc := 47) E 0 dX3_readOne_47 rfl rfl ?_
      refine k_mr (fun hm_s64 => ?_)
      refine k_callVX (pc := 48) (np := 0) (As := []) (st := []) (q0 := 2) E HX rfl rfl (c_X3_next l D a cI cJ cS cT adK adV kA s64  hTK_s64) wm_336 wm_3 wm_333 wm_335 wp_0 (by decide +kernel) ⟨by decide, by decide⟩ rfl (Nat.le_of_ble_eq_true rfl) dX3_readOne_48 (fun r68 s69 hs69 hr67 => ?_)
      replace hT := gby hT hs69
      have hp70 := f_X3_next_p  s64  hm_s64 hTK_s64 r68 s69 hs69
      obtain ⟨hfc_s69, hm_s69, hp71, hTK_s69⟩ := hp70
      have hf_s69 : fr [34, 53, 54, 55, 56, 57, 58] s0 s69 := hf_s64.call (by decide) hfc_s69
      have hRCO_s69 : RCO s69 := RCO_fr hRCO_s64 (fun k hk => hfc_s69 k (dj (by decide) k hk))
      refine k_st (st' := []) rfl ?_
      refine k_goto (pc := 51) (tgt := 130) E dX3_readOne_51 (by decide) ?_
      exact k_rho hT (k_vret (pc := 130) E dX3_readOne_130)

def w_X3_readTerm_3_7 (c1 : Int) : Nat → Int → gMem → Int × gMem
  | 0, v6, s7 => (v6, s7)
  | n8 + 1, v6, s7 => (if v6 < 160 then (if (s7 55 0) = 42 then gb (f_X3_next  s7) (fun r13 s14 => gb (f_X3_readOne_3 c1 s14) (fun r18 s19 => gb (f_X3_emit (-13) s19) (fun r23 s24 => (w_X3_readTerm_3_7 c1 n8 (v6 + 1) s24)))) else (v6, s7)) else (v6, s7))
theorem w_X3_readTerm_3_7_s (c1 : Int) (n8 : Nat) (v6 : Int) (s7 : gMem) : w_X3_readTerm_3_7 c1 (n8 + 1) v6 s7 = (if v6 < 160 then (if (s7 55 0) = 42 then gb (f_X3_next  s7) (fun r13 s14 => gb (f_X3_readOne_3 c1 s14) (fun r18 s19 => gb (f_X3_emit (-13) s19) (fun r23 s24 => (w_X3_readTerm_3_7 c1 n8 (v6 + 1) s24)))) else (v6, s7)) else (v6, s7)) := rfl
def f_X3_readTerm_3 (x0 : Int) (s0 : gMem) : gRes := gb (f_X3_readOne_3 x0 s0) (fun r2 s3 => (gl2 (w_X3_readTerm_3_7 x0 161 0 s3) (fun v55 s56 => (0, s56))))
theorem f_X3_readTerm_3_e (x0 : Int) (s0 : gMem) : f_X3_readTerm_3 x0 s0 = gb (f_X3_readOne_3 x0 s0) (fun r2 s3 => (gl2 (w_X3_readTerm_3_7 x0 161 0 s3) (fun v55 s56 => (0, s56)))) := rfl
set_option maxRecDepth 100000 in
set_option maxHeartbeats 4000000 in
theorem f_X3_readTerm_3_p (x0 : Int) (s0 : gMem) (hx0 : in32 x0) (hm_s0 : gMR lgX s0) (hpre0 : TK s0) (hpre1 : RCO s0) (hpre2 : x0 = 2) (rZ : Int) (sZ : gMem) (hres : f_X3_readTerm_3 x0 s0 = (rZ, sZ)) : (fr [34, 53, 54, 55, 56, 57, 58] s0 sZ) ∧ (gMR lgX sZ) ∧ (True) ∧ (TK sZ) ∧ (RCO sZ) := by
  have hT := f_X3_readTerm_3_e x0 s0
  have hf_s0 : fr [34, 53, 54, 55, 56, 57, 58] s0 s0 := fr.rf _ _
  have hTK_s0 := hpre0
  have hRCO_s0 := hpre1
  obtain ⟨r2, s3, hs3⟩ : ∃ rr ss, (f_X3_readOne_3 x0 s0) = (rr, ss) := ⟨_, _, rfl⟩
  replace hT := gby hT hs3
  have hp4 := f_X3_readOne_3_p x0 s0 (by omega) hm_s0 hTK_s0 hRCO_s0 (by first | assumption | omega) r2 s3 hs3
  obtain ⟨hfc_s3, hm_s3, hp5, hTK_s3, hRCO_s3⟩ := hp4
  have hf_s3 : fr [34, 53, 54, 55, 56, 57, 58] s0 s3 := hf_s0.call (by decide) hfc_s3
  have L29 : ∀ (n30 : Nat) (v27 : Int) (s28 : gMem), ((in32 v27) ∧ (fr [34, 53, 54, 55, 56, 57, 58] s0 s28) ∧ (gMR lgX s28) ∧ (TK s28) ∧ (RCO s28) ∧ (0 ≤ v27 ∧ v27 ≤ 160)) → 160 - v27 < (n30 : Int) → (∀ (w31 : Int) (s32 : gMem), (w_X3_readTerm_3_7 x0 n30 v27 s28) = (w31, s32) → ((in32 w31) ∧ (fr [34, 53, 54, 55, 56, 57, 58] s0 s32) ∧ (gMR lgX s32) ∧ (TK s32) ∧ (RCO s32) ∧ (0 ≤ w31 ∧ w31 ≤ 160)) → (fr [34, 53, 54, 55, 56, 57, 58] s0 sZ) ∧ (gMR lgX sZ) ∧ (True) ∧ (TK sZ) ∧ (RCO sZ)) → (fr [34, 53, 54, 55, 56, 57, 58] s0 sZ) ∧ (gMR lgX sZ) ∧ (True) ∧ (TK sZ) ∧ (RCO sZ) := by
    intro n30; induction n30 with
    | zero =>
      intro v27 s28 hq hm hk
      exfalso
      obtain ⟨hq51, hf_s28, hm_s28, hTK_s28, hRCO_s28, hq52⟩ := hq
      omega
    | succ n30 ih =>
      intro v27 s28 hq hm hk
      obtain ⟨hq53, hf_s28, hm_s28, hTK_s28, hRCO_s28, hq54⟩ := hq
      have hT := w_X3_readTerm_3_7_s x0 n30 v27 s28
      by_cases h33 : v27 < 160
      · replace hT := hT.trans (if_pos h33)
        have hr34 := (hm_s28 55 0).1 rfl
        by_cases h35 : (s28 55 0) = 42
        · replace hT := hT.trans (if_pos h35)
          obtain ⟨r37, s38, hs38⟩ : ∃ rr ss, (f_X3_next  s28) = (rr, ss) := ⟨_, _, rfl⟩
          replace hT := gby hT hs38
          have hp39 := f_X3_next_p  s28  hm_s28 hTK_s28 r37 s38 hs38
          obtain ⟨hfc_s38, hm_s38, hp40, hTK_s38⟩ := hp39
          have hf_s38 : fr [34, 53, 54, 55, 56, 57, 58] s0 s38 := hf_s28.call (by decide) hfc_s38
          have hRCO_s38 : RCO s38 := RCO_fr hRCO_s28 (fun k hk => hfc_s38 k (dj (by decide) k hk))
          obtain ⟨r42, s43, hs43⟩ : ∃ rr ss, (f_X3_readOne_3 x0 s38) = (rr, ss) := ⟨_, _, rfl⟩
          replace hT := gby hT hs43
          have hp44 := f_X3_readOne_3_p x0 s38 (by omega) hm_s38 hTK_s38 hRCO_s38 (by first | assumption | omega) r42 s43 hs43
          obtain ⟨hfc_s43, hm_s43, hp45, hTK_s43, hRCO_s43⟩ := hp44
          have hf_s43 : fr [34, 53, 54, 55, 56, 57, 58] s0 s43 := hf_s38.call (by decide) hfc_s43
          obtain ⟨r47, s48, hs48⟩ : ∃ rr ss, (f_X3_emit (-13) s43) = (rr, ss) := ⟨_, _, rfl⟩
          replace hT := gby hT hs48
          have hp49 := f_X3_emit_p (-13) s43 (by omega) hm_s43 hTK_s43 hRCO_s43 (by first | assumption | omega) r47 s48 hs48
          obtain ⟨hfc_s48, hm_s48, hp50, hTK_s48, hRCO_s48⟩ := hp49
          have hf_s48 : fr [34, 53, 54, 55, 56, 57, 58] s0 s48 := hf_s43.call (by decide) hfc_s48
          exact ih (v27 + 1) s48 ⟨(by omega), hf_s48, hm_s48, hTK_s48, hRCO_s48, (by first | assumption | omega)⟩ (by omega) (fun w31 s32 hw hi => hk w31 s32 (hT.trans hw) hi)
        · replace hT := hT.trans (if_neg h35)
          exact hk v27 s28 hT ⟨(by omega), hf_s28, hm_s28, hTK_s28, hRCO_s28, (by first | assumption | omega)⟩
      · replace hT := hT.trans (if_neg h33)
        exact hk v27 s28 hT ⟨(by omega), hf_s28, hm_s28, hTK_s28, hRCO_s28, (by first | assumption | omega)⟩
  refine L29 161 0 s3 ⟨(by omega), hf_s3, hm_s3, hTK_s3, hRCO_s3, (by first | assumption | omega)⟩ (by omega) (fun v55 s56 hw hq => ?_)
  obtain ⟨hq57, hf_s56, hm_s56, hTK_s56, hRCO_s56, hq58⟩ := hq
  replace hT := gl2y hT hw
  obtain ⟨rfl, rfl⟩ := Prod.mk.inj (hT.symm.trans hres)
  exact ⟨hf_s56, hm_s56, trivial, hTK_s56, hRCO_s56⟩
set_option maxRecDepth 100000 in
set_option maxHeartbeats 4000000 in
theorem c_X3_readTerm_3 (l : Launch) (D : va_G) (a : Nat → Nat) (cI cJ cS cT : ClassId) (adK adV : Nat → Nat) (kA : Nat) (s0 : gMem) (x0 : Int) (hx0 : in32 x0) (hpre0 : TK s0) (hpre1 : RCO s0) (hpre2 : x0 = 2) : gCS l yX3_readTerm cX3_readTerm 3 none 30 1920 D vwCl (gT cI cJ cS cT) (wdX a cI cJ cS cT) lgX kV rgV [.ref (a 2), gI x0] s0 (f_X3_readTerm_3 x0 s0) adK adV kA := by
  refine gCS_of (by decide +kernel) (hwdX a cI cJ cS cT) (Nat.le_of_ble_eq_true rfl) ?_
  intro A p e R s m args below meth c hR E HX
  subst hR
  have hT := f_X3_readTerm_3_e x0 s0
  have hf_s0 : fr [34, 53, 54, 55, 56, 57, 58] s0 s0 := fr.rf _ _
  refine k_lv0 (lv' := [(0, .ref (a 2)), (1, gI x0)]) rfl ?_
  refine k_mr (fun hm_s0 => ?_)
  have hTK_s0 := hpre0
  have hRCO_s0 := hpre1
  refine k_aloadn (pc := 0) E 0 dX3_readTerm_0 rfl rfl ?_
  refine k_iloadn (pc := 1) E 1 dX3_readTerm_1 rfl rfl ?_
  refine k_mr (fun hm_s0 => ?_)
  refine k_callVX (pc := 2) (np := 1) (As := [gI x0]) (st := []) (q0 := 2) E HX rfl rfl (c_X3_readOne_3 l D a cI cJ cS cT adK adV kA s0 x0 (by omega) hTK_s0 hRCO_s0 (by first | assumption | omega)) wm_456 wm_3 wm_453 wm_455 wp_12 (by decide +kernel) ⟨by decide, by decide⟩ rfl (Nat.le_of_ble_eq_true rfl) dX3_readTerm_2 (fun r2 s3 hs3 hr1 => ?_)
  replace hT := gby hT hs3
  have hp4 := f_X3_readOne_3_p x0 s0 (by omega) hm_s0 hTK_s0 hRCO_s0 (by first | assumption | omega) r2 s3 hs3
  obtain ⟨hfc_s3, hm_s3, hp5, hTK_s3, hRCO_s3⟩ := hp4
  have hf_s3 : fr [34, 53, 54, 55, 56, 57, 58] s0 s3 := hf_s0.call (by decide) hfc_s3
  refine k_st (st' := []) rfl ?_
  refine k_iconst (pc := 5) E dX3_readTerm_5 ?_
  refine k_istoren (pc := 6) (lv' := [(2, gI 0), (0, .ref (a 2)), (1, gI x0)]) E dX3_readTerm_6 rfl (by decide) rfl ?_
  have L29 : ∀ (n30 : Nat) (v27 : Int) (s28 : gMem), ((in32 v27) ∧ (fr [34, 53, 54, 55, 56, 57, 58] s0 s28) ∧ (TK s28) ∧ (RCO s28) ∧ (0 ≤ v27 ∧ v27 ≤ 160)) → 160 - v27 < (n30 : Int) → (∀ (w31 : Int) (s32 : gMem), (w_X3_readTerm_3_7 x0 n30 v27 s28) = (w31, s32) → ((in32 w31) ∧ (fr [34, 53, 54, 55, 56, 57, 58] s0 s32) ∧ (TK s32) ∧ (RCO s32) ∧ (0 ≤ w31 ∧ w31 ≤ 160)) → gK D vwCl (wdX a cI cJ cS cT) lgX A p l e { frames := 30, cells := 0, slots := 0, locals := 1920 } s m args below meth c 3 (gQQ D vwCl (wdX a cI cJ cS cT) lgX A kV rgV below args s) (f_X3_readTerm_3 x0 s0) s32 44 [] []) → gK D vwCl (wdX a cI cJ cS cT) lgX A p l e { frames := 30, cells := 0, slots := 0, locals := 1920 } s m args below meth c 3 (gQQ D vwCl (wdX a cI cJ cS cT) lgX A kV rgV below args s) (f_X3_readTerm_3 x0 s0) s28 7 [(0, .ref (a 2)), (1, gI x0), (2, gI v27)] [] := by
    intro n30; induction n30 with
    | zero =>
      intro v27 s28 hq hm hk
      exfalso
      obtain ⟨hq51, hf_s28, hTK_s28, hRCO_s28, hq52⟩ := hq
      omega
    | succ n30 ih =>
      intro v27 s28 hq hm hk
      obtain ⟨hq53, hf_s28, hTK_s28, hRCO_s28, hq54⟩ := hq
      have hT := w_X3_readTerm_3_7_s x0 n30 v27 s28
      refine k_iloadn (pc := 7) E 2 dX3_readTerm_7 rfl rfl ?_
      refine k_sipush (pc := 8) E dX3_readTerm_8 (by decide) ?_
      by_cases h33 : v27 < 160
      · replace hT := hT.trans (if_pos h33)
        refine k_icmp_ge_f (pc := 11) (tgt := 44) E (by omega) (by omega) dX3_readTerm_11 (by decide) h33 ?_
        refine k_aloadn (pc := 14) E 0 dX3_readTerm_14 rfl rfl ?_
        refine k_getfI (pc := 15) (q0 := 2) (f := 6) (k := 55) E inX3 rfl rfl (by decide) wm_65 rfl rfl rfl dX3_readTerm_15 (fun hr34 => ?_)
        refine k_bipush (pc := 18) E dX3_readTerm_18 (by decide) ?_
        by_cases h35 : (s28 55 0) = 42
        · replace hT := hT.trans (if_pos h35)
          refine k_icmp_ne_f (pc := 20) (tgt := 44) E (by omega) (by omega) dX3_readTerm_20 (by decide) h35 ?_
          refine k_aloadn (pc := 23) E 0 dX3_readTerm_23 rfl rfl ?_
          refine k_mr (fun hm_s28 => ?_)
          refine k_callVX (pc := 24) (np := 0) (As := []) (st := []) (q0 := 2) E HX rfl rfl (c_X3_next l D a cI cJ cS cT adK adV kA s28  hTK_s28) wm_336 wm_3 wm_333 wm_335 wp_0 (by decide +kernel) ⟨by decide, by decide⟩ rfl (Nat.le_of_ble_eq_true rfl) dX3_readTerm_24 (fun r37 s38 hs38 hr36 => ?_)
          replace hT := gby hT hs38
          have hp39 := f_X3_next_p  s28  hm_s28 hTK_s28 r37 s38 hs38
          obtain ⟨hfc_s38, hm_s38, hp40, hTK_s38⟩ := hp39
          have hf_s38 : fr [34, 53, 54, 55, 56, 57, 58] s0 s38 := hf_s28.call (by decide) hfc_s38
          have hRCO_s38 : RCO s38 := RCO_fr hRCO_s28 (fun k hk => hfc_s38 k (dj (by decide) k hk))
          refine k_st (st' := []) rfl ?_
          refine k_aloadn (pc := 27) E 0 dX3_readTerm_27 rfl rfl ?_
          refine k_iloadn (pc := 28) E 1 dX3_readTerm_28 rfl rfl ?_
          refine k_mr (fun hm_s38 => ?_)
          refine k_callVX (pc := 29) (np := 1) (As := [gI x0]) (st := []) (q0 := 2) E HX rfl rfl (c_X3_readOne_3 l D a cI cJ cS cT adK adV kA s38 x0 (by omega) hTK_s38 hRCO_s38 (by first | assumption | omega)) wm_456 wm_3 wm_453 wm_455 wp_12 (by decide +kernel) ⟨by decide, by decide⟩ rfl (Nat.le_of_ble_eq_true rfl) dX3_readTerm_29 (fun r42 s43 hs43 hr41 => ?_)
          replace hT := gby hT hs43
          have hp44 := f_X3_readOne_3_p x0 s38 (by omega) hm_s38 hTK_s38 hRCO_s38 (by first | assumption | omega) r42 s43 hs43
          obtain ⟨hfc_s43, hm_s43, hp45, hTK_s43, hRCO_s43⟩ := hp44
          have hf_s43 : fr [34, 53, 54, 55, 56, 57, 58] s0 s43 := hf_s38.call (by decide) hfc_s43
          refine k_st (st' := []) rfl ?_
          refine k_aloadn (pc := 32) E 0 dX3_readTerm_32 rfl rfl ?_
          refine k_bipush (pc := 33) E dX3_readTerm_33 (by decide) ?_
          refine k_mr (fun hm_s43 => ?_)
          refine k_callV (pc := 35) (np := 1) (As := [gI (-13)]) (st := []) (q0 := 2) E (c_X3_emit l D a cI cJ cS cT s43 (-13) (by omega) hTK_s43 hRCO_s43 (by first | assumption | omega)) wm_460 wm_3 wm_457 wm_459 wp_13 (by decide +kernel) rfl rfl ⟨by decide, by decide⟩ rfl (Nat.le_of_ble_eq_true rfl) dX3_readTerm_35 (fun r47 s48 hs48 hr46 => ?_)
          replace hT := gby hT hs48
          have hp49 := f_X3_emit_p (-13) s43 (by omega) hm_s43 hTK_s43 hRCO_s43 (by first | assumption | omega) r47 s48 hs48
          obtain ⟨hfc_s48, hm_s48, hp50, hTK_s48, hRCO_s48⟩ := hp49
          have hf_s48 : fr [34, 53, 54, 55, 56, 57, 58] s0 s48 := hf_s43.call (by decide) hfc_s48
          refine k_st (st' := []) rfl ?_
          refine k_iinc (pc := 38) (lv' := [(2, gI (v27 + 1)), (0, .ref (a 2)), (1, gI x0)]) E 2 dX3_readTerm_38 rfl (by decide) rfl ?_
          refine k_goto (pc := 41) (tgt := 7) E dX3_readTerm_41 (by decide) ?_
          refine k_lv (lv' := [(0, .ref (a 2)), (1, gI x0), (2, gI (v27 + 1))]) [1, 2, 0] rfl ?_
          exact ih (v27 + 1) s48 ⟨(by omega), hf_s48, hTK_s48, hRCO_s48, (by first | assumption | omega)⟩ (by omega) (fun w31 s32 hw hi => hk w31 s32 (hT.trans hw) hi)
        · replace hT := hT.trans (if_neg h35)
          refine k_icmp_ne_t (pc := 20) (tgt := 44) E (by omega) (by omega) dX3_readTerm_20 (by decide) h35 ?_
          refine k_lv (lv' := []) [] rfl ?_
          exact hk v27 s28 hT ⟨(by omega), hf_s28, hTK_s28, hRCO_s28, (by first | assumption | omega)⟩
      · replace hT := hT.trans (if_neg h33)
        refine k_icmp_ge_t (pc := 11) (tgt := 44) E (by omega) (by omega) dX3_readTerm_11 (by decide) h33 ?_
        refine k_lv (lv' := []) [] rfl ?_
        exact hk v27 s28 hT ⟨(by omega), hf_s28, hTK_s28, hRCO_s28, (by first | assumption | omega)⟩
  refine k_lv (lv' := [(0, .ref (a 2)), (1, gI x0), (2, gI 0)]) [1, 2, 0] rfl ?_
  refine L29 161 0 s3 ⟨(by omega), hf_s3, hTK_s3, hRCO_s3, (by first | assumption | omega)⟩ (by omega) (fun v55 s56 hw hq => ?_)
  obtain ⟨hq57, hf_s56, hTK_s56, hRCO_s56, hq58⟩ := hq
  replace hT := gl2y hT hw
  exact k_rho hT (k_vret (pc := 44) E dX3_readTerm_44)

def w_X3_readSum_3_7 (c1 : Int) : Nat → Int → gMem → Int × gMem
  | 0, v6, s7 => (v6, s7)
  | n8 + 1, v6, s7 => (if v6 < 160 then (gj (fun j12c => (if (s7 55 0) = 43 then j12c else (if (s7 55 0) = 45 then j12c else (v6, s7)))) ((gl ((if (s7 55 0) = 43 then (-11) else (-12))) (fun v16 => gb (f_X3_next  s7) (fun r18 s19 => gb (f_X3_readTerm_3 c1 s19) (fun r23 s24 => gb (f_X3_emit v16 s24) (fun r28 s29 => (w_X3_readSum_3_7 c1 n8 (v6 + 1) s29)))))))) else (v6, s7))
theorem w_X3_readSum_3_7_s (c1 : Int) (n8 : Nat) (v6 : Int) (s7 : gMem) : w_X3_readSum_3_7 c1 (n8 + 1) v6 s7 = (if v6 < 160 then (gj (fun j12c => (if (s7 55 0) = 43 then j12c else (if (s7 55 0) = 45 then j12c else (v6, s7)))) ((gl ((if (s7 55 0) = 43 then (-11) else (-12))) (fun v16 => gb (f_X3_next  s7) (fun r18 s19 => gb (f_X3_readTerm_3 c1 s19) (fun r23 s24 => gb (f_X3_emit v16 s24) (fun r28 s29 => (w_X3_readSum_3_7 c1 n8 (v6 + 1) s29)))))))) else (v6, s7)) := rfl
def f_X3_readSum_3 (x0 : Int) (s0 : gMem) : gRes := gb (f_X3_readTerm_3 x0 s0) (fun r2 s3 => (gl2 (w_X3_readSum_3_7 x0 161 0 s3) (fun v75 s76 => (0, s76))))
theorem f_X3_readSum_3_e (x0 : Int) (s0 : gMem) : f_X3_readSum_3 x0 s0 = gb (f_X3_readTerm_3 x0 s0) (fun r2 s3 => (gl2 (w_X3_readSum_3_7 x0 161 0 s3) (fun v75 s76 => (0, s76)))) := rfl
set_option maxRecDepth 100000 in
set_option maxHeartbeats 4000000 in
theorem f_X3_readSum_3_p (x0 : Int) (s0 : gMem) (hx0 : in32 x0) (hm_s0 : gMR lgX s0) (hpre0 : TK s0) (hpre1 : RCO s0) (hpre2 : x0 = 2) (rZ : Int) (sZ : gMem) (hres : f_X3_readSum_3 x0 s0 = (rZ, sZ)) : (fr [34, 53, 54, 55, 56, 57, 58] s0 sZ) ∧ (gMR lgX sZ) ∧ (True) ∧ (TK sZ) ∧ (RCO sZ) := by
  have hT := f_X3_readSum_3_e x0 s0
  have hf_s0 : fr [34, 53, 54, 55, 56, 57, 58] s0 s0 := fr.rf _ _
  have hTK_s0 := hpre0
  have hRCO_s0 := hpre1
  obtain ⟨r2, s3, hs3⟩ : ∃ rr ss, (f_X3_readTerm_3 x0 s0) = (rr, ss) := ⟨_, _, rfl⟩
  replace hT := gby hT hs3
  have hp4 := f_X3_readTerm_3_p x0 s0 (by omega) hm_s0 hTK_s0 hRCO_s0 (by first | assumption | omega) r2 s3 hs3
  obtain ⟨hfc_s3, hm_s3, hp5, hTK_s3, hRCO_s3⟩ := hp4
  have hf_s3 : fr [34, 53, 54, 55, 56, 57, 58] s0 s3 := hf_s0.call (by decide) hfc_s3
  have L39 : ∀ (n40 : Nat) (v37 : Int) (s38 : gMem), ((in32 v37) ∧ (fr [34, 53, 54, 55, 56, 57, 58] s0 s38) ∧ (gMR lgX s38) ∧ (TK s38) ∧ (RCO s38) ∧ (0 ≤ v37 ∧ v37 ≤ 160)) → 160 - v37 < (n40 : Int) → (∀ (w41 : Int) (s42 : gMem), (w_X3_readSum_3_7 x0 n40 v37 s38) = (w41, s42) → ((in32 w41) ∧ (fr [34, 53, 54, 55, 56, 57, 58] s0 s42) ∧ (gMR lgX s42) ∧ (TK s42) ∧ (RCO s42) ∧ (0 ≤ w41 ∧ w41 ≤ 160)) → (fr [34, 53, 54, 55, 56, 57, 58] s0 sZ) ∧ (gMR lgX sZ) ∧ (True) ∧ (TK sZ) ∧ (RCO sZ)) → (fr [34, 53, 54, 55, 56, 57, 58] s0 sZ) ∧ (gMR lgX sZ) ∧ (True) ∧ (TK sZ) ∧ (RCO sZ) := by
    intro n40; induction n40 with
    | zero =>
      intro v37 s38 hq hm hk
      exfalso
      obtain ⟨hq71, hf_s38, hm_s38, hTK_s38, hRCO_s38, hq72⟩ := hq
      omega
    | succ n40 ih =>
      intro v37 s38 hq hm hk
      obtain ⟨hq73, hf_s38, hm_s38, hTK_s38, hRCO_s38, hq74⟩ := hq
      have hT := w_X3_readSum_3_7_s x0 n40 v37 s38
      by_cases h43 : v37 < 160
      · replace hT := hT.trans (if_pos h43)
        have hr44 := (hm_s38 55 0).1 rfl
        obtain ⟨j46c, hj46c, hT⟩ := gjx hT
        have j46 : (True) → (w_X3_readSum_3_7 x0 (n40 + 1) v37 s38) = j46c  → (fr [34, 53, 54, 55, 56, 57, 58] s0 sZ) ∧ (gMR lgX sZ) ∧ (True) ∧ (TK sZ) ∧ (RCO sZ) := by
          intro  hq hT
          rw [hj46c] at hT
          have hr47 := (hm_s38 55 0).1 rfl
          obtain ⟨z68, hz68, hT⟩ := gl1x hT
          have j49 : ∀ (v50 : Int), ((in32 v50) ∧ (-12 ≤ v50 ∧ v50 ≤ -11)) → z68 = v50 → (fr [34, 53, 54, 55, 56, 57, 58] s0 sZ) ∧ (gMR lgX sZ) ∧ (True) ∧ (TK sZ) ∧ (RCO sZ) := by
            intro v50 hq hz
            obtain ⟨hq66, hq67⟩ := hq
            replace hT := gl1y hT hz
            obtain ⟨r52, s53, hs53⟩ : ∃ rr ss, (f_X3_next  s38) = (rr, ss) := ⟨_, _, rfl⟩
            replace hT := gby hT hs53
            have hp54 := f_X3_next_p  s38  hm_s38 hTK_s38 r52 s53 hs53
            obtain ⟨hfc_s53, hm_s53, hp55, hTK_s53⟩ := hp54
            have hf_s53 : fr [34, 53, 54, 55, 56, 57, 58] s0 s53 := hf_s38.call (by decide) hfc_s53
            have hRCO_s53 : RCO s53 := RCO_fr hRCO_s38 (fun k hk => hfc_s53 k (dj (by decide) k hk))
            obtain ⟨r57, s58, hs58⟩ : ∃ rr ss, (f_X3_readTerm_3 x0 s53) = (rr, ss) := ⟨_, _, rfl⟩
            replace hT := gby hT hs58
            have hp59 := f_X3_readTerm_3_p x0 s53 (by omega) hm_s53 hTK_s53 hRCO_s53 (by first | assumption | omega) r57 s58 hs58
            obtain ⟨hfc_s58, hm_s58, hp60, hTK_s58, hRCO_s58⟩ := hp59
            have hf_s58 : fr [34, 53, 54, 55, 56, 57, 58] s0 s58 := hf_s53.call (by decide) hfc_s58
            obtain ⟨r62, s63, hs63⟩ : ∃ rr ss, (f_X3_emit v50 s58) = (rr, ss) := ⟨_, _, rfl⟩
            replace hT := gby hT hs63
            have hp64 := f_X3_emit_p v50 s58 (by omega) hm_s58 hTK_s58 hRCO_s58 (by first | assumption | omega) r62 s63 hs63
            obtain ⟨hfc_s63, hm_s63, hp65, hTK_s63, hRCO_s63⟩ := hp64
            have hf_s63 : fr [34, 53, 54, 55, 56, 57, 58] s0 s63 := hf_s58.call (by decide) hfc_s63
            exact ih (v37 + 1) s63 ⟨(by omega), hf_s63, hm_s63, hTK_s63, hRCO_s63, (by first | assumption | omega)⟩ (by omega) (fun w41 s42 hw hi => hk w41 s42 (hT.trans hw) hi)
          replace hT := hz68
          by_cases h48 : (s38 55 0) = 43
          · replace hT := hT.trans (if_pos h48)
            exact j49 (-11) ⟨(by omega), (by first | assumption | omega)⟩ hT
          · replace hT := hT.trans (if_neg h48)
            exact j49 (-12) ⟨(by omega), (by first | assumption | omega)⟩ hT
        by_cases h45 : (s38 55 0) = 43
        · replace hT := hT.trans (if_pos h45)
          exact j46  trivial hT
        · replace hT := hT.trans (if_neg h45)
          have hr69 := (hm_s38 55 0).1 rfl
          by_cases h70 : (s38 55 0) = 45
          · replace hT := hT.trans (if_pos h70)
            exact j46  trivial hT
          · replace hT := hT.trans (if_neg h70)
            exact hk v37 s38 hT ⟨(by omega), hf_s38, hm_s38, hTK_s38, hRCO_s38, (by first | assumption | omega)⟩
      · replace hT := hT.trans (if_neg h43)
        exact hk v37 s38 hT ⟨(by omega), hf_s38, hm_s38, hTK_s38, hRCO_s38, (by first | assumption | omega)⟩
  refine L39 161 0 s3 ⟨(by omega), hf_s3, hm_s3, hTK_s3, hRCO_s3, (by first | assumption | omega)⟩ (by omega) (fun v75 s76 hw hq => ?_)
  obtain ⟨hq77, hf_s76, hm_s76, hTK_s76, hRCO_s76, hq78⟩ := hq
  replace hT := gl2y hT hw
  obtain ⟨rfl, rfl⟩ := Prod.mk.inj (hT.symm.trans hres)
  exact ⟨hf_s76, hm_s76, trivial, hTK_s76, hRCO_s76⟩
set_option maxRecDepth 100000 in
set_option maxHeartbeats 4000000 in
theorem c_X3_readSum_3 (l : Launch) (D : va_G) (a : Nat → Nat) (cI cJ cS cT : ClassId) (adK adV : Nat → Nat) (kA : Nat) (s0 : gMem) (x0 : Int) (hx0 : in32 x0) (hpre0 : TK s0) (hpre1 : RCO s0) (hpre2 : x0 = 2) : gCS l yX3_readSum cX3_readSum 4 none 31 1984 D vwCl (gT cI cJ cS cT) (wdX a cI cJ cS cT) lgX kV rgV [.ref (a 2), gI x0] s0 (f_X3_readSum_3 x0 s0) adK adV kA := by
  refine gCS_of (by decide +kernel) (hwdX a cI cJ cS cT) (Nat.le_of_ble_eq_true rfl) ?_
  intro A p e R s m args below meth c hR E HX
  subst hR
  have hT := f_X3_readSum_3_e x0 s0
  have hf_s0 : fr [34, 53, 54, 55, 56, 57, 58] s0 s0 := fr.rf _ _
  refine k_lv0 (lv' := [(0, .ref (a 2)), (1, gI x0)]) rfl ?_
  refine k_mr (fun hm_s0 => ?_)
  have hTK_s0 := hpre0
  have hRCO_s0 := hpre1
  refine k_aloadn (pc := 0) E 0 dX3_readSum_0 rfl rfl ?_
  refine k_iloadn (pc := 1) E 1 dX3_readSum_1 rfl rfl ?_
  refine k_mr (fun hm_s0 => ?_)
  refine k_callVX (pc := 2) (np := 1) (As := [gI x0]) (st := []) (q0 := 2) E HX rfl rfl (c_X3_readTerm_3 l D a cI cJ cS cT adK adV kA s0 x0 (by omega) hTK_s0 hRCO_s0 (by first | assumption | omega)) wm_452 wm_3 wm_449 wm_451 wp_11 (by decide +kernel) ⟨by decide, by decide⟩ rfl (Nat.le_of_ble_eq_true rfl) dX3_readSum_2 (fun r2 s3 hs3 hr1 => ?_)
  replace hT := gby hT hs3
  have hp4 := f_X3_readTerm_3_p x0 s0 (by omega) hm_s0 hTK_s0 hRCO_s0 (by first | assumption | omega) r2 s3 hs3
  obtain ⟨hfc_s3, hm_s3, hp5, hTK_s3, hRCO_s3⟩ := hp4
  have hf_s3 : fr [34, 53, 54, 55, 56, 57, 58] s0 s3 := hf_s0.call (by decide) hfc_s3
  refine k_st (st' := []) rfl ?_
  refine k_iconst (pc := 5) E dX3_readSum_5 ?_
  refine k_istoren (pc := 6) (lv' := [(2, gI 0), (0, .ref (a 2)), (1, gI x0)]) E dX3_readSum_6 rfl (by decide) rfl ?_
  have L39 : ∀ (n40 : Nat) (v37 : Int) (s38 : gMem), ((in32 v37) ∧ (fr [34, 53, 54, 55, 56, 57, 58] s0 s38) ∧ (TK s38) ∧ (RCO s38) ∧ (0 ≤ v37 ∧ v37 ≤ 160)) → 160 - v37 < (n40 : Int) → (∀ (w41 : Int) (s42 : gMem), (w_X3_readSum_3_7 x0 n40 v37 s38) = (w41, s42) → ((in32 w41) ∧ (fr [34, 53, 54, 55, 56, 57, 58] s0 s42) ∧ (TK s42) ∧ (RCO s42) ∧ (0 ≤ w41 ∧ w41 ≤ 160)) → gK D vwCl (wdX a cI cJ cS cT) lgX A p l e { frames := 31, cells := 0, slots := 0, locals := 1984 } s m args below meth c 4 (gQQ D vwCl (wdX a cI cJ cS cT) lgX A kV rgV below args s) (f_X3_readSum_3 x0 s0) s42 69 [] []) → gK D vwCl (wdX a cI cJ cS cT) lgX A p l e { frames := 31, cells := 0, slots := 0, locals := 1984 } s m args below meth c 4 (gQQ D vwCl (wdX a cI cJ cS cT) lgX A kV rgV below args s) (f_X3_readSum_3 x0 s0) s38 7 [(0, .ref (a 2)), (1, gI x0), (2, gI v37)] [] := by
    intro n40; induction n40 with
    | zero =>
      intro v37 s38 hq hm hk
      exfalso
      obtain ⟨hq71, hf_s38, hTK_s38, hRCO_s38, hq72⟩ := hq
      omega
    | succ n40 ih =>
      intro v37 s38 hq hm hk
      obtain ⟨hq73, hf_s38, hTK_s38, hRCO_s38, hq74⟩ := hq
      have hT := w_X3_readSum_3_7_s x0 n40 v37 s38
      refine k_iloadn (pc := 7) E 2 dX3_readSum_7 rfl rfl ?_
      refine k_sipush (pc := 8) E dX3_readSum_8 (by decide) ?_
      by_cases h43 : v37 < 160
      · replace hT := hT.trans (if_pos h43)
        refine k_icmp_ge_f (pc := 11) (tgt := 69) E (by omega) (by omega) dX3_readSum_11 (by decide) h43 ?_
        refine k_aloadn (pc := 14) E 0 dX3_readSum_14 rfl rfl ?_
        refine k_getfI (pc := 15) (q0 := 2) (f := 6) (k := 55) E inX3 rfl rfl (by decide) wm_65 rfl rfl rfl dX3_readSum_15 (fun hr44 => ?_)
        refine k_bipush (pc := 18) E dX3_readSum_18 (by decide) ?_
        obtain ⟨j46c, hj46c, hT⟩ := gjx hT
        have j46 : (True) → (w_X3_readSum_3_7 x0 (n40 + 1) v37 s38) = j46c  → gK D vwCl (wdX a cI cJ cS cT) lgX A p l e { frames := 31, cells := 0, slots := 0, locals := 1984 } s m args below meth c 4 (gQQ D vwCl (wdX a cI cJ cS cT) lgX A kV rgV below args s) (f_X3_readSum_3 x0 s0) s38 32 [(0, .ref (a 2)), (1, gI x0), (2, gI v37)] [] := by
          intro  hq hT
          rw [hj46c] at hT
          refine k_aloadn (pc := 32) E 0 dX3_readSum_32 rfl rfl ?_
          refine k_getfI (pc := 33) (q0 := 2) (f := 6) (k := 55) E inX3 rfl rfl (by decide) wm_65 rfl rfl rfl dX3_readSum_33 (fun hr47 => ?_)
          refine k_bipush (pc := 36) E dX3_readSum_36 (by decide) ?_
          obtain ⟨z68, hz68, hT⟩ := gl1x hT
          have j49 : ∀ (v50 : Int), ((in32 v50) ∧ (-12 ≤ v50 ∧ v50 ≤ -11)) → z68 = v50 → gK D vwCl (wdX a cI cJ cS cT) lgX A p l e { frames := 31, cells := 0, slots := 0, locals := 1984 } s m args below meth c 4 (gQQ D vwCl (wdX a cI cJ cS cT) lgX A kV rgV below args s) (f_X3_readSum_3 x0 s0) s38 48 [(0, .ref (a 2)), (1, gI x0), (2, gI v37)] [gI v50] := by
            intro v50 hq hz
            obtain ⟨hq66, hq67⟩ := hq
            replace hT := gl1y hT hz
            refine k_istoren (pc := 48) (lv' := [(3, gI v50), (0, .ref (a 2)), (1, gI x0), (2, gI v37)]) E dX3_readSum_48 rfl (by decide) rfl ?_
            refine k_aloadn (pc := 49) E 1 dX3_readSum_49 rfl rfl ?_
            refine k_mr (fun hm_s38 => ?_)
            refine k_callVX (pc := 50) (np := 0) (As := []) (st := []) (q0 := 2) E HX rfl rfl (c_X3_next l D a cI cJ cS cT adK adV kA s38  hTK_s38) wm_336 wm_3 wm_333 wm_335 wp_0 (by decide +kernel) ⟨by decide, by decide⟩ rfl (Nat.le_of_ble_eq_true rfl) dX3_readSum_50 (fun r52 s53 hs53 hr51 => ?_)
            replace hT := gby hT hs53
            have hp54 := f_X3_next_p  s38  hm_s38 hTK_s38 r52 s53 hs53
            obtain ⟨hfc_s53, hm_s53, hp55, hTK_s53⟩ := hp54
            have hf_s53 : fr [34, 53, 54, 55, 56, 57, 58] s0 s53 := hf_s38.call (by decide) hfc_s53
            have hRCO_s53 : RCO s53 := RCO_fr hRCO_s38 (fun k hk => hfc_s53 k (dj (by decide) k hk))
            refine k_st (st' := []) rfl ?_
            refine k_aloadn (pc := 53) E 1 dX3_readSum_53 rfl rfl ?_
            refine k_iloadn (pc := 54) E 2 dX3_readSum_54 rfl rfl ?_
            refine k_mr (fun hm_s53 => ?_)
            refine k_callVX (pc := 55) (np := 1) (As := [gI x0]) (st := []) (q0 := 2) E HX rfl rfl (c_X3_readTerm_3 l D a cI cJ cS cT adK adV kA s53 x0 (by omega) hTK_s53 hRCO_s53 (by first | assumption | omega)) wm_452 wm_3 wm_449 wm_451 wp_11 (by decide +kernel) ⟨by decide, by decide⟩ rfl (Nat.le_of_ble_eq_true rfl) dX3_readSum_55 (fun r57 s58 hs58 hr56 => ?_)
            replace hT := gby hT hs58
            have hp59 := f_X3_readTerm_3_p x0 s53 (by omega) hm_s53 hTK_s53 hRCO_s53 (by first | assumption | omega) r57 s58 hs58
            obtain ⟨hfc_s58, hm_s58, hp60, hTK_s58, hRCO_s58⟩ := hp59
            have hf_s58 : fr [34, 53, 54, 55, 56, 57, 58] s0 s58 := hf_s53.call (by decide) hfc_s58
            refine k_st (st' := []) rfl ?_
            refine k_aloadn (pc := 58) E 1 dX3_readSum_58 rfl rfl ?_
            refine k_iloadn (pc := 59) E 0 dX3_readSum_59 rfl rfl ?_
            refine k_mr (fun hm_s58 => ?_)
            refine k_callV (pc := 60) (np := 1) (As := [gI v50]) (st := []) (q0 := 2) E (c_X3_emit l D a cI cJ cS cT s58 v50 (by omega) hTK_s58 hRCO_s58 (by first | assumption | omega)) wm_460 wm_3 wm_457 wm_459 wp_13 (by decide +kernel) rfl rfl ⟨by decide, by decide⟩ rfl (Nat.le_of_ble_eq_true rfl) dX3_readSum_60 (fun r62 s63 hs63 hr61 => ?_)
            replace hT := gby hT hs63
            have hp64 := f_X3_emit_p v50 s58 (by omega) hm_s58 hTK_s58 hRCO_s58 (by first | assumption | omega) r62 s63 hs63
            obtain ⟨hfc_s63, hm_s63, hp65, hTK_s63, hRCO_s63⟩ := hp64
            have hf_s63 : fr [34, 53, 54, 55, 56, 57, 58] s0 s63 := hf_s58.call (by decide) hfc_s63
            refine k_st (st' := []) rfl ?_
            refine k_iinc (pc := 63) (lv' := [(2, gI (v37 + 1)), (3, gI v50), (0, .ref (a 2)), (1, gI x0)]) E 3 dX3_readSum_63 rfl (by decide) rfl ?_
            refine k_goto (pc := 66) (tgt := 7) E dX3_readSum_66 (by decide) ?_
            refine k_lv (lv' := [(0, .ref (a 2)), (1, gI x0), (2, gI (v37 + 1))]) [2, 3, 0] rfl ?_
            exact ih (v37 + 1) s63 ⟨(by omega), hf_s63, hTK_s63, hRCO_s63, (by first | assumption | omega)⟩ (by omega) (fun w41 s42 hw hi => hk w41 s42 (hT.trans hw) hi)
          replace hT := hz68
          by_cases h48 : (s38 55 0) = 43
          · replace hT := hT.trans (if_pos h48)
            refine k_icmp_ne_f (pc := 38) (tgt := 46) E (by omega) (by omega) dX3_readSum_38 (by decide) h48 ?_
            refine k_bipush (pc := 41) E dX3_readSum_41 (by decide) ?_
            refine k_goto (pc := 43) (tgt := 48) E dX3_readSum_43 (by decide) ?_
            exact j49 (-11) ⟨(by omega), (by first | assumption | omega)⟩ hT
          · replace hT := hT.trans (if_neg h48)
            refine k_icmp_ne_t (pc := 38) (tgt := 46) E (by omega) (by omega) dX3_readSum_38 (by decide) h48 ?_
            refine k_bipush (pc := 46) E dX3_readSum_46 (by decide) ?_
            exact j49 (-12) ⟨(by omega), (by first | assumption | omega)⟩ hT
        by_cases h45 : (s38 55 0) = 43
        · replace hT := hT.trans (if_pos h45)
          refine k_icmp_eq_t (pc := 20) (tgt := 32) E (by omega) (by omega) dX3_readSum_20 (by decide) h45 ?_
          exact j46  trivial hT
        · replace hT := hT.trans (if_neg h45)
          refine k_icmp_eq_f (pc := 20) (tgt := 32) E (by omega) (by omega) dX3_readSum_20 (by decide) h45 ?_
          refine k_aloadn (pc := 23) E 0 dX3_readSum_23 rfl rfl ?_
          refine k_getfI (pc := 24) (q0 := 2) (f := 6) (k := 55) E inX3 rfl rfl (by decide) wm_65 rfl rfl rfl dX3_readSum_24 (fun hr69 => ?_)
          refine k_bipush (pc := 27) E dX3_readSum_27 (by decide) ?_
          by_cases h70 : (s38 55 0) = 45
          · replace hT := hT.trans (if_pos h70)
            refine k_icmp_ne_f (pc := 29) (tgt := 69) E (by omega) (by omega) dX3_readSum_29 (by decide) h70 ?_
            exact j46  trivial hT
          · replace hT := hT.trans (if_neg h70)
            refine k_icmp_ne_t (pc := 29) (tgt := 69) E (by omega) (by omega) dX3_readSum_29 (by decide) h70 ?_
            refine k_lv (lv' := []) [] rfl ?_
            exact hk v37 s38 hT ⟨(by omega), hf_s38, hTK_s38, hRCO_s38, (by first | assumption | omega)⟩
      · replace hT := hT.trans (if_neg h43)
        refine k_icmp_ge_t (pc := 11) (tgt := 69) E (by omega) (by omega) dX3_readSum_11 (by decide) h43 ?_
        refine k_lv (lv' := []) [] rfl ?_
        exact hk v37 s38 hT ⟨(by omega), hf_s38, hTK_s38, hRCO_s38, (by first | assumption | omega)⟩
  refine k_lv (lv' := [(0, .ref (a 2)), (1, gI x0), (2, gI 0)]) [1, 2, 0] rfl ?_
  refine L39 161 0 s3 ⟨(by omega), hf_s3, hTK_s3, hRCO_s3, (by first | assumption | omega)⟩ (by omega) (fun v75 s76 hw hq => ?_)
  obtain ⟨hq77, hf_s76, hTK_s76, hRCO_s76, hq78⟩ := hq
  replace hT := gl2y hT hw
  exact k_rho hT (k_vret (pc := 69) E dX3_readSum_69)

def f_X3_readCompared_3 (x0 : Int) (s0 : gMem) : gRes := gb (f_X3_readSum_3 x0 s0) (fun r2 s3 => (gj (fun j8c => (if (s3 55 0) = 60 then j8c else (if (s3 55 0) = 61 then j8c else (0, s3)))) ((gl ((if (s3 55 0) = 60 then (-9) else (-10))) (fun v12 => gb (f_X3_next  s3) (fun r14 s15 => gb (f_X3_readSum_3 x0 s15) (fun r19 s20 => gb (f_X3_emit v12 s20) (fun r24 s25 => (0, s25)))))))))
theorem f_X3_readCompared_3_e (x0 : Int) (s0 : gMem) : f_X3_readCompared_3 x0 s0 = gb (f_X3_readSum_3 x0 s0) (fun r2 s3 => (gj (fun j8c => (if (s3 55 0) = 60 then j8c else (if (s3 55 0) = 61 then j8c else (0, s3)))) ((gl ((if (s3 55 0) = 60 then (-9) else (-10))) (fun v12 => gb (f_X3_next  s3) (fun r14 s15 => gb (f_X3_readSum_3 x0 s15) (fun r19 s20 => gb (f_X3_emit v12 s20) (fun r24 s25 => (0, s25))))))))) := rfl
set_option maxRecDepth 100000 in
set_option maxHeartbeats 4000000 in
theorem f_X3_readCompared_3_p (x0 : Int) (s0 : gMem) (hx0 : in32 x0) (hm_s0 : gMR lgX s0) (hpre0 : TK s0) (hpre1 : RCO s0) (hpre2 : x0 = 2) (rZ : Int) (sZ : gMem) (hres : f_X3_readCompared_3 x0 s0 = (rZ, sZ)) : (fr [34, 53, 54, 55, 56, 57, 58] s0 sZ) ∧ (gMR lgX sZ) ∧ (True) ∧ (TK sZ) ∧ (RCO sZ) := by
  have hT := f_X3_readCompared_3_e x0 s0
  have hf_s0 : fr [34, 53, 54, 55, 56, 57, 58] s0 s0 := fr.rf _ _
  have hTK_s0 := hpre0
  have hRCO_s0 := hpre1
  obtain ⟨r2, s3, hs3⟩ : ∃ rr ss, (f_X3_readSum_3 x0 s0) = (rr, ss) := ⟨_, _, rfl⟩
  replace hT := gby hT hs3
  have hp4 := f_X3_readSum_3_p x0 s0 (by omega) hm_s0 hTK_s0 hRCO_s0 (by first | assumption | omega) r2 s3 hs3
  obtain ⟨hfc_s3, hm_s3, hp5, hTK_s3, hRCO_s3⟩ := hp4
  have hf_s3 : fr [34, 53, 54, 55, 56, 57, 58] s0 s3 := hf_s0.call (by decide) hfc_s3
  have hr6 := (hm_s3 55 0).1 rfl
  obtain ⟨j8c, hj8c, hT⟩ := gjx hT
  have j8 : (True) → (f_X3_readCompared_3 x0 s0) = j8c  → (fr [34, 53, 54, 55, 56, 57, 58] s0 sZ) ∧ (gMR lgX sZ) ∧ (True) ∧ (TK sZ) ∧ (RCO sZ) := by
    intro  hq hT
    rw [hj8c] at hT
    have hr9 := (hm_s3 55 0).1 rfl
    obtain ⟨z30, hz30, hT⟩ := gl1x hT
    have j11 : ∀ (v12 : Int), ((in32 v12) ∧ (-10 ≤ v12 ∧ v12 ≤ -9)) → z30 = v12 → (fr [34, 53, 54, 55, 56, 57, 58] s0 sZ) ∧ (gMR lgX sZ) ∧ (True) ∧ (TK sZ) ∧ (RCO sZ) := by
      intro v12 hq hz
      obtain ⟨hq28, hq29⟩ := hq
      replace hT := gl1y hT hz
      obtain ⟨r14, s15, hs15⟩ : ∃ rr ss, (f_X3_next  s3) = (rr, ss) := ⟨_, _, rfl⟩
      replace hT := gby hT hs15
      have hp16 := f_X3_next_p  s3  hm_s3 hTK_s3 r14 s15 hs15
      obtain ⟨hfc_s15, hm_s15, hp17, hTK_s15⟩ := hp16
      have hf_s15 : fr [34, 53, 54, 55, 56, 57, 58] s0 s15 := hf_s3.call (by decide) hfc_s15
      have hRCO_s15 : RCO s15 := RCO_fr hRCO_s3 (fun k hk => hfc_s15 k (dj (by decide) k hk))
      obtain ⟨r19, s20, hs20⟩ : ∃ rr ss, (f_X3_readSum_3 x0 s15) = (rr, ss) := ⟨_, _, rfl⟩
      replace hT := gby hT hs20
      have hp21 := f_X3_readSum_3_p x0 s15 (by omega) hm_s15 hTK_s15 hRCO_s15 (by first | assumption | omega) r19 s20 hs20
      obtain ⟨hfc_s20, hm_s20, hp22, hTK_s20, hRCO_s20⟩ := hp21
      have hf_s20 : fr [34, 53, 54, 55, 56, 57, 58] s0 s20 := hf_s15.call (by decide) hfc_s20
      obtain ⟨r24, s25, hs25⟩ : ∃ rr ss, (f_X3_emit v12 s20) = (rr, ss) := ⟨_, _, rfl⟩
      replace hT := gby hT hs25
      have hp26 := f_X3_emit_p v12 s20 (by omega) hm_s20 hTK_s20 hRCO_s20 (by first | assumption | omega) r24 s25 hs25
      obtain ⟨hfc_s25, hm_s25, hp27, hTK_s25, hRCO_s25⟩ := hp26
      have hf_s25 : fr [34, 53, 54, 55, 56, 57, 58] s0 s25 := hf_s20.call (by decide) hfc_s25
      obtain ⟨rfl, rfl⟩ := Prod.mk.inj (hT.symm.trans hres)
      exact ⟨hf_s25, hm_s25, trivial, hTK_s25, hRCO_s25⟩
    replace hT := hz30
    by_cases h10 : (s3 55 0) = 60
    · replace hT := hT.trans (if_pos h10)
      exact j11 (-9) ⟨(by omega), (by first | assumption | omega)⟩ hT
    · replace hT := hT.trans (if_neg h10)
      exact j11 (-10) ⟨(by omega), (by first | assumption | omega)⟩ hT
  by_cases h7 : (s3 55 0) = 60
  · replace hT := hT.trans (if_pos h7)
    exact j8  trivial hT
  · replace hT := hT.trans (if_neg h7)
    have hr31 := (hm_s3 55 0).1 rfl
    by_cases h32 : (s3 55 0) = 61
    · replace hT := hT.trans (if_pos h32)
      exact j8  trivial hT
    · replace hT := hT.trans (if_neg h32)
      obtain ⟨rfl, rfl⟩ := Prod.mk.inj (hT.symm.trans hres)
      exact ⟨hf_s3, hm_s3, trivial, hTK_s3, hRCO_s3⟩
set_option maxRecDepth 100000 in
set_option maxHeartbeats 4000000 in
theorem c_X3_readCompared_3 (l : Launch) (D : va_G) (a : Nat → Nat) (cI cJ cS cT : ClassId) (adK adV : Nat → Nat) (kA : Nat) (s0 : gMem) (x0 : Int) (hx0 : in32 x0) (hpre0 : TK s0) (hpre1 : RCO s0) (hpre2 : x0 = 2) : gCS l yX3_readCompared cX3_readCompared 3 none 32 2048 D vwCl (gT cI cJ cS cT) (wdX a cI cJ cS cT) lgX kV rgV [.ref (a 2), gI x0] s0 (f_X3_readCompared_3 x0 s0) adK adV kA := by
  refine gCS_of (by decide +kernel) (hwdX a cI cJ cS cT) (Nat.le_of_ble_eq_true rfl) ?_
  intro A p e R s m args below meth c hR E HX
  subst hR
  have hT := f_X3_readCompared_3_e x0 s0
  have hf_s0 : fr [34, 53, 54, 55, 56, 57, 58] s0 s0 := fr.rf _ _
  refine k_lv0 (lv' := [(0, .ref (a 2)), (1, gI x0)]) rfl ?_
  refine k_mr (fun hm_s0 => ?_)
  have hTK_s0 := hpre0
  have hRCO_s0 := hpre1
  refine k_aloadn (pc := 0) E 0 dX3_readCompared_0 rfl rfl ?_
  refine k_iloadn (pc := 1) E 1 dX3_readCompared_1 rfl rfl ?_
  refine k_mr (fun hm_s0 => ?_)
  refine k_callVX (pc := 2) (np := 1) (As := [gI x0]) (st := []) (q0 := 2) E HX rfl rfl (c_X3_readSum_3 l D a cI cJ cS cT adK adV kA s0 x0 (by omega) hTK_s0 hRCO_s0 (by first | assumption | omega)) wm_448 wm_3 wm_445 wm_447 wp_10 (by decide +kernel) ⟨by decide, by decide⟩ rfl (Nat.le_of_ble_eq_true rfl) dX3_readCompared_2 (fun r2 s3 hs3 hr1 => ?_)
  replace hT := gby hT hs3
  have hp4 := f_X3_readSum_3_p x0 s0 (by omega) hm_s0 hTK_s0 hRCO_s0 (by first | assumption | omega) r2 s3 hs3
  obtain ⟨hfc_s3, hm_s3, hp5, hTK_s3, hRCO_s3⟩ := hp4
  have hf_s3 : fr [34, 53, 54, 55, 56, 57, 58] s0 s3 := hf_s0.call (by decide) hfc_s3
  refine k_st (st' := []) rfl ?_
  refine k_aloadn (pc := 5) E 0 dX3_readCompared_5 rfl rfl ?_
  refine k_getfI (pc := 6) (q0 := 2) (f := 6) (k := 55) E inX3 rfl rfl (by decide) wm_65 rfl rfl rfl dX3_readCompared_6 (fun hr6 => ?_)
  refine k_bipush (pc := 9) E dX3_readCompared_9 (by decide) ?_
  obtain ⟨j8c, hj8c, hT⟩ := gjx hT
  have j8 : (True) → (f_X3_readCompared_3 x0 s0) = j8c  → gK D vwCl (wdX a cI cJ cS cT) lgX A p l e { frames := 32, cells := 0, slots := 0, locals := 2048 } s m args below meth c 3 (gQQ D vwCl (wdX a cI cJ cS cT) lgX A kV rgV below args s) (f_X3_readCompared_3 x0 s0) s3 23 [(0, .ref (a 2)), (1, gI x0)] [] := by
    intro  hq hT
    rw [hj8c] at hT
    refine k_aloadn (pc := 23) E 0 dX3_readCompared_23 rfl rfl ?_
    refine k_getfI (pc := 24) (q0 := 2) (f := 6) (k := 55) E inX3 rfl rfl (by decide) wm_65 rfl rfl rfl dX3_readCompared_24 (fun hr9 => ?_)
    refine k_bipush (pc := 27) E dX3_readCompared_27 (by decide) ?_
    obtain ⟨z30, hz30, hT⟩ := gl1x hT
    have j11 : ∀ (v12 : Int), ((in32 v12) ∧ (-10 ≤ v12 ∧ v12 ≤ -9)) → z30 = v12 → gK D vwCl (wdX a cI cJ cS cT) lgX A p l e { frames := 32, cells := 0, slots := 0, locals := 2048 } s m args below meth c 3 (gQQ D vwCl (wdX a cI cJ cS cT) lgX A kV rgV below args s) (f_X3_readCompared_3 x0 s0) s3 39 [(0, .ref (a 2)), (1, gI x0)] [gI v12] := by
      intro v12 hq hz
      obtain ⟨hq28, hq29⟩ := hq
      replace hT := gl1y hT hz
      refine k_istoren (pc := 39) (lv' := [(2, gI v12), (0, .ref (a 2)), (1, gI x0)]) E dX3_readCompared_39 rfl (by decide) rfl ?_
      refine k_aloadn (pc := 40) E 1 dX3_readCompared_40 rfl rfl ?_
      refine k_mr (fun hm_s3 => ?_)
      refine k_callVX (pc := 41) (np := 0) (As := []) (st := []) (q0 := 2) E HX rfl rfl (c_X3_next l D a cI cJ cS cT adK adV kA s3  hTK_s3) wm_336 wm_3 wm_333 wm_335 wp_0 (by decide +kernel) ⟨by decide, by decide⟩ rfl (Nat.le_of_ble_eq_true rfl) dX3_readCompared_41 (fun r14 s15 hs15 hr13 => ?_)
      replace hT := gby hT hs15
      have hp16 := f_X3_next_p  s3  hm_s3 hTK_s3 r14 s15 hs15
      obtain ⟨hfc_s15, hm_s15, hp17, hTK_s15⟩ := hp16
      have hf_s15 : fr [34, 53, 54, 55, 56, 57, 58] s0 s15 := hf_s3.call (by decide) hfc_s15
      have hRCO_s15 : RCO s15 := RCO_fr hRCO_s3 (fun k hk => hfc_s15 k (dj (by decide) k hk))
      refine k_st (st' := []) rfl ?_
      refine k_aloadn (pc := 44) E 1 dX3_readCompared_44 rfl rfl ?_
      refine k_iloadn (pc := 45) E 2 dX3_readCompared_45 rfl rfl ?_
      refine k_mr (fun hm_s15 => ?_)
      refine k_callVX (pc := 46) (np := 1) (As := [gI x0]) (st := []) (q0 := 2) E HX rfl rfl (c_X3_readSum_3 l D a cI cJ cS cT adK adV kA s15 x0 (by omega) hTK_s15 hRCO_s15 (by first | assumption | omega)) wm_448 wm_3 wm_445 wm_447 wp_10 (by decide +kernel) ⟨by decide, by decide⟩ rfl (Nat.le_of_ble_eq_true rfl) dX3_readCompared_46 (fun r19 s20 hs20 hr18 => ?_)
      replace hT := gby hT hs20
      have hp21 := f_X3_readSum_3_p x0 s15 (by omega) hm_s15 hTK_s15 hRCO_s15 (by first | assumption | omega) r19 s20 hs20
      obtain ⟨hfc_s20, hm_s20, hp22, hTK_s20, hRCO_s20⟩ := hp21
      have hf_s20 : fr [34, 53, 54, 55, 56, 57, 58] s0 s20 := hf_s15.call (by decide) hfc_s20
      refine k_st (st' := []) rfl ?_
      refine k_aloadn (pc := 49) E 1 dX3_readCompared_49 rfl rfl ?_
      refine k_iloadn (pc := 50) E 0 dX3_readCompared_50 rfl rfl ?_
      refine k_mr (fun hm_s20 => ?_)
      refine k_callV (pc := 51) (np := 1) (As := [gI v12]) (st := []) (q0 := 2) E (c_X3_emit l D a cI cJ cS cT s20 v12 (by omega) hTK_s20 hRCO_s20 (by first | assumption | omega)) wm_460 wm_3 wm_457 wm_459 wp_13 (by decide +kernel) rfl rfl ⟨by decide, by decide⟩ rfl (Nat.le_of_ble_eq_true rfl) dX3_readCompared_51 (fun r24 s25 hs25 hr23 => ?_)
      replace hT := gby hT hs25
      have hp26 := f_X3_emit_p v12 s20 (by omega) hm_s20 hTK_s20 hRCO_s20 (by first | assumption | omega) r24 s25 hs25
      obtain ⟨hfc_s25, hm_s25, hp27, hTK_s25, hRCO_s25⟩ := hp26
      have hf_s25 : fr [34, 53, 54, 55, 56, 57, 58] s0 s25 := hf_s20.call (by decide) hfc_s25
      refine k_st (st' := []) rfl ?_
      exact k_rho hT (k_vret (pc := 54) E dX3_readCompared_54)
    replace hT := hz30
    by_cases h10 : (s3 55 0) = 60
    · replace hT := hT.trans (if_pos h10)
      refine k_icmp_ne_f (pc := 29) (tgt := 37) E (by omega) (by omega) dX3_readCompared_29 (by decide) h10 ?_
      refine k_bipush (pc := 32) E dX3_readCompared_32 (by decide) ?_
      refine k_goto (pc := 34) (tgt := 39) E dX3_readCompared_34 (by decide) ?_
      exact j11 (-9) ⟨(by omega), (by first | assumption | omega)⟩ hT
    · replace hT := hT.trans (if_neg h10)
      refine k_icmp_ne_t (pc := 29) (tgt := 37) E (by omega) (by omega) dX3_readCompared_29 (by decide) h10 ?_
      refine k_bipush (pc := 37) E dX3_readCompared_37 (by decide) ?_
      exact j11 (-10) ⟨(by omega), (by first | assumption | omega)⟩ hT
  by_cases h7 : (s3 55 0) = 60
  · replace hT := hT.trans (if_pos h7)
    refine k_icmp_eq_t (pc := 11) (tgt := 23) E (by omega) (by omega) dX3_readCompared_11 (by decide) h7 ?_
    exact j8  trivial hT
  · replace hT := hT.trans (if_neg h7)
    refine k_icmp_eq_f (pc := 11) (tgt := 23) E (by omega) (by omega) dX3_readCompared_11 (by decide) h7 ?_
    refine k_aloadn (pc := 14) E 0 dX3_readCompared_14 rfl rfl ?_
    refine k_getfI (pc := 15) (q0 := 2) (f := 6) (k := 55) E inX3 rfl rfl (by decide) wm_65 rfl rfl rfl dX3_readCompared_15 (fun hr31 => ?_)
    refine k_bipush (pc := 18) E dX3_readCompared_18 (by decide) ?_
    by_cases h32 : (s3 55 0) = 61
    · replace hT := hT.trans (if_pos h32)
      refine k_icmp_ne_f (pc := 20) (tgt := 54) E (by omega) (by omega) dX3_readCompared_20 (by decide) h32 ?_
      exact j8  trivial hT
    · replace hT := hT.trans (if_neg h32)
      refine k_icmp_ne_t (pc := 20) (tgt := 54) E (by omega) (by omega) dX3_readCompared_20 (by decide) h32 ?_
      exact k_rho hT (k_vret (pc := 54) E dX3_readCompared_54)

def f_X3_readNot_3 (x0 : Int) (s0 : gMem) : gRes := (if (s0 55 0) = 261 then (if x0 < 5 then gb (f_X3_next  s0) (fun r5 s6 => gb (f_X3_readNot_2 (x0 + 1) s6) (fun r10 s11 => gb (f_X3_emit (-14) s11) (fun r15 s16 => (0, s16)))) else gb (f_X3_fail  s0) (fun r20 s21 => (0, s21))) else gb (f_X3_readCompared_3 x0 s0) (fun r26 s27 => (0, s27)))
theorem f_X3_readNot_3_e (x0 : Int) (s0 : gMem) : f_X3_readNot_3 x0 s0 = (if (s0 55 0) = 261 then (if x0 < 5 then gb (f_X3_next  s0) (fun r5 s6 => gb (f_X3_readNot_2 (x0 + 1) s6) (fun r10 s11 => gb (f_X3_emit (-14) s11) (fun r15 s16 => (0, s16)))) else gb (f_X3_fail  s0) (fun r20 s21 => (0, s21))) else gb (f_X3_readCompared_3 x0 s0) (fun r26 s27 => (0, s27))) := rfl
set_option maxRecDepth 100000 in
set_option maxHeartbeats 4000000 in
theorem f_X3_readNot_3_p (x0 : Int) (s0 : gMem) (hx0 : in32 x0) (hm_s0 : gMR lgX s0) (hpre0 : TK s0) (hpre1 : RCO s0) (hpre2 : x0 = 2) (rZ : Int) (sZ : gMem) (hres : f_X3_readNot_3 x0 s0 = (rZ, sZ)) : (fr [34, 53, 54, 55, 56, 57, 58] s0 sZ) ∧ (gMR lgX sZ) ∧ (True) ∧ (TK sZ) ∧ (RCO sZ) := by
  have hT := f_X3_readNot_3_e x0 s0
  have hf_s0 : fr [34, 53, 54, 55, 56, 57, 58] s0 s0 := fr.rf _ _
  have hTK_s0 := hpre0
  have hRCO_s0 := hpre1
  have hr1 := (hm_s0 55 0).1 rfl
  by_cases h2 : (s0 55 0) = 261
  · replace hT := hT.trans (if_pos h2)
    by_cases h3 : x0 < 5
    · replace hT := hT.trans (if_pos h3)
      obtain ⟨r5, s6, hs6⟩ : ∃ rr ss, (f_X3_next  s0) = (rr, ss) := ⟨_, _, rfl⟩
      replace hT := gby hT hs6
      have hp7 := f_X3_next_p  s0  hm_s0 hTK_s0 r5 s6 hs6
      obtain ⟨hfc_s6, hm_s6, hp8, hTK_s6⟩ := hp7
      have hf_s6 : fr [34, 53, 54, 55, 56, 57, 58] s0 s6 := hf_s0.call (by decide) hfc_s6
      have hRCO_s6 : RCO s6 := RCO_fr hRCO_s0 (fun k hk => hfc_s6 k (dj (by decide) k hk))
      obtain ⟨r10, s11, hs11⟩ : ∃ rr ss, (f_X3_readNot_2 (x0 + 1) s6) = (rr, ss) := ⟨_, _, rfl⟩
      replace hT := gby hT hs11
      have hp12 := f_X3_readNot_2_p (x0 + 1) s6 (by omega) hm_s6 hTK_s6 hRCO_s6 (by first | assumption | omega) r10 s11 hs11
      obtain ⟨hfc_s11, hm_s11, hp13, hTK_s11, hRCO_s11⟩ := hp12
      have hf_s11 : fr [34, 53, 54, 55, 56, 57, 58] s0 s11 := hf_s6.call (by decide) hfc_s11
      obtain ⟨r15, s16, hs16⟩ : ∃ rr ss, (f_X3_emit (-14) s11) = (rr, ss) := ⟨_, _, rfl⟩
      replace hT := gby hT hs16
      have hp17 := f_X3_emit_p (-14) s11 (by omega) hm_s11 hTK_s11 hRCO_s11 (by first | assumption | omega) r15 s16 hs16
      obtain ⟨hfc_s16, hm_s16, hp18, hTK_s16, hRCO_s16⟩ := hp17
      have hf_s16 : fr [34, 53, 54, 55, 56, 57, 58] s0 s16 := hf_s11.call (by decide) hfc_s16
      obtain ⟨rfl, rfl⟩ := Prod.mk.inj (hT.symm.trans hres)
      exact ⟨hf_s16, hm_s16, trivial, hTK_s16, hRCO_s16⟩
    · replace hT := hT.trans (if_neg h3)
      obtain ⟨r20, s21, hs21⟩ : ∃ rr ss, (f_X3_fail  s0) = (rr, ss) := ⟨_, _, rfl⟩
      replace hT := gby hT hs21
      have hp22 := f_X3_fail_p  s0  hm_s0 hTK_s0 r20 s21 hs21
      obtain ⟨hfc_s21, hm_s21, hp23, hTK_s21, hp24⟩ := hp22
      have hf_s21 : fr [34, 53, 54, 55, 56, 57, 58] s0 s21 := hf_s0.call (by decide) hfc_s21
      have hRCO_s21 : RCO s21 := RCO_fr hRCO_s0 (fun k hk => hfc_s21 k (dj (by decide) k hk))
      obtain ⟨rfl, rfl⟩ := Prod.mk.inj (hT.symm.trans hres)
      exact ⟨hf_s21, hm_s21, trivial, hTK_s21, hRCO_s21⟩
  · replace hT := hT.trans (if_neg h2)
    obtain ⟨r26, s27, hs27⟩ : ∃ rr ss, (f_X3_readCompared_3 x0 s0) = (rr, ss) := ⟨_, _, rfl⟩
    replace hT := gby hT hs27
    have hp28 := f_X3_readCompared_3_p x0 s0 (by omega) hm_s0 hTK_s0 hRCO_s0 (by first | assumption | omega) r26 s27 hs27
    obtain ⟨hfc_s27, hm_s27, hp29, hTK_s27, hRCO_s27⟩ := hp28
    have hf_s27 : fr [34, 53, 54, 55, 56, 57, 58] s0 s27 := hf_s0.call (by decide) hfc_s27
    obtain ⟨rfl, rfl⟩ := Prod.mk.inj (hT.symm.trans hres)
    exact ⟨hf_s27, hm_s27, trivial, hTK_s27, hRCO_s27⟩
set_option maxRecDepth 100000 in
set_option maxHeartbeats 4000000 in
theorem c_X3_readNot_3 (l : Launch) (D : va_G) (a : Nat → Nat) (cI cJ cS cT : ClassId) (adK adV : Nat → Nat) (kA : Nat) (s0 : gMem) (x0 : Int) (hx0 : in32 x0) (hpre0 : TK s0) (hpre1 : RCO s0) (hpre2 : x0 = 2) : gCS l yX3_readNot cX3_readNot 2 none 33 2112 D vwCl (gT cI cJ cS cT) (wdX a cI cJ cS cT) lgX kV rgV [.ref (a 2), gI x0] s0 (f_X3_readNot_3 x0 s0) adK adV kA := by
  refine gCS_of (by decide +kernel) (hwdX a cI cJ cS cT) (Nat.le_of_ble_eq_true rfl) ?_
  intro A p e R s m args below meth c hR E HX
  subst hR
  have hT := f_X3_readNot_3_e x0 s0
  have hf_s0 : fr [34, 53, 54, 55, 56, 57, 58] s0 s0 := fr.rf _ _
  refine k_lv0 (lv' := [(0, .ref (a 2)), (1, gI x0)]) rfl ?_
  refine k_mr (fun hm_s0 => ?_)
  have hTK_s0 := hpre0
  have hRCO_s0 := hpre1
  refine k_aloadn (pc := 0) E 0 dX3_readNot_0 rfl rfl ?_
  refine k_getfI (pc := 1) (q0 := 2) (f := 6) (k := 55) E inX3 rfl rfl (by decide) wm_65 rfl rfl rfl dX3_readNot_1 (fun hr1 => ?_)
  refine k_sipush (pc := 4) E dX3_readNot_4 (by decide) ?_
  by_cases h2 : (s0 55 0) = 261
  · replace hT := hT.trans (if_pos h2)
    refine k_icmp_eq_t (pc := 7) (tgt := 18) E (by omega) (by omega) dX3_readNot_7 (by decide) h2 ?_
    refine k_iloadn (pc := 18) E 1 dX3_readNot_18 rfl rfl ?_
    refine k_iconst (pc := 19) E dX3_readNot_19 ?_
    by_cases h3 : x0 < 5
    · replace hT := hT.trans (if_pos h3)
      refine k_icmp_lt_t (pc := 20) (tgt := 30) E (by omega) (by omega) dX3_readNot_20 (by decide) h3 ?_
      refine k_aloadn (pc := 30) E 0 dX3_readNot_30 rfl rfl ?_
      refine k_mr (fun hm_s0 => ?_)
      refine k_callVX (pc := 31) (np := 0) (As := []) (st := []) (q0 := 2) E HX rfl rfl (c_X3_next l D a cI cJ cS cT adK adV kA s0  hTK_s0) wm_336 wm_3 wm_333 wm_335 wp_0 (by decide +kernel) ⟨by decide, by decide⟩ rfl (Nat.le_of_ble_eq_true rfl) dX3_readNot_31 (fun r5 s6 hs6 hr4 => ?_)
      replace hT := gby hT hs6
      have hp7 := f_X3_next_p  s0  hm_s0 hTK_s0 r5 s6 hs6
      obtain ⟨hfc_s6, hm_s6, hp8, hTK_s6⟩ := hp7
      have hf_s6 : fr [34, 53, 54, 55, 56, 57, 58] s0 s6 := hf_s0.call (by decide) hfc_s6
      have hRCO_s6 : RCO s6 := RCO_fr hRCO_s0 (fun k hk => hfc_s6 k (dj (by decide) k hk))
      refine k_st (st' := []) rfl ?_
      refine k_aloadn (pc := 34) E 0 dX3_readNot_34 rfl rfl ?_
      refine k_iloadn (pc := 35) E 1 dX3_readNot_35 rfl rfl ?_
      refine k_iconst (pc := 36) E dX3_readNot_36 ?_
      refine k_iadd (pc := 37) E dX3_readNot_37 ?_
      refine k_mr (fun hm_s6 => ?_)
      refine k_callVX (pc := 38) (np := 1) (As := [gI (x0 + 1)]) (st := []) (q0 := 2) E HX rfl rfl (c_X3_readNot_2 l D a cI cJ cS cT adK adV kA s6 (x0 + 1) (by omega) hTK_s6 hRCO_s6 (by first | assumption | omega)) wm_440 wm_3 wm_437 wm_439 wp_8 (by decide +kernel) ⟨by decide, by decide⟩ rfl (Nat.le_of_ble_eq_true rfl) dX3_readNot_38 (fun r10 s11 hs11 hr9 => ?_)
      replace hT := gby hT hs11
      have hp12 := f_X3_readNot_2_p (x0 + 1) s6 (by omega) hm_s6 hTK_s6 hRCO_s6 (by first | assumption | omega) r10 s11 hs11
      obtain ⟨hfc_s11, hm_s11, hp13, hTK_s11, hRCO_s11⟩ := hp12
      have hf_s11 : fr [34, 53, 54, 55, 56, 57, 58] s0 s11 := hf_s6.call (by decide) hfc_s11
      refine k_st (st' := []) rfl ?_
      refine k_aloadn (pc := 41) E 0 dX3_readNot_41 rfl rfl ?_
      refine k_bipush (pc := 42) E dX3_readNot_42 (by decide) ?_
      refine k_mr (fun hm_s11 => ?_)
      refine k_callV (pc := 44) (np := 1) (As := [gI (-14)]) (st := []) (q0 := 2) E (c_X3_emit l D a cI cJ cS cT s11 (-14) (by omega) hTK_s11 hRCO_s11 (by first | assumption | omega)) wm_460 wm_3 wm_457 wm_459 wp_13 (by decide +kernel) rfl rfl ⟨by decide, by decide⟩ rfl (Nat.le_of_ble_eq_true rfl) dX3_readNot_44 (fun r15 s16 hs16 hr14 => ?_)
      replace hT := gby hT hs16
      have hp17 := f_X3_emit_p (-14) s11 (by omega) hm_s11 hTK_s11 hRCO_s11 (by first | assumption | omega) r15 s16 hs16
      obtain ⟨hfc_s16, hm_s16, hp18, hTK_s16, hRCO_s16⟩ := hp17
      have hf_s16 : fr [34, 53, 54, 55, 56, 57, 58] s0 s16 := hf_s11.call (by decide) hfc_s16
      refine k_st (st' := []) rfl ?_
      exact k_rho hT (k_vret (pc := 47) E dX3_readNot_47)
    · replace hT := hT.trans (if_neg h3)
      refine k_icmp_lt_f (pc := 20) (tgt := 30) E (by omega) (by omega) dX3_readNot_20 (by decide) h3 ?_
      refine k_aloadn (pc := 23) E 0 dX3_readNot_23 rfl rfl ?_
      refine k_mr (fun hm_s0 => ?_)
      refine k_callV (pc := 24) (np := 0) (As := []) (st := []) (q0 := 2) E (c_X3_fail l D a cI cJ cS cT s0  hTK_s0) wm_428 wm_3 wm_425 wm_427 wp_5 (by decide +kernel) rfl rfl ⟨by decide, by decide⟩ rfl (Nat.le_of_ble_eq_true rfl) dX3_readNot_24 (fun r20 s21 hs21 hr19 => ?_)
      replace hT := gby hT hs21
      have hp22 := f_X3_fail_p  s0  hm_s0 hTK_s0 r20 s21 hs21
      obtain ⟨hfc_s21, hm_s21, hp23, hTK_s21, hp24⟩ := hp22
      have hf_s21 : fr [34, 53, 54, 55, 56, 57, 58] s0 s21 := hf_s0.call (by decide) hfc_s21
      have hRCO_s21 : RCO s21 := RCO_fr hRCO_s0 (fun k hk => hfc_s21 k (dj (by decide) k hk))
      refine k_st (st' := []) rfl ?_
      refine k_goto (pc := 27) (tgt := 47) E dX3_readNot_27 (by decide) ?_
      exact k_rho hT (k_vret (pc := 47) E dX3_readNot_47)
  · replace hT := hT.trans (if_neg h2)
    refine k_icmp_eq_f (pc := 7) (tgt := 18) E (by omega) (by omega) dX3_readNot_7 (by decide) h2 ?_
    refine k_aloadn (pc := 10) E 0 dX3_readNot_10 rfl rfl ?_
    refine k_iloadn (pc := 11) E 1 dX3_readNot_11 rfl rfl ?_
    refine k_mr (fun hm_s0 => ?_)
    refine k_callVX (pc := 12) (np := 1) (As := [gI x0]) (st := []) (q0 := 2) E HX rfl rfl (c_X3_readCompared_3 l D a cI cJ cS cT adK adV kA s0 x0 (by omega) hTK_s0 hRCO_s0 (by first | assumption | omega)) wm_444 wm_3 wm_441 wm_443 wp_9 (by decide +kernel) ⟨by decide, by decide⟩ rfl (Nat.le_of_ble_eq_true rfl) dX3_readNot_12 (fun r26 s27 hs27 hr25 => ?_)
    replace hT := gby hT hs27
    have hp28 := f_X3_readCompared_3_p x0 s0 (by omega) hm_s0 hTK_s0 hRCO_s0 (by first | assumption | omega) r26 s27 hs27
    obtain ⟨hfc_s27, hm_s27, hp29, hTK_s27, hRCO_s27⟩ := hp28
    have hf_s27 : fr [34, 53, 54, 55, 56, 57, 58] s0 s27 := hf_s0.call (by decide) hfc_s27
    refine k_st (st' := []) rfl ?_
    refine k_goto (pc := 15) (tgt := 47) E dX3_readNot_15 (by decide) ?_
    exact k_rho hT (k_vret (pc := 47) E dX3_readNot_47)

def w_X3_readAnd_3_7 (c1 : Int) : Nat → Int → gMem → Int × gMem
  | 0, v6, s7 => (v6, s7)
  | n8 + 1, v6, s7 => (if v6 < 160 then (if (s7 55 0) = 260 then gb (f_X3_next  s7) (fun r13 s14 => gb (f_X3_readNot_3 c1 s14) (fun r18 s19 => gb (f_X3_emit (-8) s19) (fun r23 s24 => (w_X3_readAnd_3_7 c1 n8 (v6 + 1) s24)))) else (v6, s7)) else (v6, s7))
theorem w_X3_readAnd_3_7_s (c1 : Int) (n8 : Nat) (v6 : Int) (s7 : gMem) : w_X3_readAnd_3_7 c1 (n8 + 1) v6 s7 = (if v6 < 160 then (if (s7 55 0) = 260 then gb (f_X3_next  s7) (fun r13 s14 => gb (f_X3_readNot_3 c1 s14) (fun r18 s19 => gb (f_X3_emit (-8) s19) (fun r23 s24 => (w_X3_readAnd_3_7 c1 n8 (v6 + 1) s24)))) else (v6, s7)) else (v6, s7)) := rfl
def f_X3_readAnd_3 (x0 : Int) (s0 : gMem) : gRes := gb (f_X3_readNot_3 x0 s0) (fun r2 s3 => (gl2 (w_X3_readAnd_3_7 x0 161 0 s3) (fun v55 s56 => (0, s56))))
theorem f_X3_readAnd_3_e (x0 : Int) (s0 : gMem) : f_X3_readAnd_3 x0 s0 = gb (f_X3_readNot_3 x0 s0) (fun r2 s3 => (gl2 (w_X3_readAnd_3_7 x0 161 0 s3) (fun v55 s56 => (0, s56)))) := rfl
set_option maxRecDepth 100000 in
set_option maxHeartbeats 4000000 in
theorem f_X3_readAnd_3_p (x0 : Int) (s0 : gMem) (hx0 : in32 x0) (hm_s0 : gMR lgX s0) (hpre0 : TK s0) (hpre1 : RCO s0) (hpre2 : x0 = 2) (rZ : Int) (sZ : gMem) (hres : f_X3_readAnd_3 x0 s0 = (rZ, sZ)) : (fr [34, 53, 54, 55, 56, 57, 58] s0 sZ) ∧ (gMR lgX sZ) ∧ (True) ∧ (TK sZ) ∧ (RCO sZ) := by
  have hT := f_X3_readAnd_3_e x0 s0
  have hf_s0 : fr [34, 53, 54, 55, 56, 57, 58] s0 s0 := fr.rf _ _
  have hTK_s0 := hpre0
  have hRCO_s0 := hpre1
  obtain ⟨r2, s3, hs3⟩ : ∃ rr ss, (f_X3_readNot_3 x0 s0) = (rr, ss) := ⟨_, _, rfl⟩
  replace hT := gby hT hs3
  have hp4 := f_X3_readNot_3_p x0 s0 (by omega) hm_s0 hTK_s0 hRCO_s0 (by first | assumption | omega) r2 s3 hs3
  obtain ⟨hfc_s3, hm_s3, hp5, hTK_s3, hRCO_s3⟩ := hp4
  have hf_s3 : fr [34, 53, 54, 55, 56, 57, 58] s0 s3 := hf_s0.call (by decide) hfc_s3
  have L29 : ∀ (n30 : Nat) (v27 : Int) (s28 : gMem), ((in32 v27) ∧ (fr [34, 53, 54, 55, 56, 57, 58] s0 s28) ∧ (gMR lgX s28) ∧ (TK s28) ∧ (RCO s28) ∧ (0 ≤ v27 ∧ v27 ≤ 160)) → 160 - v27 < (n30 : Int) → (∀ (w31 : Int) (s32 : gMem), (w_X3_readAnd_3_7 x0 n30 v27 s28) = (w31, s32) → ((in32 w31) ∧ (fr [34, 53, 54, 55, 56, 57, 58] s0 s32) ∧ (gMR lgX s32) ∧ (TK s32) ∧ (RCO s32) ∧ (0 ≤ w31 ∧ w31 ≤ 160)) → (fr [34, 53, 54, 55, 56, 57, 58] s0 sZ) ∧ (gMR lgX sZ) ∧ (True) ∧ (TK sZ) ∧ (RCO sZ)) → (fr [34, 53, 54, 55, 56, 57, 58] s0 sZ) ∧ (gMR lgX sZ) ∧ (True) ∧ (TK sZ) ∧ (RCO sZ) := by
    intro n30; induction n30 with
    | zero =>
      intro v27 s28 hq hm hk
      exfalso
      obtain ⟨hq51, hf_s28, hm_s28, hTK_s28, hRCO_s28, hq52⟩ := hq
      omega
    | succ n30 ih =>
      intro v27 s28 hq hm hk
      obtain ⟨hq53, hf_s28, hm_s28, hTK_s28, hRCO_s28, hq54⟩ := hq
      have hT := w_X3_readAnd_3_7_s x0 n30 v27 s28
      by_cases h33 : v27 < 160
      · replace hT := hT.trans (if_pos h33)
        have hr34 := (hm_s28 55 0).1 rfl
        by_cases h35 : (s28 55 0) = 260
        · replace hT := hT.trans (if_pos h35)
          obtain ⟨r37, s38, hs38⟩ : ∃ rr ss, (f_X3_next  s28) = (rr, ss) := ⟨_, _, rfl⟩
          replace hT := gby hT hs38
          have hp39 := f_X3_next_p  s28  hm_s28 hTK_s28 r37 s38 hs38
          obtain ⟨hfc_s38, hm_s38, hp40, hTK_s38⟩ := hp39
          have hf_s38 : fr [34, 53, 54, 55, 56, 57, 58] s0 s38 := hf_s28.call (by decide) hfc_s38
          have hRCO_s38 : RCO s38 := RCO_fr hRCO_s28 (fun k hk => hfc_s38 k (dj (by decide) k hk))
          obtain ⟨r42, s43, hs43⟩ : ∃ rr ss, (f_X3_readNot_3 x0 s38) = (rr, ss) := ⟨_, _, rfl⟩
          replace hT := gby hT hs43
          have hp44 := f_X3_readNot_3_p x0 s38 (by omega) hm_s38 hTK_s38 hRCO_s38 (by first | assumption | omega) r42 s43 hs43
          obtain ⟨hfc_s43, hm_s43, hp45, hTK_s43, hRCO_s43⟩ := hp44
          have hf_s43 : fr [34, 53, 54, 55, 56, 57, 58] s0 s43 := hf_s38.call (by decide) hfc_s43
          obtain ⟨r47, s48, hs48⟩ : ∃ rr ss, (f_X3_emit (-8) s43) = (rr, ss) := ⟨_, _, rfl⟩
          replace hT := gby hT hs48
          have hp49 := f_X3_emit_p (-8) s43 (by omega) hm_s43 hTK_s43 hRCO_s43 (by first | assumption | omega) r47 s48 hs48
          obtain ⟨hfc_s48, hm_s48, hp50, hTK_s48, hRCO_s48⟩ := hp49
          have hf_s48 : fr [34, 53, 54, 55, 56, 57, 58] s0 s48 := hf_s43.call (by decide) hfc_s48
          exact ih (v27 + 1) s48 ⟨(by omega), hf_s48, hm_s48, hTK_s48, hRCO_s48, (by first | assumption | omega)⟩ (by omega) (fun w31 s32 hw hi => hk w31 s32 (hT.trans hw) hi)
        · replace hT := hT.trans (if_neg h35)
          exact hk v27 s28 hT ⟨(by omega), hf_s28, hm_s28, hTK_s28, hRCO_s28, (by first | assumption | omega)⟩
      · replace hT := hT.trans (if_neg h33)
        exact hk v27 s28 hT ⟨(by omega), hf_s28, hm_s28, hTK_s28, hRCO_s28, (by first | assumption | omega)⟩
  refine L29 161 0 s3 ⟨(by omega), hf_s3, hm_s3, hTK_s3, hRCO_s3, (by first | assumption | omega)⟩ (by omega) (fun v55 s56 hw hq => ?_)
  obtain ⟨hq57, hf_s56, hm_s56, hTK_s56, hRCO_s56, hq58⟩ := hq
  replace hT := gl2y hT hw
  obtain ⟨rfl, rfl⟩ := Prod.mk.inj (hT.symm.trans hres)
  exact ⟨hf_s56, hm_s56, trivial, hTK_s56, hRCO_s56⟩
set_option maxRecDepth 100000 in
set_option maxHeartbeats 4000000 in
theorem c_X3_readAnd_3 (l : Launch) (D : va_G) (a : Nat → Nat) (cI cJ cS cT : ClassId) (adK adV : Nat → Nat) (kA : Nat) (s0 : gMem) (x0 : Int) (hx0 : in32 x0) (hpre0 : TK s0) (hpre1 : RCO s0) (hpre2 : x0 = 2) : gCS l yX3_readAnd cX3_readAnd 3 none 34 2176 D vwCl (gT cI cJ cS cT) (wdX a cI cJ cS cT) lgX kV rgV [.ref (a 2), gI x0] s0 (f_X3_readAnd_3 x0 s0) adK adV kA := by
  refine gCS_of (by decide +kernel) (hwdX a cI cJ cS cT) (Nat.le_of_ble_eq_true rfl) ?_
  intro A p e R s m args below meth c hR E HX
  subst hR
  have hT := f_X3_readAnd_3_e x0 s0
  have hf_s0 : fr [34, 53, 54, 55, 56, 57, 58] s0 s0 := fr.rf _ _
  refine k_lv0 (lv' := [(0, .ref (a 2)), (1, gI x0)]) rfl ?_
  refine k_mr (fun hm_s0 => ?_)
  have hTK_s0 := hpre0
  have hRCO_s0 := hpre1
  refine k_aloadn (pc := 0) E 0 dX3_readAnd_0 rfl rfl ?_
  refine k_iloadn (pc := 1) E 1 dX3_readAnd_1 rfl rfl ?_
  refine k_mr (fun hm_s0 => ?_)
  refine k_callVX (pc := 2) (np := 1) (As := [gI x0]) (st := []) (q0 := 2) E HX rfl rfl (c_X3_readNot_3 l D a cI cJ cS cT adK adV kA s0 x0 (by omega) hTK_s0 hRCO_s0 (by first | assumption | omega)) wm_440 wm_3 wm_437 wm_439 wp_8 (by decide +kernel) ⟨by decide, by decide⟩ rfl (Nat.le_of_ble_eq_true rfl) dX3_readAnd_2 (fun r2 s3 hs3 hr1 => ?_)
  replace hT := gby hT hs3
  have hp4 := f_X3_readNot_3_p x0 s0 (by omega) hm_s0 hTK_s0 hRCO_s0 (by first | assumption | omega) r2 s3 hs3
  obtain ⟨hfc_s3, hm_s3, hp5, hTK_s3, hRCO_s3⟩ := hp4
  have hf_s3 : fr [34, 53, 54, 55, 56, 57, 58] s0 s3 := hf_s0.call (by decide) hfc_s3
  refine k_st (st' := []) rfl ?_
  refine k_iconst (pc := 5) E dX3_readAnd_5 ?_
  refine k_istoren (pc := 6) (lv' := [(2, gI 0), (0, .ref (a 2)), (1, gI x0)]) E dX3_readAnd_6 rfl (by decide) rfl ?_
  have L29 : ∀ (n30 : Nat) (v27 : Int) (s28 : gMem), ((in32 v27) ∧ (fr [34, 53, 54, 55, 56, 57, 58] s0 s28) ∧ (TK s28) ∧ (RCO s28) ∧ (0 ≤ v27 ∧ v27 ≤ 160)) → 160 - v27 < (n30 : Int) → (∀ (w31 : Int) (s32 : gMem), (w_X3_readAnd_3_7 x0 n30 v27 s28) = (w31, s32) → ((in32 w31) ∧ (fr [34, 53, 54, 55, 56, 57, 58] s0 s32) ∧ (TK s32) ∧ (RCO s32) ∧ (0 ≤ w31 ∧ w31 ≤ 160)) → gK D vwCl (wdX a cI cJ cS cT) lgX A p l e { frames := 34, cells := 0, slots := 0, locals := 2176 } s m args below meth c 3 (gQQ D vwCl (wdX a cI cJ cS cT) lgX A kV rgV below args s) (f_X3_readAnd_3 x0 s0) s32 45 [] []) → gK D vwCl (wdX a cI cJ cS cT) lgX A p l e { frames := 34, cells := 0, slots := 0, locals := 2176 } s m args below meth c 3 (gQQ D vwCl (wdX a cI cJ cS cT) lgX A kV rgV below args s) (f_X3_readAnd_3 x0 s0) s28 7 [(0, .ref (a 2)), (1, gI x0), (2, gI v27)] [] := by
    intro n30; induction n30 with
    | zero =>
      intro v27 s28 hq hm hk
      exfalso
      obtain ⟨hq51, hf_s28, hTK_s28, hRCO_s28, hq52⟩ := hq
      omega
    | succ n30 ih =>
      intro v27 s28 hq hm hk
      obtain ⟨hq53, hf_s28, hTK_s28, hRCO_s28, hq54⟩ := hq
      have hT := w_X3_readAnd_3_7_s x0 n30 v27 s28
      refine k_iloadn (pc := 7) E 2 dX3_readAnd_7 rfl rfl ?_
      refine k_sipush (pc := 8) E dX3_readAnd_8 (by decide) ?_
      by_cases h33 : v27 < 160
      · replace hT := hT.trans (if_pos h33)
        refine k_icmp_ge_f (pc := 11) (tgt := 45) E (by omega) (by omega) dX3_readAnd_11 (by decide) h33 ?_
        refine k_aloadn (pc := 14) E 0 dX3_readAnd_14 rfl rfl ?_
        refine k_getfI (pc := 15) (q0 := 2) (f := 6) (k := 55) E inX3 rfl rfl (by decide) wm_65 rfl rfl rfl dX3_readAnd_15 (fun hr34 => ?_)
        refine k_sipush (pc := 18) E dX3_readAnd_18 (by decide) ?_
        by_cases h35 : (s28 55 0) = 260
        · replace hT := hT.trans (if_pos h35)
          refine k_icmp_ne_f (pc := 21) (tgt := 45) E (by omega) (by omega) dX3_readAnd_21 (by decide) h35 ?_
          refine k_aloadn (pc := 24) E 0 dX3_readAnd_24 rfl rfl ?_
          refine k_mr (fun hm_s28 => ?_)
          refine k_callVX (pc := 25) (np := 0) (As := []) (st := []) (q0 := 2) E HX rfl rfl (c_X3_next l D a cI cJ cS cT adK adV kA s28  hTK_s28) wm_336 wm_3 wm_333 wm_335 wp_0 (by decide +kernel) ⟨by decide, by decide⟩ rfl (Nat.le_of_ble_eq_true rfl) dX3_readAnd_25 (fun r37 s38 hs38 hr36 => ?_)
          replace hT := gby hT hs38
          have hp39 := f_X3_next_p  s28  hm_s28 hTK_s28 r37 s38 hs38
          obtain ⟨hfc_s38, hm_s38, hp40, hTK_s38⟩ := hp39
          have hf_s38 : fr [34, 53, 54, 55, 56, 57, 58] s0 s38 := hf_s28.call (by decide) hfc_s38
          have hRCO_s38 : RCO s38 := RCO_fr hRCO_s28 (fun k hk => hfc_s38 k (dj (by decide) k hk))
          refine k_st (st' := []) rfl ?_
          refine k_aloadn (pc := 28) E 0 dX3_readAnd_28 rfl rfl ?_
          refine k_iloadn (pc := 29) E 1 dX3_readAnd_29 rfl rfl ?_
          refine k_mr (fun hm_s38 => ?_)
          refine k_callVX (pc := 30) (np := 1) (As := [gI x0]) (st := []) (q0 := 2) E HX rfl rfl (c_X3_readNot_3 l D a cI cJ cS cT adK adV kA s38 x0 (by omega) hTK_s38 hRCO_s38 (by first | assumption | omega)) wm_440 wm_3 wm_437 wm_439 wp_8 (by decide +kernel) ⟨by decide, by decide⟩ rfl (Nat.le_of_ble_eq_true rfl) dX3_readAnd_30 (fun r42 s43 hs43 hr41 => ?_)
          replace hT := gby hT hs43
          have hp44 := f_X3_readNot_3_p x0 s38 (by omega) hm_s38 hTK_s38 hRCO_s38 (by first | assumption | omega) r42 s43 hs43
          obtain ⟨hfc_s43, hm_s43, hp45, hTK_s43, hRCO_s43⟩ := hp44
          have hf_s43 : fr [34, 53, 54, 55, 56, 57, 58] s0 s43 := hf_s38.call (by decide) hfc_s43
          refine k_st (st' := []) rfl ?_
          refine k_aloadn (pc := 33) E 0 dX3_readAnd_33 rfl rfl ?_
          refine k_bipush (pc := 34) E dX3_readAnd_34 (by decide) ?_
          refine k_mr (fun hm_s43 => ?_)
          refine k_callV (pc := 36) (np := 1) (As := [gI (-8)]) (st := []) (q0 := 2) E (c_X3_emit l D a cI cJ cS cT s43 (-8) (by omega) hTK_s43 hRCO_s43 (by first | assumption | omega)) wm_460 wm_3 wm_457 wm_459 wp_13 (by decide +kernel) rfl rfl ⟨by decide, by decide⟩ rfl (Nat.le_of_ble_eq_true rfl) dX3_readAnd_36 (fun r47 s48 hs48 hr46 => ?_)
          replace hT := gby hT hs48
          have hp49 := f_X3_emit_p (-8) s43 (by omega) hm_s43 hTK_s43 hRCO_s43 (by first | assumption | omega) r47 s48 hs48
          obtain ⟨hfc_s48, hm_s48, hp50, hTK_s48, hRCO_s48⟩ := hp49
          have hf_s48 : fr [34, 53, 54, 55, 56, 57, 58] s0 s48 := hf_s43.call (by decide) hfc_s48
          refine k_st (st' := []) rfl ?_
          refine k_iinc (pc := 39) (lv' := [(2, gI (v27 + 1)), (0, .ref (a 2)), (1, gI x0)]) E 2 dX3_readAnd_39 rfl (by decide) rfl ?_
          refine k_goto (pc := 42) (tgt := 7) E dX3_readAnd_42 (by decide) ?_
          refine k_lv (lv' := [(0, .ref (a 2)), (1, gI x0), (2, gI (v27 + 1))]) [1, 2, 0] rfl ?_
          exact ih (v27 + 1) s48 ⟨(by omega), hf_s48, hTK_s48, hRCO_s48, (by first | assumption | omega)⟩ (by omega) (fun w31 s32 hw hi => hk w31 s32 (hT.trans hw) hi)
        · replace hT := hT.trans (if_neg h35)
          refine k_icmp_ne_t (pc := 21) (tgt := 45) E (by omega) (by omega) dX3_readAnd_21 (by decide) h35 ?_
          refine k_lv (lv' := []) [] rfl ?_
          exact hk v27 s28 hT ⟨(by omega), hf_s28, hTK_s28, hRCO_s28, (by first | assumption | omega)⟩
      · replace hT := hT.trans (if_neg h33)
        refine k_icmp_ge_t (pc := 11) (tgt := 45) E (by omega) (by omega) dX3_readAnd_11 (by decide) h33 ?_
        refine k_lv (lv' := []) [] rfl ?_
        exact hk v27 s28 hT ⟨(by omega), hf_s28, hTK_s28, hRCO_s28, (by first | assumption | omega)⟩
  refine k_lv (lv' := [(0, .ref (a 2)), (1, gI x0), (2, gI 0)]) [1, 2, 0] rfl ?_
  refine L29 161 0 s3 ⟨(by omega), hf_s3, hTK_s3, hRCO_s3, (by first | assumption | omega)⟩ (by omega) (fun v55 s56 hw hq => ?_)
  obtain ⟨hq57, hf_s56, hTK_s56, hRCO_s56, hq58⟩ := hq
  replace hT := gl2y hT hw
  exact k_rho hT (k_vret (pc := 45) E dX3_readAnd_45)

def w_X3_readOr_3_7 (c1 : Int) : Nat → Int → gMem → Int × gMem
  | 0, v6, s7 => (v6, s7)
  | n8 + 1, v6, s7 => (if v6 < 160 then (if (s7 55 0) = 259 then gb (f_X3_next  s7) (fun r13 s14 => gb (f_X3_readAnd_3 c1 s14) (fun r18 s19 => gb (f_X3_emit (-7) s19) (fun r23 s24 => (w_X3_readOr_3_7 c1 n8 (v6 + 1) s24)))) else (v6, s7)) else (v6, s7))
theorem w_X3_readOr_3_7_s (c1 : Int) (n8 : Nat) (v6 : Int) (s7 : gMem) : w_X3_readOr_3_7 c1 (n8 + 1) v6 s7 = (if v6 < 160 then (if (s7 55 0) = 259 then gb (f_X3_next  s7) (fun r13 s14 => gb (f_X3_readAnd_3 c1 s14) (fun r18 s19 => gb (f_X3_emit (-7) s19) (fun r23 s24 => (w_X3_readOr_3_7 c1 n8 (v6 + 1) s24)))) else (v6, s7)) else (v6, s7)) := rfl
def f_X3_readOr_3 (x0 : Int) (s0 : gMem) : gRes := gb (f_X3_readAnd_3 x0 s0) (fun r2 s3 => (gl2 (w_X3_readOr_3_7 x0 161 0 s3) (fun v55 s56 => (0, s56))))
theorem f_X3_readOr_3_e (x0 : Int) (s0 : gMem) : f_X3_readOr_3 x0 s0 = gb (f_X3_readAnd_3 x0 s0) (fun r2 s3 => (gl2 (w_X3_readOr_3_7 x0 161 0 s3) (fun v55 s56 => (0, s56)))) := rfl
set_option maxRecDepth 100000 in
set_option maxHeartbeats 4000000 in
theorem f_X3_readOr_3_p (x0 : Int) (s0 : gMem) (hx0 : in32 x0) (hm_s0 : gMR lgX s0) (hpre0 : TK s0) (hpre1 : RCO s0) (hpre2 : x0 = 2) (rZ : Int) (sZ : gMem) (hres : f_X3_readOr_3 x0 s0 = (rZ, sZ)) : (fr [34, 53, 54, 55, 56, 57, 58] s0 sZ) ∧ (gMR lgX sZ) ∧ (True) ∧ (TK sZ) ∧ (RCO sZ) := by
  have hT := f_X3_readOr_3_e x0 s0
  have hf_s0 : fr [34, 53, 54, 55, 56, 57, 58] s0 s0 := fr.rf _ _
  have hTK_s0 := hpre0
  have hRCO_s0 := hpre1
  obtain ⟨r2, s3, hs3⟩ : ∃ rr ss, (f_X3_readAnd_3 x0 s0) = (rr, ss) := ⟨_, _, rfl⟩
  replace hT := gby hT hs3
  have hp4 := f_X3_readAnd_3_p x0 s0 (by omega) hm_s0 hTK_s0 hRCO_s0 (by first | assumption | omega) r2 s3 hs3
  obtain ⟨hfc_s3, hm_s3, hp5, hTK_s3, hRCO_s3⟩ := hp4
  have hf_s3 : fr [34, 53, 54, 55, 56, 57, 58] s0 s3 := hf_s0.call (by decide) hfc_s3
  have L29 : ∀ (n30 : Nat) (v27 : Int) (s28 : gMem), ((in32 v27) ∧ (fr [34, 53, 54, 55, 56, 57, 58] s0 s28) ∧ (gMR lgX s28) ∧ (TK s28) ∧ (RCO s28) ∧ (0 ≤ v27 ∧ v27 ≤ 160)) → 160 - v27 < (n30 : Int) → (∀ (w31 : Int) (s32 : gMem), (w_X3_readOr_3_7 x0 n30 v27 s28) = (w31, s32) → ((in32 w31) ∧ (fr [34, 53, 54, 55, 56, 57, 58] s0 s32) ∧ (gMR lgX s32) ∧ (TK s32) ∧ (RCO s32) ∧ (0 ≤ w31 ∧ w31 ≤ 160)) → (fr [34, 53, 54, 55, 56, 57, 58] s0 sZ) ∧ (gMR lgX sZ) ∧ (True) ∧ (TK sZ) ∧ (RCO sZ)) → (fr [34, 53, 54, 55, 56, 57, 58] s0 sZ) ∧ (gMR lgX sZ) ∧ (True) ∧ (TK sZ) ∧ (RCO sZ) := by
    intro n30; induction n30 with
    | zero =>
      intro v27 s28 hq hm hk
      exfalso
      obtain ⟨hq51, hf_s28, hm_s28, hTK_s28, hRCO_s28, hq52⟩ := hq
      omega
    | succ n30 ih =>
      intro v27 s28 hq hm hk
      obtain ⟨hq53, hf_s28, hm_s28, hTK_s28, hRCO_s28, hq54⟩ := hq
      have hT := w_X3_readOr_3_7_s x0 n30 v27 s28
      by_cases h33 : v27 < 160
      · replace hT := hT.trans (if_pos h33)
        have hr34 := (hm_s28 55 0).1 rfl
        by_cases h35 : (s28 55 0) = 259
        · replace hT := hT.trans (if_pos h35)
          obtain ⟨r37, s38, hs38⟩ : ∃ rr ss, (f_X3_next  s28) = (rr, ss) := ⟨_, _, rfl⟩
          replace hT := gby hT hs38
          have hp39 := f_X3_next_p  s28  hm_s28 hTK_s28 r37 s38 hs38
          obtain ⟨hfc_s38, hm_s38, hp40, hTK_s38⟩ := hp39
          have hf_s38 : fr [34, 53, 54, 55, 56, 57, 58] s0 s38 := hf_s28.call (by decide) hfc_s38
          have hRCO_s38 : RCO s38 := RCO_fr hRCO_s28 (fun k hk => hfc_s38 k (dj (by decide) k hk))
          obtain ⟨r42, s43, hs43⟩ : ∃ rr ss, (f_X3_readAnd_3 x0 s38) = (rr, ss) := ⟨_, _, rfl⟩
          replace hT := gby hT hs43
          have hp44 := f_X3_readAnd_3_p x0 s38 (by omega) hm_s38 hTK_s38 hRCO_s38 (by first | assumption | omega) r42 s43 hs43
          obtain ⟨hfc_s43, hm_s43, hp45, hTK_s43, hRCO_s43⟩ := hp44
          have hf_s43 : fr [34, 53, 54, 55, 56, 57, 58] s0 s43 := hf_s38.call (by decide) hfc_s43
          obtain ⟨r47, s48, hs48⟩ : ∃ rr ss, (f_X3_emit (-7) s43) = (rr, ss) := ⟨_, _, rfl⟩
          replace hT := gby hT hs48
          have hp49 := f_X3_emit_p (-7) s43 (by omega) hm_s43 hTK_s43 hRCO_s43 (by first | assumption | omega) r47 s48 hs48
          obtain ⟨hfc_s48, hm_s48, hp50, hTK_s48, hRCO_s48⟩ := hp49
          have hf_s48 : fr [34, 53, 54, 55, 56, 57, 58] s0 s48 := hf_s43.call (by decide) hfc_s48
          exact ih (v27 + 1) s48 ⟨(by omega), hf_s48, hm_s48, hTK_s48, hRCO_s48, (by first | assumption | omega)⟩ (by omega) (fun w31 s32 hw hi => hk w31 s32 (hT.trans hw) hi)
        · replace hT := hT.trans (if_neg h35)
          exact hk v27 s28 hT ⟨(by omega), hf_s28, hm_s28, hTK_s28, hRCO_s28, (by first | assumption | omega)⟩
      · replace hT := hT.trans (if_neg h33)
        exact hk v27 s28 hT ⟨(by omega), hf_s28, hm_s28, hTK_s28, hRCO_s28, (by first | assumption | omega)⟩
  refine L29 161 0 s3 ⟨(by omega), hf_s3, hm_s3, hTK_s3, hRCO_s3, (by first | assumption | omega)⟩ (by omega) (fun v55 s56 hw hq => ?_)
  obtain ⟨hq57, hf_s56, hm_s56, hTK_s56, hRCO_s56, hq58⟩ := hq
  replace hT := gl2y hT hw
  obtain ⟨rfl, rfl⟩ := Prod.mk.inj (hT.symm.trans hres)
  exact ⟨hf_s56, hm_s56, trivial, hTK_s56, hRCO_s56⟩
set_option maxRecDepth 100000 in
set_option maxHeartbeats 4000000 in
theorem c_X3_readOr_3 (l : Launch) (D : va_G) (a : Nat → Nat) (cI cJ cS cT : ClassId) (adK adV : Nat → Nat) (kA : Nat) (s0 : gMem) (x0 : Int) (hx0 : in32 x0) (hpre0 : TK s0) (hpre1 : RCO s0) (hpre2 : x0 = 2) : gCS l yX3_readOr cX3_readOr 3 none 35 2240 D vwCl (gT cI cJ cS cT) (wdX a cI cJ cS cT) lgX kV rgV [.ref (a 2), gI x0] s0 (f_X3_readOr_3 x0 s0) adK adV kA := by
  refine gCS_of (by decide +kernel) (hwdX a cI cJ cS cT) (Nat.le_of_ble_eq_true rfl) ?_
  intro A p e R s m args below meth c hR E HX
  subst hR
  have hT := f_X3_readOr_3_e x0 s0
  have hf_s0 : fr [34, 53, 54, 55, 56, 57, 58] s0 s0 := fr.rf _ _
  refine k_lv0 (lv' := [(0, .ref (a 2)), (1, gI x0)]) rfl ?_
  refine k_mr (fun hm_s0 => ?_)
  have hTK_s0 := hpre0
  have hRCO_s0 := hpre1
  refine k_aloadn (pc := 0) E 0 dX3_readOr_0 rfl rfl ?_
  refine k_iloadn (pc := 1) E 1 dX3_readOr_1 rfl rfl ?_
  refine k_mr (fun hm_s0 => ?_)
  refine k_callVX (pc := 2) (np := 1) (As := [gI x0]) (st := []) (q0 := 2) E HX rfl rfl (c_X3_readAnd_3 l D a cI cJ cS cT adK adV kA s0 x0 (by omega) hTK_s0 hRCO_s0 (by first | assumption | omega)) wm_436 wm_3 wm_433 wm_435 wp_7 (by decide +kernel) ⟨by decide, by decide⟩ rfl (Nat.le_of_ble_eq_true rfl) dX3_readOr_2 (fun r2 s3 hs3 hr1 => ?_)
  replace hT := gby hT hs3
  have hp4 := f_X3_readAnd_3_p x0 s0 (by omega) hm_s0 hTK_s0 hRCO_s0 (by first | assumption | omega) r2 s3 hs3
  obtain ⟨hfc_s3, hm_s3, hp5, hTK_s3, hRCO_s3⟩ := hp4
  have hf_s3 : fr [34, 53, 54, 55, 56, 57, 58] s0 s3 := hf_s0.call (by decide) hfc_s3
  refine k_st (st' := []) rfl ?_
  refine k_iconst (pc := 5) E dX3_readOr_5 ?_
  refine k_istoren (pc := 6) (lv' := [(2, gI 0), (0, .ref (a 2)), (1, gI x0)]) E dX3_readOr_6 rfl (by decide) rfl ?_
  have L29 : ∀ (n30 : Nat) (v27 : Int) (s28 : gMem), ((in32 v27) ∧ (fr [34, 53, 54, 55, 56, 57, 58] s0 s28) ∧ (TK s28) ∧ (RCO s28) ∧ (0 ≤ v27 ∧ v27 ≤ 160)) → 160 - v27 < (n30 : Int) → (∀ (w31 : Int) (s32 : gMem), (w_X3_readOr_3_7 x0 n30 v27 s28) = (w31, s32) → ((in32 w31) ∧ (fr [34, 53, 54, 55, 56, 57, 58] s0 s32) ∧ (TK s32) ∧ (RCO s32) ∧ (0 ≤ w31 ∧ w31 ≤ 160)) → gK D vwCl (wdX a cI cJ cS cT) lgX A p l e { frames := 35, cells := 0, slots := 0, locals := 2240 } s m args below meth c 3 (gQQ D vwCl (wdX a cI cJ cS cT) lgX A kV rgV below args s) (f_X3_readOr_3 x0 s0) s32 45 [] []) → gK D vwCl (wdX a cI cJ cS cT) lgX A p l e { frames := 35, cells := 0, slots := 0, locals := 2240 } s m args below meth c 3 (gQQ D vwCl (wdX a cI cJ cS cT) lgX A kV rgV below args s) (f_X3_readOr_3 x0 s0) s28 7 [(0, .ref (a 2)), (1, gI x0), (2, gI v27)] [] := by
    intro n30; induction n30 with
    | zero =>
      intro v27 s28 hq hm hk
      exfalso
      obtain ⟨hq51, hf_s28, hTK_s28, hRCO_s28, hq52⟩ := hq
      omega
    | succ n30 ih =>
      intro v27 s28 hq hm hk
      obtain ⟨hq53, hf_s28, hTK_s28, hRCO_s28, hq54⟩ := hq
      have hT := w_X3_readOr_3_7_s x0 n30 v27 s28
      refine k_iloadn (pc := 7) E 2 dX3_readOr_7 rfl rfl ?_
      refine k_sipush (pc := 8) E dX3_readOr_8 (by decide) ?_
      by_cases h33 : v27 < 160
      · replace hT := hT.trans (if_pos h33)
        refine k_icmp_ge_f (pc := 11) (tgt := 45) E (by omega) (by omega) dX3_readOr_11 (by decide) h33 ?_
        refine k_aloadn (pc := 14) E 0 dX3_readOr_14 rfl rfl ?_
        refine k_getfI (pc := 15) (q0 := 2) (f := 6) (k := 55) E inX3 rfl rfl (by decide) wm_65 rfl rfl rfl dX3_readOr_15 (fun hr34 => ?_)
        refine k_sipush (pc := 18) E dX3_readOr_18 (by decide) ?_
        by_cases h35 : (s28 55 0) = 259
        · replace hT := hT.trans (if_pos h35)
          refine k_icmp_ne_f (pc := 21) (tgt := 45) E (by omega) (by omega) dX3_readOr_21 (by decide) h35 ?_
          refine k_aloadn (pc := 24) E 0 dX3_readOr_24 rfl rfl ?_
          refine k_mr (fun hm_s28 => ?_)
          refine k_callVX (pc := 25) (np := 0) (As := []) (st := []) (q0 := 2) E HX rfl rfl (c_X3_next l D a cI cJ cS cT adK adV kA s28  hTK_s28) wm_336 wm_3 wm_333 wm_335 wp_0 (by decide +kernel) ⟨by decide, by decide⟩ rfl (Nat.le_of_ble_eq_true rfl) dX3_readOr_25 (fun r37 s38 hs38 hr36 => ?_)
          replace hT := gby hT hs38
          have hp39 := f_X3_next_p  s28  hm_s28 hTK_s28 r37 s38 hs38
          obtain ⟨hfc_s38, hm_s38, hp40, hTK_s38⟩ := hp39
          have hf_s38 : fr [34, 53, 54, 55, 56, 57, 58] s0 s38 := hf_s28.call (by decide) hfc_s38
          have hRCO_s38 : RCO s38 := RCO_fr hRCO_s28 (fun k hk => hfc_s38 k (dj (by decide) k hk))
          refine k_st (st' := []) rfl ?_
          refine k_aloadn (pc := 28) E 0 dX3_readOr_28 rfl rfl ?_
          refine k_iloadn (pc := 29) E 1 dX3_readOr_29 rfl rfl ?_
          refine k_mr (fun hm_s38 => ?_)
          refine k_callVX (pc := 30) (np := 1) (As := [gI x0]) (st := []) (q0 := 2) E HX rfl rfl (c_X3_readAnd_3 l D a cI cJ cS cT adK adV kA s38 x0 (by omega) hTK_s38 hRCO_s38 (by first | assumption | omega)) wm_436 wm_3 wm_433 wm_435 wp_7 (by decide +kernel) ⟨by decide, by decide⟩ rfl (Nat.le_of_ble_eq_true rfl) dX3_readOr_30 (fun r42 s43 hs43 hr41 => ?_)
          replace hT := gby hT hs43
          have hp44 := f_X3_readAnd_3_p x0 s38 (by omega) hm_s38 hTK_s38 hRCO_s38 (by first | assumption | omega) r42 s43 hs43
          obtain ⟨hfc_s43, hm_s43, hp45, hTK_s43, hRCO_s43⟩ := hp44
          have hf_s43 : fr [34, 53, 54, 55, 56, 57, 58] s0 s43 := hf_s38.call (by decide) hfc_s43
          refine k_st (st' := []) rfl ?_
          refine k_aloadn (pc := 33) E 0 dX3_readOr_33 rfl rfl ?_
          refine k_bipush (pc := 34) E dX3_readOr_34 (by decide) ?_
          refine k_mr (fun hm_s43 => ?_)
          refine k_callV (pc := 36) (np := 1) (As := [gI (-7)]) (st := []) (q0 := 2) E (c_X3_emit l D a cI cJ cS cT s43 (-7) (by omega) hTK_s43 hRCO_s43 (by first | assumption | omega)) wm_460 wm_3 wm_457 wm_459 wp_13 (by decide +kernel) rfl rfl ⟨by decide, by decide⟩ rfl (Nat.le_of_ble_eq_true rfl) dX3_readOr_36 (fun r47 s48 hs48 hr46 => ?_)
          replace hT := gby hT hs48
          have hp49 := f_X3_emit_p (-7) s43 (by omega) hm_s43 hTK_s43 hRCO_s43 (by first | assumption | omega) r47 s48 hs48
          obtain ⟨hfc_s48, hm_s48, hp50, hTK_s48, hRCO_s48⟩ := hp49
          have hf_s48 : fr [34, 53, 54, 55, 56, 57, 58] s0 s48 := hf_s43.call (by decide) hfc_s48
          refine k_st (st' := []) rfl ?_
          refine k_iinc (pc := 39) (lv' := [(2, gI (v27 + 1)), (0, .ref (a 2)), (1, gI x0)]) E 2 dX3_readOr_39 rfl (by decide) rfl ?_
          refine k_goto (pc := 42) (tgt := 7) E dX3_readOr_42 (by decide) ?_
          refine k_lv (lv' := [(0, .ref (a 2)), (1, gI x0), (2, gI (v27 + 1))]) [1, 2, 0] rfl ?_
          exact ih (v27 + 1) s48 ⟨(by omega), hf_s48, hTK_s48, hRCO_s48, (by first | assumption | omega)⟩ (by omega) (fun w31 s32 hw hi => hk w31 s32 (hT.trans hw) hi)
        · replace hT := hT.trans (if_neg h35)
          refine k_icmp_ne_t (pc := 21) (tgt := 45) E (by omega) (by omega) dX3_readOr_21 (by decide) h35 ?_
          refine k_lv (lv' := []) [] rfl ?_
          exact hk v27 s28 hT ⟨(by omega), hf_s28, hTK_s28, hRCO_s28, (by first | assumption | omega)⟩
      · replace hT := hT.trans (if_neg h33)
        refine k_icmp_ge_t (pc := 11) (tgt := 45) E (by omega) (by omega) dX3_readOr_11 (by decide) h33 ?_
        refine k_lv (lv' := []) [] rfl ?_
        exact hk v27 s28 hT ⟨(by omega), hf_s28, hTK_s28, hRCO_s28, (by first | assumption | omega)⟩
  refine k_lv (lv' := [(0, .ref (a 2)), (1, gI x0), (2, gI 0)]) [1, 2, 0] rfl ?_
  refine L29 161 0 s3 ⟨(by omega), hf_s3, hTK_s3, hRCO_s3, (by first | assumption | omega)⟩ (by omega) (fun v55 s56 hw hq => ?_)
  obtain ⟨hq57, hf_s56, hTK_s56, hRCO_s56, hq58⟩ := hq
  replace hT := gl2y hT hw
  exact k_rho hT (k_vret (pc := 45) E dX3_readOr_45)

def f_X3_readOne_4 (x0 : Int) (s0 : gMem) : gRes := (if (s0 55 0) = 2 then gb (f_X3_emit (s0 57 0) s0) (fun r5 s6 => gb (f_X3_next  s6) (fun r10 s11 => (0, s11))) else (if (s0 55 0) < 262 then (gj (fun j17c => (if x0 < 5 then (gj (fun j26c => (if (s0 55 0) = 45 then j26c else (if (s0 55 0) = 40 then j26c else j17c))) ((if (s0 55 0) = 45 then gb (f_X3_next  s0) (fun r30 s31 => gb (f_X3_readOne_3 (x0 + 1) s31) (fun r35 s36 => gb (f_X3_emit (-15) s36) (fun r40 s41 => (0, s41)))) else gb (f_X3_next  s0) (fun r45 s46 => gb (f_X3_readOr_3 (x0 + 1) s46) (fun r50 s51 => gb (f_X3_want 41 s51) (fun r55 s56 => (0, s56))))))) else j17c)) (gb (f_X3_fail  s0) (fun r19 s20 => (0, s20)))) else gb (f_X3_emit ((-1) - ((s0 55 0) - 262)) s0) (fun r63 s64 => gb (f_X3_next  s64) (fun r68 s69 => (0, s69)))))
theorem f_X3_readOne_4_e (x0 : Int) (s0 : gMem) : f_X3_readOne_4 x0 s0 = (if (s0 55 0) = 2 then gb (f_X3_emit (s0 57 0) s0) (fun r5 s6 => gb (f_X3_next  s6) (fun r10 s11 => (0, s11))) else (if (s0 55 0) < 262 then (gj (fun j17c => (if x0 < 5 then (gj (fun j26c => (if (s0 55 0) = 45 then j26c else (if (s0 55 0) = 40 then j26c else j17c))) ((if (s0 55 0) = 45 then gb (f_X3_next  s0) (fun r30 s31 => gb (f_X3_readOne_3 (x0 + 1) s31) (fun r35 s36 => gb (f_X3_emit (-15) s36) (fun r40 s41 => (0, s41)))) else gb (f_X3_next  s0) (fun r45 s46 => gb (f_X3_readOr_3 (x0 + 1) s46) (fun r50 s51 => gb (f_X3_want 41 s51) (fun r55 s56 => (0, s56))))))) else j17c)) (gb (f_X3_fail  s0) (fun r19 s20 => (0, s20)))) else gb (f_X3_emit ((-1) - ((s0 55 0) - 262)) s0) (fun r63 s64 => gb (f_X3_next  s64) (fun r68 s69 => (0, s69))))) := rfl
set_option maxRecDepth 100000 in
set_option maxHeartbeats 4000000 in
theorem f_X3_readOne_4_p (x0 : Int) (s0 : gMem) (hx0 : in32 x0) (hm_s0 : gMR lgX s0) (hpre0 : TK s0) (hpre1 : RCO s0) (hpre2 : x0 = 1) (rZ : Int) (sZ : gMem) (hres : f_X3_readOne_4 x0 s0 = (rZ, sZ)) : (fr [34, 53, 54, 55, 56, 57, 58] s0 sZ) ∧ (gMR lgX sZ) ∧ (True) ∧ (TK sZ) ∧ (RCO sZ) := by
  have hT := f_X3_readOne_4_e x0 s0
  have hf_s0 : fr [34, 53, 54, 55, 56, 57, 58] s0 s0 := fr.rf _ _
  have hTK_s0 := hpre0
  have hRCO_s0 := hpre1
  obtain ⟨kt1, kt2, kt3, kt4, kt5, kt6, kt7⟩ := id hTK_s0
  have hr1 := (hm_s0 55 0).1 rfl
  by_cases h2 : (s0 55 0) = 2
  · replace hT := hT.trans (if_pos h2)
    have hr3 := (hm_s0 57 0).1 rfl
    obtain ⟨r5, s6, hs6⟩ : ∃ rr ss, (f_X3_emit (s0 57 0) s0) = (rr, ss) := ⟨_, _, rfl⟩
    replace hT := gby hT hs6
    have hp7 := f_X3_emit_p (s0 57 0) s0 (by omega) hm_s0 hTK_s0 hRCO_s0 (by first | assumption | omega) r5 s6 hs6
    obtain ⟨hfc_s6, hm_s6, hp8, hTK_s6, hRCO_s6⟩ := hp7
    have hf_s6 : fr [34, 53, 54, 55, 56, 57, 58] s0 s6 := hf_s0.call (by decide) hfc_s6
    obtain ⟨r10, s11, hs11⟩ : ∃ rr ss, (f_X3_next  s6) = (rr, ss) := ⟨_, _, rfl⟩
    replace hT := gby hT hs11
    have hp12 := f_X3_next_p  s6  hm_s6 hTK_s6 r10 s11 hs11
    obtain ⟨hfc_s11, hm_s11, hp13, hTK_s11⟩ := hp12
    have hf_s11 : fr [34, 53, 54, 55, 56, 57, 58] s0 s11 := hf_s6.call (by decide) hfc_s11
    have hRCO_s11 : RCO s11 := RCO_fr hRCO_s6 (fun k hk => hfc_s11 k (dj (by decide) k hk))
    obtain ⟨rfl, rfl⟩ := Prod.mk.inj (hT.symm.trans hres)
    exact ⟨hf_s11, hm_s11, trivial, hTK_s11, hRCO_s11⟩
  · replace hT := hT.trans (if_neg h2)
    have hr14 := (hm_s0 55 0).1 rfl
    by_cases h15 : (s0 55 0) < 262
    · replace hT := hT.trans (if_pos h15)
      obtain ⟨j17c, hj17c, hT⟩ := gjx hT
      have j17 : (True) → (f_X3_readOne_4 x0 s0) = j17c  → (fr [34, 53, 54, 55, 56, 57, 58] s0 sZ) ∧ (gMR lgX sZ) ∧ (True) ∧ (TK sZ) ∧ (RCO sZ) := by
        intro  hq hT
        rw [hj17c] at hT
        obtain ⟨r19, s20, hs20⟩ : ∃ rr ss, (f_X3_fail  s0) = (rr, ss) := ⟨_, _, rfl⟩
        replace hT := gby hT hs20
        have hp21 := f_X3_fail_p  s0  hm_s0 hTK_s0 r19 s20 hs20
        obtain ⟨hfc_s20, hm_s20, hp22, hTK_s20, hp23⟩ := hp21
        have hf_s20 : fr [34, 53, 54, 55, 56, 57, 58] s0 s20 := hf_s0.call (by decide) hfc_s20
        have hRCO_s20 : RCO s20 := RCO_fr hRCO_s0 (fun k hk => hfc_s20 k (dj (by decide) k hk))
        obtain ⟨rfl, rfl⟩ := Prod.mk.inj (hT.symm.trans hres)
        exact ⟨hf_s20, hm_s20, trivial, hTK_s20, hRCO_s20⟩
      by_cases h16 : x0 < 5
      · replace hT := hT.trans (if_pos h16)
        have hr24 := (hm_s0 55 0).1 rfl
        obtain ⟨j26c, hj26c, hT⟩ := gjx hT
        have j26 : (True) → (f_X3_readOne_4 x0 s0) = j26c  → (fr [34, 53, 54, 55, 56, 57, 58] s0 sZ) ∧ (gMR lgX sZ) ∧ (True) ∧ (TK sZ) ∧ (RCO sZ) := by
          intro  hq hT
          rw [hj26c] at hT
          have hr27 := (hm_s0 55 0).1 rfl
          by_cases h28 : (s0 55 0) = 45
          · replace hT := hT.trans (if_pos h28)
            obtain ⟨r30, s31, hs31⟩ : ∃ rr ss, (f_X3_next  s0) = (rr, ss) := ⟨_, _, rfl⟩
            replace hT := gby hT hs31
            have hp32 := f_X3_next_p  s0  hm_s0 hTK_s0 r30 s31 hs31
            obtain ⟨hfc_s31, hm_s31, hp33, hTK_s31⟩ := hp32
            have hf_s31 : fr [34, 53, 54, 55, 56, 57, 58] s0 s31 := hf_s0.call (by decide) hfc_s31
            have hRCO_s31 : RCO s31 := RCO_fr hRCO_s0 (fun k hk => hfc_s31 k (dj (by decide) k hk))
            obtain ⟨r35, s36, hs36⟩ : ∃ rr ss, (f_X3_readOne_3 (x0 + 1) s31) = (rr, ss) := ⟨_, _, rfl⟩
            replace hT := gby hT hs36
            have hp37 := f_X3_readOne_3_p (x0 + 1) s31 (by omega) hm_s31 hTK_s31 hRCO_s31 (by first | assumption | omega) r35 s36 hs36
            obtain ⟨hfc_s36, hm_s36, hp38, hTK_s36, hRCO_s36⟩ := hp37
            have hf_s36 : fr [34, 53, 54, 55, 56, 57, 58] s0 s36 := hf_s31.call (by decide) hfc_s36
            obtain ⟨r40, s41, hs41⟩ : ∃ rr ss, (f_X3_emit (-15) s36) = (rr, ss) := ⟨_, _, rfl⟩
            replace hT := gby hT hs41
            have hp42 := f_X3_emit_p (-15) s36 (by omega) hm_s36 hTK_s36 hRCO_s36 (by first | assumption | omega) r40 s41 hs41
            obtain ⟨hfc_s41, hm_s41, hp43, hTK_s41, hRCO_s41⟩ := hp42
            have hf_s41 : fr [34, 53, 54, 55, 56, 57, 58] s0 s41 := hf_s36.call (by decide) hfc_s41
            obtain ⟨rfl, rfl⟩ := Prod.mk.inj (hT.symm.trans hres)
            exact ⟨hf_s41, hm_s41, trivial, hTK_s41, hRCO_s41⟩
          · replace hT := hT.trans (if_neg h28)
            obtain ⟨r45, s46, hs46⟩ : ∃ rr ss, (f_X3_next  s0) = (rr, ss) := ⟨_, _, rfl⟩
            replace hT := gby hT hs46
            have hp47 := f_X3_next_p  s0  hm_s0 hTK_s0 r45 s46 hs46
            obtain ⟨hfc_s46, hm_s46, hp48, hTK_s46⟩ := hp47
            have hf_s46 : fr [34, 53, 54, 55, 56, 57, 58] s0 s46 := hf_s0.call (by decide) hfc_s46
            have hRCO_s46 : RCO s46 := RCO_fr hRCO_s0 (fun k hk => hfc_s46 k (dj (by decide) k hk))
            obtain ⟨r50, s51, hs51⟩ : ∃ rr ss, (f_X3_readOr_3 (x0 + 1) s46) = (rr, ss) := ⟨_, _, rfl⟩
            replace hT := gby hT hs51
            have hp52 := f_X3_readOr_3_p (x0 + 1) s46 (by omega) hm_s46 hTK_s46 hRCO_s46 (by first | assumption | omega) r50 s51 hs51
            obtain ⟨hfc_s51, hm_s51, hp53, hTK_s51, hRCO_s51⟩ := hp52
            have hf_s51 : fr [34, 53, 54, 55, 56, 57, 58] s0 s51 := hf_s46.call (by decide) hfc_s51
            obtain ⟨r55, s56, hs56⟩ : ∃ rr ss, (f_X3_want 41 s51) = (rr, ss) := ⟨_, _, rfl⟩
            replace hT := gby hT hs56
            have hp57 := f_X3_want_p 41 s51 (by omega) hm_s51 hTK_s51 r55 s56 hs56
            obtain ⟨hfc_s56, hm_s56, hp58, hTK_s56⟩ := hp57
            have hf_s56 : fr [34, 53, 54, 55, 56, 57, 58] s0 s56 := hf_s51.call (by decide) hfc_s56
            have hRCO_s56 : RCO s56 := RCO_fr hRCO_s51 (fun k hk => hfc_s56 k (dj (by decide) k hk))
            obtain ⟨rfl, rfl⟩ := Prod.mk.inj (hT.symm.trans hres)
            exact ⟨hf_s56, hm_s56, trivial, hTK_s56, hRCO_s56⟩
        by_cases h25 : (s0 55 0) = 45
        · replace hT := hT.trans (if_pos h25)
          exact j26  trivial hT
        · replace hT := hT.trans (if_neg h25)
          have hr59 := (hm_s0 55 0).1 rfl
          by_cases h60 : (s0 55 0) = 40
          · replace hT := hT.trans (if_pos h60)
            exact j26  trivial hT
          · replace hT := hT.trans (if_neg h60)
            exact j17  trivial hT
      · replace hT := hT.trans (if_neg h16)
        exact j17  trivial hT
    · replace hT := hT.trans (if_neg h15)
      have hr61 := (hm_s0 55 0).1 rfl
      obtain ⟨r63, s64, hs64⟩ : ∃ rr ss, (f_X3_emit ((-1) - ((s0 55 0) - 262)) s0) = (rr, ss) := ⟨_, _, rfl⟩
      replace hT := gby hT hs64
      have hp65 := f_X3_emit_p ((-1) - ((s0 55 0) - 262)) s0 (by omega) hm_s0 hTK_s0 hRCO_s0 (by first | assumption | omega) r63 s64 hs64
      obtain ⟨hfc_s64, hm_s64, hp66, hTK_s64, hRCO_s64⟩ := hp65
      have hf_s64 : fr [34, 53, 54, 55, 56, 57, 58] s0 s64 := hf_s0.call (by decide) hfc_s64
      obtain ⟨r68, s69, hs69⟩ : ∃ rr ss, (f_X3_next  s64) = (rr, ss) := ⟨_, _, rfl⟩
      replace hT := gby hT hs69
      have hp70 := f_X3_next_p  s64  hm_s64 hTK_s64 r68 s69 hs69
      obtain ⟨hfc_s69, hm_s69, hp71, hTK_s69⟩ := hp70
      have hf_s69 : fr [34, 53, 54, 55, 56, 57, 58] s0 s69 := hf_s64.call (by decide) hfc_s69
      have hRCO_s69 : RCO s69 := RCO_fr hRCO_s64 (fun k hk => hfc_s69 k (dj (by decide) k hk))
      obtain ⟨rfl, rfl⟩ := Prod.mk.inj (hT.symm.trans hres)
      exact ⟨hf_s69, hm_s69, trivial, hTK_s69, hRCO_s69⟩
set_option maxRecDepth 100000 in
set_option maxHeartbeats 4000000 in
theorem c_X3_readOne_4 (l : Launch) (D : va_G) (a : Nat → Nat) (cI cJ cS cT : ClassId) (adK adV : Nat → Nat) (kA : Nat) (s0 : gMem) (x0 : Int) (hx0 : in32 x0) (hpre0 : TK s0) (hpre1 : RCO s0) (hpre2 : x0 = 1) : gCS l yX3_readOne cX3_readOne 2 none 36 2304 D vwCl (gT cI cJ cS cT) (wdX a cI cJ cS cT) lgX kV rgV [.ref (a 2), gI x0] s0 (f_X3_readOne_4 x0 s0) adK adV kA := by
  refine gCS_of (by decide +kernel) (hwdX a cI cJ cS cT) (Nat.le_of_ble_eq_true rfl) ?_
  intro A p e R s m args below meth c hR E HX
  subst hR
  have hT := f_X3_readOne_4_e x0 s0
  have hf_s0 : fr [34, 53, 54, 55, 56, 57, 58] s0 s0 := fr.rf _ _
  refine k_lv0 (lv' := [(0, .ref (a 2)), (1, gI x0)]) rfl ?_
  refine k_mr (fun hm_s0 => ?_)
  have hTK_s0 := hpre0
  have hRCO_s0 := hpre1
  refine k_aloadn (pc := 0) E 0 dX3_readOne_0 rfl rfl ?_
  obtain ⟨kt1, kt2, kt3, kt4, kt5, kt6, kt7⟩ := id hTK_s0
  refine k_getfI (pc := 1) (q0 := 2) (f := 6) (k := 55) E inX3 rfl rfl (by decide) wm_65 rfl rfl rfl dX3_readOne_1 (fun hr1 => ?_)
  refine k_iconst (pc := 4) E dX3_readOne_4 ?_
  by_cases h2 : (s0 55 0) = 2
  · replace hT := hT.trans (if_pos h2)
    refine k_icmp_ne_f (pc := 5) (tgt := 23) E (by omega) (by omega) dX3_readOne_5 (by decide) h2 ?_
    refine k_aloadn (pc := 8) E 0 dX3_readOne_8 rfl rfl ?_
    refine k_aloadn (pc := 9) E 0 dX3_readOne_9 rfl rfl ?_
    refine k_getfI (pc := 10) (q0 := 2) (f := 8) (k := 57) E inX3 rfl rfl (by decide) wm_67 rfl rfl rfl dX3_readOne_10 (fun hr3 => ?_)
    refine k_mr (fun hm_s0 => ?_)
    refine k_callV (pc := 13) (np := 1) (As := [gI (s0 57 0)]) (st := []) (q0 := 2) E (c_X3_emit l D a cI cJ cS cT s0 (s0 57 0) (by omega) hTK_s0 hRCO_s0 (by first | assumption | omega)) wm_460 wm_3 wm_457 wm_459 wp_13 (by decide +kernel) rfl rfl ⟨by decide, by decide⟩ rfl (Nat.le_of_ble_eq_true rfl) dX3_readOne_13 (fun r5 s6 hs6 hr4 => ?_)
    replace hT := gby hT hs6
    have hp7 := f_X3_emit_p (s0 57 0) s0 (by omega) hm_s0 hTK_s0 hRCO_s0 (by first | assumption | omega) r5 s6 hs6
    obtain ⟨hfc_s6, hm_s6, hp8, hTK_s6, hRCO_s6⟩ := hp7
    have hf_s6 : fr [34, 53, 54, 55, 56, 57, 58] s0 s6 := hf_s0.call (by decide) hfc_s6
    refine k_st (st' := []) rfl ?_
    refine k_aloadn (pc := 16) E 0 dX3_readOne_16 rfl rfl ?_
    refine k_mr (fun hm_s6 => ?_)
    refine k_callVX (pc := 17) (np := 0) (As := []) (st := []) (q0 := 2) E HX rfl rfl (c_X3_next l D a cI cJ cS cT adK adV kA s6  hTK_s6) wm_336 wm_3 wm_333 wm_335 wp_0 (by decide +kernel) ⟨by decide, by decide⟩ rfl (Nat.le_of_ble_eq_true rfl) dX3_readOne_17 (fun r10 s11 hs11 hr9 => ?_)
    replace hT := gby hT hs11
    have hp12 := f_X3_next_p  s6  hm_s6 hTK_s6 r10 s11 hs11
    obtain ⟨hfc_s11, hm_s11, hp13, hTK_s11⟩ := hp12
    have hf_s11 : fr [34, 53, 54, 55, 56, 57, 58] s0 s11 := hf_s6.call (by decide) hfc_s11
    have hRCO_s11 : RCO s11 := RCO_fr hRCO_s6 (fun k hk => hfc_s11 k (dj (by decide) k hk))
    refine k_st (st' := []) rfl ?_
    refine k_goto (pc := 20) (tgt := 130) E dX3_readOne_20 (by decide) ?_
    exact k_rho hT (k_vret (pc := 130) E dX3_readOne_130)
  · replace hT := hT.trans (if_neg h2)
    refine k_icmp_ne_t (pc := 5) (tgt := 23) E (by omega) (by omega) dX3_readOne_5 (by decide) h2 ?_
    refine k_aloadn (pc := 23) E 0 dX3_readOne_23 rfl rfl ?_
    refine k_getfI (pc := 24) (q0 := 2) (f := 6) (k := 55) E inX3 rfl rfl (by decide) wm_65 rfl rfl rfl dX3_readOne_24 (fun hr14 => ?_)
    refine k_sipush (pc := 27) E dX3_readOne_27 (by decide) ?_
    by_cases h15 : (s0 55 0) < 262
    · replace hT := hT.trans (if_pos h15)
      refine k_icmp_lt_t (pc := 30) (tgt := 54) E (by omega) (by omega) dX3_readOne_30 (by decide) h15 ?_
      refine k_iloadn (pc := 54) E 1 dX3_readOne_54 rfl rfl ?_
      refine k_iconst (pc := 55) E dX3_readOne_55 ?_
      obtain ⟨j17c, hj17c, hT⟩ := gjx hT
      have j17 : (True) → (f_X3_readOne_4 x0 s0) = j17c  → gK D vwCl (wdX a cI cJ cS cT) lgX A p l e { frames := 36, cells := 0, slots := 0, locals := 2304 } s m args below meth c 2 (gQQ D vwCl (wdX a cI cJ cS cT) lgX A kV rgV below args s) (f_X3_readOne_4 x0 s0) s0 77 [(0, .ref (a 2))] [] := by
        intro  hq hT
        rw [hj17c] at hT
        refine k_aloadn (pc := 77) E 0 dX3_readOne_77 rfl rfl ?_
        refine k_mr (fun hm_s0 => ?_)
        refine k_callV (pc := 78) (np := 0) (As := []) (st := []) (q0 := 2) E (c_X3_fail l D a cI cJ cS cT s0  hTK_s0) wm_428 wm_3 wm_425 wm_427 wp_5 (by decide +kernel) rfl rfl ⟨by decide, by decide⟩ rfl (Nat.le_of_ble_eq_true rfl) dX3_readOne_78 (fun r19 s20 hs20 hr18 => ?_)
        replace hT := gby hT hs20
        have hp21 := f_X3_fail_p  s0  hm_s0 hTK_s0 r19 s20 hs20
        obtain ⟨hfc_s20, hm_s20, hp22, hTK_s20, hp23⟩ := hp21
        have hf_s20 : fr [34, 53, 54, 55, 56, 57, 58] s0 s20 := hf_s0.call (by decide) hfc_s20
        have hRCO_s20 : RCO s20 := RCO_fr hRCO_s0 (fun k hk => hfc_s20 k (dj (by decide) k hk))
        refine k_st (st' := []) rfl ?_
        refine k_goto (pc := 81) (tgt := 130) E dX3_readOne_81 (by decide) ?_
        exact k_rho hT (k_vret (pc := 130) E dX3_readOne_130)
      by_cases h16 : x0 < 5
      · replace hT := hT.trans (if_pos h16)
        refine k_icmp_ge_f (pc := 56) (tgt := 77) E (by omega) (by omega) dX3_readOne_56 (by decide) h16 ?_
        refine k_aloadn (pc := 59) E 0 dX3_readOne_59 rfl rfl ?_
        refine k_getfI (pc := 60) (q0 := 2) (f := 6) (k := 55) E inX3 rfl rfl (by decide) wm_65 rfl rfl rfl dX3_readOne_60 (fun hr24 => ?_)
        refine k_bipush (pc := 63) E dX3_readOne_63 (by decide) ?_
        obtain ⟨j26c, hj26c, hT⟩ := gjx hT
        have j26 : (True) → (f_X3_readOne_4 x0 s0) = j26c  → gK D vwCl (wdX a cI cJ cS cT) lgX A p l e { frames := 36, cells := 0, slots := 0, locals := 2304 } s m args below meth c 2 (gQQ D vwCl (wdX a cI cJ cS cT) lgX A kV rgV below args s) (f_X3_readOne_4 x0 s0) s0 84 [(0, .ref (a 2)), (1, gI x0)] [] := by
          intro  hq hT
          rw [hj26c] at hT
          refine k_aloadn (pc := 84) E 0 dX3_readOne_84 rfl rfl ?_
          refine k_getfI (pc := 85) (q0 := 2) (f := 6) (k := 55) E inX3 rfl rfl (by decide) wm_65 rfl rfl rfl dX3_readOne_85 (fun hr27 => ?_)
          refine k_bipush (pc := 88) E dX3_readOne_88 (by decide) ?_
          by_cases h28 : (s0 55 0) = 45
          · replace hT := hT.trans (if_pos h28)
            refine k_icmp_ne_f (pc := 90) (tgt := 113) E (by omega) (by omega) dX3_readOne_90 (by decide) h28 ?_
            refine k_aloadn (pc := 93) E 0 dX3_readOne_93 rfl rfl ?_
            refine k_mr (fun hm_s0 => ?_)
            refine k_callVX (pc := 94) (np := 0) (As := []) (st := []) (q0 := 2) E HX rfl rfl (c_X3_next l D a cI cJ cS cT adK adV kA s0  hTK_s0) wm_336 wm_3 wm_333 wm_335 wp_0 (by decide +kernel) ⟨by decide, by decide⟩ rfl (Nat.le_of_ble_eq_true rfl) dX3_readOne_94 (fun r30 s31 hs31 hr29 => ?_)
            replace hT := gby hT hs31
            have hp32 := f_X3_next_p  s0  hm_s0 hTK_s0 r30 s31 hs31
            obtain ⟨hfc_s31, hm_s31, hp33, hTK_s31⟩ := hp32
            have hf_s31 : fr [34, 53, 54, 55, 56, 57, 58] s0 s31 := hf_s0.call (by decide) hfc_s31
            have hRCO_s31 : RCO s31 := RCO_fr hRCO_s0 (fun k hk => hfc_s31 k (dj (by decide) k hk))
            refine k_st (st' := []) rfl ?_
            refine k_aloadn (pc := 97) E 0 dX3_readOne_97 rfl rfl ?_
            refine k_iloadn (pc := 98) E 1 dX3_readOne_98 rfl rfl ?_
            refine k_iconst (pc := 99) E dX3_readOne_99 ?_
            refine k_iadd (pc := 100) E dX3_readOne_100 ?_
            refine k_mr (fun hm_s31 => ?_)
            refine k_callVX (pc := 101) (np := 1) (As := [gI (x0 + 1)]) (st := []) (q0 := 2) E HX rfl rfl (c_X3_readOne_3 l D a cI cJ cS cT adK adV kA s31 (x0 + 1) (by omega) hTK_s31 hRCO_s31 (by first | assumption | omega)) wm_456 wm_3 wm_453 wm_455 wp_12 (by decide +kernel) ⟨by decide, by decide⟩ rfl (Nat.le_of_ble_eq_true rfl) dX3_readOne_101 (fun r35 s36 hs36 hr34 => ?_)
            replace hT := gby hT hs36
            have hp37 := f_X3_readOne_3_p (x0 + 1) s31 (by omega) hm_s31 hTK_s31 hRCO_s31 (by first | assumption | omega) r35 s36 hs36
            obtain ⟨hfc_s36, hm_s36, hp38, hTK_s36, hRCO_s36⟩ := hp37
            have hf_s36 : fr [34, 53, 54, 55, 56, 57, 58] s0 s36 := hf_s31.call (by decide) hfc_s36
            refine k_st (st' := []) rfl ?_
            refine k_aloadn (pc := 104) E 0 dX3_readOne_104 rfl rfl ?_
            refine k_bipush (pc := 105) E dX3_readOne_105 (by decide) ?_
            refine k_mr (fun hm_s36 => ?_)
            refine k_callV (pc := 107) (np := 1) (As := [gI (-15)]) (st := []) (q0 := 2) E (c_X3_emit l D a cI cJ cS cT s36 (-15) (by omega) hTK_s36 hRCO_s36 (by first | assumption | omega)) wm_460 wm_3 wm_457 wm_459 wp_13 (by decide +kernel) rfl rfl ⟨by decide, by decide⟩ rfl (Nat.le_of_ble_eq_true rfl) dX3_readOne_107 (fun r40 s41 hs41 hr39 => ?_)
            replace hT := gby hT hs41
            have hp42 := f_X3_emit_p (-15) s36 (by omega) hm_s36 hTK_s36 hRCO_s36 (by first | assumption | omega) r40 s41 hs41
            obtain ⟨hfc_s41, hm_s41, hp43, hTK_s41, hRCO_s41⟩ := hp42
            have hf_s41 : fr [34, 53, 54, 55, 56, 57, 58] s0 s41 := hf_s36.call (by decide) hfc_s41
            refine k_st (st' := []) rfl ?_
            refine k_goto (pc := 110) (tgt := 130) E dX3_readOne_110 (by decide) ?_
            exact k_rho hT (k_vret (pc := 130) E dX3_readOne_130)
          · replace hT := hT.trans (if_neg h28)
            refine k_icmp_ne_t (pc := 90) (tgt := 113) E (by omega) (by omega) dX3_readOne_90 (by decide) h28 ?_
            refine k_aloadn (pc := 113) E 0 dX3_readOne_113 rfl rfl ?_
            refine k_mr (fun hm_s0 => ?_)
            refine k_callVX (pc := 114) (np := 0) (As := []) (st := []) (q0 := 2) E HX rfl rfl (c_X3_next l D a cI cJ cS cT adK adV kA s0  hTK_s0) wm_336 wm_3 wm_333 wm_335 wp_0 (by decide +kernel) ⟨by decide, by decide⟩ rfl (Nat.le_of_ble_eq_true rfl) dX3_readOne_114 (fun r45 s46 hs46 hr44 => ?_)
            replace hT := gby hT hs46
            have hp47 := f_X3_next_p  s0  hm_s0 hTK_s0 r45 s46 hs46
            obtain ⟨hfc_s46, hm_s46, hp48, hTK_s46⟩ := hp47
            have hf_s46 : fr [34, 53, 54, 55, 56, 57, 58] s0 s46 := hf_s0.call (by decide) hfc_s46
            have hRCO_s46 : RCO s46 := RCO_fr hRCO_s0 (fun k hk => hfc_s46 k (dj (by decide) k hk))
            refine k_st (st' := []) rfl ?_
            refine k_aloadn (pc := 117) E 0 dX3_readOne_117 rfl rfl ?_
            refine k_iloadn (pc := 118) E 1 dX3_readOne_118 rfl rfl ?_
            refine k_iconst (pc := 119) E dX3_readOne_119 ?_
            refine k_iadd (pc := 120) E dX3_readOne_120 ?_
            refine k_mr (fun hm_s46 => ?_)
            refine k_callVX (pc := 121) (np := 1) (As := [gI (x0 + 1)]) (st := []) (q0 := 2) E HX rfl rfl (c_X3_readOr_3 l D a cI cJ cS cT adK adV kA s46 (x0 + 1) (by omega) hTK_s46 hRCO_s46 (by first | assumption | omega)) wm_432 wm_3 wm_429 wm_431 wp_6 (by decide +kernel) ⟨by decide, by decide⟩ rfl (Nat.le_of_ble_eq_true rfl) dX3_readOne_121 (fun r50 s51 hs51 hr49 => ?_)
            replace hT := gby hT hs51
            have hp52 := f_X3_readOr_3_p (x0 + 1) s46 (by omega) hm_s46 hTK_s46 hRCO_s46 (by first | assumption | omega) r50 s51 hs51
            obtain ⟨hfc_s51, hm_s51, hp53, hTK_s51, hRCO_s51⟩ := hp52
            have hf_s51 : fr [34, 53, 54, 55, 56, 57, 58] s0 s51 := hf_s46.call (by decide) hfc_s51
            refine k_st (st' := []) rfl ?_
            refine k_aloadn (pc := 124) E 0 dX3_readOne_124 rfl rfl ?_
            refine k_bipush (pc := 125) E dX3_readOne_125 (by decide) ?_
            refine k_mr (fun hm_s51 => ?_)
            refine k_callVX (pc := 127) (np := 1) (As := [gI 41]) (st := []) (q0 := 2) E HX rfl rfl (c_X3_want l D a cI cJ cS cT adK adV kA s51 41 (by omega) hTK_s51) wm_424 wm_3 wm_421 wm_423 wp_4 (by decide +kernel) ⟨by decide, by decide⟩ rfl (Nat.le_of_ble_eq_true rfl) dX3_readOne_127 (fun r55 s56 hs56 hr54 => ?_)
            replace hT := gby hT hs56
            have hp57 := f_X3_want_p 41 s51 (by omega) hm_s51 hTK_s51 r55 s56 hs56
            obtain ⟨hfc_s56, hm_s56, hp58, hTK_s56⟩ := hp57
            have hf_s56 : fr [34, 53, 54, 55, 56, 57, 58] s0 s56 := hf_s51.call (by decide) hfc_s56
            have hRCO_s56 : RCO s56 := RCO_fr hRCO_s51 (fun k hk => hfc_s56 k (dj (by decide) k hk))
            refine k_st (st' := []) rfl ?_
            exact k_rho hT (k_vret (pc := 130) E dX3_readOne_130)
        by_cases h25 : (s0 55 0) = 45
        · replace hT := hT.trans (if_pos h25)
          refine k_icmp_eq_t (pc := 65) (tgt := 84) E (by omega) (by omega) dX3_readOne_65 (by decide) h25 ?_
          exact j26  trivial hT
        · replace hT := hT.trans (if_neg h25)
          refine k_icmp_eq_f (pc := 65) (tgt := 84) E (by omega) (by omega) dX3_readOne_65 (by decide) h25 ?_
          refine k_aloadn (pc := 68) E 0 dX3_readOne_68 rfl rfl ?_
          refine k_getfI (pc := 69) (q0 := 2) (f := 6) (k := 55) E inX3 rfl rfl (by decide) wm_65 rfl rfl rfl dX3_readOne_69 (fun hr59 => ?_)
          refine k_bipush (pc := 72) E dX3_readOne_72 (by decide) ?_
          by_cases h60 : (s0 55 0) = 40
          · replace hT := hT.trans (if_pos h60)
            refine k_icmp_eq_t (pc := 74) (tgt := 84) E (by omega) (by omega) dX3_readOne_74 (by decide) h60 ?_
            exact j26  trivial hT
          · replace hT := hT.trans (if_neg h60)
            refine k_icmp_eq_f (pc := 74) (tgt := 84) E (by omega) (by omega) dX3_readOne_74 (by decide) h60 ?_
            refine k_lv (lv' := [(0, .ref (a 2))]) [0] rfl ?_
            exact j17  trivial hT
      · replace hT := hT.trans (if_neg h16)
        refine k_icmp_ge_t (pc := 56) (tgt := 77) E (by omega) (by omega) dX3_readOne_56 (by decide) h16 ?_
        refine k_lv (lv' := [(0, .ref (a 2))]) [0] rfl ?_
        exact j17  trivial hT
    · replace hT := hT.trans (if_neg h15)
      refine k_icmp_lt_f (pc := 30) (tgt := 54) E (by omega) (by omega) dX3_readOne_30 (by decide) h15 ?_
      refine k_aloadn (pc := 33) E 0 dX3_readOne_33 rfl rfl ?_
      refine k_iconst (pc := 34) E dX3_readOne_34 ?_
      refine k_aloadn (pc := 35) E 0 dX3_readOne_35 rfl rfl ?_
      refine k_getfI (pc := 36) (q0 := 2) (f := 6) (k := 55) E inX3 rfl rfl (by decide) wm_65 rfl rfl rfl dX3_readOne_36 (fun hr61 => ?_)
      refine k_sipush (pc := 39) E dX3_readOne_39 (by decide) ?_
      refine k_isub (pc := 42) E dX3_readOne_42 ?_
      refine k_isub (pc := 43) E dX3_readOne_43 ?_
      refine k_mr (fun hm_s0 => ?_)
      refine k_callV (pc := 44) (np := 1) (As := [gI ((-1) - ((s0 55 0) - 262))]) (st := []) (q0 := 2) E (c_X3_emit l D a cI cJ cS cT s0 ((-1) - ((s0 55 0) - 262)) (by omega) hTK_s0 hRCO_s0 (by first | assumption | omega)) wm_460 wm_3 wm_457 wm_459 wp_13 (by decide +kernel) rfl rfl ⟨by decide, by decide⟩ rfl (Nat.le_of_ble_eq_true rfl) dX3_readOne_44 (fun r63 s64 hs64 hr62 => ?_)
      replace hT := gby hT hs64
      have hp65 := f_X3_emit_p ((-1) - ((s0 55 0) - 262)) s0 (by omega) hm_s0 hTK_s0 hRCO_s0 (by first | assumption | omega) r63 s64 hs64
      obtain ⟨hfc_s64, hm_s64, hp66, hTK_s64, hRCO_s64⟩ := hp65
      have hf_s64 : fr [34, 53, 54, 55, 56, 57, 58] s0 s64 := hf_s0.call (by decide) hfc_s64
      refine k_st (st' := []) rfl ?_
      refine k_aloadn (pc := 47) E 0 dX3_readOne_47 rfl rfl ?_
      refine k_mr (fun hm_s64 => ?_)
      refine k_callVX (pc := 48) (np := 0) (As := []) (st := []) (q0 := 2) E HX rfl rfl (c_X3_next l D a cI cJ cS cT adK adV kA s64  hTK_s64) wm_336 wm_3 wm_333 wm_335 wp_0 (by decide +kernel) ⟨by decide, by decide⟩ rfl (Nat.le_of_ble_eq_true rfl) dX3_readOne_48 (fun r68 s69 hs69 hr67 => ?_)
      replace hT := gby hT hs69
      have hp70 := f_X3_next_p  s64  hm_s64 hTK_s64 r68 s69 hs69
      obtain ⟨hfc_s69, hm_s69, hp71, hTK_s69⟩ := hp70
      have hf_s69 : fr [34, 53, 54, 55, 56, 57, 58] s0 s69 := hf_s64.call (by decide) hfc_s69
      have hRCO_s69 : RCO s69 := RCO_fr hRCO_s64 (fun k hk => hfc_s69 k (dj (by decide) k hk))
      refine k_st (st' := []) rfl ?_
      refine k_goto (pc := 51) (tgt := 130) E dX3_readOne_51 (by decide) ?_
      exact k_rho hT (k_vret (pc := 130) E dX3_readOne_130)

def w_X3_readTerm_4_7 (c1 : Int) : Nat → Int → gMem → Int × gMem
  | 0, v6, s7 => (v6, s7)
  | n8 + 1, v6, s7 => (if v6 < 160 then (if (s7 55 0) = 42 then gb (f_X3_next  s7) (fun r13 s14 => gb (f_X3_readOne_4 c1 s14) (fun r18 s19 => gb (f_X3_emit (-13) s19) (fun r23 s24 => (w_X3_readTerm_4_7 c1 n8 (v6 + 1) s24)))) else (v6, s7)) else (v6, s7))
theorem w_X3_readTerm_4_7_s (c1 : Int) (n8 : Nat) (v6 : Int) (s7 : gMem) : w_X3_readTerm_4_7 c1 (n8 + 1) v6 s7 = (if v6 < 160 then (if (s7 55 0) = 42 then gb (f_X3_next  s7) (fun r13 s14 => gb (f_X3_readOne_4 c1 s14) (fun r18 s19 => gb (f_X3_emit (-13) s19) (fun r23 s24 => (w_X3_readTerm_4_7 c1 n8 (v6 + 1) s24)))) else (v6, s7)) else (v6, s7)) := rfl
def f_X3_readTerm_4 (x0 : Int) (s0 : gMem) : gRes := gb (f_X3_readOne_4 x0 s0) (fun r2 s3 => (gl2 (w_X3_readTerm_4_7 x0 161 0 s3) (fun v55 s56 => (0, s56))))
theorem f_X3_readTerm_4_e (x0 : Int) (s0 : gMem) : f_X3_readTerm_4 x0 s0 = gb (f_X3_readOne_4 x0 s0) (fun r2 s3 => (gl2 (w_X3_readTerm_4_7 x0 161 0 s3) (fun v55 s56 => (0, s56)))) := rfl
set_option maxRecDepth 100000 in
set_option maxHeartbeats 4000000 in
theorem f_X3_readTerm_4_p (x0 : Int) (s0 : gMem) (hx0 : in32 x0) (hm_s0 : gMR lgX s0) (hpre0 : TK s0) (hpre1 : RCO s0) (hpre2 : x0 = 1) (rZ : Int) (sZ : gMem) (hres : f_X3_readTerm_4 x0 s0 = (rZ, sZ)) : (fr [34, 53, 54, 55, 56, 57, 58] s0 sZ) ∧ (gMR lgX sZ) ∧ (True) ∧ (TK sZ) ∧ (RCO sZ) := by
  have hT := f_X3_readTerm_4_e x0 s0
  have hf_s0 : fr [34, 53, 54, 55, 56, 57, 58] s0 s0 := fr.rf _ _
  have hTK_s0 := hpre0
  have hRCO_s0 := hpre1
  obtain ⟨r2, s3, hs3⟩ : ∃ rr ss, (f_X3_readOne_4 x0 s0) = (rr, ss) := ⟨_, _, rfl⟩
  replace hT := gby hT hs3
  have hp4 := f_X3_readOne_4_p x0 s0 (by omega) hm_s0 hTK_s0 hRCO_s0 (by first | assumption | omega) r2 s3 hs3
  obtain ⟨hfc_s3, hm_s3, hp5, hTK_s3, hRCO_s3⟩ := hp4
  have hf_s3 : fr [34, 53, 54, 55, 56, 57, 58] s0 s3 := hf_s0.call (by decide) hfc_s3
  have L29 : ∀ (n30 : Nat) (v27 : Int) (s28 : gMem), ((in32 v27) ∧ (fr [34, 53, 54, 55, 56, 57, 58] s0 s28) ∧ (gMR lgX s28) ∧ (TK s28) ∧ (RCO s28) ∧ (0 ≤ v27 ∧ v27 ≤ 160)) → 160 - v27 < (n30 : Int) → (∀ (w31 : Int) (s32 : gMem), (w_X3_readTerm_4_7 x0 n30 v27 s28) = (w31, s32) → ((in32 w31) ∧ (fr [34, 53, 54, 55, 56, 57, 58] s0 s32) ∧ (gMR lgX s32) ∧ (TK s32) ∧ (RCO s32) ∧ (0 ≤ w31 ∧ w31 ≤ 160)) → (fr [34, 53, 54, 55, 56, 57, 58] s0 sZ) ∧ (gMR lgX sZ) ∧ (True) ∧ (TK sZ) ∧ (RCO sZ)) → (fr [34, 53, 54, 55, 56, 57, 58] s0 sZ) ∧ (gMR lgX sZ) ∧ (True) ∧ (TK sZ) ∧ (RCO sZ) := by
    intro n30; induction n30 with
    | zero =>
      intro v27 s28 hq hm hk
      exfalso
      obtain ⟨hq51, hf_s28, hm_s28, hTK_s28, hRCO_s28, hq52⟩ := hq
      omega
    | succ n30 ih =>
      intro v27 s28 hq hm hk
      obtain ⟨hq53, hf_s28, hm_s28, hTK_s28, hRCO_s28, hq54⟩ := hq
      have hT := w_X3_readTerm_4_7_s x0 n30 v27 s28
      by_cases h33 : v27 < 160
      · replace hT := hT.trans (if_pos h33)
        have hr34 := (hm_s28 55 0).1 rfl
        by_cases h35 : (s28 55 0) = 42
        · replace hT := hT.trans (if_pos h35)
          obtain ⟨r37, s38, hs38⟩ : ∃ rr ss, (f_X3_next  s28) = (rr, ss) := ⟨_, _, rfl⟩
          replace hT := gby hT hs38
          have hp39 := f_X3_next_p  s28  hm_s28 hTK_s28 r37 s38 hs38
          obtain ⟨hfc_s38, hm_s38, hp40, hTK_s38⟩ := hp39
          have hf_s38 : fr [34, 53, 54, 55, 56, 57, 58] s0 s38 := hf_s28.call (by decide) hfc_s38
          have hRCO_s38 : RCO s38 := RCO_fr hRCO_s28 (fun k hk => hfc_s38 k (dj (by decide) k hk))
          obtain ⟨r42, s43, hs43⟩ : ∃ rr ss, (f_X3_readOne_4 x0 s38) = (rr, ss) := ⟨_, _, rfl⟩
          replace hT := gby hT hs43
          have hp44 := f_X3_readOne_4_p x0 s38 (by omega) hm_s38 hTK_s38 hRCO_s38 (by first | assumption | omega) r42 s43 hs43
          obtain ⟨hfc_s43, hm_s43, hp45, hTK_s43, hRCO_s43⟩ := hp44
          have hf_s43 : fr [34, 53, 54, 55, 56, 57, 58] s0 s43 := hf_s38.call (by decide) hfc_s43
          obtain ⟨r47, s48, hs48⟩ : ∃ rr ss, (f_X3_emit (-13) s43) = (rr, ss) := ⟨_, _, rfl⟩
          replace hT := gby hT hs48
          have hp49 := f_X3_emit_p (-13) s43 (by omega) hm_s43 hTK_s43 hRCO_s43 (by first | assumption | omega) r47 s48 hs48
          obtain ⟨hfc_s48, hm_s48, hp50, hTK_s48, hRCO_s48⟩ := hp49
          have hf_s48 : fr [34, 53, 54, 55, 56, 57, 58] s0 s48 := hf_s43.call (by decide) hfc_s48
          exact ih (v27 + 1) s48 ⟨(by omega), hf_s48, hm_s48, hTK_s48, hRCO_s48, (by first | assumption | omega)⟩ (by omega) (fun w31 s32 hw hi => hk w31 s32 (hT.trans hw) hi)
        · replace hT := hT.trans (if_neg h35)
          exact hk v27 s28 hT ⟨(by omega), hf_s28, hm_s28, hTK_s28, hRCO_s28, (by first | assumption | omega)⟩
      · replace hT := hT.trans (if_neg h33)
        exact hk v27 s28 hT ⟨(by omega), hf_s28, hm_s28, hTK_s28, hRCO_s28, (by first | assumption | omega)⟩
  refine L29 161 0 s3 ⟨(by omega), hf_s3, hm_s3, hTK_s3, hRCO_s3, (by first | assumption | omega)⟩ (by omega) (fun v55 s56 hw hq => ?_)
  obtain ⟨hq57, hf_s56, hm_s56, hTK_s56, hRCO_s56, hq58⟩ := hq
  replace hT := gl2y hT hw
  obtain ⟨rfl, rfl⟩ := Prod.mk.inj (hT.symm.trans hres)
  exact ⟨hf_s56, hm_s56, trivial, hTK_s56, hRCO_s56⟩
set_option maxRecDepth 100000 in
set_option maxHeartbeats 4000000 in
theorem c_X3_readTerm_4 (l : Launch) (D : va_G) (a : Nat → Nat) (cI cJ cS cT : ClassId) (adK adV : Nat → Nat) (kA : Nat) (s0 : gMem) (x0 : Int) (hx0 : in32 x0) (hpre0 : TK s0) (hpre1 : RCO s0) (hpre2 : x0 = 1) : gCS l yX3_readTerm cX3_readTerm 3 none 37 2368 D vwCl (gT cI cJ cS cT) (wdX a cI cJ cS cT) lgX kV rgV [.ref (a 2), gI x0] s0 (f_X3_readTerm_4 x0 s0) adK adV kA := by
  refine gCS_of (by decide +kernel) (hwdX a cI cJ cS cT) (Nat.le_of_ble_eq_true rfl) ?_
  intro A p e R s m args below meth c hR E HX
  subst hR
  have hT := f_X3_readTerm_4_e x0 s0
  have hf_s0 : fr [34, 53, 54, 55, 56, 57, 58] s0 s0 := fr.rf _ _
  refine k_lv0 (lv' := [(0, .ref (a 2)), (1, gI x0)]) rfl ?_
  refine k_mr (fun hm_s0 => ?_)
  have hTK_s0 := hpre0
  have hRCO_s0 := hpre1
  refine k_aloadn (pc := 0) E 0 dX3_readTerm_0 rfl rfl ?_
  refine k_iloadn (pc := 1) E 1 dX3_readTerm_1 rfl rfl ?_
  refine k_mr (fun hm_s0 => ?_)
  refine k_callVX (pc := 2) (np := 1) (As := [gI x0]) (st := []) (q0 := 2) E HX rfl rfl (c_X3_readOne_4 l D a cI cJ cS cT adK adV kA s0 x0 (by omega) hTK_s0 hRCO_s0 (by first | assumption | omega)) wm_456 wm_3 wm_453 wm_455 wp_12 (by decide +kernel) ⟨by decide, by decide⟩ rfl (Nat.le_of_ble_eq_true rfl) dX3_readTerm_2 (fun r2 s3 hs3 hr1 => ?_)
  replace hT := gby hT hs3
  have hp4 := f_X3_readOne_4_p x0 s0 (by omega) hm_s0 hTK_s0 hRCO_s0 (by first | assumption | omega) r2 s3 hs3
  obtain ⟨hfc_s3, hm_s3, hp5, hTK_s3, hRCO_s3⟩ := hp4
  have hf_s3 : fr [34, 53, 54, 55, 56, 57, 58] s0 s3 := hf_s0.call (by decide) hfc_s3
  refine k_st (st' := []) rfl ?_
  refine k_iconst (pc := 5) E dX3_readTerm_5 ?_
  refine k_istoren (pc := 6) (lv' := [(2, gI 0), (0, .ref (a 2)), (1, gI x0)]) E dX3_readTerm_6 rfl (by decide) rfl ?_
  have L29 : ∀ (n30 : Nat) (v27 : Int) (s28 : gMem), ((in32 v27) ∧ (fr [34, 53, 54, 55, 56, 57, 58] s0 s28) ∧ (TK s28) ∧ (RCO s28) ∧ (0 ≤ v27 ∧ v27 ≤ 160)) → 160 - v27 < (n30 : Int) → (∀ (w31 : Int) (s32 : gMem), (w_X3_readTerm_4_7 x0 n30 v27 s28) = (w31, s32) → ((in32 w31) ∧ (fr [34, 53, 54, 55, 56, 57, 58] s0 s32) ∧ (TK s32) ∧ (RCO s32) ∧ (0 ≤ w31 ∧ w31 ≤ 160)) → gK D vwCl (wdX a cI cJ cS cT) lgX A p l e { frames := 37, cells := 0, slots := 0, locals := 2368 } s m args below meth c 3 (gQQ D vwCl (wdX a cI cJ cS cT) lgX A kV rgV below args s) (f_X3_readTerm_4 x0 s0) s32 44 [] []) → gK D vwCl (wdX a cI cJ cS cT) lgX A p l e { frames := 37, cells := 0, slots := 0, locals := 2368 } s m args below meth c 3 (gQQ D vwCl (wdX a cI cJ cS cT) lgX A kV rgV below args s) (f_X3_readTerm_4 x0 s0) s28 7 [(0, .ref (a 2)), (1, gI x0), (2, gI v27)] [] := by
    intro n30; induction n30 with
    | zero =>
      intro v27 s28 hq hm hk
      exfalso
      obtain ⟨hq51, hf_s28, hTK_s28, hRCO_s28, hq52⟩ := hq
      omega
    | succ n30 ih =>
      intro v27 s28 hq hm hk
      obtain ⟨hq53, hf_s28, hTK_s28, hRCO_s28, hq54⟩ := hq
      have hT := w_X3_readTerm_4_7_s x0 n30 v27 s28
      refine k_iloadn (pc := 7) E 2 dX3_readTerm_7 rfl rfl ?_
      refine k_sipush (pc := 8) E dX3_readTerm_8 (by decide) ?_
      by_cases h33 : v27 < 160
      · replace hT := hT.trans (if_pos h33)
        refine k_icmp_ge_f (pc := 11) (tgt := 44) E (by omega) (by omega) dX3_readTerm_11 (by decide) h33 ?_
        refine k_aloadn (pc := 14) E 0 dX3_readTerm_14 rfl rfl ?_
        refine k_getfI (pc := 15) (q0 := 2) (f := 6) (k := 55) E inX3 rfl rfl (by decide) wm_65 rfl rfl rfl dX3_readTerm_15 (fun hr34 => ?_)
        refine k_bipush (pc := 18) E dX3_readTerm_18 (by decide) ?_
        by_cases h35 : (s28 55 0) = 42
        · replace hT := hT.trans (if_pos h35)
          refine k_icmp_ne_f (pc := 20) (tgt := 44) E (by omega) (by omega) dX3_readTerm_20 (by decide) h35 ?_
          refine k_aloadn (pc := 23) E 0 dX3_readTerm_23 rfl rfl ?_
          refine k_mr (fun hm_s28 => ?_)
          refine k_callVX (pc := 24) (np := 0) (As := []) (st := []) (q0 := 2) E HX rfl rfl (c_X3_next l D a cI cJ cS cT adK adV kA s28  hTK_s28) wm_336 wm_3 wm_333 wm_335 wp_0 (by decide +kernel) ⟨by decide, by decide⟩ rfl (Nat.le_of_ble_eq_true rfl) dX3_readTerm_24 (fun r37 s38 hs38 hr36 => ?_)
          replace hT := gby hT hs38
          have hp39 := f_X3_next_p  s28  hm_s28 hTK_s28 r37 s38 hs38
          obtain ⟨hfc_s38, hm_s38, hp40, hTK_s38⟩ := hp39
          have hf_s38 : fr [34, 53, 54, 55, 56, 57, 58] s0 s38 := hf_s28.call (by decide) hfc_s38
          have hRCO_s38 : RCO s38 := RCO_fr hRCO_s28 (fun k hk => hfc_s38 k (dj (by decide) k hk))
          refine k_st (st' := []) rfl ?_
          refine k_aloadn (pc := 27) E 0 dX3_readTerm_27 rfl rfl ?_
          refine k_iloadn (pc := 28) E 1 dX3_readTerm_28 rfl rfl ?_
          refine k_mr (fun hm_s38 => ?_)
          refine k_callVX (pc := 29) (np := 1) (As := [gI x0]) (st := []) (q0 := 2) E HX rfl rfl (c_X3_readOne_4 l D a cI cJ cS cT adK adV kA s38 x0 (by omega) hTK_s38 hRCO_s38 (by first | assumption | omega)) wm_456 wm_3 wm_453 wm_455 wp_12 (by decide +kernel) ⟨by decide, by decide⟩ rfl (Nat.le_of_ble_eq_true rfl) dX3_readTerm_29 (fun r42 s43 hs43 hr41 => ?_)
          replace hT := gby hT hs43
          have hp44 := f_X3_readOne_4_p x0 s38 (by omega) hm_s38 hTK_s38 hRCO_s38 (by first | assumption | omega) r42 s43 hs43
          obtain ⟨hfc_s43, hm_s43, hp45, hTK_s43, hRCO_s43⟩ := hp44
          have hf_s43 : fr [34, 53, 54, 55, 56, 57, 58] s0 s43 := hf_s38.call (by decide) hfc_s43
          refine k_st (st' := []) rfl ?_
          refine k_aloadn (pc := 32) E 0 dX3_readTerm_32 rfl rfl ?_
          refine k_bipush (pc := 33) E dX3_readTerm_33 (by decide) ?_
          refine k_mr (fun hm_s43 => ?_)
          refine k_callV (pc := 35) (np := 1) (As := [gI (-13)]) (st := []) (q0 := 2) E (c_X3_emit l D a cI cJ cS cT s43 (-13) (by omega) hTK_s43 hRCO_s43 (by first | assumption | omega)) wm_460 wm_3 wm_457 wm_459 wp_13 (by decide +kernel) rfl rfl ⟨by decide, by decide⟩ rfl (Nat.le_of_ble_eq_true rfl) dX3_readTerm_35 (fun r47 s48 hs48 hr46 => ?_)
          replace hT := gby hT hs48
          have hp49 := f_X3_emit_p (-13) s43 (by omega) hm_s43 hTK_s43 hRCO_s43 (by first | assumption | omega) r47 s48 hs48
          obtain ⟨hfc_s48, hm_s48, hp50, hTK_s48, hRCO_s48⟩ := hp49
          have hf_s48 : fr [34, 53, 54, 55, 56, 57, 58] s0 s48 := hf_s43.call (by decide) hfc_s48
          refine k_st (st' := []) rfl ?_
          refine k_iinc (pc := 38) (lv' := [(2, gI (v27 + 1)), (0, .ref (a 2)), (1, gI x0)]) E 2 dX3_readTerm_38 rfl (by decide) rfl ?_
          refine k_goto (pc := 41) (tgt := 7) E dX3_readTerm_41 (by decide) ?_
          refine k_lv (lv' := [(0, .ref (a 2)), (1, gI x0), (2, gI (v27 + 1))]) [1, 2, 0] rfl ?_
          exact ih (v27 + 1) s48 ⟨(by omega), hf_s48, hTK_s48, hRCO_s48, (by first | assumption | omega)⟩ (by omega) (fun w31 s32 hw hi => hk w31 s32 (hT.trans hw) hi)
        · replace hT := hT.trans (if_neg h35)
          refine k_icmp_ne_t (pc := 20) (tgt := 44) E (by omega) (by omega) dX3_readTerm_20 (by decide) h35 ?_
          refine k_lv (lv' := []) [] rfl ?_
          exact hk v27 s28 hT ⟨(by omega), hf_s28, hTK_s28, hRCO_s28, (by first | assumption | omega)⟩
      · replace hT := hT.trans (if_neg h33)
        refine k_icmp_ge_t (pc := 11) (tgt := 44) E (by omega) (by omega) dX3_readTerm_11 (by decide) h33 ?_
        refine k_lv (lv' := []) [] rfl ?_
        exact hk v27 s28 hT ⟨(by omega), hf_s28, hTK_s28, hRCO_s28, (by first | assumption | omega)⟩
  refine k_lv (lv' := [(0, .ref (a 2)), (1, gI x0), (2, gI 0)]) [1, 2, 0] rfl ?_
  refine L29 161 0 s3 ⟨(by omega), hf_s3, hTK_s3, hRCO_s3, (by first | assumption | omega)⟩ (by omega) (fun v55 s56 hw hq => ?_)
  obtain ⟨hq57, hf_s56, hTK_s56, hRCO_s56, hq58⟩ := hq
  replace hT := gl2y hT hw
  exact k_rho hT (k_vret (pc := 44) E dX3_readTerm_44)

def w_X3_readSum_4_7 (c1 : Int) : Nat → Int → gMem → Int × gMem
  | 0, v6, s7 => (v6, s7)
  | n8 + 1, v6, s7 => (if v6 < 160 then (gj (fun j12c => (if (s7 55 0) = 43 then j12c else (if (s7 55 0) = 45 then j12c else (v6, s7)))) ((gl ((if (s7 55 0) = 43 then (-11) else (-12))) (fun v16 => gb (f_X3_next  s7) (fun r18 s19 => gb (f_X3_readTerm_4 c1 s19) (fun r23 s24 => gb (f_X3_emit v16 s24) (fun r28 s29 => (w_X3_readSum_4_7 c1 n8 (v6 + 1) s29)))))))) else (v6, s7))
theorem w_X3_readSum_4_7_s (c1 : Int) (n8 : Nat) (v6 : Int) (s7 : gMem) : w_X3_readSum_4_7 c1 (n8 + 1) v6 s7 = (if v6 < 160 then (gj (fun j12c => (if (s7 55 0) = 43 then j12c else (if (s7 55 0) = 45 then j12c else (v6, s7)))) ((gl ((if (s7 55 0) = 43 then (-11) else (-12))) (fun v16 => gb (f_X3_next  s7) (fun r18 s19 => gb (f_X3_readTerm_4 c1 s19) (fun r23 s24 => gb (f_X3_emit v16 s24) (fun r28 s29 => (w_X3_readSum_4_7 c1 n8 (v6 + 1) s29)))))))) else (v6, s7)) := rfl
def f_X3_readSum_4 (x0 : Int) (s0 : gMem) : gRes := gb (f_X3_readTerm_4 x0 s0) (fun r2 s3 => (gl2 (w_X3_readSum_4_7 x0 161 0 s3) (fun v75 s76 => (0, s76))))
theorem f_X3_readSum_4_e (x0 : Int) (s0 : gMem) : f_X3_readSum_4 x0 s0 = gb (f_X3_readTerm_4 x0 s0) (fun r2 s3 => (gl2 (w_X3_readSum_4_7 x0 161 0 s3) (fun v75 s76 => (0, s76)))) := rfl
set_option maxRecDepth 100000 in
set_option maxHeartbeats 4000000 in
theorem f_X3_readSum_4_p (x0 : Int) (s0 : gMem) (hx0 : in32 x0) (hm_s0 : gMR lgX s0) (hpre0 : TK s0) (hpre1 : RCO s0) (hpre2 : x0 = 1) (rZ : Int) (sZ : gMem) (hres : f_X3_readSum_4 x0 s0 = (rZ, sZ)) : (fr [34, 53, 54, 55, 56, 57, 58] s0 sZ) ∧ (gMR lgX sZ) ∧ (True) ∧ (TK sZ) ∧ (RCO sZ) := by
  have hT := f_X3_readSum_4_e x0 s0
  have hf_s0 : fr [34, 53, 54, 55, 56, 57, 58] s0 s0 := fr.rf _ _
  have hTK_s0 := hpre0
  have hRCO_s0 := hpre1
  obtain ⟨r2, s3, hs3⟩ : ∃ rr ss, (f_X3_readTerm_4 x0 s0) = (rr, ss) := ⟨_, _, rfl⟩
  replace hT := gby hT hs3
  have hp4 := f_X3_readTerm_4_p x0 s0 (by omega) hm_s0 hTK_s0 hRCO_s0 (by first | assumption | omega) r2 s3 hs3
  obtain ⟨hfc_s3, hm_s3, hp5, hTK_s3, hRCO_s3⟩ := hp4
  have hf_s3 : fr [34, 53, 54, 55, 56, 57, 58] s0 s3 := hf_s0.call (by decide) hfc_s3
  have L39 : ∀ (n40 : Nat) (v37 : Int) (s38 : gMem), ((in32 v37) ∧ (fr [34, 53, 54, 55, 56, 57, 58] s0 s38) ∧ (gMR lgX s38) ∧ (TK s38) ∧ (RCO s38) ∧ (0 ≤ v37 ∧ v37 ≤ 160)) → 160 - v37 < (n40 : Int) → (∀ (w41 : Int) (s42 : gMem), (w_X3_readSum_4_7 x0 n40 v37 s38) = (w41, s42) → ((in32 w41) ∧ (fr [34, 53, 54, 55, 56, 57, 58] s0 s42) ∧ (gMR lgX s42) ∧ (TK s42) ∧ (RCO s42) ∧ (0 ≤ w41 ∧ w41 ≤ 160)) → (fr [34, 53, 54, 55, 56, 57, 58] s0 sZ) ∧ (gMR lgX sZ) ∧ (True) ∧ (TK sZ) ∧ (RCO sZ)) → (fr [34, 53, 54, 55, 56, 57, 58] s0 sZ) ∧ (gMR lgX sZ) ∧ (True) ∧ (TK sZ) ∧ (RCO sZ) := by
    intro n40; induction n40 with
    | zero =>
      intro v37 s38 hq hm hk
      exfalso
      obtain ⟨hq71, hf_s38, hm_s38, hTK_s38, hRCO_s38, hq72⟩ := hq
      omega
    | succ n40 ih =>
      intro v37 s38 hq hm hk
      obtain ⟨hq73, hf_s38, hm_s38, hTK_s38, hRCO_s38, hq74⟩ := hq
      have hT := w_X3_readSum_4_7_s x0 n40 v37 s38
      by_cases h43 : v37 < 160
      · replace hT := hT.trans (if_pos h43)
        have hr44 := (hm_s38 55 0).1 rfl
        obtain ⟨j46c, hj46c, hT⟩ := gjx hT
        have j46 : (True) → (w_X3_readSum_4_7 x0 (n40 + 1) v37 s38) = j46c  → (fr [34, 53, 54, 55, 56, 57, 58] s0 sZ) ∧ (gMR lgX sZ) ∧ (True) ∧ (TK sZ) ∧ (RCO sZ) := by
          intro  hq hT
          rw [hj46c] at hT
          have hr47 := (hm_s38 55 0).1 rfl
          obtain ⟨z68, hz68, hT⟩ := gl1x hT
          have j49 : ∀ (v50 : Int), ((in32 v50) ∧ (-12 ≤ v50 ∧ v50 ≤ -11)) → z68 = v50 → (fr [34, 53, 54, 55, 56, 57, 58] s0 sZ) ∧ (gMR lgX sZ) ∧ (True) ∧ (TK sZ) ∧ (RCO sZ) := by
            intro v50 hq hz
            obtain ⟨hq66, hq67⟩ := hq
            replace hT := gl1y hT hz
            obtain ⟨r52, s53, hs53⟩ : ∃ rr ss, (f_X3_next  s38) = (rr, ss) := ⟨_, _, rfl⟩
            replace hT := gby hT hs53
            have hp54 := f_X3_next_p  s38  hm_s38 hTK_s38 r52 s53 hs53
            obtain ⟨hfc_s53, hm_s53, hp55, hTK_s53⟩ := hp54
            have hf_s53 : fr [34, 53, 54, 55, 56, 57, 58] s0 s53 := hf_s38.call (by decide) hfc_s53
            have hRCO_s53 : RCO s53 := RCO_fr hRCO_s38 (fun k hk => hfc_s53 k (dj (by decide) k hk))
            obtain ⟨r57, s58, hs58⟩ : ∃ rr ss, (f_X3_readTerm_4 x0 s53) = (rr, ss) := ⟨_, _, rfl⟩
            replace hT := gby hT hs58
            have hp59 := f_X3_readTerm_4_p x0 s53 (by omega) hm_s53 hTK_s53 hRCO_s53 (by first | assumption | omega) r57 s58 hs58
            obtain ⟨hfc_s58, hm_s58, hp60, hTK_s58, hRCO_s58⟩ := hp59
            have hf_s58 : fr [34, 53, 54, 55, 56, 57, 58] s0 s58 := hf_s53.call (by decide) hfc_s58
            obtain ⟨r62, s63, hs63⟩ : ∃ rr ss, (f_X3_emit v50 s58) = (rr, ss) := ⟨_, _, rfl⟩
            replace hT := gby hT hs63
            have hp64 := f_X3_emit_p v50 s58 (by omega) hm_s58 hTK_s58 hRCO_s58 (by first | assumption | omega) r62 s63 hs63
            obtain ⟨hfc_s63, hm_s63, hp65, hTK_s63, hRCO_s63⟩ := hp64
            have hf_s63 : fr [34, 53, 54, 55, 56, 57, 58] s0 s63 := hf_s58.call (by decide) hfc_s63
            exact ih (v37 + 1) s63 ⟨(by omega), hf_s63, hm_s63, hTK_s63, hRCO_s63, (by first | assumption | omega)⟩ (by omega) (fun w41 s42 hw hi => hk w41 s42 (hT.trans hw) hi)
          replace hT := hz68
          by_cases h48 : (s38 55 0) = 43
          · replace hT := hT.trans (if_pos h48)
            exact j49 (-11) ⟨(by omega), (by first | assumption | omega)⟩ hT
          · replace hT := hT.trans (if_neg h48)
            exact j49 (-12) ⟨(by omega), (by first | assumption | omega)⟩ hT
        by_cases h45 : (s38 55 0) = 43
        · replace hT := hT.trans (if_pos h45)
          exact j46  trivial hT
        · replace hT := hT.trans (if_neg h45)
          have hr69 := (hm_s38 55 0).1 rfl
          by_cases h70 : (s38 55 0) = 45
          · replace hT := hT.trans (if_pos h70)
            exact j46  trivial hT
          · replace hT := hT.trans (if_neg h70)
            exact hk v37 s38 hT ⟨(by omega), hf_s38, hm_s38, hTK_s38, hRCO_s38, (by first | assumption | omega)⟩
      · replace hT := hT.trans (if_neg h43)
        exact hk v37 s38 hT ⟨(by omega), hf_s38, hm_s38, hTK_s38, hRCO_s38, (by first | assumption | omega)⟩
  refine L39 161 0 s3 ⟨(by omega), hf_s3, hm_s3, hTK_s3, hRCO_s3, (by first | assumption | omega)⟩ (by omega) (fun v75 s76 hw hq => ?_)
  obtain ⟨hq77, hf_s76, hm_s76, hTK_s76, hRCO_s76, hq78⟩ := hq
  replace hT := gl2y hT hw
  obtain ⟨rfl, rfl⟩ := Prod.mk.inj (hT.symm.trans hres)
  exact ⟨hf_s76, hm_s76, trivial, hTK_s76, hRCO_s76⟩
set_option maxRecDepth 100000 in
set_option maxHeartbeats 4000000 in
theorem c_X3_readSum_4 (l : Launch) (D : va_G) (a : Nat → Nat) (cI cJ cS cT : ClassId) (adK adV : Nat → Nat) (kA : Nat) (s0 : gMem) (x0 : Int) (hx0 : in32 x0) (hpre0 : TK s0) (hpre1 : RCO s0) (hpre2 : x0 = 1) : gCS l yX3_readSum cX3_readSum 4 none 38 2432 D vwCl (gT cI cJ cS cT) (wdX a cI cJ cS cT) lgX kV rgV [.ref (a 2), gI x0] s0 (f_X3_readSum_4 x0 s0) adK adV kA := by
  refine gCS_of (by decide +kernel) (hwdX a cI cJ cS cT) (Nat.le_of_ble_eq_true rfl) ?_
  intro A p e R s m args below meth c hR E HX
  subst hR
  have hT := f_X3_readSum_4_e x0 s0
  have hf_s0 : fr [34, 53, 54, 55, 56, 57, 58] s0 s0 := fr.rf _ _
  refine k_lv0 (lv' := [(0, .ref (a 2)), (1, gI x0)]) rfl ?_
  refine k_mr (fun hm_s0 => ?_)
  have hTK_s0 := hpre0
  have hRCO_s0 := hpre1
  refine k_aloadn (pc := 0) E 0 dX3_readSum_0 rfl rfl ?_
  refine k_iloadn (pc := 1) E 1 dX3_readSum_1 rfl rfl ?_
  refine k_mr (fun hm_s0 => ?_)
  refine k_callVX (pc := 2) (np := 1) (As := [gI x0]) (st := []) (q0 := 2) E HX rfl rfl (c_X3_readTerm_4 l D a cI cJ cS cT adK adV kA s0 x0 (by omega) hTK_s0 hRCO_s0 (by first | assumption | omega)) wm_452 wm_3 wm_449 wm_451 wp_11 (by decide +kernel) ⟨by decide, by decide⟩ rfl (Nat.le_of_ble_eq_true rfl) dX3_readSum_2 (fun r2 s3 hs3 hr1 => ?_)
  replace hT := gby hT hs3
  have hp4 := f_X3_readTerm_4_p x0 s0 (by omega) hm_s0 hTK_s0 hRCO_s0 (by first | assumption | omega) r2 s3 hs3
  obtain ⟨hfc_s3, hm_s3, hp5, hTK_s3, hRCO_s3⟩ := hp4
  have hf_s3 : fr [34, 53, 54, 55, 56, 57, 58] s0 s3 := hf_s0.call (by decide) hfc_s3
  refine k_st (st' := []) rfl ?_
  refine k_iconst (pc := 5) E dX3_readSum_5 ?_
  refine k_istoren (pc := 6) (lv' := [(2, gI 0), (0, .ref (a 2)), (1, gI x0)]) E dX3_readSum_6 rfl (by decide) rfl ?_
  have L39 : ∀ (n40 : Nat) (v37 : Int) (s38 : gMem), ((in32 v37) ∧ (fr [34, 53, 54, 55, 56, 57, 58] s0 s38) ∧ (TK s38) ∧ (RCO s38) ∧ (0 ≤ v37 ∧ v37 ≤ 160)) → 160 - v37 < (n40 : Int) → (∀ (w41 : Int) (s42 : gMem), (w_X3_readSum_4_7 x0 n40 v37 s38) = (w41, s42) → ((in32 w41) ∧ (fr [34, 53, 54, 55, 56, 57, 58] s0 s42) ∧ (TK s42) ∧ (RCO s42) ∧ (0 ≤ w41 ∧ w41 ≤ 160)) → gK D vwCl (wdX a cI cJ cS cT) lgX A p l e { frames := 38, cells := 0, slots := 0, locals := 2432 } s m args below meth c 4 (gQQ D vwCl (wdX a cI cJ cS cT) lgX A kV rgV below args s) (f_X3_readSum_4 x0 s0) s42 69 [] []) → gK D vwCl (wdX a cI cJ cS cT) lgX A p l e { frames := 38, cells := 0, slots := 0, locals := 2432 } s m args below meth c 4 (gQQ D vwCl (wdX a cI cJ cS cT) lgX A kV rgV below args s) (f_X3_readSum_4 x0 s0) s38 7 [(0, .ref (a 2)), (1, gI x0), (2, gI v37)] [] := by
    intro n40; induction n40 with
    | zero =>
      intro v37 s38 hq hm hk
      exfalso
      obtain ⟨hq71, hf_s38, hTK_s38, hRCO_s38, hq72⟩ := hq
      omega
    | succ n40 ih =>
      intro v37 s38 hq hm hk
      obtain ⟨hq73, hf_s38, hTK_s38, hRCO_s38, hq74⟩ := hq
      have hT := w_X3_readSum_4_7_s x0 n40 v37 s38
      refine k_iloadn (pc := 7) E 2 dX3_readSum_7 rfl rfl ?_
      refine k_sipush (pc := 8) E dX3_readSum_8 (by decide) ?_
      by_cases h43 : v37 < 160
      · replace hT := hT.trans (if_pos h43)
        refine k_icmp_ge_f (pc := 11) (tgt := 69) E (by omega) (by omega) dX3_readSum_11 (by decide) h43 ?_
        refine k_aloadn (pc := 14) E 0 dX3_readSum_14 rfl rfl ?_
        refine k_getfI (pc := 15) (q0 := 2) (f := 6) (k := 55) E inX3 rfl rfl (by decide) wm_65 rfl rfl rfl dX3_readSum_15 (fun hr44 => ?_)
        refine k_bipush (pc := 18) E dX3_readSum_18 (by decide) ?_
        obtain ⟨j46c, hj46c, hT⟩ := gjx hT
        have j46 : (True) → (w_X3_readSum_4_7 x0 (n40 + 1) v37 s38) = j46c  → gK D vwCl (wdX a cI cJ cS cT) lgX A p l e { frames := 38, cells := 0, slots := 0, locals := 2432 } s m args below meth c 4 (gQQ D vwCl (wdX a cI cJ cS cT) lgX A kV rgV below args s) (f_X3_readSum_4 x0 s0) s38 32 [(0, .ref (a 2)), (1, gI x0), (2, gI v37)] [] := by
          intro  hq hT
          rw [hj46c] at hT
          refine k_aloadn (pc := 32) E 0 dX3_readSum_32 rfl rfl ?_
          refine k_getfI (pc := 33) (q0 := 2) (f := 6) (k := 55) E inX3 rfl rfl (by decide) wm_65 rfl rfl rfl dX3_readSum_33 (fun hr47 => ?_)
          refine k_bipush (pc := 36) E dX3_readSum_36 (by decide) ?_
          obtain ⟨z68, hz68, hT⟩ := gl1x hT
          have j49 : ∀ (v50 : Int), ((in32 v50) ∧ (-12 ≤ v50 ∧ v50 ≤ -11)) → z68 = v50 → gK D vwCl (wdX a cI cJ cS cT) lgX A p l e { frames := 38, cells := 0, slots := 0, locals := 2432 } s m args below meth c 4 (gQQ D vwCl (wdX a cI cJ cS cT) lgX A kV rgV below args s) (f_X3_readSum_4 x0 s0) s38 48 [(0, .ref (a 2)), (1, gI x0), (2, gI v37)] [gI v50] := by
            intro v50 hq hz
            obtain ⟨hq66, hq67⟩ := hq
            replace hT := gl1y hT hz
            refine k_istoren (pc := 48) (lv' := [(3, gI v50), (0, .ref (a 2)), (1, gI x0), (2, gI v37)]) E dX3_readSum_48 rfl (by decide) rfl ?_
            refine k_aloadn (pc := 49) E 1 dX3_readSum_49 rfl rfl ?_
            refine k_mr (fun hm_s38 => ?_)
            refine k_callVX (pc := 50) (np := 0) (As := []) (st := []) (q0 := 2) E HX rfl rfl (c_X3_next l D a cI cJ cS cT adK adV kA s38  hTK_s38) wm_336 wm_3 wm_333 wm_335 wp_0 (by decide +kernel) ⟨by decide, by decide⟩ rfl (Nat.le_of_ble_eq_true rfl) dX3_readSum_50 (fun r52 s53 hs53 hr51 => ?_)
            replace hT := gby hT hs53
            have hp54 := f_X3_next_p  s38  hm_s38 hTK_s38 r52 s53 hs53
            obtain ⟨hfc_s53, hm_s53, hp55, hTK_s53⟩ := hp54
            have hf_s53 : fr [34, 53, 54, 55, 56, 57, 58] s0 s53 := hf_s38.call (by decide) hfc_s53
            have hRCO_s53 : RCO s53 := RCO_fr hRCO_s38 (fun k hk => hfc_s53 k (dj (by decide) k hk))
            refine k_st (st' := []) rfl ?_
            refine k_aloadn (pc := 53) E 1 dX3_readSum_53 rfl rfl ?_
            refine k_iloadn (pc := 54) E 2 dX3_readSum_54 rfl rfl ?_
            refine k_mr (fun hm_s53 => ?_)
            refine k_callVX (pc := 55) (np := 1) (As := [gI x0]) (st := []) (q0 := 2) E HX rfl rfl (c_X3_readTerm_4 l D a cI cJ cS cT adK adV kA s53 x0 (by omega) hTK_s53 hRCO_s53 (by first | assumption | omega)) wm_452 wm_3 wm_449 wm_451 wp_11 (by decide +kernel) ⟨by decide, by decide⟩ rfl (Nat.le_of_ble_eq_true rfl) dX3_readSum_55 (fun r57 s58 hs58 hr56 => ?_)
            replace hT := gby hT hs58
            have hp59 := f_X3_readTerm_4_p x0 s53 (by omega) hm_s53 hTK_s53 hRCO_s53 (by first | assumption | omega) r57 s58 hs58
            obtain ⟨hfc_s58, hm_s58, hp60, hTK_s58, hRCO_s58⟩ := hp59
            have hf_s58 : fr [34, 53, 54, 55, 56, 57, 58] s0 s58 := hf_s53.call (by decide) hfc_s58
            refine k_st (st' := []) rfl ?_
            refine k_aloadn (pc := 58) E 1 dX3_readSum_58 rfl rfl ?_
            refine k_iloadn (pc := 59) E 0 dX3_readSum_59 rfl rfl ?_
            refine k_mr (fun hm_s58 => ?_)
            refine k_callV (pc := 60) (np := 1) (As := [gI v50]) (st := []) (q0 := 2) E (c_X3_emit l D a cI cJ cS cT s58 v50 (by omega) hTK_s58 hRCO_s58 (by first | assumption | omega)) wm_460 wm_3 wm_457 wm_459 wp_13 (by decide +kernel) rfl rfl ⟨by decide, by decide⟩ rfl (Nat.le_of_ble_eq_true rfl) dX3_readSum_60 (fun r62 s63 hs63 hr61 => ?_)
            replace hT := gby hT hs63
            have hp64 := f_X3_emit_p v50 s58 (by omega) hm_s58 hTK_s58 hRCO_s58 (by first | assumption | omega) r62 s63 hs63
            obtain ⟨hfc_s63, hm_s63, hp65, hTK_s63, hRCO_s63⟩ := hp64
            have hf_s63 : fr [34, 53, 54, 55, 56, 57, 58] s0 s63 := hf_s58.call (by decide) hfc_s63
            refine k_st (st' := []) rfl ?_
            refine k_iinc (pc := 63) (lv' := [(2, gI (v37 + 1)), (3, gI v50), (0, .ref (a 2)), (1, gI x0)]) E 3 dX3_readSum_63 rfl (by decide) rfl ?_
            refine k_goto (pc := 66) (tgt := 7) E dX3_readSum_66 (by decide) ?_
            refine k_lv (lv' := [(0, .ref (a 2)), (1, gI x0), (2, gI (v37 + 1))]) [2, 3, 0] rfl ?_
            exact ih (v37 + 1) s63 ⟨(by omega), hf_s63, hTK_s63, hRCO_s63, (by first | assumption | omega)⟩ (by omega) (fun w41 s42 hw hi => hk w41 s42 (hT.trans hw) hi)
          replace hT := hz68
          by_cases h48 : (s38 55 0) = 43
          · replace hT := hT.trans (if_pos h48)
            refine k_icmp_ne_f (pc := 38) (tgt := 46) E (by omega) (by omega) dX3_readSum_38 (by decide) h48 ?_
            refine k_bipush (pc := 41) E dX3_readSum_41 (by decide) ?_
            refine k_goto (pc := 43) (tgt := 48) E dX3_readSum_43 (by decide) ?_
            exact j49 (-11) ⟨(by omega), (by first | assumption | omega)⟩ hT
          · replace hT := hT.trans (if_neg h48)
            refine k_icmp_ne_t (pc := 38) (tgt := 46) E (by omega) (by omega) dX3_readSum_38 (by decide) h48 ?_
            refine k_bipush (pc := 46) E dX3_readSum_46 (by decide) ?_
            exact j49 (-12) ⟨(by omega), (by first | assumption | omega)⟩ hT
        by_cases h45 : (s38 55 0) = 43
        · replace hT := hT.trans (if_pos h45)
          refine k_icmp_eq_t (pc := 20) (tgt := 32) E (by omega) (by omega) dX3_readSum_20 (by decide) h45 ?_
          exact j46  trivial hT
        · replace hT := hT.trans (if_neg h45)
          refine k_icmp_eq_f (pc := 20) (tgt := 32) E (by omega) (by omega) dX3_readSum_20 (by decide) h45 ?_
          refine k_aloadn (pc := 23) E 0 dX3_readSum_23 rfl rfl ?_
          refine k_getfI (pc := 24) (q0 := 2) (f := 6) (k := 55) E inX3 rfl rfl (by decide) wm_65 rfl rfl rfl dX3_readSum_24 (fun hr69 => ?_)
          refine k_bipush (pc := 27) E dX3_readSum_27 (by decide) ?_
          by_cases h70 : (s38 55 0) = 45
          · replace hT := hT.trans (if_pos h70)
            refine k_icmp_ne_f (pc := 29) (tgt := 69) E (by omega) (by omega) dX3_readSum_29 (by decide) h70 ?_
            exact j46  trivial hT
          · replace hT := hT.trans (if_neg h70)
            refine k_icmp_ne_t (pc := 29) (tgt := 69) E (by omega) (by omega) dX3_readSum_29 (by decide) h70 ?_
            refine k_lv (lv' := []) [] rfl ?_
            exact hk v37 s38 hT ⟨(by omega), hf_s38, hTK_s38, hRCO_s38, (by first | assumption | omega)⟩
      · replace hT := hT.trans (if_neg h43)
        refine k_icmp_ge_t (pc := 11) (tgt := 69) E (by omega) (by omega) dX3_readSum_11 (by decide) h43 ?_
        refine k_lv (lv' := []) [] rfl ?_
        exact hk v37 s38 hT ⟨(by omega), hf_s38, hTK_s38, hRCO_s38, (by first | assumption | omega)⟩
  refine k_lv (lv' := [(0, .ref (a 2)), (1, gI x0), (2, gI 0)]) [1, 2, 0] rfl ?_
  refine L39 161 0 s3 ⟨(by omega), hf_s3, hTK_s3, hRCO_s3, (by first | assumption | omega)⟩ (by omega) (fun v75 s76 hw hq => ?_)
  obtain ⟨hq77, hf_s76, hTK_s76, hRCO_s76, hq78⟩ := hq
  replace hT := gl2y hT hw
  exact k_rho hT (k_vret (pc := 69) E dX3_readSum_69)

def f_X3_readCompared_4 (x0 : Int) (s0 : gMem) : gRes := gb (f_X3_readSum_4 x0 s0) (fun r2 s3 => (gj (fun j8c => (if (s3 55 0) = 60 then j8c else (if (s3 55 0) = 61 then j8c else (0, s3)))) ((gl ((if (s3 55 0) = 60 then (-9) else (-10))) (fun v12 => gb (f_X3_next  s3) (fun r14 s15 => gb (f_X3_readSum_4 x0 s15) (fun r19 s20 => gb (f_X3_emit v12 s20) (fun r24 s25 => (0, s25)))))))))
theorem f_X3_readCompared_4_e (x0 : Int) (s0 : gMem) : f_X3_readCompared_4 x0 s0 = gb (f_X3_readSum_4 x0 s0) (fun r2 s3 => (gj (fun j8c => (if (s3 55 0) = 60 then j8c else (if (s3 55 0) = 61 then j8c else (0, s3)))) ((gl ((if (s3 55 0) = 60 then (-9) else (-10))) (fun v12 => gb (f_X3_next  s3) (fun r14 s15 => gb (f_X3_readSum_4 x0 s15) (fun r19 s20 => gb (f_X3_emit v12 s20) (fun r24 s25 => (0, s25))))))))) := rfl
set_option maxRecDepth 100000 in
set_option maxHeartbeats 4000000 in
theorem f_X3_readCompared_4_p (x0 : Int) (s0 : gMem) (hx0 : in32 x0) (hm_s0 : gMR lgX s0) (hpre0 : TK s0) (hpre1 : RCO s0) (hpre2 : x0 = 1) (rZ : Int) (sZ : gMem) (hres : f_X3_readCompared_4 x0 s0 = (rZ, sZ)) : (fr [34, 53, 54, 55, 56, 57, 58] s0 sZ) ∧ (gMR lgX sZ) ∧ (True) ∧ (TK sZ) ∧ (RCO sZ) := by
  have hT := f_X3_readCompared_4_e x0 s0
  have hf_s0 : fr [34, 53, 54, 55, 56, 57, 58] s0 s0 := fr.rf _ _
  have hTK_s0 := hpre0
  have hRCO_s0 := hpre1
  obtain ⟨r2, s3, hs3⟩ : ∃ rr ss, (f_X3_readSum_4 x0 s0) = (rr, ss) := ⟨_, _, rfl⟩
  replace hT := gby hT hs3
  have hp4 := f_X3_readSum_4_p x0 s0 (by omega) hm_s0 hTK_s0 hRCO_s0 (by first | assumption | omega) r2 s3 hs3
  obtain ⟨hfc_s3, hm_s3, hp5, hTK_s3, hRCO_s3⟩ := hp4
  have hf_s3 : fr [34, 53, 54, 55, 56, 57, 58] s0 s3 := hf_s0.call (by decide) hfc_s3
  have hr6 := (hm_s3 55 0).1 rfl
  obtain ⟨j8c, hj8c, hT⟩ := gjx hT
  have j8 : (True) → (f_X3_readCompared_4 x0 s0) = j8c  → (fr [34, 53, 54, 55, 56, 57, 58] s0 sZ) ∧ (gMR lgX sZ) ∧ (True) ∧ (TK sZ) ∧ (RCO sZ) := by
    intro  hq hT
    rw [hj8c] at hT
    have hr9 := (hm_s3 55 0).1 rfl
    obtain ⟨z30, hz30, hT⟩ := gl1x hT
    have j11 : ∀ (v12 : Int), ((in32 v12) ∧ (-10 ≤ v12 ∧ v12 ≤ -9)) → z30 = v12 → (fr [34, 53, 54, 55, 56, 57, 58] s0 sZ) ∧ (gMR lgX sZ) ∧ (True) ∧ (TK sZ) ∧ (RCO sZ) := by
      intro v12 hq hz
      obtain ⟨hq28, hq29⟩ := hq
      replace hT := gl1y hT hz
      obtain ⟨r14, s15, hs15⟩ : ∃ rr ss, (f_X3_next  s3) = (rr, ss) := ⟨_, _, rfl⟩
      replace hT := gby hT hs15
      have hp16 := f_X3_next_p  s3  hm_s3 hTK_s3 r14 s15 hs15
      obtain ⟨hfc_s15, hm_s15, hp17, hTK_s15⟩ := hp16
      have hf_s15 : fr [34, 53, 54, 55, 56, 57, 58] s0 s15 := hf_s3.call (by decide) hfc_s15
      have hRCO_s15 : RCO s15 := RCO_fr hRCO_s3 (fun k hk => hfc_s15 k (dj (by decide) k hk))
      obtain ⟨r19, s20, hs20⟩ : ∃ rr ss, (f_X3_readSum_4 x0 s15) = (rr, ss) := ⟨_, _, rfl⟩
      replace hT := gby hT hs20
      have hp21 := f_X3_readSum_4_p x0 s15 (by omega) hm_s15 hTK_s15 hRCO_s15 (by first | assumption | omega) r19 s20 hs20
      obtain ⟨hfc_s20, hm_s20, hp22, hTK_s20, hRCO_s20⟩ := hp21
      have hf_s20 : fr [34, 53, 54, 55, 56, 57, 58] s0 s20 := hf_s15.call (by decide) hfc_s20
      obtain ⟨r24, s25, hs25⟩ : ∃ rr ss, (f_X3_emit v12 s20) = (rr, ss) := ⟨_, _, rfl⟩
      replace hT := gby hT hs25
      have hp26 := f_X3_emit_p v12 s20 (by omega) hm_s20 hTK_s20 hRCO_s20 (by first | assumption | omega) r24 s25 hs25
      obtain ⟨hfc_s25, hm_s25, hp27, hTK_s25, hRCO_s25⟩ := hp26
      have hf_s25 : fr [34, 53, 54, 55, 56, 57, 58] s0 s25 := hf_s20.call (by decide) hfc_s25
      obtain ⟨rfl, rfl⟩ := Prod.mk.inj (hT.symm.trans hres)
      exact ⟨hf_s25, hm_s25, trivial, hTK_s25, hRCO_s25⟩
    replace hT := hz30
    by_cases h10 : (s3 55 0) = 60
    · replace hT := hT.trans (if_pos h10)
      exact j11 (-9) ⟨(by omega), (by first | assumption | omega)⟩ hT
    · replace hT := hT.trans (if_neg h10)
      exact j11 (-10) ⟨(by omega), (by first | assumption | omega)⟩ hT
  by_cases h7 : (s3 55 0) = 60
  · replace hT := hT.trans (if_pos h7)
    exact j8  trivial hT
  · replace hT := hT.trans (if_neg h7)
    have hr31 := (hm_s3 55 0).1 rfl
    by_cases h32 : (s3 55 0) = 61
    · replace hT := hT.trans (if_pos h32)
      exact j8  trivial hT
    · replace hT := hT.trans (if_neg h32)
      obtain ⟨rfl, rfl⟩ := Prod.mk.inj (hT.symm.trans hres)
      exact ⟨hf_s3, hm_s3, trivial, hTK_s3, hRCO_s3⟩
set_option maxRecDepth 100000 in
set_option maxHeartbeats 4000000 in
theorem c_X3_readCompared_4 (l : Launch) (D : va_G) (a : Nat → Nat) (cI cJ cS cT : ClassId) (adK adV : Nat → Nat) (kA : Nat) (s0 : gMem) (x0 : Int) (hx0 : in32 x0) (hpre0 : TK s0) (hpre1 : RCO s0) (hpre2 : x0 = 1) : gCS l yX3_readCompared cX3_readCompared 3 none 39 2496 D vwCl (gT cI cJ cS cT) (wdX a cI cJ cS cT) lgX kV rgV [.ref (a 2), gI x0] s0 (f_X3_readCompared_4 x0 s0) adK adV kA := by
  refine gCS_of (by decide +kernel) (hwdX a cI cJ cS cT) (Nat.le_of_ble_eq_true rfl) ?_
  intro A p e R s m args below meth c hR E HX
  subst hR
  have hT := f_X3_readCompared_4_e x0 s0
  have hf_s0 : fr [34, 53, 54, 55, 56, 57, 58] s0 s0 := fr.rf _ _
  refine k_lv0 (lv' := [(0, .ref (a 2)), (1, gI x0)]) rfl ?_
  refine k_mr (fun hm_s0 => ?_)
  have hTK_s0 := hpre0
  have hRCO_s0 := hpre1
  refine k_aloadn (pc := 0) E 0 dX3_readCompared_0 rfl rfl ?_
  refine k_iloadn (pc := 1) E 1 dX3_readCompared_1 rfl rfl ?_
  refine k_mr (fun hm_s0 => ?_)
  refine k_callVX (pc := 2) (np := 1) (As := [gI x0]) (st := []) (q0 := 2) E HX rfl rfl (c_X3_readSum_4 l D a cI cJ cS cT adK adV kA s0 x0 (by omega) hTK_s0 hRCO_s0 (by first | assumption | omega)) wm_448 wm_3 wm_445 wm_447 wp_10 (by decide +kernel) ⟨by decide, by decide⟩ rfl (Nat.le_of_ble_eq_true rfl) dX3_readCompared_2 (fun r2 s3 hs3 hr1 => ?_)
  replace hT := gby hT hs3
  have hp4 := f_X3_readSum_4_p x0 s0 (by omega) hm_s0 hTK_s0 hRCO_s0 (by first | assumption | omega) r2 s3 hs3
  obtain ⟨hfc_s3, hm_s3, hp5, hTK_s3, hRCO_s3⟩ := hp4
  have hf_s3 : fr [34, 53, 54, 55, 56, 57, 58] s0 s3 := hf_s0.call (by decide) hfc_s3
  refine k_st (st' := []) rfl ?_
  refine k_aloadn (pc := 5) E 0 dX3_readCompared_5 rfl rfl ?_
  refine k_getfI (pc := 6) (q0 := 2) (f := 6) (k := 55) E inX3 rfl rfl (by decide) wm_65 rfl rfl rfl dX3_readCompared_6 (fun hr6 => ?_)
  refine k_bipush (pc := 9) E dX3_readCompared_9 (by decide) ?_
  obtain ⟨j8c, hj8c, hT⟩ := gjx hT
  have j8 : (True) → (f_X3_readCompared_4 x0 s0) = j8c  → gK D vwCl (wdX a cI cJ cS cT) lgX A p l e { frames := 39, cells := 0, slots := 0, locals := 2496 } s m args below meth c 3 (gQQ D vwCl (wdX a cI cJ cS cT) lgX A kV rgV below args s) (f_X3_readCompared_4 x0 s0) s3 23 [(0, .ref (a 2)), (1, gI x0)] [] := by
    intro  hq hT
    rw [hj8c] at hT
    refine k_aloadn (pc := 23) E 0 dX3_readCompared_23 rfl rfl ?_
    refine k_getfI (pc := 24) (q0 := 2) (f := 6) (k := 55) E inX3 rfl rfl (by decide) wm_65 rfl rfl rfl dX3_readCompared_24 (fun hr9 => ?_)
    refine k_bipush (pc := 27) E dX3_readCompared_27 (by decide) ?_
    obtain ⟨z30, hz30, hT⟩ := gl1x hT
    have j11 : ∀ (v12 : Int), ((in32 v12) ∧ (-10 ≤ v12 ∧ v12 ≤ -9)) → z30 = v12 → gK D vwCl (wdX a cI cJ cS cT) lgX A p l e { frames := 39, cells := 0, slots := 0, locals := 2496 } s m args below meth c 3 (gQQ D vwCl (wdX a cI cJ cS cT) lgX A kV rgV below args s) (f_X3_readCompared_4 x0 s0) s3 39 [(0, .ref (a 2)), (1, gI x0)] [gI v12] := by
      intro v12 hq hz
      obtain ⟨hq28, hq29⟩ := hq
      replace hT := gl1y hT hz
      refine k_istoren (pc := 39) (lv' := [(2, gI v12), (0, .ref (a 2)), (1, gI x0)]) E dX3_readCompared_39 rfl (by decide) rfl ?_
      refine k_aloadn (pc := 40) E 1 dX3_readCompared_40 rfl rfl ?_
      refine k_mr (fun hm_s3 => ?_)
      refine k_callVX (pc := 41) (np := 0) (As := []) (st := []) (q0 := 2) E HX rfl rfl (c_X3_next l D a cI cJ cS cT adK adV kA s3  hTK_s3) wm_336 wm_3 wm_333 wm_335 wp_0 (by decide +kernel) ⟨by decide, by decide⟩ rfl (Nat.le_of_ble_eq_true rfl) dX3_readCompared_41 (fun r14 s15 hs15 hr13 => ?_)
      replace hT := gby hT hs15
      have hp16 := f_X3_next_p  s3  hm_s3 hTK_s3 r14 s15 hs15
      obtain ⟨hfc_s15, hm_s15, hp17, hTK_s15⟩ := hp16
      have hf_s15 : fr [34, 53, 54, 55, 56, 57, 58] s0 s15 := hf_s3.call (by decide) hfc_s15
      have hRCO_s15 : RCO s15 := RCO_fr hRCO_s3 (fun k hk => hfc_s15 k (dj (by decide) k hk))
      refine k_st (st' := []) rfl ?_
      refine k_aloadn (pc := 44) E 1 dX3_readCompared_44 rfl rfl ?_
      refine k_iloadn (pc := 45) E 2 dX3_readCompared_45 rfl rfl ?_
      refine k_mr (fun hm_s15 => ?_)
      refine k_callVX (pc := 46) (np := 1) (As := [gI x0]) (st := []) (q0 := 2) E HX rfl rfl (c_X3_readSum_4 l D a cI cJ cS cT adK adV kA s15 x0 (by omega) hTK_s15 hRCO_s15 (by first | assumption | omega)) wm_448 wm_3 wm_445 wm_447 wp_10 (by decide +kernel) ⟨by decide, by decide⟩ rfl (Nat.le_of_ble_eq_true rfl) dX3_readCompared_46 (fun r19 s20 hs20 hr18 => ?_)
      replace hT := gby hT hs20
      have hp21 := f_X3_readSum_4_p x0 s15 (by omega) hm_s15 hTK_s15 hRCO_s15 (by first | assumption | omega) r19 s20 hs20
      obtain ⟨hfc_s20, hm_s20, hp22, hTK_s20, hRCO_s20⟩ := hp21
      have hf_s20 : fr [34, 53, 54, 55, 56, 57, 58] s0 s20 := hf_s15.call (by decide) hfc_s20
      refine k_st (st' := []) rfl ?_
      refine k_aloadn (pc := 49) E 1 dX3_readCompared_49 rfl rfl ?_
      refine k_iloadn (pc := 50) E 0 dX3_readCompared_50 rfl rfl ?_
      refine k_mr (fun hm_s20 => ?_)
      refine k_callV (pc := 51) (np := 1) (As := [gI v12]) (st := []) (q0 := 2) E (c_X3_emit l D a cI cJ cS cT s20 v12 (by omega) hTK_s20 hRCO_s20 (by first | assumption | omega)) wm_460 wm_3 wm_457 wm_459 wp_13 (by decide +kernel) rfl rfl ⟨by decide, by decide⟩ rfl (Nat.le_of_ble_eq_true rfl) dX3_readCompared_51 (fun r24 s25 hs25 hr23 => ?_)
      replace hT := gby hT hs25
      have hp26 := f_X3_emit_p v12 s20 (by omega) hm_s20 hTK_s20 hRCO_s20 (by first | assumption | omega) r24 s25 hs25
      obtain ⟨hfc_s25, hm_s25, hp27, hTK_s25, hRCO_s25⟩ := hp26
      have hf_s25 : fr [34, 53, 54, 55, 56, 57, 58] s0 s25 := hf_s20.call (by decide) hfc_s25
      refine k_st (st' := []) rfl ?_
      exact k_rho hT (k_vret (pc := 54) E dX3_readCompared_54)
    replace hT := hz30
    by_cases h10 : (s3 55 0) = 60
    · replace hT := hT.trans (if_pos h10)
      refine k_icmp_ne_f (pc := 29) (tgt := 37) E (by omega) (by omega) dX3_readCompared_29 (by decide) h10 ?_
      refine k_bipush (pc := 32) E dX3_readCompared_32 (by decide) ?_
      refine k_goto (pc := 34) (tgt := 39) E dX3_readCompared_34 (by decide) ?_
      exact j11 (-9) ⟨(by omega), (by first | assumption | omega)⟩ hT
    · replace hT := hT.trans (if_neg h10)
      refine k_icmp_ne_t (pc := 29) (tgt := 37) E (by omega) (by omega) dX3_readCompared_29 (by decide) h10 ?_
      refine k_bipush (pc := 37) E dX3_readCompared_37 (by decide) ?_
      exact j11 (-10) ⟨(by omega), (by first | assumption | omega)⟩ hT
  by_cases h7 : (s3 55 0) = 60
  · replace hT := hT.trans (if_pos h7)
    refine k_icmp_eq_t (pc := 11) (tgt := 23) E (by omega) (by omega) dX3_readCompared_11 (by decide) h7 ?_
    exact j8  trivial hT
  · replace hT := hT.trans (if_neg h7)
    refine k_icmp_eq_f (pc := 11) (tgt := 23) E (by omega) (by omega) dX3_readCompared_11 (by decide) h7 ?_
    refine k_aloadn (pc := 14) E 0 dX3_readCompared_14 rfl rfl ?_
    refine k_getfI (pc := 15) (q0 := 2) (f := 6) (k := 55) E inX3 rfl rfl (by decide) wm_65 rfl rfl rfl dX3_readCompared_15 (fun hr31 => ?_)
    refine k_bipush (pc := 18) E dX3_readCompared_18 (by decide) ?_
    by_cases h32 : (s3 55 0) = 61
    · replace hT := hT.trans (if_pos h32)
      refine k_icmp_ne_f (pc := 20) (tgt := 54) E (by omega) (by omega) dX3_readCompared_20 (by decide) h32 ?_
      exact j8  trivial hT
    · replace hT := hT.trans (if_neg h32)
      refine k_icmp_ne_t (pc := 20) (tgt := 54) E (by omega) (by omega) dX3_readCompared_20 (by decide) h32 ?_
      exact k_rho hT (k_vret (pc := 54) E dX3_readCompared_54)

def f_X3_readNot_4 (x0 : Int) (s0 : gMem) : gRes := (if (s0 55 0) = 261 then (if x0 < 5 then gb (f_X3_next  s0) (fun r5 s6 => gb (f_X3_readNot_3 (x0 + 1) s6) (fun r10 s11 => gb (f_X3_emit (-14) s11) (fun r15 s16 => (0, s16)))) else gb (f_X3_fail  s0) (fun r20 s21 => (0, s21))) else gb (f_X3_readCompared_4 x0 s0) (fun r26 s27 => (0, s27)))
theorem f_X3_readNot_4_e (x0 : Int) (s0 : gMem) : f_X3_readNot_4 x0 s0 = (if (s0 55 0) = 261 then (if x0 < 5 then gb (f_X3_next  s0) (fun r5 s6 => gb (f_X3_readNot_3 (x0 + 1) s6) (fun r10 s11 => gb (f_X3_emit (-14) s11) (fun r15 s16 => (0, s16)))) else gb (f_X3_fail  s0) (fun r20 s21 => (0, s21))) else gb (f_X3_readCompared_4 x0 s0) (fun r26 s27 => (0, s27))) := rfl
set_option maxRecDepth 100000 in
set_option maxHeartbeats 4000000 in
theorem f_X3_readNot_4_p (x0 : Int) (s0 : gMem) (hx0 : in32 x0) (hm_s0 : gMR lgX s0) (hpre0 : TK s0) (hpre1 : RCO s0) (hpre2 : x0 = 1) (rZ : Int) (sZ : gMem) (hres : f_X3_readNot_4 x0 s0 = (rZ, sZ)) : (fr [34, 53, 54, 55, 56, 57, 58] s0 sZ) ∧ (gMR lgX sZ) ∧ (True) ∧ (TK sZ) ∧ (RCO sZ) := by
  have hT := f_X3_readNot_4_e x0 s0
  have hf_s0 : fr [34, 53, 54, 55, 56, 57, 58] s0 s0 := fr.rf _ _
  have hTK_s0 := hpre0
  have hRCO_s0 := hpre1
  have hr1 := (hm_s0 55 0).1 rfl
  by_cases h2 : (s0 55 0) = 261
  · replace hT := hT.trans (if_pos h2)
    by_cases h3 : x0 < 5
    · replace hT := hT.trans (if_pos h3)
      obtain ⟨r5, s6, hs6⟩ : ∃ rr ss, (f_X3_next  s0) = (rr, ss) := ⟨_, _, rfl⟩
      replace hT := gby hT hs6
      have hp7 := f_X3_next_p  s0  hm_s0 hTK_s0 r5 s6 hs6
      obtain ⟨hfc_s6, hm_s6, hp8, hTK_s6⟩ := hp7
      have hf_s6 : fr [34, 53, 54, 55, 56, 57, 58] s0 s6 := hf_s0.call (by decide) hfc_s6
      have hRCO_s6 : RCO s6 := RCO_fr hRCO_s0 (fun k hk => hfc_s6 k (dj (by decide) k hk))
      obtain ⟨r10, s11, hs11⟩ : ∃ rr ss, (f_X3_readNot_3 (x0 + 1) s6) = (rr, ss) := ⟨_, _, rfl⟩
      replace hT := gby hT hs11
      have hp12 := f_X3_readNot_3_p (x0 + 1) s6 (by omega) hm_s6 hTK_s6 hRCO_s6 (by first | assumption | omega) r10 s11 hs11
      obtain ⟨hfc_s11, hm_s11, hp13, hTK_s11, hRCO_s11⟩ := hp12
      have hf_s11 : fr [34, 53, 54, 55, 56, 57, 58] s0 s11 := hf_s6.call (by decide) hfc_s11
      obtain ⟨r15, s16, hs16⟩ : ∃ rr ss, (f_X3_emit (-14) s11) = (rr, ss) := ⟨_, _, rfl⟩
      replace hT := gby hT hs16
      have hp17 := f_X3_emit_p (-14) s11 (by omega) hm_s11 hTK_s11 hRCO_s11 (by first | assumption | omega) r15 s16 hs16
      obtain ⟨hfc_s16, hm_s16, hp18, hTK_s16, hRCO_s16⟩ := hp17
      have hf_s16 : fr [34, 53, 54, 55, 56, 57, 58] s0 s16 := hf_s11.call (by decide) hfc_s16
      obtain ⟨rfl, rfl⟩ := Prod.mk.inj (hT.symm.trans hres)
      exact ⟨hf_s16, hm_s16, trivial, hTK_s16, hRCO_s16⟩
    · replace hT := hT.trans (if_neg h3)
      obtain ⟨r20, s21, hs21⟩ : ∃ rr ss, (f_X3_fail  s0) = (rr, ss) := ⟨_, _, rfl⟩
      replace hT := gby hT hs21
      have hp22 := f_X3_fail_p  s0  hm_s0 hTK_s0 r20 s21 hs21
      obtain ⟨hfc_s21, hm_s21, hp23, hTK_s21, hp24⟩ := hp22
      have hf_s21 : fr [34, 53, 54, 55, 56, 57, 58] s0 s21 := hf_s0.call (by decide) hfc_s21
      have hRCO_s21 : RCO s21 := RCO_fr hRCO_s0 (fun k hk => hfc_s21 k (dj (by decide) k hk))
      obtain ⟨rfl, rfl⟩ := Prod.mk.inj (hT.symm.trans hres)
      exact ⟨hf_s21, hm_s21, trivial, hTK_s21, hRCO_s21⟩
  · replace hT := hT.trans (if_neg h2)
    obtain ⟨r26, s27, hs27⟩ : ∃ rr ss, (f_X3_readCompared_4 x0 s0) = (rr, ss) := ⟨_, _, rfl⟩
    replace hT := gby hT hs27
    have hp28 := f_X3_readCompared_4_p x0 s0 (by omega) hm_s0 hTK_s0 hRCO_s0 (by first | assumption | omega) r26 s27 hs27
    obtain ⟨hfc_s27, hm_s27, hp29, hTK_s27, hRCO_s27⟩ := hp28
    have hf_s27 : fr [34, 53, 54, 55, 56, 57, 58] s0 s27 := hf_s0.call (by decide) hfc_s27
    obtain ⟨rfl, rfl⟩ := Prod.mk.inj (hT.symm.trans hres)
    exact ⟨hf_s27, hm_s27, trivial, hTK_s27, hRCO_s27⟩
set_option maxRecDepth 100000 in
set_option maxHeartbeats 4000000 in
theorem c_X3_readNot_4 (l : Launch) (D : va_G) (a : Nat → Nat) (cI cJ cS cT : ClassId) (adK adV : Nat → Nat) (kA : Nat) (s0 : gMem) (x0 : Int) (hx0 : in32 x0) (hpre0 : TK s0) (hpre1 : RCO s0) (hpre2 : x0 = 1) : gCS l yX3_readNot cX3_readNot 2 none 40 2560 D vwCl (gT cI cJ cS cT) (wdX a cI cJ cS cT) lgX kV rgV [.ref (a 2), gI x0] s0 (f_X3_readNot_4 x0 s0) adK adV kA := by
  refine gCS_of (by decide +kernel) (hwdX a cI cJ cS cT) (Nat.le_of_ble_eq_true rfl) ?_
  intro A p e R s m args below meth c hR E HX
  subst hR
  have hT := f_X3_readNot_4_e x0 s0
  have hf_s0 : fr [34, 53, 54, 55, 56, 57, 58] s0 s0 := fr.rf _ _
  refine k_lv0 (lv' := [(0, .ref (a 2)), (1, gI x0)]) rfl ?_
  refine k_mr (fun hm_s0 => ?_)
  have hTK_s0 := hpre0
  have hRCO_s0 := hpre1
  refine k_aloadn (pc := 0) E 0 dX3_readNot_0 rfl rfl ?_
  refine k_getfI (pc := 1) (q0 := 2) (f := 6) (k := 55) E inX3 rfl rfl (by decide) wm_65 rfl rfl rfl dX3_readNot_1 (fun hr1 => ?_)
  refine k_sipush (pc := 4) E dX3_readNot_4 (by decide) ?_
  by_cases h2 : (s0 55 0) = 261
  · replace hT := hT.trans (if_pos h2)
    refine k_icmp_eq_t (pc := 7) (tgt := 18) E (by omega) (by omega) dX3_readNot_7 (by decide) h2 ?_
    refine k_iloadn (pc := 18) E 1 dX3_readNot_18 rfl rfl ?_
    refine k_iconst (pc := 19) E dX3_readNot_19 ?_
    by_cases h3 : x0 < 5
    · replace hT := hT.trans (if_pos h3)
      refine k_icmp_lt_t (pc := 20) (tgt := 30) E (by omega) (by omega) dX3_readNot_20 (by decide) h3 ?_
      refine k_aloadn (pc := 30) E 0 dX3_readNot_30 rfl rfl ?_
      refine k_mr (fun hm_s0 => ?_)
      refine k_callVX (pc := 31) (np := 0) (As := []) (st := []) (q0 := 2) E HX rfl rfl (c_X3_next l D a cI cJ cS cT adK adV kA s0  hTK_s0) wm_336 wm_3 wm_333 wm_335 wp_0 (by decide +kernel) ⟨by decide, by decide⟩ rfl (Nat.le_of_ble_eq_true rfl) dX3_readNot_31 (fun r5 s6 hs6 hr4 => ?_)
      replace hT := gby hT hs6
      have hp7 := f_X3_next_p  s0  hm_s0 hTK_s0 r5 s6 hs6
      obtain ⟨hfc_s6, hm_s6, hp8, hTK_s6⟩ := hp7
      have hf_s6 : fr [34, 53, 54, 55, 56, 57, 58] s0 s6 := hf_s0.call (by decide) hfc_s6
      have hRCO_s6 : RCO s6 := RCO_fr hRCO_s0 (fun k hk => hfc_s6 k (dj (by decide) k hk))
      refine k_st (st' := []) rfl ?_
      refine k_aloadn (pc := 34) E 0 dX3_readNot_34 rfl rfl ?_
      refine k_iloadn (pc := 35) E 1 dX3_readNot_35 rfl rfl ?_
      refine k_iconst (pc := 36) E dX3_readNot_36 ?_
      refine k_iadd (pc := 37) E dX3_readNot_37 ?_
      refine k_mr (fun hm_s6 => ?_)
      refine k_callVX (pc := 38) (np := 1) (As := [gI (x0 + 1)]) (st := []) (q0 := 2) E HX rfl rfl (c_X3_readNot_3 l D a cI cJ cS cT adK adV kA s6 (x0 + 1) (by omega) hTK_s6 hRCO_s6 (by first | assumption | omega)) wm_440 wm_3 wm_437 wm_439 wp_8 (by decide +kernel) ⟨by decide, by decide⟩ rfl (Nat.le_of_ble_eq_true rfl) dX3_readNot_38 (fun r10 s11 hs11 hr9 => ?_)
      replace hT := gby hT hs11
      have hp12 := f_X3_readNot_3_p (x0 + 1) s6 (by omega) hm_s6 hTK_s6 hRCO_s6 (by first | assumption | omega) r10 s11 hs11
      obtain ⟨hfc_s11, hm_s11, hp13, hTK_s11, hRCO_s11⟩ := hp12
      have hf_s11 : fr [34, 53, 54, 55, 56, 57, 58] s0 s11 := hf_s6.call (by decide) hfc_s11
      refine k_st (st' := []) rfl ?_
      refine k_aloadn (pc := 41) E 0 dX3_readNot_41 rfl rfl ?_
      refine k_bipush (pc := 42) E dX3_readNot_42 (by decide) ?_
      refine k_mr (fun hm_s11 => ?_)
      refine k_callV (pc := 44) (np := 1) (As := [gI (-14)]) (st := []) (q0 := 2) E (c_X3_emit l D a cI cJ cS cT s11 (-14) (by omega) hTK_s11 hRCO_s11 (by first | assumption | omega)) wm_460 wm_3 wm_457 wm_459 wp_13 (by decide +kernel) rfl rfl ⟨by decide, by decide⟩ rfl (Nat.le_of_ble_eq_true rfl) dX3_readNot_44 (fun r15 s16 hs16 hr14 => ?_)
      replace hT := gby hT hs16
      have hp17 := f_X3_emit_p (-14) s11 (by omega) hm_s11 hTK_s11 hRCO_s11 (by first | assumption | omega) r15 s16 hs16
      obtain ⟨hfc_s16, hm_s16, hp18, hTK_s16, hRCO_s16⟩ := hp17
      have hf_s16 : fr [34, 53, 54, 55, 56, 57, 58] s0 s16 := hf_s11.call (by decide) hfc_s16
      refine k_st (st' := []) rfl ?_
      exact k_rho hT (k_vret (pc := 47) E dX3_readNot_47)
    · replace hT := hT.trans (if_neg h3)
      refine k_icmp_lt_f (pc := 20) (tgt := 30) E (by omega) (by omega) dX3_readNot_20 (by decide) h3 ?_
      refine k_aloadn (pc := 23) E 0 dX3_readNot_23 rfl rfl ?_
      refine k_mr (fun hm_s0 => ?_)
      refine k_callV (pc := 24) (np := 0) (As := []) (st := []) (q0 := 2) E (c_X3_fail l D a cI cJ cS cT s0  hTK_s0) wm_428 wm_3 wm_425 wm_427 wp_5 (by decide +kernel) rfl rfl ⟨by decide, by decide⟩ rfl (Nat.le_of_ble_eq_true rfl) dX3_readNot_24 (fun r20 s21 hs21 hr19 => ?_)
      replace hT := gby hT hs21
      have hp22 := f_X3_fail_p  s0  hm_s0 hTK_s0 r20 s21 hs21
      obtain ⟨hfc_s21, hm_s21, hp23, hTK_s21, hp24⟩ := hp22
      have hf_s21 : fr [34, 53, 54, 55, 56, 57, 58] s0 s21 := hf_s0.call (by decide) hfc_s21
      have hRCO_s21 : RCO s21 := RCO_fr hRCO_s0 (fun k hk => hfc_s21 k (dj (by decide) k hk))
      refine k_st (st' := []) rfl ?_
      refine k_goto (pc := 27) (tgt := 47) E dX3_readNot_27 (by decide) ?_
      exact k_rho hT (k_vret (pc := 47) E dX3_readNot_47)
  · replace hT := hT.trans (if_neg h2)
    refine k_icmp_eq_f (pc := 7) (tgt := 18) E (by omega) (by omega) dX3_readNot_7 (by decide) h2 ?_
    refine k_aloadn (pc := 10) E 0 dX3_readNot_10 rfl rfl ?_
    refine k_iloadn (pc := 11) E 1 dX3_readNot_11 rfl rfl ?_
    refine k_mr (fun hm_s0 => ?_)
    refine k_callVX (pc := 12) (np := 1) (As := [gI x0]) (st := []) (q0 := 2) E HX rfl rfl (c_X3_readCompared_4 l D a cI cJ cS cT adK adV kA s0 x0 (by omega) hTK_s0 hRCO_s0 (by first | assumption | omega)) wm_444 wm_3 wm_441 wm_443 wp_9 (by decide +kernel) ⟨by decide, by decide⟩ rfl (Nat.le_of_ble_eq_true rfl) dX3_readNot_12 (fun r26 s27 hs27 hr25 => ?_)
    replace hT := gby hT hs27
    have hp28 := f_X3_readCompared_4_p x0 s0 (by omega) hm_s0 hTK_s0 hRCO_s0 (by first | assumption | omega) r26 s27 hs27
    obtain ⟨hfc_s27, hm_s27, hp29, hTK_s27, hRCO_s27⟩ := hp28
    have hf_s27 : fr [34, 53, 54, 55, 56, 57, 58] s0 s27 := hf_s0.call (by decide) hfc_s27
    refine k_st (st' := []) rfl ?_
    refine k_goto (pc := 15) (tgt := 47) E dX3_readNot_15 (by decide) ?_
    exact k_rho hT (k_vret (pc := 47) E dX3_readNot_47)

def w_X3_readAnd_4_7 (c1 : Int) : Nat → Int → gMem → Int × gMem
  | 0, v6, s7 => (v6, s7)
  | n8 + 1, v6, s7 => (if v6 < 160 then (if (s7 55 0) = 260 then gb (f_X3_next  s7) (fun r13 s14 => gb (f_X3_readNot_4 c1 s14) (fun r18 s19 => gb (f_X3_emit (-8) s19) (fun r23 s24 => (w_X3_readAnd_4_7 c1 n8 (v6 + 1) s24)))) else (v6, s7)) else (v6, s7))
theorem w_X3_readAnd_4_7_s (c1 : Int) (n8 : Nat) (v6 : Int) (s7 : gMem) : w_X3_readAnd_4_7 c1 (n8 + 1) v6 s7 = (if v6 < 160 then (if (s7 55 0) = 260 then gb (f_X3_next  s7) (fun r13 s14 => gb (f_X3_readNot_4 c1 s14) (fun r18 s19 => gb (f_X3_emit (-8) s19) (fun r23 s24 => (w_X3_readAnd_4_7 c1 n8 (v6 + 1) s24)))) else (v6, s7)) else (v6, s7)) := rfl
def f_X3_readAnd_4 (x0 : Int) (s0 : gMem) : gRes := gb (f_X3_readNot_4 x0 s0) (fun r2 s3 => (gl2 (w_X3_readAnd_4_7 x0 161 0 s3) (fun v55 s56 => (0, s56))))
theorem f_X3_readAnd_4_e (x0 : Int) (s0 : gMem) : f_X3_readAnd_4 x0 s0 = gb (f_X3_readNot_4 x0 s0) (fun r2 s3 => (gl2 (w_X3_readAnd_4_7 x0 161 0 s3) (fun v55 s56 => (0, s56)))) := rfl
set_option maxRecDepth 100000 in
set_option maxHeartbeats 4000000 in
theorem f_X3_readAnd_4_p (x0 : Int) (s0 : gMem) (hx0 : in32 x0) (hm_s0 : gMR lgX s0) (hpre0 : TK s0) (hpre1 : RCO s0) (hpre2 : x0 = 1) (rZ : Int) (sZ : gMem) (hres : f_X3_readAnd_4 x0 s0 = (rZ, sZ)) : (fr [34, 53, 54, 55, 56, 57, 58] s0 sZ) ∧ (gMR lgX sZ) ∧ (True) ∧ (TK sZ) ∧ (RCO sZ) := by
  have hT := f_X3_readAnd_4_e x0 s0
  have hf_s0 : fr [34, 53, 54, 55, 56, 57, 58] s0 s0 := fr.rf _ _
  have hTK_s0 := hpre0
  have hRCO_s0 := hpre1
  obtain ⟨r2, s3, hs3⟩ : ∃ rr ss, (f_X3_readNot_4 x0 s0) = (rr, ss) := ⟨_, _, rfl⟩
  replace hT := gby hT hs3
  have hp4 := f_X3_readNot_4_p x0 s0 (by omega) hm_s0 hTK_s0 hRCO_s0 (by first | assumption | omega) r2 s3 hs3
  obtain ⟨hfc_s3, hm_s3, hp5, hTK_s3, hRCO_s3⟩ := hp4
  have hf_s3 : fr [34, 53, 54, 55, 56, 57, 58] s0 s3 := hf_s0.call (by decide) hfc_s3
  have L29 : ∀ (n30 : Nat) (v27 : Int) (s28 : gMem), ((in32 v27) ∧ (fr [34, 53, 54, 55, 56, 57, 58] s0 s28) ∧ (gMR lgX s28) ∧ (TK s28) ∧ (RCO s28) ∧ (0 ≤ v27 ∧ v27 ≤ 160)) → 160 - v27 < (n30 : Int) → (∀ (w31 : Int) (s32 : gMem), (w_X3_readAnd_4_7 x0 n30 v27 s28) = (w31, s32) → ((in32 w31) ∧ (fr [34, 53, 54, 55, 56, 57, 58] s0 s32) ∧ (gMR lgX s32) ∧ (TK s32) ∧ (RCO s32) ∧ (0 ≤ w31 ∧ w31 ≤ 160)) → (fr [34, 53, 54, 55, 56, 57, 58] s0 sZ) ∧ (gMR lgX sZ) ∧ (True) ∧ (TK sZ) ∧ (RCO sZ)) → (fr [34, 53, 54, 55, 56, 57, 58] s0 sZ) ∧ (gMR lgX sZ) ∧ (True) ∧ (TK sZ) ∧ (RCO sZ) := by
    intro n30; induction n30 with
    | zero =>
      intro v27 s28 hq hm hk
      exfalso
      obtain ⟨hq51, hf_s28, hm_s28, hTK_s28, hRCO_s28, hq52⟩ := hq
      omega
    | succ n30 ih =>
      intro v27 s28 hq hm hk
      obtain ⟨hq53, hf_s28, hm_s28, hTK_s28, hRCO_s28, hq54⟩ := hq
      have hT := w_X3_readAnd_4_7_s x0 n30 v27 s28
      by_cases h33 : v27 < 160
      · replace hT := hT.trans (if_pos h33)
        have hr34 := (hm_s28 55 0).1 rfl
        by_cases h35 : (s28 55 0) = 260
        · replace hT := hT.trans (if_pos h35)
          obtain ⟨r37, s38, hs38⟩ : ∃ rr ss, (f_X3_next  s28) = (rr, ss) := ⟨_, _, rfl⟩
          replace hT := gby hT hs38
          have hp39 := f_X3_next_p  s28  hm_s28 hTK_s28 r37 s38 hs38
          obtain ⟨hfc_s38, hm_s38, hp40, hTK_s38⟩ := hp39
          have hf_s38 : fr [34, 53, 54, 55, 56, 57, 58] s0 s38 := hf_s28.call (by decide) hfc_s38
          have hRCO_s38 : RCO s38 := RCO_fr hRCO_s28 (fun k hk => hfc_s38 k (dj (by decide) k hk))
          obtain ⟨r42, s43, hs43⟩ : ∃ rr ss, (f_X3_readNot_4 x0 s38) = (rr, ss) := ⟨_, _, rfl⟩
          replace hT := gby hT hs43
          have hp44 := f_X3_readNot_4_p x0 s38 (by omega) hm_s38 hTK_s38 hRCO_s38 (by first | assumption | omega) r42 s43 hs43
          obtain ⟨hfc_s43, hm_s43, hp45, hTK_s43, hRCO_s43⟩ := hp44
          have hf_s43 : fr [34, 53, 54, 55, 56, 57, 58] s0 s43 := hf_s38.call (by decide) hfc_s43
          obtain ⟨r47, s48, hs48⟩ : ∃ rr ss, (f_X3_emit (-8) s43) = (rr, ss) := ⟨_, _, rfl⟩
          replace hT := gby hT hs48
          have hp49 := f_X3_emit_p (-8) s43 (by omega) hm_s43 hTK_s43 hRCO_s43 (by first | assumption | omega) r47 s48 hs48
          obtain ⟨hfc_s48, hm_s48, hp50, hTK_s48, hRCO_s48⟩ := hp49
          have hf_s48 : fr [34, 53, 54, 55, 56, 57, 58] s0 s48 := hf_s43.call (by decide) hfc_s48
          exact ih (v27 + 1) s48 ⟨(by omega), hf_s48, hm_s48, hTK_s48, hRCO_s48, (by first | assumption | omega)⟩ (by omega) (fun w31 s32 hw hi => hk w31 s32 (hT.trans hw) hi)
        · replace hT := hT.trans (if_neg h35)
          exact hk v27 s28 hT ⟨(by omega), hf_s28, hm_s28, hTK_s28, hRCO_s28, (by first | assumption | omega)⟩
      · replace hT := hT.trans (if_neg h33)
        exact hk v27 s28 hT ⟨(by omega), hf_s28, hm_s28, hTK_s28, hRCO_s28, (by first | assumption | omega)⟩
  refine L29 161 0 s3 ⟨(by omega), hf_s3, hm_s3, hTK_s3, hRCO_s3, (by first | assumption | omega)⟩ (by omega) (fun v55 s56 hw hq => ?_)
  obtain ⟨hq57, hf_s56, hm_s56, hTK_s56, hRCO_s56, hq58⟩ := hq
  replace hT := gl2y hT hw
  obtain ⟨rfl, rfl⟩ := Prod.mk.inj (hT.symm.trans hres)
  exact ⟨hf_s56, hm_s56, trivial, hTK_s56, hRCO_s56⟩
set_option maxRecDepth 100000 in
set_option maxHeartbeats 4000000 in
theorem c_X3_readAnd_4 (l : Launch) (D : va_G) (a : Nat → Nat) (cI cJ cS cT : ClassId) (adK adV : Nat → Nat) (kA : Nat) (s0 : gMem) (x0 : Int) (hx0 : in32 x0) (hpre0 : TK s0) (hpre1 : RCO s0) (hpre2 : x0 = 1) : gCS l yX3_readAnd cX3_readAnd 3 none 41 2624 D vwCl (gT cI cJ cS cT) (wdX a cI cJ cS cT) lgX kV rgV [.ref (a 2), gI x0] s0 (f_X3_readAnd_4 x0 s0) adK adV kA := by
  refine gCS_of (by decide +kernel) (hwdX a cI cJ cS cT) (Nat.le_of_ble_eq_true rfl) ?_
  intro A p e R s m args below meth c hR E HX
  subst hR
  have hT := f_X3_readAnd_4_e x0 s0
  have hf_s0 : fr [34, 53, 54, 55, 56, 57, 58] s0 s0 := fr.rf _ _
  refine k_lv0 (lv' := [(0, .ref (a 2)), (1, gI x0)]) rfl ?_
  refine k_mr (fun hm_s0 => ?_)
  have hTK_s0 := hpre0
  have hRCO_s0 := hpre1
  refine k_aloadn (pc := 0) E 0 dX3_readAnd_0 rfl rfl ?_
  refine k_iloadn (pc := 1) E 1 dX3_readAnd_1 rfl rfl ?_
  refine k_mr (fun hm_s0 => ?_)
  refine k_callVX (pc := 2) (np := 1) (As := [gI x0]) (st := []) (q0 := 2) E HX rfl rfl (c_X3_readNot_4 l D a cI cJ cS cT adK adV kA s0 x0 (by omega) hTK_s0 hRCO_s0 (by first | assumption | omega)) wm_440 wm_3 wm_437 wm_439 wp_8 (by decide +kernel) ⟨by decide, by decide⟩ rfl (Nat.le_of_ble_eq_true rfl) dX3_readAnd_2 (fun r2 s3 hs3 hr1 => ?_)
  replace hT := gby hT hs3
  have hp4 := f_X3_readNot_4_p x0 s0 (by omega) hm_s0 hTK_s0 hRCO_s0 (by first | assumption | omega) r2 s3 hs3
  obtain ⟨hfc_s3, hm_s3, hp5, hTK_s3, hRCO_s3⟩ := hp4
  have hf_s3 : fr [34, 53, 54, 55, 56, 57, 58] s0 s3 := hf_s0.call (by decide) hfc_s3
  refine k_st (st' := []) rfl ?_
  refine k_iconst (pc := 5) E dX3_readAnd_5 ?_
  refine k_istoren (pc := 6) (lv' := [(2, gI 0), (0, .ref (a 2)), (1, gI x0)]) E dX3_readAnd_6 rfl (by decide) rfl ?_
  have L29 : ∀ (n30 : Nat) (v27 : Int) (s28 : gMem), ((in32 v27) ∧ (fr [34, 53, 54, 55, 56, 57, 58] s0 s28) ∧ (TK s28) ∧ (RCO s28) ∧ (0 ≤ v27 ∧ v27 ≤ 160)) → 160 - v27 < (n30 : Int) → (∀ (w31 : Int) (s32 : gMem), (w_X3_readAnd_4_7 x0 n30 v27 s28) = (w31, s32) → ((in32 w31) ∧ (fr [34, 53, 54, 55, 56, 57, 58] s0 s32) ∧ (TK s32) ∧ (RCO s32) ∧ (0 ≤ w31 ∧ w31 ≤ 160)) → gK D vwCl (wdX a cI cJ cS cT) lgX A p l e { frames := 41, cells := 0, slots := 0, locals := 2624 } s m args below meth c 3 (gQQ D vwCl (wdX a cI cJ cS cT) lgX A kV rgV below args s) (f_X3_readAnd_4 x0 s0) s32 45 [] []) → gK D vwCl (wdX a cI cJ cS cT) lgX A p l e { frames := 41, cells := 0, slots := 0, locals := 2624 } s m args below meth c 3 (gQQ D vwCl (wdX a cI cJ cS cT) lgX A kV rgV below args s) (f_X3_readAnd_4 x0 s0) s28 7 [(0, .ref (a 2)), (1, gI x0), (2, gI v27)] [] := by
    intro n30; induction n30 with
    | zero =>
      intro v27 s28 hq hm hk
      exfalso
      obtain ⟨hq51, hf_s28, hTK_s28, hRCO_s28, hq52⟩ := hq
      omega
    | succ n30 ih =>
      intro v27 s28 hq hm hk
      obtain ⟨hq53, hf_s28, hTK_s28, hRCO_s28, hq54⟩ := hq
      have hT := w_X3_readAnd_4_7_s x0 n30 v27 s28
      refine k_iloadn (pc := 7) E 2 dX3_readAnd_7 rfl rfl ?_
      refine k_sipush (pc := 8) E dX3_readAnd_8 (by decide) ?_
      by_cases h33 : v27 < 160
      · replace hT := hT.trans (if_pos h33)
        refine k_icmp_ge_f (pc := 11) (tgt := 45) E (by omega) (by omega) dX3_readAnd_11 (by decide) h33 ?_
        refine k_aloadn (pc := 14) E 0 dX3_readAnd_14 rfl rfl ?_
        refine k_getfI (pc := 15) (q0 := 2) (f := 6) (k := 55) E inX3 rfl rfl (by decide) wm_65 rfl rfl rfl dX3_readAnd_15 (fun hr34 => ?_)
        refine k_sipush (pc := 18) E dX3_readAnd_18 (by decide) ?_
        by_cases h35 : (s28 55 0) = 260
        · replace hT := hT.trans (if_pos h35)
          refine k_icmp_ne_f (pc := 21) (tgt := 45) E (by omega) (by omega) dX3_readAnd_21 (by decide) h35 ?_
          refine k_aloadn (pc := 24) E 0 dX3_readAnd_24 rfl rfl ?_
          refine k_mr (fun hm_s28 => ?_)
          refine k_callVX (pc := 25) (np := 0) (As := []) (st := []) (q0 := 2) E HX rfl rfl (c_X3_next l D a cI cJ cS cT adK adV kA s28  hTK_s28) wm_336 wm_3 wm_333 wm_335 wp_0 (by decide +kernel) ⟨by decide, by decide⟩ rfl (Nat.le_of_ble_eq_true rfl) dX3_readAnd_25 (fun r37 s38 hs38 hr36 => ?_)
          replace hT := gby hT hs38
          have hp39 := f_X3_next_p  s28  hm_s28 hTK_s28 r37 s38 hs38
          obtain ⟨hfc_s38, hm_s38, hp40, hTK_s38⟩ := hp39
          have hf_s38 : fr [34, 53, 54, 55, 56, 57, 58] s0 s38 := hf_s28.call (by decide) hfc_s38
          have hRCO_s38 : RCO s38 := RCO_fr hRCO_s28 (fun k hk => hfc_s38 k (dj (by decide) k hk))
          refine k_st (st' := []) rfl ?_
          refine k_aloadn (pc := 28) E 0 dX3_readAnd_28 rfl rfl ?_
          refine k_iloadn (pc := 29) E 1 dX3_readAnd_29 rfl rfl ?_
          refine k_mr (fun hm_s38 => ?_)
          refine k_callVX (pc := 30) (np := 1) (As := [gI x0]) (st := []) (q0 := 2) E HX rfl rfl (c_X3_readNot_4 l D a cI cJ cS cT adK adV kA s38 x0 (by omega) hTK_s38 hRCO_s38 (by first | assumption | omega)) wm_440 wm_3 wm_437 wm_439 wp_8 (by decide +kernel) ⟨by decide, by decide⟩ rfl (Nat.le_of_ble_eq_true rfl) dX3_readAnd_30 (fun r42 s43 hs43 hr41 => ?_)
          replace hT := gby hT hs43
          have hp44 := f_X3_readNot_4_p x0 s38 (by omega) hm_s38 hTK_s38 hRCO_s38 (by first | assumption | omega) r42 s43 hs43
          obtain ⟨hfc_s43, hm_s43, hp45, hTK_s43, hRCO_s43⟩ := hp44
          have hf_s43 : fr [34, 53, 54, 55, 56, 57, 58] s0 s43 := hf_s38.call (by decide) hfc_s43
          refine k_st (st' := []) rfl ?_
          refine k_aloadn (pc := 33) E 0 dX3_readAnd_33 rfl rfl ?_
          refine k_bipush (pc := 34) E dX3_readAnd_34 (by decide) ?_
          refine k_mr (fun hm_s43 => ?_)
          refine k_callV (pc := 36) (np := 1) (As := [gI (-8)]) (st := []) (q0 := 2) E (c_X3_emit l D a cI cJ cS cT s43 (-8) (by omega) hTK_s43 hRCO_s43 (by first | assumption | omega)) wm_460 wm_3 wm_457 wm_459 wp_13 (by decide +kernel) rfl rfl ⟨by decide, by decide⟩ rfl (Nat.le_of_ble_eq_true rfl) dX3_readAnd_36 (fun r47 s48 hs48 hr46 => ?_)
          replace hT := gby hT hs48
          have hp49 := f_X3_emit_p (-8) s43 (by omega) hm_s43 hTK_s43 hRCO_s43 (by first | assumption | omega) r47 s48 hs48
          obtain ⟨hfc_s48, hm_s48, hp50, hTK_s48, hRCO_s48⟩ := hp49
          have hf_s48 : fr [34, 53, 54, 55, 56, 57, 58] s0 s48 := hf_s43.call (by decide) hfc_s48
          refine k_st (st' := []) rfl ?_
          refine k_iinc (pc := 39) (lv' := [(2, gI (v27 + 1)), (0, .ref (a 2)), (1, gI x0)]) E 2 dX3_readAnd_39 rfl (by decide) rfl ?_
          refine k_goto (pc := 42) (tgt := 7) E dX3_readAnd_42 (by decide) ?_
          refine k_lv (lv' := [(0, .ref (a 2)), (1, gI x0), (2, gI (v27 + 1))]) [1, 2, 0] rfl ?_
          exact ih (v27 + 1) s48 ⟨(by omega), hf_s48, hTK_s48, hRCO_s48, (by first | assumption | omega)⟩ (by omega) (fun w31 s32 hw hi => hk w31 s32 (hT.trans hw) hi)
        · replace hT := hT.trans (if_neg h35)
          refine k_icmp_ne_t (pc := 21) (tgt := 45) E (by omega) (by omega) dX3_readAnd_21 (by decide) h35 ?_
          refine k_lv (lv' := []) [] rfl ?_
          exact hk v27 s28 hT ⟨(by omega), hf_s28, hTK_s28, hRCO_s28, (by first | assumption | omega)⟩
      · replace hT := hT.trans (if_neg h33)
        refine k_icmp_ge_t (pc := 11) (tgt := 45) E (by omega) (by omega) dX3_readAnd_11 (by decide) h33 ?_
        refine k_lv (lv' := []) [] rfl ?_
        exact hk v27 s28 hT ⟨(by omega), hf_s28, hTK_s28, hRCO_s28, (by first | assumption | omega)⟩
  refine k_lv (lv' := [(0, .ref (a 2)), (1, gI x0), (2, gI 0)]) [1, 2, 0] rfl ?_
  refine L29 161 0 s3 ⟨(by omega), hf_s3, hTK_s3, hRCO_s3, (by first | assumption | omega)⟩ (by omega) (fun v55 s56 hw hq => ?_)
  obtain ⟨hq57, hf_s56, hTK_s56, hRCO_s56, hq58⟩ := hq
  replace hT := gl2y hT hw
  exact k_rho hT (k_vret (pc := 45) E dX3_readAnd_45)

def w_X3_readOr_4_7 (c1 : Int) : Nat → Int → gMem → Int × gMem
  | 0, v6, s7 => (v6, s7)
  | n8 + 1, v6, s7 => (if v6 < 160 then (if (s7 55 0) = 259 then gb (f_X3_next  s7) (fun r13 s14 => gb (f_X3_readAnd_4 c1 s14) (fun r18 s19 => gb (f_X3_emit (-7) s19) (fun r23 s24 => (w_X3_readOr_4_7 c1 n8 (v6 + 1) s24)))) else (v6, s7)) else (v6, s7))
theorem w_X3_readOr_4_7_s (c1 : Int) (n8 : Nat) (v6 : Int) (s7 : gMem) : w_X3_readOr_4_7 c1 (n8 + 1) v6 s7 = (if v6 < 160 then (if (s7 55 0) = 259 then gb (f_X3_next  s7) (fun r13 s14 => gb (f_X3_readAnd_4 c1 s14) (fun r18 s19 => gb (f_X3_emit (-7) s19) (fun r23 s24 => (w_X3_readOr_4_7 c1 n8 (v6 + 1) s24)))) else (v6, s7)) else (v6, s7)) := rfl
def f_X3_readOr_4 (x0 : Int) (s0 : gMem) : gRes := gb (f_X3_readAnd_4 x0 s0) (fun r2 s3 => (gl2 (w_X3_readOr_4_7 x0 161 0 s3) (fun v55 s56 => (0, s56))))
theorem f_X3_readOr_4_e (x0 : Int) (s0 : gMem) : f_X3_readOr_4 x0 s0 = gb (f_X3_readAnd_4 x0 s0) (fun r2 s3 => (gl2 (w_X3_readOr_4_7 x0 161 0 s3) (fun v55 s56 => (0, s56)))) := rfl
set_option maxRecDepth 100000 in
set_option maxHeartbeats 4000000 in
theorem f_X3_readOr_4_p (x0 : Int) (s0 : gMem) (hx0 : in32 x0) (hm_s0 : gMR lgX s0) (hpre0 : TK s0) (hpre1 : RCO s0) (hpre2 : x0 = 1) (rZ : Int) (sZ : gMem) (hres : f_X3_readOr_4 x0 s0 = (rZ, sZ)) : (fr [34, 53, 54, 55, 56, 57, 58] s0 sZ) ∧ (gMR lgX sZ) ∧ (True) ∧ (TK sZ) ∧ (RCO sZ) := by
  have hT := f_X3_readOr_4_e x0 s0
  have hf_s0 : fr [34, 53, 54, 55, 56, 57, 58] s0 s0 := fr.rf _ _
  have hTK_s0 := hpre0
  have hRCO_s0 := hpre1
  obtain ⟨r2, s3, hs3⟩ : ∃ rr ss, (f_X3_readAnd_4 x0 s0) = (rr, ss) := ⟨_, _, rfl⟩
  replace hT := gby hT hs3
  have hp4 := f_X3_readAnd_4_p x0 s0 (by omega) hm_s0 hTK_s0 hRCO_s0 (by first | assumption | omega) r2 s3 hs3
  obtain ⟨hfc_s3, hm_s3, hp5, hTK_s3, hRCO_s3⟩ := hp4
  have hf_s3 : fr [34, 53, 54, 55, 56, 57, 58] s0 s3 := hf_s0.call (by decide) hfc_s3
  have L29 : ∀ (n30 : Nat) (v27 : Int) (s28 : gMem), ((in32 v27) ∧ (fr [34, 53, 54, 55, 56, 57, 58] s0 s28) ∧ (gMR lgX s28) ∧ (TK s28) ∧ (RCO s28) ∧ (0 ≤ v27 ∧ v27 ≤ 160)) → 160 - v27 < (n30 : Int) → (∀ (w31 : Int) (s32 : gMem), (w_X3_readOr_4_7 x0 n30 v27 s28) = (w31, s32) → ((in32 w31) ∧ (fr [34, 53, 54, 55, 56, 57, 58] s0 s32) ∧ (gMR lgX s32) ∧ (TK s32) ∧ (RCO s32) ∧ (0 ≤ w31 ∧ w31 ≤ 160)) → (fr [34, 53, 54, 55, 56, 57, 58] s0 sZ) ∧ (gMR lgX sZ) ∧ (True) ∧ (TK sZ) ∧ (RCO sZ)) → (fr [34, 53, 54, 55, 56, 57, 58] s0 sZ) ∧ (gMR lgX sZ) ∧ (True) ∧ (TK sZ) ∧ (RCO sZ) := by
    intro n30; induction n30 with
    | zero =>
      intro v27 s28 hq hm hk
      exfalso
      obtain ⟨hq51, hf_s28, hm_s28, hTK_s28, hRCO_s28, hq52⟩ := hq
      omega
    | succ n30 ih =>
      intro v27 s28 hq hm hk
      obtain ⟨hq53, hf_s28, hm_s28, hTK_s28, hRCO_s28, hq54⟩ := hq
      have hT := w_X3_readOr_4_7_s x0 n30 v27 s28
      by_cases h33 : v27 < 160
      · replace hT := hT.trans (if_pos h33)
        have hr34 := (hm_s28 55 0).1 rfl
        by_cases h35 : (s28 55 0) = 259
        · replace hT := hT.trans (if_pos h35)
          obtain ⟨r37, s38, hs38⟩ : ∃ rr ss, (f_X3_next  s28) = (rr, ss) := ⟨_, _, rfl⟩
          replace hT := gby hT hs38
          have hp39 := f_X3_next_p  s28  hm_s28 hTK_s28 r37 s38 hs38
          obtain ⟨hfc_s38, hm_s38, hp40, hTK_s38⟩ := hp39
          have hf_s38 : fr [34, 53, 54, 55, 56, 57, 58] s0 s38 := hf_s28.call (by decide) hfc_s38
          have hRCO_s38 : RCO s38 := RCO_fr hRCO_s28 (fun k hk => hfc_s38 k (dj (by decide) k hk))
          obtain ⟨r42, s43, hs43⟩ : ∃ rr ss, (f_X3_readAnd_4 x0 s38) = (rr, ss) := ⟨_, _, rfl⟩
          replace hT := gby hT hs43
          have hp44 := f_X3_readAnd_4_p x0 s38 (by omega) hm_s38 hTK_s38 hRCO_s38 (by first | assumption | omega) r42 s43 hs43
          obtain ⟨hfc_s43, hm_s43, hp45, hTK_s43, hRCO_s43⟩ := hp44
          have hf_s43 : fr [34, 53, 54, 55, 56, 57, 58] s0 s43 := hf_s38.call (by decide) hfc_s43
          obtain ⟨r47, s48, hs48⟩ : ∃ rr ss, (f_X3_emit (-7) s43) = (rr, ss) := ⟨_, _, rfl⟩
          replace hT := gby hT hs48
          have hp49 := f_X3_emit_p (-7) s43 (by omega) hm_s43 hTK_s43 hRCO_s43 (by first | assumption | omega) r47 s48 hs48
          obtain ⟨hfc_s48, hm_s48, hp50, hTK_s48, hRCO_s48⟩ := hp49
          have hf_s48 : fr [34, 53, 54, 55, 56, 57, 58] s0 s48 := hf_s43.call (by decide) hfc_s48
          exact ih (v27 + 1) s48 ⟨(by omega), hf_s48, hm_s48, hTK_s48, hRCO_s48, (by first | assumption | omega)⟩ (by omega) (fun w31 s32 hw hi => hk w31 s32 (hT.trans hw) hi)
        · replace hT := hT.trans (if_neg h35)
          exact hk v27 s28 hT ⟨(by omega), hf_s28, hm_s28, hTK_s28, hRCO_s28, (by first | assumption | omega)⟩
      · replace hT := hT.trans (if_neg h33)
        exact hk v27 s28 hT ⟨(by omega), hf_s28, hm_s28, hTK_s28, hRCO_s28, (by first | assumption | omega)⟩
  refine L29 161 0 s3 ⟨(by omega), hf_s3, hm_s3, hTK_s3, hRCO_s3, (by first | assumption | omega)⟩ (by omega) (fun v55 s56 hw hq => ?_)
  obtain ⟨hq57, hf_s56, hm_s56, hTK_s56, hRCO_s56, hq58⟩ := hq
  replace hT := gl2y hT hw
  obtain ⟨rfl, rfl⟩ := Prod.mk.inj (hT.symm.trans hres)
  exact ⟨hf_s56, hm_s56, trivial, hTK_s56, hRCO_s56⟩
set_option maxRecDepth 100000 in
set_option maxHeartbeats 4000000 in
theorem c_X3_readOr_4 (l : Launch) (D : va_G) (a : Nat → Nat) (cI cJ cS cT : ClassId) (adK adV : Nat → Nat) (kA : Nat) (s0 : gMem) (x0 : Int) (hx0 : in32 x0) (hpre0 : TK s0) (hpre1 : RCO s0) (hpre2 : x0 = 1) : gCS l yX3_readOr cX3_readOr 3 none 42 2688 D vwCl (gT cI cJ cS cT) (wdX a cI cJ cS cT) lgX kV rgV [.ref (a 2), gI x0] s0 (f_X3_readOr_4 x0 s0) adK adV kA := by
  refine gCS_of (by decide +kernel) (hwdX a cI cJ cS cT) (Nat.le_of_ble_eq_true rfl) ?_
  intro A p e R s m args below meth c hR E HX
  subst hR
  have hT := f_X3_readOr_4_e x0 s0
  have hf_s0 : fr [34, 53, 54, 55, 56, 57, 58] s0 s0 := fr.rf _ _
  refine k_lv0 (lv' := [(0, .ref (a 2)), (1, gI x0)]) rfl ?_
  refine k_mr (fun hm_s0 => ?_)
  have hTK_s0 := hpre0
  have hRCO_s0 := hpre1
  refine k_aloadn (pc := 0) E 0 dX3_readOr_0 rfl rfl ?_
  refine k_iloadn (pc := 1) E 1 dX3_readOr_1 rfl rfl ?_
  refine k_mr (fun hm_s0 => ?_)
  refine k_callVX (pc := 2) (np := 1) (As := [gI x0]) (st := []) (q0 := 2) E HX rfl rfl (c_X3_readAnd_4 l D a cI cJ cS cT adK adV kA s0 x0 (by omega) hTK_s0 hRCO_s0 (by first | assumption | omega)) wm_436 wm_3 wm_433 wm_435 wp_7 (by decide +kernel) ⟨by decide, by decide⟩ rfl (Nat.le_of_ble_eq_true rfl) dX3_readOr_2 (fun r2 s3 hs3 hr1 => ?_)
  replace hT := gby hT hs3
  have hp4 := f_X3_readAnd_4_p x0 s0 (by omega) hm_s0 hTK_s0 hRCO_s0 (by first | assumption | omega) r2 s3 hs3
  obtain ⟨hfc_s3, hm_s3, hp5, hTK_s3, hRCO_s3⟩ := hp4
  have hf_s3 : fr [34, 53, 54, 55, 56, 57, 58] s0 s3 := hf_s0.call (by decide) hfc_s3
  refine k_st (st' := []) rfl ?_
  refine k_iconst (pc := 5) E dX3_readOr_5 ?_
  refine k_istoren (pc := 6) (lv' := [(2, gI 0), (0, .ref (a 2)), (1, gI x0)]) E dX3_readOr_6 rfl (by decide) rfl ?_
  have L29 : ∀ (n30 : Nat) (v27 : Int) (s28 : gMem), ((in32 v27) ∧ (fr [34, 53, 54, 55, 56, 57, 58] s0 s28) ∧ (TK s28) ∧ (RCO s28) ∧ (0 ≤ v27 ∧ v27 ≤ 160)) → 160 - v27 < (n30 : Int) → (∀ (w31 : Int) (s32 : gMem), (w_X3_readOr_4_7 x0 n30 v27 s28) = (w31, s32) → ((in32 w31) ∧ (fr [34, 53, 54, 55, 56, 57, 58] s0 s32) ∧ (TK s32) ∧ (RCO s32) ∧ (0 ≤ w31 ∧ w31 ≤ 160)) → gK D vwCl (wdX a cI cJ cS cT) lgX A p l e { frames := 42, cells := 0, slots := 0, locals := 2688 } s m args below meth c 3 (gQQ D vwCl (wdX a cI cJ cS cT) lgX A kV rgV below args s) (f_X3_readOr_4 x0 s0) s32 45 [] []) → gK D vwCl (wdX a cI cJ cS cT) lgX A p l e { frames := 42, cells := 0, slots := 0, locals := 2688 } s m args below meth c 3 (gQQ D vwCl (wdX a cI cJ cS cT) lgX A kV rgV below args s) (f_X3_readOr_4 x0 s0) s28 7 [(0, .ref (a 2)), (1, gI x0), (2, gI v27)] [] := by
    intro n30; induction n30 with
    | zero =>
      intro v27 s28 hq hm hk
      exfalso
      obtain ⟨hq51, hf_s28, hTK_s28, hRCO_s28, hq52⟩ := hq
      omega
    | succ n30 ih =>
      intro v27 s28 hq hm hk
      obtain ⟨hq53, hf_s28, hTK_s28, hRCO_s28, hq54⟩ := hq
      have hT := w_X3_readOr_4_7_s x0 n30 v27 s28
      refine k_iloadn (pc := 7) E 2 dX3_readOr_7 rfl rfl ?_
      refine k_sipush (pc := 8) E dX3_readOr_8 (by decide) ?_
      by_cases h33 : v27 < 160
      · replace hT := hT.trans (if_pos h33)
        refine k_icmp_ge_f (pc := 11) (tgt := 45) E (by omega) (by omega) dX3_readOr_11 (by decide) h33 ?_
        refine k_aloadn (pc := 14) E 0 dX3_readOr_14 rfl rfl ?_
        refine k_getfI (pc := 15) (q0 := 2) (f := 6) (k := 55) E inX3 rfl rfl (by decide) wm_65 rfl rfl rfl dX3_readOr_15 (fun hr34 => ?_)
        refine k_sipush (pc := 18) E dX3_readOr_18 (by decide) ?_
        by_cases h35 : (s28 55 0) = 259
        · replace hT := hT.trans (if_pos h35)
          refine k_icmp_ne_f (pc := 21) (tgt := 45) E (by omega) (by omega) dX3_readOr_21 (by decide) h35 ?_
          refine k_aloadn (pc := 24) E 0 dX3_readOr_24 rfl rfl ?_
          refine k_mr (fun hm_s28 => ?_)
          refine k_callVX (pc := 25) (np := 0) (As := []) (st := []) (q0 := 2) E HX rfl rfl (c_X3_next l D a cI cJ cS cT adK adV kA s28  hTK_s28) wm_336 wm_3 wm_333 wm_335 wp_0 (by decide +kernel) ⟨by decide, by decide⟩ rfl (Nat.le_of_ble_eq_true rfl) dX3_readOr_25 (fun r37 s38 hs38 hr36 => ?_)
          replace hT := gby hT hs38
          have hp39 := f_X3_next_p  s28  hm_s28 hTK_s28 r37 s38 hs38
          obtain ⟨hfc_s38, hm_s38, hp40, hTK_s38⟩ := hp39
          have hf_s38 : fr [34, 53, 54, 55, 56, 57, 58] s0 s38 := hf_s28.call (by decide) hfc_s38
          have hRCO_s38 : RCO s38 := RCO_fr hRCO_s28 (fun k hk => hfc_s38 k (dj (by decide) k hk))
          refine k_st (st' := []) rfl ?_
          refine k_aloadn (pc := 28) E 0 dX3_readOr_28 rfl rfl ?_
          refine k_iloadn (pc := 29) E 1 dX3_readOr_29 rfl rfl ?_
          refine k_mr (fun hm_s38 => ?_)
          refine k_callVX (pc := 30) (np := 1) (As := [gI x0]) (st := []) (q0 := 2) E HX rfl rfl (c_X3_readAnd_4 l D a cI cJ cS cT adK adV kA s38 x0 (by omega) hTK_s38 hRCO_s38 (by first | assumption | omega)) wm_436 wm_3 wm_433 wm_435 wp_7 (by decide +kernel) ⟨by decide, by decide⟩ rfl (Nat.le_of_ble_eq_true rfl) dX3_readOr_30 (fun r42 s43 hs43 hr41 => ?_)
          replace hT := gby hT hs43
          have hp44 := f_X3_readAnd_4_p x0 s38 (by omega) hm_s38 hTK_s38 hRCO_s38 (by first | assumption | omega) r42 s43 hs43
          obtain ⟨hfc_s43, hm_s43, hp45, hTK_s43, hRCO_s43⟩ := hp44
          have hf_s43 : fr [34, 53, 54, 55, 56, 57, 58] s0 s43 := hf_s38.call (by decide) hfc_s43
          refine k_st (st' := []) rfl ?_
          refine k_aloadn (pc := 33) E 0 dX3_readOr_33 rfl rfl ?_
          refine k_bipush (pc := 34) E dX3_readOr_34 (by decide) ?_
          refine k_mr (fun hm_s43 => ?_)
          refine k_callV (pc := 36) (np := 1) (As := [gI (-7)]) (st := []) (q0 := 2) E (c_X3_emit l D a cI cJ cS cT s43 (-7) (by omega) hTK_s43 hRCO_s43 (by first | assumption | omega)) wm_460 wm_3 wm_457 wm_459 wp_13 (by decide +kernel) rfl rfl ⟨by decide, by decide⟩ rfl (Nat.le_of_ble_eq_true rfl) dX3_readOr_36 (fun r47 s48 hs48 hr46 => ?_)
          replace hT := gby hT hs48
          have hp49 := f_X3_emit_p (-7) s43 (by omega) hm_s43 hTK_s43 hRCO_s43 (by first | assumption | omega) r47 s48 hs48
          obtain ⟨hfc_s48, hm_s48, hp50, hTK_s48, hRCO_s48⟩ := hp49
          have hf_s48 : fr [34, 53, 54, 55, 56, 57, 58] s0 s48 := hf_s43.call (by decide) hfc_s48
          refine k_st (st' := []) rfl ?_
          refine k_iinc (pc := 39) (lv' := [(2, gI (v27 + 1)), (0, .ref (a 2)), (1, gI x0)]) E 2 dX3_readOr_39 rfl (by decide) rfl ?_
          refine k_goto (pc := 42) (tgt := 7) E dX3_readOr_42 (by decide) ?_
          refine k_lv (lv' := [(0, .ref (a 2)), (1, gI x0), (2, gI (v27 + 1))]) [1, 2, 0] rfl ?_
          exact ih (v27 + 1) s48 ⟨(by omega), hf_s48, hTK_s48, hRCO_s48, (by first | assumption | omega)⟩ (by omega) (fun w31 s32 hw hi => hk w31 s32 (hT.trans hw) hi)
        · replace hT := hT.trans (if_neg h35)
          refine k_icmp_ne_t (pc := 21) (tgt := 45) E (by omega) (by omega) dX3_readOr_21 (by decide) h35 ?_
          refine k_lv (lv' := []) [] rfl ?_
          exact hk v27 s28 hT ⟨(by omega), hf_s28, hTK_s28, hRCO_s28, (by first | assumption | omega)⟩
      · replace hT := hT.trans (if_neg h33)
        refine k_icmp_ge_t (pc := 11) (tgt := 45) E (by omega) (by omega) dX3_readOr_11 (by decide) h33 ?_
        refine k_lv (lv' := []) [] rfl ?_
        exact hk v27 s28 hT ⟨(by omega), hf_s28, hTK_s28, hRCO_s28, (by first | assumption | omega)⟩
  refine k_lv (lv' := [(0, .ref (a 2)), (1, gI x0), (2, gI 0)]) [1, 2, 0] rfl ?_
  refine L29 161 0 s3 ⟨(by omega), hf_s3, hTK_s3, hRCO_s3, (by first | assumption | omega)⟩ (by omega) (fun v55 s56 hw hq => ?_)
  obtain ⟨hq57, hf_s56, hTK_s56, hRCO_s56, hq58⟩ := hq
  replace hT := gl2y hT hw
  exact k_rho hT (k_vret (pc := 45) E dX3_readOr_45)

def f_X3_readOne_5 (x0 : Int) (s0 : gMem) : gRes := (if (s0 55 0) = 2 then gb (f_X3_emit (s0 57 0) s0) (fun r5 s6 => gb (f_X3_next  s6) (fun r10 s11 => (0, s11))) else (if (s0 55 0) < 262 then (gj (fun j17c => (if x0 < 5 then (gj (fun j26c => (if (s0 55 0) = 45 then j26c else (if (s0 55 0) = 40 then j26c else j17c))) ((if (s0 55 0) = 45 then gb (f_X3_next  s0) (fun r30 s31 => gb (f_X3_readOne_4 (x0 + 1) s31) (fun r35 s36 => gb (f_X3_emit (-15) s36) (fun r40 s41 => (0, s41)))) else gb (f_X3_next  s0) (fun r45 s46 => gb (f_X3_readOr_4 (x0 + 1) s46) (fun r50 s51 => gb (f_X3_want 41 s51) (fun r55 s56 => (0, s56))))))) else j17c)) (gb (f_X3_fail  s0) (fun r19 s20 => (0, s20)))) else gb (f_X3_emit ((-1) - ((s0 55 0) - 262)) s0) (fun r63 s64 => gb (f_X3_next  s64) (fun r68 s69 => (0, s69)))))
theorem f_X3_readOne_5_e (x0 : Int) (s0 : gMem) : f_X3_readOne_5 x0 s0 = (if (s0 55 0) = 2 then gb (f_X3_emit (s0 57 0) s0) (fun r5 s6 => gb (f_X3_next  s6) (fun r10 s11 => (0, s11))) else (if (s0 55 0) < 262 then (gj (fun j17c => (if x0 < 5 then (gj (fun j26c => (if (s0 55 0) = 45 then j26c else (if (s0 55 0) = 40 then j26c else j17c))) ((if (s0 55 0) = 45 then gb (f_X3_next  s0) (fun r30 s31 => gb (f_X3_readOne_4 (x0 + 1) s31) (fun r35 s36 => gb (f_X3_emit (-15) s36) (fun r40 s41 => (0, s41)))) else gb (f_X3_next  s0) (fun r45 s46 => gb (f_X3_readOr_4 (x0 + 1) s46) (fun r50 s51 => gb (f_X3_want 41 s51) (fun r55 s56 => (0, s56))))))) else j17c)) (gb (f_X3_fail  s0) (fun r19 s20 => (0, s20)))) else gb (f_X3_emit ((-1) - ((s0 55 0) - 262)) s0) (fun r63 s64 => gb (f_X3_next  s64) (fun r68 s69 => (0, s69))))) := rfl
set_option maxRecDepth 100000 in
set_option maxHeartbeats 4000000 in
theorem f_X3_readOne_5_p (x0 : Int) (s0 : gMem) (hx0 : in32 x0) (hm_s0 : gMR lgX s0) (hpre0 : TK s0) (hpre1 : RCO s0) (hpre2 : x0 = 0) (rZ : Int) (sZ : gMem) (hres : f_X3_readOne_5 x0 s0 = (rZ, sZ)) : (fr [34, 53, 54, 55, 56, 57, 58] s0 sZ) ∧ (gMR lgX sZ) ∧ (True) ∧ (TK sZ) ∧ (RCO sZ) := by
  have hT := f_X3_readOne_5_e x0 s0
  have hf_s0 : fr [34, 53, 54, 55, 56, 57, 58] s0 s0 := fr.rf _ _
  have hTK_s0 := hpre0
  have hRCO_s0 := hpre1
  obtain ⟨kt1, kt2, kt3, kt4, kt5, kt6, kt7⟩ := id hTK_s0
  have hr1 := (hm_s0 55 0).1 rfl
  by_cases h2 : (s0 55 0) = 2
  · replace hT := hT.trans (if_pos h2)
    have hr3 := (hm_s0 57 0).1 rfl
    obtain ⟨r5, s6, hs6⟩ : ∃ rr ss, (f_X3_emit (s0 57 0) s0) = (rr, ss) := ⟨_, _, rfl⟩
    replace hT := gby hT hs6
    have hp7 := f_X3_emit_p (s0 57 0) s0 (by omega) hm_s0 hTK_s0 hRCO_s0 (by first | assumption | omega) r5 s6 hs6
    obtain ⟨hfc_s6, hm_s6, hp8, hTK_s6, hRCO_s6⟩ := hp7
    have hf_s6 : fr [34, 53, 54, 55, 56, 57, 58] s0 s6 := hf_s0.call (by decide) hfc_s6
    obtain ⟨r10, s11, hs11⟩ : ∃ rr ss, (f_X3_next  s6) = (rr, ss) := ⟨_, _, rfl⟩
    replace hT := gby hT hs11
    have hp12 := f_X3_next_p  s6  hm_s6 hTK_s6 r10 s11 hs11
    obtain ⟨hfc_s11, hm_s11, hp13, hTK_s11⟩ := hp12
    have hf_s11 : fr [34, 53, 54, 55, 56, 57, 58] s0 s11 := hf_s6.call (by decide) hfc_s11
    have hRCO_s11 : RCO s11 := RCO_fr hRCO_s6 (fun k hk => hfc_s11 k (dj (by decide) k hk))
    obtain ⟨rfl, rfl⟩ := Prod.mk.inj (hT.symm.trans hres)
    exact ⟨hf_s11, hm_s11, trivial, hTK_s11, hRCO_s11⟩
  · replace hT := hT.trans (if_neg h2)
    have hr14 := (hm_s0 55 0).1 rfl
    by_cases h15 : (s0 55 0) < 262
    · replace hT := hT.trans (if_pos h15)
      obtain ⟨j17c, hj17c, hT⟩ := gjx hT
      have j17 : (True) → (f_X3_readOne_5 x0 s0) = j17c  → (fr [34, 53, 54, 55, 56, 57, 58] s0 sZ) ∧ (gMR lgX sZ) ∧ (True) ∧ (TK sZ) ∧ (RCO sZ) := by
        intro  hq hT
        rw [hj17c] at hT
        obtain ⟨r19, s20, hs20⟩ : ∃ rr ss, (f_X3_fail  s0) = (rr, ss) := ⟨_, _, rfl⟩
        replace hT := gby hT hs20
        have hp21 := f_X3_fail_p  s0  hm_s0 hTK_s0 r19 s20 hs20
        obtain ⟨hfc_s20, hm_s20, hp22, hTK_s20, hp23⟩ := hp21
        have hf_s20 : fr [34, 53, 54, 55, 56, 57, 58] s0 s20 := hf_s0.call (by decide) hfc_s20
        have hRCO_s20 : RCO s20 := RCO_fr hRCO_s0 (fun k hk => hfc_s20 k (dj (by decide) k hk))
        obtain ⟨rfl, rfl⟩ := Prod.mk.inj (hT.symm.trans hres)
        exact ⟨hf_s20, hm_s20, trivial, hTK_s20, hRCO_s20⟩
      by_cases h16 : x0 < 5
      · replace hT := hT.trans (if_pos h16)
        have hr24 := (hm_s0 55 0).1 rfl
        obtain ⟨j26c, hj26c, hT⟩ := gjx hT
        have j26 : (True) → (f_X3_readOne_5 x0 s0) = j26c  → (fr [34, 53, 54, 55, 56, 57, 58] s0 sZ) ∧ (gMR lgX sZ) ∧ (True) ∧ (TK sZ) ∧ (RCO sZ) := by
          intro  hq hT
          rw [hj26c] at hT
          have hr27 := (hm_s0 55 0).1 rfl
          by_cases h28 : (s0 55 0) = 45
          · replace hT := hT.trans (if_pos h28)
            obtain ⟨r30, s31, hs31⟩ : ∃ rr ss, (f_X3_next  s0) = (rr, ss) := ⟨_, _, rfl⟩
            replace hT := gby hT hs31
            have hp32 := f_X3_next_p  s0  hm_s0 hTK_s0 r30 s31 hs31
            obtain ⟨hfc_s31, hm_s31, hp33, hTK_s31⟩ := hp32
            have hf_s31 : fr [34, 53, 54, 55, 56, 57, 58] s0 s31 := hf_s0.call (by decide) hfc_s31
            have hRCO_s31 : RCO s31 := RCO_fr hRCO_s0 (fun k hk => hfc_s31 k (dj (by decide) k hk))
            obtain ⟨r35, s36, hs36⟩ : ∃ rr ss, (f_X3_readOne_4 (x0 + 1) s31) = (rr, ss) := ⟨_, _, rfl⟩
            replace hT := gby hT hs36
            have hp37 := f_X3_readOne_4_p (x0 + 1) s31 (by omega) hm_s31 hTK_s31 hRCO_s31 (by first | assumption | omega) r35 s36 hs36
            obtain ⟨hfc_s36, hm_s36, hp38, hTK_s36, hRCO_s36⟩ := hp37
            have hf_s36 : fr [34, 53, 54, 55, 56, 57, 58] s0 s36 := hf_s31.call (by decide) hfc_s36
            obtain ⟨r40, s41, hs41⟩ : ∃ rr ss, (f_X3_emit (-15) s36) = (rr, ss) := ⟨_, _, rfl⟩
            replace hT := gby hT hs41
            have hp42 := f_X3_emit_p (-15) s36 (by omega) hm_s36 hTK_s36 hRCO_s36 (by first | assumption | omega) r40 s41 hs41
            obtain ⟨hfc_s41, hm_s41, hp43, hTK_s41, hRCO_s41⟩ := hp42
            have hf_s41 : fr [34, 53, 54, 55, 56, 57, 58] s0 s41 := hf_s36.call (by decide) hfc_s41
            obtain ⟨rfl, rfl⟩ := Prod.mk.inj (hT.symm.trans hres)
            exact ⟨hf_s41, hm_s41, trivial, hTK_s41, hRCO_s41⟩
          · replace hT := hT.trans (if_neg h28)
            obtain ⟨r45, s46, hs46⟩ : ∃ rr ss, (f_X3_next  s0) = (rr, ss) := ⟨_, _, rfl⟩
            replace hT := gby hT hs46
            have hp47 := f_X3_next_p  s0  hm_s0 hTK_s0 r45 s46 hs46
            obtain ⟨hfc_s46, hm_s46, hp48, hTK_s46⟩ := hp47
            have hf_s46 : fr [34, 53, 54, 55, 56, 57, 58] s0 s46 := hf_s0.call (by decide) hfc_s46
            have hRCO_s46 : RCO s46 := RCO_fr hRCO_s0 (fun k hk => hfc_s46 k (dj (by decide) k hk))
            obtain ⟨r50, s51, hs51⟩ : ∃ rr ss, (f_X3_readOr_4 (x0 + 1) s46) = (rr, ss) := ⟨_, _, rfl⟩
            replace hT := gby hT hs51
            have hp52 := f_X3_readOr_4_p (x0 + 1) s46 (by omega) hm_s46 hTK_s46 hRCO_s46 (by first | assumption | omega) r50 s51 hs51
            obtain ⟨hfc_s51, hm_s51, hp53, hTK_s51, hRCO_s51⟩ := hp52
            have hf_s51 : fr [34, 53, 54, 55, 56, 57, 58] s0 s51 := hf_s46.call (by decide) hfc_s51
            obtain ⟨r55, s56, hs56⟩ : ∃ rr ss, (f_X3_want 41 s51) = (rr, ss) := ⟨_, _, rfl⟩
            replace hT := gby hT hs56
            have hp57 := f_X3_want_p 41 s51 (by omega) hm_s51 hTK_s51 r55 s56 hs56
            obtain ⟨hfc_s56, hm_s56, hp58, hTK_s56⟩ := hp57
            have hf_s56 : fr [34, 53, 54, 55, 56, 57, 58] s0 s56 := hf_s51.call (by decide) hfc_s56
            have hRCO_s56 : RCO s56 := RCO_fr hRCO_s51 (fun k hk => hfc_s56 k (dj (by decide) k hk))
            obtain ⟨rfl, rfl⟩ := Prod.mk.inj (hT.symm.trans hres)
            exact ⟨hf_s56, hm_s56, trivial, hTK_s56, hRCO_s56⟩
        by_cases h25 : (s0 55 0) = 45
        · replace hT := hT.trans (if_pos h25)
          exact j26  trivial hT
        · replace hT := hT.trans (if_neg h25)
          have hr59 := (hm_s0 55 0).1 rfl
          by_cases h60 : (s0 55 0) = 40
          · replace hT := hT.trans (if_pos h60)
            exact j26  trivial hT
          · replace hT := hT.trans (if_neg h60)
            exact j17  trivial hT
      · replace hT := hT.trans (if_neg h16)
        exact j17  trivial hT
    · replace hT := hT.trans (if_neg h15)
      have hr61 := (hm_s0 55 0).1 rfl
      obtain ⟨r63, s64, hs64⟩ : ∃ rr ss, (f_X3_emit ((-1) - ((s0 55 0) - 262)) s0) = (rr, ss) := ⟨_, _, rfl⟩
      replace hT := gby hT hs64
      have hp65 := f_X3_emit_p ((-1) - ((s0 55 0) - 262)) s0 (by omega) hm_s0 hTK_s0 hRCO_s0 (by first | assumption | omega) r63 s64 hs64
      obtain ⟨hfc_s64, hm_s64, hp66, hTK_s64, hRCO_s64⟩ := hp65
      have hf_s64 : fr [34, 53, 54, 55, 56, 57, 58] s0 s64 := hf_s0.call (by decide) hfc_s64
      obtain ⟨r68, s69, hs69⟩ : ∃ rr ss, (f_X3_next  s64) = (rr, ss) := ⟨_, _, rfl⟩
      replace hT := gby hT hs69
      have hp70 := f_X3_next_p  s64  hm_s64 hTK_s64 r68 s69 hs69
      obtain ⟨hfc_s69, hm_s69, hp71, hTK_s69⟩ := hp70
      have hf_s69 : fr [34, 53, 54, 55, 56, 57, 58] s0 s69 := hf_s64.call (by decide) hfc_s69
      have hRCO_s69 : RCO s69 := RCO_fr hRCO_s64 (fun k hk => hfc_s69 k (dj (by decide) k hk))
      obtain ⟨rfl, rfl⟩ := Prod.mk.inj (hT.symm.trans hres)
      exact ⟨hf_s69, hm_s69, trivial, hTK_s69, hRCO_s69⟩
set_option maxRecDepth 100000 in
set_option maxHeartbeats 4000000 in
theorem c_X3_readOne_5 (l : Launch) (D : va_G) (a : Nat → Nat) (cI cJ cS cT : ClassId) (adK adV : Nat → Nat) (kA : Nat) (s0 : gMem) (x0 : Int) (hx0 : in32 x0) (hpre0 : TK s0) (hpre1 : RCO s0) (hpre2 : x0 = 0) : gCS l yX3_readOne cX3_readOne 2 none 43 2752 D vwCl (gT cI cJ cS cT) (wdX a cI cJ cS cT) lgX kV rgV [.ref (a 2), gI x0] s0 (f_X3_readOne_5 x0 s0) adK adV kA := by
  refine gCS_of (by decide +kernel) (hwdX a cI cJ cS cT) (Nat.le_of_ble_eq_true rfl) ?_
  intro A p e R s m args below meth c hR E HX
  subst hR
  have hT := f_X3_readOne_5_e x0 s0
  have hf_s0 : fr [34, 53, 54, 55, 56, 57, 58] s0 s0 := fr.rf _ _
  refine k_lv0 (lv' := [(0, .ref (a 2)), (1, gI x0)]) rfl ?_
  refine k_mr (fun hm_s0 => ?_)
  have hTK_s0 := hpre0
  have hRCO_s0 := hpre1
  refine k_aloadn (pc := 0) E 0 dX3_readOne_0 rfl rfl ?_
  obtain ⟨kt1, kt2, kt3, kt4, kt5, kt6, kt7⟩ := id hTK_s0
  refine k_getfI (pc := 1) (q0 := 2) (f := 6) (k := 55) E inX3 rfl rfl (by decide) wm_65 rfl rfl rfl dX3_readOne_1 (fun hr1 => ?_)
  refine k_iconst (pc := 4) E dX3_readOne_4 ?_
  by_cases h2 : (s0 55 0) = 2
  · replace hT := hT.trans (if_pos h2)
    refine k_icmp_ne_f (pc := 5) (tgt := 23) E (by omega) (by omega) dX3_readOne_5 (by decide) h2 ?_
    refine k_aloadn (pc := 8) E 0 dX3_readOne_8 rfl rfl ?_
    refine k_aloadn (pc := 9) E 0 dX3_readOne_9 rfl rfl ?_
    refine k_getfI (pc := 10) (q0 := 2) (f := 8) (k := 57) E inX3 rfl rfl (by decide) wm_67 rfl rfl rfl dX3_readOne_10 (fun hr3 => ?_)
    refine k_mr (fun hm_s0 => ?_)
    refine k_callV (pc := 13) (np := 1) (As := [gI (s0 57 0)]) (st := []) (q0 := 2) E (c_X3_emit l D a cI cJ cS cT s0 (s0 57 0) (by omega) hTK_s0 hRCO_s0 (by first | assumption | omega)) wm_460 wm_3 wm_457 wm_459 wp_13 (by decide +kernel) rfl rfl ⟨by decide, by decide⟩ rfl (Nat.le_of_ble_eq_true rfl) dX3_readOne_13 (fun r5 s6 hs6 hr4 => ?_)
    replace hT := gby hT hs6
    have hp7 := f_X3_emit_p (s0 57 0) s0 (by omega) hm_s0 hTK_s0 hRCO_s0 (by first | assumption | omega) r5 s6 hs6
    obtain ⟨hfc_s6, hm_s6, hp8, hTK_s6, hRCO_s6⟩ := hp7
    have hf_s6 : fr [34, 53, 54, 55, 56, 57, 58] s0 s6 := hf_s0.call (by decide) hfc_s6
    refine k_st (st' := []) rfl ?_
    refine k_aloadn (pc := 16) E 0 dX3_readOne_16 rfl rfl ?_
    refine k_mr (fun hm_s6 => ?_)
    refine k_callVX (pc := 17) (np := 0) (As := []) (st := []) (q0 := 2) E HX rfl rfl (c_X3_next l D a cI cJ cS cT adK adV kA s6  hTK_s6) wm_336 wm_3 wm_333 wm_335 wp_0 (by decide +kernel) ⟨by decide, by decide⟩ rfl (Nat.le_of_ble_eq_true rfl) dX3_readOne_17 (fun r10 s11 hs11 hr9 => ?_)
    replace hT := gby hT hs11
    have hp12 := f_X3_next_p  s6  hm_s6 hTK_s6 r10 s11 hs11
    obtain ⟨hfc_s11, hm_s11, hp13, hTK_s11⟩ := hp12
    have hf_s11 : fr [34, 53, 54, 55, 56, 57, 58] s0 s11 := hf_s6.call (by decide) hfc_s11
    have hRCO_s11 : RCO s11 := RCO_fr hRCO_s6 (fun k hk => hfc_s11 k (dj (by decide) k hk))
    refine k_st (st' := []) rfl ?_
    refine k_goto (pc := 20) (tgt := 130) E dX3_readOne_20 (by decide) ?_
    exact k_rho hT (k_vret (pc := 130) E dX3_readOne_130)
  · replace hT := hT.trans (if_neg h2)
    refine k_icmp_ne_t (pc := 5) (tgt := 23) E (by omega) (by omega) dX3_readOne_5 (by decide) h2 ?_
    refine k_aloadn (pc := 23) E 0 dX3_readOne_23 rfl rfl ?_
    refine k_getfI (pc := 24) (q0 := 2) (f := 6) (k := 55) E inX3 rfl rfl (by decide) wm_65 rfl rfl rfl dX3_readOne_24 (fun hr14 => ?_)
    refine k_sipush (pc := 27) E dX3_readOne_27 (by decide) ?_
    by_cases h15 : (s0 55 0) < 262
    · replace hT := hT.trans (if_pos h15)
      refine k_icmp_lt_t (pc := 30) (tgt := 54) E (by omega) (by omega) dX3_readOne_30 (by decide) h15 ?_
      refine k_iloadn (pc := 54) E 1 dX3_readOne_54 rfl rfl ?_
      refine k_iconst (pc := 55) E dX3_readOne_55 ?_
      obtain ⟨j17c, hj17c, hT⟩ := gjx hT
      have j17 : (True) → (f_X3_readOne_5 x0 s0) = j17c  → gK D vwCl (wdX a cI cJ cS cT) lgX A p l e { frames := 43, cells := 0, slots := 0, locals := 2752 } s m args below meth c 2 (gQQ D vwCl (wdX a cI cJ cS cT) lgX A kV rgV below args s) (f_X3_readOne_5 x0 s0) s0 77 [(0, .ref (a 2))] [] := by
        intro  hq hT
        rw [hj17c] at hT
        refine k_aloadn (pc := 77) E 0 dX3_readOne_77 rfl rfl ?_
        refine k_mr (fun hm_s0 => ?_)
        refine k_callV (pc := 78) (np := 0) (As := []) (st := []) (q0 := 2) E (c_X3_fail l D a cI cJ cS cT s0  hTK_s0) wm_428 wm_3 wm_425 wm_427 wp_5 (by decide +kernel) rfl rfl ⟨by decide, by decide⟩ rfl (Nat.le_of_ble_eq_true rfl) dX3_readOne_78 (fun r19 s20 hs20 hr18 => ?_)
        replace hT := gby hT hs20
        have hp21 := f_X3_fail_p  s0  hm_s0 hTK_s0 r19 s20 hs20
        obtain ⟨hfc_s20, hm_s20, hp22, hTK_s20, hp23⟩ := hp21
        have hf_s20 : fr [34, 53, 54, 55, 56, 57, 58] s0 s20 := hf_s0.call (by decide) hfc_s20
        have hRCO_s20 : RCO s20 := RCO_fr hRCO_s0 (fun k hk => hfc_s20 k (dj (by decide) k hk))
        refine k_st (st' := []) rfl ?_
        refine k_goto (pc := 81) (tgt := 130) E dX3_readOne_81 (by decide) ?_
        exact k_rho hT (k_vret (pc := 130) E dX3_readOne_130)
      by_cases h16 : x0 < 5
      · replace hT := hT.trans (if_pos h16)
        refine k_icmp_ge_f (pc := 56) (tgt := 77) E (by omega) (by omega) dX3_readOne_56 (by decide) h16 ?_
        refine k_aloadn (pc := 59) E 0 dX3_readOne_59 rfl rfl ?_
        refine k_getfI (pc := 60) (q0 := 2) (f := 6) (k := 55) E inX3 rfl rfl (by decide) wm_65 rfl rfl rfl dX3_readOne_60 (fun hr24 => ?_)
        refine k_bipush (pc := 63) E dX3_readOne_63 (by decide) ?_
        obtain ⟨j26c, hj26c, hT⟩ := gjx hT
        have j26 : (True) → (f_X3_readOne_5 x0 s0) = j26c  → gK D vwCl (wdX a cI cJ cS cT) lgX A p l e { frames := 43, cells := 0, slots := 0, locals := 2752 } s m args below meth c 2 (gQQ D vwCl (wdX a cI cJ cS cT) lgX A kV rgV below args s) (f_X3_readOne_5 x0 s0) s0 84 [(0, .ref (a 2)), (1, gI x0)] [] := by
          intro  hq hT
          rw [hj26c] at hT
          refine k_aloadn (pc := 84) E 0 dX3_readOne_84 rfl rfl ?_
          refine k_getfI (pc := 85) (q0 := 2) (f := 6) (k := 55) E inX3 rfl rfl (by decide) wm_65 rfl rfl rfl dX3_readOne_85 (fun hr27 => ?_)
          refine k_bipush (pc := 88) E dX3_readOne_88 (by decide) ?_
          by_cases h28 : (s0 55 0) = 45
          · replace hT := hT.trans (if_pos h28)
            refine k_icmp_ne_f (pc := 90) (tgt := 113) E (by omega) (by omega) dX3_readOne_90 (by decide) h28 ?_
            refine k_aloadn (pc := 93) E 0 dX3_readOne_93 rfl rfl ?_
            refine k_mr (fun hm_s0 => ?_)
            refine k_callVX (pc := 94) (np := 0) (As := []) (st := []) (q0 := 2) E HX rfl rfl (c_X3_next l D a cI cJ cS cT adK adV kA s0  hTK_s0) wm_336 wm_3 wm_333 wm_335 wp_0 (by decide +kernel) ⟨by decide, by decide⟩ rfl (Nat.le_of_ble_eq_true rfl) dX3_readOne_94 (fun r30 s31 hs31 hr29 => ?_)
            replace hT := gby hT hs31
            have hp32 := f_X3_next_p  s0  hm_s0 hTK_s0 r30 s31 hs31
            obtain ⟨hfc_s31, hm_s31, hp33, hTK_s31⟩ := hp32
            have hf_s31 : fr [34, 53, 54, 55, 56, 57, 58] s0 s31 := hf_s0.call (by decide) hfc_s31
            have hRCO_s31 : RCO s31 := RCO_fr hRCO_s0 (fun k hk => hfc_s31 k (dj (by decide) k hk))
            refine k_st (st' := []) rfl ?_
            refine k_aloadn (pc := 97) E 0 dX3_readOne_97 rfl rfl ?_
            refine k_iloadn (pc := 98) E 1 dX3_readOne_98 rfl rfl ?_
            refine k_iconst (pc := 99) E dX3_readOne_99 ?_
            refine k_iadd (pc := 100) E dX3_readOne_100 ?_
            refine k_mr (fun hm_s31 => ?_)
            refine k_callVX (pc := 101) (np := 1) (As := [gI (x0 + 1)]) (st := []) (q0 := 2) E HX rfl rfl (c_X3_readOne_4 l D a cI cJ cS cT adK adV kA s31 (x0 + 1) (by omega) hTK_s31 hRCO_s31 (by first | assumption | omega)) wm_456 wm_3 wm_453 wm_455 wp_12 (by decide +kernel) ⟨by decide, by decide⟩ rfl (Nat.le_of_ble_eq_true rfl) dX3_readOne_101 (fun r35 s36 hs36 hr34 => ?_)
            replace hT := gby hT hs36
            have hp37 := f_X3_readOne_4_p (x0 + 1) s31 (by omega) hm_s31 hTK_s31 hRCO_s31 (by first | assumption | omega) r35 s36 hs36
            obtain ⟨hfc_s36, hm_s36, hp38, hTK_s36, hRCO_s36⟩ := hp37
            have hf_s36 : fr [34, 53, 54, 55, 56, 57, 58] s0 s36 := hf_s31.call (by decide) hfc_s36
            refine k_st (st' := []) rfl ?_
            refine k_aloadn (pc := 104) E 0 dX3_readOne_104 rfl rfl ?_
            refine k_bipush (pc := 105) E dX3_readOne_105 (by decide) ?_
            refine k_mr (fun hm_s36 => ?_)
            refine k_callV (pc := 107) (np := 1) (As := [gI (-15)]) (st := []) (q0 := 2) E (c_X3_emit l D a cI cJ cS cT s36 (-15) (by omega) hTK_s36 hRCO_s36 (by first | assumption | omega)) wm_460 wm_3 wm_457 wm_459 wp_13 (by decide +kernel) rfl rfl ⟨by decide, by decide⟩ rfl (Nat.le_of_ble_eq_true rfl) dX3_readOne_107 (fun r40 s41 hs41 hr39 => ?_)
            replace hT := gby hT hs41
            have hp42 := f_X3_emit_p (-15) s36 (by omega) hm_s36 hTK_s36 hRCO_s36 (by first | assumption | omega) r40 s41 hs41
            obtain ⟨hfc_s41, hm_s41, hp43, hTK_s41, hRCO_s41⟩ := hp42
            have hf_s41 : fr [34, 53, 54, 55, 56, 57, 58] s0 s41 := hf_s36.call (by decide) hfc_s41
            refine k_st (st' := []) rfl ?_
            refine k_goto (pc := 110) (tgt := 130) E dX3_readOne_110 (by decide) ?_
            exact k_rho hT (k_vret (pc := 130) E dX3_readOne_130)
          · replace hT := hT.trans (if_neg h28)
            refine k_icmp_ne_t (pc := 90) (tgt := 113) E (by omega) (by omega) dX3_readOne_90 (by decide) h28 ?_
            refine k_aloadn (pc := 113) E 0 dX3_readOne_113 rfl rfl ?_
            refine k_mr (fun hm_s0 => ?_)
            refine k_callVX (pc := 114) (np := 0) (As := []) (st := []) (q0 := 2) E HX rfl rfl (c_X3_next l D a cI cJ cS cT adK adV kA s0  hTK_s0) wm_336 wm_3 wm_333 wm_335 wp_0 (by decide +kernel) ⟨by decide, by decide⟩ rfl (Nat.le_of_ble_eq_true rfl) dX3_readOne_114 (fun r45 s46 hs46 hr44 => ?_)
            replace hT := gby hT hs46
            have hp47 := f_X3_next_p  s0  hm_s0 hTK_s0 r45 s46 hs46
            obtain ⟨hfc_s46, hm_s46, hp48, hTK_s46⟩ := hp47
            have hf_s46 : fr [34, 53, 54, 55, 56, 57, 58] s0 s46 := hf_s0.call (by decide) hfc_s46
            have hRCO_s46 : RCO s46 := RCO_fr hRCO_s0 (fun k hk => hfc_s46 k (dj (by decide) k hk))
            refine k_st (st' := []) rfl ?_
            refine k_aloadn (pc := 117) E 0 dX3_readOne_117 rfl rfl ?_
            refine k_iloadn (pc := 118) E 1 dX3_readOne_118 rfl rfl ?_
            refine k_iconst (pc := 119) E dX3_readOne_119 ?_
            refine k_iadd (pc := 120) E dX3_readOne_120 ?_
            refine k_mr (fun hm_s46 => ?_)
            refine k_callVX (pc := 121) (np := 1) (As := [gI (x0 + 1)]) (st := []) (q0 := 2) E HX rfl rfl (c_X3_readOr_4 l D a cI cJ cS cT adK adV kA s46 (x0 + 1) (by omega) hTK_s46 hRCO_s46 (by first | assumption | omega)) wm_432 wm_3 wm_429 wm_431 wp_6 (by decide +kernel) ⟨by decide, by decide⟩ rfl (Nat.le_of_ble_eq_true rfl) dX3_readOne_121 (fun r50 s51 hs51 hr49 => ?_)
            replace hT := gby hT hs51
            have hp52 := f_X3_readOr_4_p (x0 + 1) s46 (by omega) hm_s46 hTK_s46 hRCO_s46 (by first | assumption | omega) r50 s51 hs51
            obtain ⟨hfc_s51, hm_s51, hp53, hTK_s51, hRCO_s51⟩ := hp52
            have hf_s51 : fr [34, 53, 54, 55, 56, 57, 58] s0 s51 := hf_s46.call (by decide) hfc_s51
            refine k_st (st' := []) rfl ?_
            refine k_aloadn (pc := 124) E 0 dX3_readOne_124 rfl rfl ?_
            refine k_bipush (pc := 125) E dX3_readOne_125 (by decide) ?_
            refine k_mr (fun hm_s51 => ?_)
            refine k_callVX (pc := 127) (np := 1) (As := [gI 41]) (st := []) (q0 := 2) E HX rfl rfl (c_X3_want l D a cI cJ cS cT adK adV kA s51 41 (by omega) hTK_s51) wm_424 wm_3 wm_421 wm_423 wp_4 (by decide +kernel) ⟨by decide, by decide⟩ rfl (Nat.le_of_ble_eq_true rfl) dX3_readOne_127 (fun r55 s56 hs56 hr54 => ?_)
            replace hT := gby hT hs56
            have hp57 := f_X3_want_p 41 s51 (by omega) hm_s51 hTK_s51 r55 s56 hs56
            obtain ⟨hfc_s56, hm_s56, hp58, hTK_s56⟩ := hp57
            have hf_s56 : fr [34, 53, 54, 55, 56, 57, 58] s0 s56 := hf_s51.call (by decide) hfc_s56
            have hRCO_s56 : RCO s56 := RCO_fr hRCO_s51 (fun k hk => hfc_s56 k (dj (by decide) k hk))
            refine k_st (st' := []) rfl ?_
            exact k_rho hT (k_vret (pc := 130) E dX3_readOne_130)
        by_cases h25 : (s0 55 0) = 45
        · replace hT := hT.trans (if_pos h25)
          refine k_icmp_eq_t (pc := 65) (tgt := 84) E (by omega) (by omega) dX3_readOne_65 (by decide) h25 ?_
          exact j26  trivial hT
        · replace hT := hT.trans (if_neg h25)
          refine k_icmp_eq_f (pc := 65) (tgt := 84) E (by omega) (by omega) dX3_readOne_65 (by decide) h25 ?_
          refine k_aloadn (pc := 68) E 0 dX3_readOne_68 rfl rfl ?_
          refine k_getfI (pc := 69) (q0 := 2) (f := 6) (k := 55) E inX3 rfl rfl (by decide) wm_65 rfl rfl rfl dX3_readOne_69 (fun hr59 => ?_)
          refine k_bipush (pc := 72) E dX3_readOne_72 (by decide) ?_
          by_cases h60 : (s0 55 0) = 40
          · replace hT := hT.trans (if_pos h60)
            refine k_icmp_eq_t (pc := 74) (tgt := 84) E (by omega) (by omega) dX3_readOne_74 (by decide) h60 ?_
            exact j26  trivial hT
          · replace hT := hT.trans (if_neg h60)
            refine k_icmp_eq_f (pc := 74) (tgt := 84) E (by omega) (by omega) dX3_readOne_74 (by decide) h60 ?_
            refine k_lv (lv' := [(0, .ref (a 2))]) [0] rfl ?_
            exact j17  trivial hT
      · replace hT := hT.trans (if_neg h16)
        refine k_icmp_ge_t (pc := 56) (tgt := 77) E (by omega) (by omega) dX3_readOne_56 (by decide) h16 ?_
        refine k_lv (lv' := [(0, .ref (a 2))]) [0] rfl ?_
        exact j17  trivial hT
    · replace hT := hT.trans (if_neg h15)
      refine k_icmp_lt_f (pc := 30) (tgt := 54) E (by omega) (by omega) dX3_readOne_30 (by decide) h15 ?_
      refine k_aloadn (pc := 33) E 0 dX3_readOne_33 rfl rfl ?_
      refine k_iconst (pc := 34) E dX3_readOne_34 ?_
      refine k_aloadn (pc := 35) E 0 dX3_readOne_35 rfl rfl ?_
      refine k_getfI (pc := 36) (q0 := 2) (f := 6) (k := 55) E inX3 rfl rfl (by decide) wm_65 rfl rfl rfl dX3_readOne_36 (fun hr61 => ?_)
      refine k_sipush (pc := 39) E dX3_readOne_39 (by decide) ?_
      refine k_isub (pc := 42) E dX3_readOne_42 ?_
      refine k_isub (pc := 43) E dX3_readOne_43 ?_
      refine k_mr (fun hm_s0 => ?_)
      refine k_callV (pc := 44) (np := 1) (As := [gI ((-1) - ((s0 55 0) - 262))]) (st := []) (q0 := 2) E (c_X3_emit l D a cI cJ cS cT s0 ((-1) - ((s0 55 0) - 262)) (by omega) hTK_s0 hRCO_s0 (by first | assumption | omega)) wm_460 wm_3 wm_457 wm_459 wp_13 (by decide +kernel) rfl rfl ⟨by decide, by decide⟩ rfl (Nat.le_of_ble_eq_true rfl) dX3_readOne_44 (fun r63 s64 hs64 hr62 => ?_)
      replace hT := gby hT hs64
      have hp65 := f_X3_emit_p ((-1) - ((s0 55 0) - 262)) s0 (by omega) hm_s0 hTK_s0 hRCO_s0 (by first | assumption | omega) r63 s64 hs64
      obtain ⟨hfc_s64, hm_s64, hp66, hTK_s64, hRCO_s64⟩ := hp65
      have hf_s64 : fr [34, 53, 54, 55, 56, 57, 58] s0 s64 := hf_s0.call (by decide) hfc_s64
      refine k_st (st' := []) rfl ?_
      refine k_aloadn (pc := 47) E 0 dX3_readOne_47 rfl rfl ?_
      refine k_mr (fun hm_s64 => ?_)
      refine k_callVX (pc := 48) (np := 0) (As := []) (st := []) (q0 := 2) E HX rfl rfl (c_X3_next l D a cI cJ cS cT adK adV kA s64  hTK_s64) wm_336 wm_3 wm_333 wm_335 wp_0 (by decide +kernel) ⟨by decide, by decide⟩ rfl (Nat.le_of_ble_eq_true rfl) dX3_readOne_48 (fun r68 s69 hs69 hr67 => ?_)
      replace hT := gby hT hs69
      have hp70 := f_X3_next_p  s64  hm_s64 hTK_s64 r68 s69 hs69
      obtain ⟨hfc_s69, hm_s69, hp71, hTK_s69⟩ := hp70
      have hf_s69 : fr [34, 53, 54, 55, 56, 57, 58] s0 s69 := hf_s64.call (by decide) hfc_s69
      have hRCO_s69 : RCO s69 := RCO_fr hRCO_s64 (fun k hk => hfc_s69 k (dj (by decide) k hk))
      refine k_st (st' := []) rfl ?_
      refine k_goto (pc := 51) (tgt := 130) E dX3_readOne_51 (by decide) ?_
      exact k_rho hT (k_vret (pc := 130) E dX3_readOne_130)

def w_X3_readTerm_5_7 (c1 : Int) : Nat → Int → gMem → Int × gMem
  | 0, v6, s7 => (v6, s7)
  | n8 + 1, v6, s7 => (if v6 < 160 then (if (s7 55 0) = 42 then gb (f_X3_next  s7) (fun r13 s14 => gb (f_X3_readOne_5 c1 s14) (fun r18 s19 => gb (f_X3_emit (-13) s19) (fun r23 s24 => (w_X3_readTerm_5_7 c1 n8 (v6 + 1) s24)))) else (v6, s7)) else (v6, s7))
theorem w_X3_readTerm_5_7_s (c1 : Int) (n8 : Nat) (v6 : Int) (s7 : gMem) : w_X3_readTerm_5_7 c1 (n8 + 1) v6 s7 = (if v6 < 160 then (if (s7 55 0) = 42 then gb (f_X3_next  s7) (fun r13 s14 => gb (f_X3_readOne_5 c1 s14) (fun r18 s19 => gb (f_X3_emit (-13) s19) (fun r23 s24 => (w_X3_readTerm_5_7 c1 n8 (v6 + 1) s24)))) else (v6, s7)) else (v6, s7)) := rfl
def f_X3_readTerm_5 (x0 : Int) (s0 : gMem) : gRes := gb (f_X3_readOne_5 x0 s0) (fun r2 s3 => (gl2 (w_X3_readTerm_5_7 x0 161 0 s3) (fun v55 s56 => (0, s56))))
theorem f_X3_readTerm_5_e (x0 : Int) (s0 : gMem) : f_X3_readTerm_5 x0 s0 = gb (f_X3_readOne_5 x0 s0) (fun r2 s3 => (gl2 (w_X3_readTerm_5_7 x0 161 0 s3) (fun v55 s56 => (0, s56)))) := rfl
set_option maxRecDepth 100000 in
set_option maxHeartbeats 4000000 in
theorem f_X3_readTerm_5_p (x0 : Int) (s0 : gMem) (hx0 : in32 x0) (hm_s0 : gMR lgX s0) (hpre0 : TK s0) (hpre1 : RCO s0) (hpre2 : x0 = 0) (rZ : Int) (sZ : gMem) (hres : f_X3_readTerm_5 x0 s0 = (rZ, sZ)) : (fr [34, 53, 54, 55, 56, 57, 58] s0 sZ) ∧ (gMR lgX sZ) ∧ (True) ∧ (TK sZ) ∧ (RCO sZ) := by
  have hT := f_X3_readTerm_5_e x0 s0
  have hf_s0 : fr [34, 53, 54, 55, 56, 57, 58] s0 s0 := fr.rf _ _
  have hTK_s0 := hpre0
  have hRCO_s0 := hpre1
  obtain ⟨r2, s3, hs3⟩ : ∃ rr ss, (f_X3_readOne_5 x0 s0) = (rr, ss) := ⟨_, _, rfl⟩
  replace hT := gby hT hs3
  have hp4 := f_X3_readOne_5_p x0 s0 (by omega) hm_s0 hTK_s0 hRCO_s0 (by first | assumption | omega) r2 s3 hs3
  obtain ⟨hfc_s3, hm_s3, hp5, hTK_s3, hRCO_s3⟩ := hp4
  have hf_s3 : fr [34, 53, 54, 55, 56, 57, 58] s0 s3 := hf_s0.call (by decide) hfc_s3
  have L29 : ∀ (n30 : Nat) (v27 : Int) (s28 : gMem), ((in32 v27) ∧ (fr [34, 53, 54, 55, 56, 57, 58] s0 s28) ∧ (gMR lgX s28) ∧ (TK s28) ∧ (RCO s28) ∧ (0 ≤ v27 ∧ v27 ≤ 160)) → 160 - v27 < (n30 : Int) → (∀ (w31 : Int) (s32 : gMem), (w_X3_readTerm_5_7 x0 n30 v27 s28) = (w31, s32) → ((in32 w31) ∧ (fr [34, 53, 54, 55, 56, 57, 58] s0 s32) ∧ (gMR lgX s32) ∧ (TK s32) ∧ (RCO s32) ∧ (0 ≤ w31 ∧ w31 ≤ 160)) → (fr [34, 53, 54, 55, 56, 57, 58] s0 sZ) ∧ (gMR lgX sZ) ∧ (True) ∧ (TK sZ) ∧ (RCO sZ)) → (fr [34, 53, 54, 55, 56, 57, 58] s0 sZ) ∧ (gMR lgX sZ) ∧ (True) ∧ (TK sZ) ∧ (RCO sZ) := by
    intro n30; induction n30 with
    | zero =>
      intro v27 s28 hq hm hk
      exfalso
      obtain ⟨hq51, hf_s28, hm_s28, hTK_s28, hRCO_s28, hq52⟩ := hq
      omega
    | succ n30 ih =>
      intro v27 s28 hq hm hk
      obtain ⟨hq53, hf_s28, hm_s28, hTK_s28, hRCO_s28, hq54⟩ := hq
      have hT := w_X3_readTerm_5_7_s x0 n30 v27 s28
      by_cases h33 : v27 < 160
      · replace hT := hT.trans (if_pos h33)
        have hr34 := (hm_s28 55 0).1 rfl
        by_cases h35 : (s28 55 0) = 42
        · replace hT := hT.trans (if_pos h35)
          obtain ⟨r37, s38, hs38⟩ : ∃ rr ss, (f_X3_next  s28) = (rr, ss) := ⟨_, _, rfl⟩
          replace hT := gby hT hs38
          have hp39 := f_X3_next_p  s28  hm_s28 hTK_s28 r37 s38 hs38
          obtain ⟨hfc_s38, hm_s38, hp40, hTK_s38⟩ := hp39
          have hf_s38 : fr [34, 53, 54, 55, 56, 57, 58] s0 s38 := hf_s28.call (by decide) hfc_s38
          have hRCO_s38 : RCO s38 := RCO_fr hRCO_s28 (fun k hk => hfc_s38 k (dj (by decide) k hk))
          obtain ⟨r42, s43, hs43⟩ : ∃ rr ss, (f_X3_readOne_5 x0 s38) = (rr, ss) := ⟨_, _, rfl⟩
          replace hT := gby hT hs43
          have hp44 := f_X3_readOne_5_p x0 s38 (by omega) hm_s38 hTK_s38 hRCO_s38 (by first | assumption | omega) r42 s43 hs43
          obtain ⟨hfc_s43, hm_s43, hp45, hTK_s43, hRCO_s43⟩ := hp44
          have hf_s43 : fr [34, 53, 54, 55, 56, 57, 58] s0 s43 := hf_s38.call (by decide) hfc_s43
          obtain ⟨r47, s48, hs48⟩ : ∃ rr ss, (f_X3_emit (-13) s43) = (rr, ss) := ⟨_, _, rfl⟩
          replace hT := gby hT hs48
          have hp49 := f_X3_emit_p (-13) s43 (by omega) hm_s43 hTK_s43 hRCO_s43 (by first | assumption | omega) r47 s48 hs48
          obtain ⟨hfc_s48, hm_s48, hp50, hTK_s48, hRCO_s48⟩ := hp49
          have hf_s48 : fr [34, 53, 54, 55, 56, 57, 58] s0 s48 := hf_s43.call (by decide) hfc_s48
          exact ih (v27 + 1) s48 ⟨(by omega), hf_s48, hm_s48, hTK_s48, hRCO_s48, (by first | assumption | omega)⟩ (by omega) (fun w31 s32 hw hi => hk w31 s32 (hT.trans hw) hi)
        · replace hT := hT.trans (if_neg h35)
          exact hk v27 s28 hT ⟨(by omega), hf_s28, hm_s28, hTK_s28, hRCO_s28, (by first | assumption | omega)⟩
      · replace hT := hT.trans (if_neg h33)
        exact hk v27 s28 hT ⟨(by omega), hf_s28, hm_s28, hTK_s28, hRCO_s28, (by first | assumption | omega)⟩
  refine L29 161 0 s3 ⟨(by omega), hf_s3, hm_s3, hTK_s3, hRCO_s3, (by first | assumption | omega)⟩ (by omega) (fun v55 s56 hw hq => ?_)
  obtain ⟨hq57, hf_s56, hm_s56, hTK_s56, hRCO_s56, hq58⟩ := hq
  replace hT := gl2y hT hw
  obtain ⟨rfl, rfl⟩ := Prod.mk.inj (hT.symm.trans hres)
  exact ⟨hf_s56, hm_s56, trivial, hTK_s56, hRCO_s56⟩
set_option maxRecDepth 100000 in
set_option maxHeartbeats 4000000 in
theorem c_X3_readTerm_5 (l : Launch) (D : va_G) (a : Nat → Nat) (cI cJ cS cT : ClassId) (adK adV : Nat → Nat) (kA : Nat) (s0 : gMem) (x0 : Int) (hx0 : in32 x0) (hpre0 : TK s0) (hpre1 : RCO s0) (hpre2 : x0 = 0) : gCS l yX3_readTerm cX3_readTerm 3 none 44 2816 D vwCl (gT cI cJ cS cT) (wdX a cI cJ cS cT) lgX kV rgV [.ref (a 2), gI x0] s0 (f_X3_readTerm_5 x0 s0) adK adV kA := by
  refine gCS_of (by decide +kernel) (hwdX a cI cJ cS cT) (Nat.le_of_ble_eq_true rfl) ?_
  intro A p e R s m args below meth c hR E HX
  subst hR
  have hT := f_X3_readTerm_5_e x0 s0
  have hf_s0 : fr [34, 53, 54, 55, 56, 57, 58] s0 s0 := fr.rf _ _
  refine k_lv0 (lv' := [(0, .ref (a 2)), (1, gI x0)]) rfl ?_
  refine k_mr (fun hm_s0 => ?_)
  have hTK_s0 := hpre0
  have hRCO_s0 := hpre1
  refine k_aloadn (pc := 0) E 0 dX3_readTerm_0 rfl rfl ?_
  refine k_iloadn (pc := 1) E 1 dX3_readTerm_1 rfl rfl ?_
  refine k_mr (fun hm_s0 => ?_)
  refine k_callVX (pc := 2) (np := 1) (As := [gI x0]) (st := []) (q0 := 2) E HX rfl rfl (c_X3_readOne_5 l D a cI cJ cS cT adK adV kA s0 x0 (by omega) hTK_s0 hRCO_s0 (by first | assumption | omega)) wm_456 wm_3 wm_453 wm_455 wp_12 (by decide +kernel) ⟨by decide, by decide⟩ rfl (Nat.le_of_ble_eq_true rfl) dX3_readTerm_2 (fun r2 s3 hs3 hr1 => ?_)
  replace hT := gby hT hs3
  have hp4 := f_X3_readOne_5_p x0 s0 (by omega) hm_s0 hTK_s0 hRCO_s0 (by first | assumption | omega) r2 s3 hs3
  obtain ⟨hfc_s3, hm_s3, hp5, hTK_s3, hRCO_s3⟩ := hp4
  have hf_s3 : fr [34, 53, 54, 55, 56, 57, 58] s0 s3 := hf_s0.call (by decide) hfc_s3
  refine k_st (st' := []) rfl ?_
  refine k_iconst (pc := 5) E dX3_readTerm_5 ?_
  refine k_istoren (pc := 6) (lv' := [(2, gI 0), (0, .ref (a 2)), (1, gI x0)]) E dX3_readTerm_6 rfl (by decide) rfl ?_
  have L29 : ∀ (n30 : Nat) (v27 : Int) (s28 : gMem), ((in32 v27) ∧ (fr [34, 53, 54, 55, 56, 57, 58] s0 s28) ∧ (TK s28) ∧ (RCO s28) ∧ (0 ≤ v27 ∧ v27 ≤ 160)) → 160 - v27 < (n30 : Int) → (∀ (w31 : Int) (s32 : gMem), (w_X3_readTerm_5_7 x0 n30 v27 s28) = (w31, s32) → ((in32 w31) ∧ (fr [34, 53, 54, 55, 56, 57, 58] s0 s32) ∧ (TK s32) ∧ (RCO s32) ∧ (0 ≤ w31 ∧ w31 ≤ 160)) → gK D vwCl (wdX a cI cJ cS cT) lgX A p l e { frames := 44, cells := 0, slots := 0, locals := 2816 } s m args below meth c 3 (gQQ D vwCl (wdX a cI cJ cS cT) lgX A kV rgV below args s) (f_X3_readTerm_5 x0 s0) s32 44 [] []) → gK D vwCl (wdX a cI cJ cS cT) lgX A p l e { frames := 44, cells := 0, slots := 0, locals := 2816 } s m args below meth c 3 (gQQ D vwCl (wdX a cI cJ cS cT) lgX A kV rgV below args s) (f_X3_readTerm_5 x0 s0) s28 7 [(0, .ref (a 2)), (1, gI x0), (2, gI v27)] [] := by
    intro n30; induction n30 with
    | zero =>
      intro v27 s28 hq hm hk
      exfalso
      obtain ⟨hq51, hf_s28, hTK_s28, hRCO_s28, hq52⟩ := hq
      omega
    | succ n30 ih =>
      intro v27 s28 hq hm hk
      obtain ⟨hq53, hf_s28, hTK_s28, hRCO_s28, hq54⟩ := hq
      have hT := w_X3_readTerm_5_7_s x0 n30 v27 s28
      refine k_iloadn (pc := 7) E 2 dX3_readTerm_7 rfl rfl ?_
      refine k_sipush (pc := 8) E dX3_readTerm_8 (by decide) ?_
      by_cases h33 : v27 < 160
      · replace hT := hT.trans (if_pos h33)
        refine k_icmp_ge_f (pc := 11) (tgt := 44) E (by omega) (by omega) dX3_readTerm_11 (by decide) h33 ?_
        refine k_aloadn (pc := 14) E 0 dX3_readTerm_14 rfl rfl ?_
        refine k_getfI (pc := 15) (q0 := 2) (f := 6) (k := 55) E inX3 rfl rfl (by decide) wm_65 rfl rfl rfl dX3_readTerm_15 (fun hr34 => ?_)
        refine k_bipush (pc := 18) E dX3_readTerm_18 (by decide) ?_
        by_cases h35 : (s28 55 0) = 42
        · replace hT := hT.trans (if_pos h35)
          refine k_icmp_ne_f (pc := 20) (tgt := 44) E (by omega) (by omega) dX3_readTerm_20 (by decide) h35 ?_
          refine k_aloadn (pc := 23) E 0 dX3_readTerm_23 rfl rfl ?_
          refine k_mr (fun hm_s28 => ?_)
          refine k_callVX (pc := 24) (np := 0) (As := []) (st := []) (q0 := 2) E HX rfl rfl (c_X3_next l D a cI cJ cS cT adK adV kA s28  hTK_s28) wm_336 wm_3 wm_333 wm_335 wp_0 (by decide +kernel) ⟨by decide, by decide⟩ rfl (Nat.le_of_ble_eq_true rfl) dX3_readTerm_24 (fun r37 s38 hs38 hr36 => ?_)
          replace hT := gby hT hs38
          have hp39 := f_X3_next_p  s28  hm_s28 hTK_s28 r37 s38 hs38
          obtain ⟨hfc_s38, hm_s38, hp40, hTK_s38⟩ := hp39
          have hf_s38 : fr [34, 53, 54, 55, 56, 57, 58] s0 s38 := hf_s28.call (by decide) hfc_s38
          have hRCO_s38 : RCO s38 := RCO_fr hRCO_s28 (fun k hk => hfc_s38 k (dj (by decide) k hk))
          refine k_st (st' := []) rfl ?_
          refine k_aloadn (pc := 27) E 0 dX3_readTerm_27 rfl rfl ?_
          refine k_iloadn (pc := 28) E 1 dX3_readTerm_28 rfl rfl ?_
          refine k_mr (fun hm_s38 => ?_)
          refine k_callVX (pc := 29) (np := 1) (As := [gI x0]) (st := []) (q0 := 2) E HX rfl rfl (c_X3_readOne_5 l D a cI cJ cS cT adK adV kA s38 x0 (by omega) hTK_s38 hRCO_s38 (by first | assumption | omega)) wm_456 wm_3 wm_453 wm_455 wp_12 (by decide +kernel) ⟨by decide, by decide⟩ rfl (Nat.le_of_ble_eq_true rfl) dX3_readTerm_29 (fun r42 s43 hs43 hr41 => ?_)
          replace hT := gby hT hs43
          have hp44 := f_X3_readOne_5_p x0 s38 (by omega) hm_s38 hTK_s38 hRCO_s38 (by first | assumption | omega) r42 s43 hs43
          obtain ⟨hfc_s43, hm_s43, hp45, hTK_s43, hRCO_s43⟩ := hp44
          have hf_s43 : fr [34, 53, 54, 55, 56, 57, 58] s0 s43 := hf_s38.call (by decide) hfc_s43
          refine k_st (st' := []) rfl ?_
          refine k_aloadn (pc := 32) E 0 dX3_readTerm_32 rfl rfl ?_
          refine k_bipush (pc := 33) E dX3_readTerm_33 (by decide) ?_
          refine k_mr (fun hm_s43 => ?_)
          refine k_callV (pc := 35) (np := 1) (As := [gI (-13)]) (st := []) (q0 := 2) E (c_X3_emit l D a cI cJ cS cT s43 (-13) (by omega) hTK_s43 hRCO_s43 (by first | assumption | omega)) wm_460 wm_3 wm_457 wm_459 wp_13 (by decide +kernel) rfl rfl ⟨by decide, by decide⟩ rfl (Nat.le_of_ble_eq_true rfl) dX3_readTerm_35 (fun r47 s48 hs48 hr46 => ?_)
          replace hT := gby hT hs48
          have hp49 := f_X3_emit_p (-13) s43 (by omega) hm_s43 hTK_s43 hRCO_s43 (by first | assumption | omega) r47 s48 hs48
          obtain ⟨hfc_s48, hm_s48, hp50, hTK_s48, hRCO_s48⟩ := hp49
          have hf_s48 : fr [34, 53, 54, 55, 56, 57, 58] s0 s48 := hf_s43.call (by decide) hfc_s48
          refine k_st (st' := []) rfl ?_
          refine k_iinc (pc := 38) (lv' := [(2, gI (v27 + 1)), (0, .ref (a 2)), (1, gI x0)]) E 2 dX3_readTerm_38 rfl (by decide) rfl ?_
          refine k_goto (pc := 41) (tgt := 7) E dX3_readTerm_41 (by decide) ?_
          refine k_lv (lv' := [(0, .ref (a 2)), (1, gI x0), (2, gI (v27 + 1))]) [1, 2, 0] rfl ?_
          exact ih (v27 + 1) s48 ⟨(by omega), hf_s48, hTK_s48, hRCO_s48, (by first | assumption | omega)⟩ (by omega) (fun w31 s32 hw hi => hk w31 s32 (hT.trans hw) hi)
        · replace hT := hT.trans (if_neg h35)
          refine k_icmp_ne_t (pc := 20) (tgt := 44) E (by omega) (by omega) dX3_readTerm_20 (by decide) h35 ?_
          refine k_lv (lv' := []) [] rfl ?_
          exact hk v27 s28 hT ⟨(by omega), hf_s28, hTK_s28, hRCO_s28, (by first | assumption | omega)⟩
      · replace hT := hT.trans (if_neg h33)
        refine k_icmp_ge_t (pc := 11) (tgt := 44) E (by omega) (by omega) dX3_readTerm_11 (by decide) h33 ?_
        refine k_lv (lv' := []) [] rfl ?_
        exact hk v27 s28 hT ⟨(by omega), hf_s28, hTK_s28, hRCO_s28, (by first | assumption | omega)⟩
  refine k_lv (lv' := [(0, .ref (a 2)), (1, gI x0), (2, gI 0)]) [1, 2, 0] rfl ?_
  refine L29 161 0 s3 ⟨(by omega), hf_s3, hTK_s3, hRCO_s3, (by first | assumption | omega)⟩ (by omega) (fun v55 s56 hw hq => ?_)
  obtain ⟨hq57, hf_s56, hTK_s56, hRCO_s56, hq58⟩ := hq
  replace hT := gl2y hT hw
  exact k_rho hT (k_vret (pc := 44) E dX3_readTerm_44)

def w_X3_readSum_5_7 (c1 : Int) : Nat → Int → gMem → Int × gMem
  | 0, v6, s7 => (v6, s7)
  | n8 + 1, v6, s7 => (if v6 < 160 then (gj (fun j12c => (if (s7 55 0) = 43 then j12c else (if (s7 55 0) = 45 then j12c else (v6, s7)))) ((gl ((if (s7 55 0) = 43 then (-11) else (-12))) (fun v16 => gb (f_X3_next  s7) (fun r18 s19 => gb (f_X3_readTerm_5 c1 s19) (fun r23 s24 => gb (f_X3_emit v16 s24) (fun r28 s29 => (w_X3_readSum_5_7 c1 n8 (v6 + 1) s29)))))))) else (v6, s7))
theorem w_X3_readSum_5_7_s (c1 : Int) (n8 : Nat) (v6 : Int) (s7 : gMem) : w_X3_readSum_5_7 c1 (n8 + 1) v6 s7 = (if v6 < 160 then (gj (fun j12c => (if (s7 55 0) = 43 then j12c else (if (s7 55 0) = 45 then j12c else (v6, s7)))) ((gl ((if (s7 55 0) = 43 then (-11) else (-12))) (fun v16 => gb (f_X3_next  s7) (fun r18 s19 => gb (f_X3_readTerm_5 c1 s19) (fun r23 s24 => gb (f_X3_emit v16 s24) (fun r28 s29 => (w_X3_readSum_5_7 c1 n8 (v6 + 1) s29)))))))) else (v6, s7)) := rfl
def f_X3_readSum_5 (x0 : Int) (s0 : gMem) : gRes := gb (f_X3_readTerm_5 x0 s0) (fun r2 s3 => (gl2 (w_X3_readSum_5_7 x0 161 0 s3) (fun v75 s76 => (0, s76))))
theorem f_X3_readSum_5_e (x0 : Int) (s0 : gMem) : f_X3_readSum_5 x0 s0 = gb (f_X3_readTerm_5 x0 s0) (fun r2 s3 => (gl2 (w_X3_readSum_5_7 x0 161 0 s3) (fun v75 s76 => (0, s76)))) := rfl
set_option maxRecDepth 100000 in
set_option maxHeartbeats 4000000 in
theorem f_X3_readSum_5_p (x0 : Int) (s0 : gMem) (hx0 : in32 x0) (hm_s0 : gMR lgX s0) (hpre0 : TK s0) (hpre1 : RCO s0) (hpre2 : x0 = 0) (rZ : Int) (sZ : gMem) (hres : f_X3_readSum_5 x0 s0 = (rZ, sZ)) : (fr [34, 53, 54, 55, 56, 57, 58] s0 sZ) ∧ (gMR lgX sZ) ∧ (True) ∧ (TK sZ) ∧ (RCO sZ) := by
  have hT := f_X3_readSum_5_e x0 s0
  have hf_s0 : fr [34, 53, 54, 55, 56, 57, 58] s0 s0 := fr.rf _ _
  have hTK_s0 := hpre0
  have hRCO_s0 := hpre1
  obtain ⟨r2, s3, hs3⟩ : ∃ rr ss, (f_X3_readTerm_5 x0 s0) = (rr, ss) := ⟨_, _, rfl⟩
  replace hT := gby hT hs3
  have hp4 := f_X3_readTerm_5_p x0 s0 (by omega) hm_s0 hTK_s0 hRCO_s0 (by first | assumption | omega) r2 s3 hs3
  obtain ⟨hfc_s3, hm_s3, hp5, hTK_s3, hRCO_s3⟩ := hp4
  have hf_s3 : fr [34, 53, 54, 55, 56, 57, 58] s0 s3 := hf_s0.call (by decide) hfc_s3
  have L39 : ∀ (n40 : Nat) (v37 : Int) (s38 : gMem), ((in32 v37) ∧ (fr [34, 53, 54, 55, 56, 57, 58] s0 s38) ∧ (gMR lgX s38) ∧ (TK s38) ∧ (RCO s38) ∧ (0 ≤ v37 ∧ v37 ≤ 160)) → 160 - v37 < (n40 : Int) → (∀ (w41 : Int) (s42 : gMem), (w_X3_readSum_5_7 x0 n40 v37 s38) = (w41, s42) → ((in32 w41) ∧ (fr [34, 53, 54, 55, 56, 57, 58] s0 s42) ∧ (gMR lgX s42) ∧ (TK s42) ∧ (RCO s42) ∧ (0 ≤ w41 ∧ w41 ≤ 160)) → (fr [34, 53, 54, 55, 56, 57, 58] s0 sZ) ∧ (gMR lgX sZ) ∧ (True) ∧ (TK sZ) ∧ (RCO sZ)) → (fr [34, 53, 54, 55, 56, 57, 58] s0 sZ) ∧ (gMR lgX sZ) ∧ (True) ∧ (TK sZ) ∧ (RCO sZ) := by
    intro n40; induction n40 with
    | zero =>
      intro v37 s38 hq hm hk
      exfalso
      obtain ⟨hq71, hf_s38, hm_s38, hTK_s38, hRCO_s38, hq72⟩ := hq
      omega
    | succ n40 ih =>
      intro v37 s38 hq hm hk
      obtain ⟨hq73, hf_s38, hm_s38, hTK_s38, hRCO_s38, hq74⟩ := hq
      have hT := w_X3_readSum_5_7_s x0 n40 v37 s38
      by_cases h43 : v37 < 160
      · replace hT := hT.trans (if_pos h43)
        have hr44 := (hm_s38 55 0).1 rfl
        obtain ⟨j46c, hj46c, hT⟩ := gjx hT
        have j46 : (True) → (w_X3_readSum_5_7 x0 (n40 + 1) v37 s38) = j46c  → (fr [34, 53, 54, 55, 56, 57, 58] s0 sZ) ∧ (gMR lgX sZ) ∧ (True) ∧ (TK sZ) ∧ (RCO sZ) := by
          intro  hq hT
          rw [hj46c] at hT
          have hr47 := (hm_s38 55 0).1 rfl
          obtain ⟨z68, hz68, hT⟩ := gl1x hT
          have j49 : ∀ (v50 : Int), ((in32 v50) ∧ (-12 ≤ v50 ∧ v50 ≤ -11)) → z68 = v50 → (fr [34, 53, 54, 55, 56, 57, 58] s0 sZ) ∧ (gMR lgX sZ) ∧ (True) ∧ (TK sZ) ∧ (RCO sZ) := by
            intro v50 hq hz
            obtain ⟨hq66, hq67⟩ := hq
            replace hT := gl1y hT hz
            obtain ⟨r52, s53, hs53⟩ : ∃ rr ss, (f_X3_next  s38) = (rr, ss) := ⟨_, _, rfl⟩
            replace hT := gby hT hs53
            have hp54 := f_X3_next_p  s38  hm_s38 hTK_s38 r52 s53 hs53
            obtain ⟨hfc_s53, hm_s53, hp55, hTK_s53⟩ := hp54
            have hf_s53 : fr [34, 53, 54, 55, 56, 57, 58] s0 s53 := hf_s38.call (by decide) hfc_s53
            have hRCO_s53 : RCO s53 := RCO_fr hRCO_s38 (fun k hk => hfc_s53 k (dj (by decide) k hk))
            obtain ⟨r57, s58, hs58⟩ : ∃ rr ss, (f_X3_readTerm_5 x0 s53) = (rr, ss) := ⟨_, _, rfl⟩
            replace hT := gby hT hs58
            have hp59 := f_X3_readTerm_5_p x0 s53 (by omega) hm_s53 hTK_s53 hRCO_s53 (by first | assumption | omega) r57 s58 hs58
            obtain ⟨hfc_s58, hm_s58, hp60, hTK_s58, hRCO_s58⟩ := hp59
            have hf_s58 : fr [34, 53, 54, 55, 56, 57, 58] s0 s58 := hf_s53.call (by decide) hfc_s58
            obtain ⟨r62, s63, hs63⟩ : ∃ rr ss, (f_X3_emit v50 s58) = (rr, ss) := ⟨_, _, rfl⟩
            replace hT := gby hT hs63
            have hp64 := f_X3_emit_p v50 s58 (by omega) hm_s58 hTK_s58 hRCO_s58 (by first | assumption | omega) r62 s63 hs63
            obtain ⟨hfc_s63, hm_s63, hp65, hTK_s63, hRCO_s63⟩ := hp64
            have hf_s63 : fr [34, 53, 54, 55, 56, 57, 58] s0 s63 := hf_s58.call (by decide) hfc_s63
            exact ih (v37 + 1) s63 ⟨(by omega), hf_s63, hm_s63, hTK_s63, hRCO_s63, (by first | assumption | omega)⟩ (by omega) (fun w41 s42 hw hi => hk w41 s42 (hT.trans hw) hi)
          replace hT := hz68
          by_cases h48 : (s38 55 0) = 43
          · replace hT := hT.trans (if_pos h48)
            exact j49 (-11) ⟨(by omega), (by first | assumption | omega)⟩ hT
          · replace hT := hT.trans (if_neg h48)
            exact j49 (-12) ⟨(by omega), (by first | assumption | omega)⟩ hT
        by_cases h45 : (s38 55 0) = 43
        · replace hT := hT.trans (if_pos h45)
          exact j46  trivial hT
        · replace hT := hT.trans (if_neg h45)
          have hr69 := (hm_s38 55 0).1 rfl
          by_cases h70 : (s38 55 0) = 45
          · replace hT := hT.trans (if_pos h70)
            exact j46  trivial hT
          · replace hT := hT.trans (if_neg h70)
            exact hk v37 s38 hT ⟨(by omega), hf_s38, hm_s38, hTK_s38, hRCO_s38, (by first | assumption | omega)⟩
      · replace hT := hT.trans (if_neg h43)
        exact hk v37 s38 hT ⟨(by omega), hf_s38, hm_s38, hTK_s38, hRCO_s38, (by first | assumption | omega)⟩
  refine L39 161 0 s3 ⟨(by omega), hf_s3, hm_s3, hTK_s3, hRCO_s3, (by first | assumption | omega)⟩ (by omega) (fun v75 s76 hw hq => ?_)
  obtain ⟨hq77, hf_s76, hm_s76, hTK_s76, hRCO_s76, hq78⟩ := hq
  replace hT := gl2y hT hw
  obtain ⟨rfl, rfl⟩ := Prod.mk.inj (hT.symm.trans hres)
  exact ⟨hf_s76, hm_s76, trivial, hTK_s76, hRCO_s76⟩
set_option maxRecDepth 100000 in
set_option maxHeartbeats 4000000 in
theorem c_X3_readSum_5 (l : Launch) (D : va_G) (a : Nat → Nat) (cI cJ cS cT : ClassId) (adK adV : Nat → Nat) (kA : Nat) (s0 : gMem) (x0 : Int) (hx0 : in32 x0) (hpre0 : TK s0) (hpre1 : RCO s0) (hpre2 : x0 = 0) : gCS l yX3_readSum cX3_readSum 4 none 45 2880 D vwCl (gT cI cJ cS cT) (wdX a cI cJ cS cT) lgX kV rgV [.ref (a 2), gI x0] s0 (f_X3_readSum_5 x0 s0) adK adV kA := by
  refine gCS_of (by decide +kernel) (hwdX a cI cJ cS cT) (Nat.le_of_ble_eq_true rfl) ?_
  intro A p e R s m args below meth c hR E HX
  subst hR
  have hT := f_X3_readSum_5_e x0 s0
  have hf_s0 : fr [34, 53, 54, 55, 56, 57, 58] s0 s0 := fr.rf _ _
  refine k_lv0 (lv' := [(0, .ref (a 2)), (1, gI x0)]) rfl ?_
  refine k_mr (fun hm_s0 => ?_)
  have hTK_s0 := hpre0
  have hRCO_s0 := hpre1
  refine k_aloadn (pc := 0) E 0 dX3_readSum_0 rfl rfl ?_
  refine k_iloadn (pc := 1) E 1 dX3_readSum_1 rfl rfl ?_
  refine k_mr (fun hm_s0 => ?_)
  refine k_callVX (pc := 2) (np := 1) (As := [gI x0]) (st := []) (q0 := 2) E HX rfl rfl (c_X3_readTerm_5 l D a cI cJ cS cT adK adV kA s0 x0 (by omega) hTK_s0 hRCO_s0 (by first | assumption | omega)) wm_452 wm_3 wm_449 wm_451 wp_11 (by decide +kernel) ⟨by decide, by decide⟩ rfl (Nat.le_of_ble_eq_true rfl) dX3_readSum_2 (fun r2 s3 hs3 hr1 => ?_)
  replace hT := gby hT hs3
  have hp4 := f_X3_readTerm_5_p x0 s0 (by omega) hm_s0 hTK_s0 hRCO_s0 (by first | assumption | omega) r2 s3 hs3
  obtain ⟨hfc_s3, hm_s3, hp5, hTK_s3, hRCO_s3⟩ := hp4
  have hf_s3 : fr [34, 53, 54, 55, 56, 57, 58] s0 s3 := hf_s0.call (by decide) hfc_s3
  refine k_st (st' := []) rfl ?_
  refine k_iconst (pc := 5) E dX3_readSum_5 ?_
  refine k_istoren (pc := 6) (lv' := [(2, gI 0), (0, .ref (a 2)), (1, gI x0)]) E dX3_readSum_6 rfl (by decide) rfl ?_
  have L39 : ∀ (n40 : Nat) (v37 : Int) (s38 : gMem), ((in32 v37) ∧ (fr [34, 53, 54, 55, 56, 57, 58] s0 s38) ∧ (TK s38) ∧ (RCO s38) ∧ (0 ≤ v37 ∧ v37 ≤ 160)) → 160 - v37 < (n40 : Int) → (∀ (w41 : Int) (s42 : gMem), (w_X3_readSum_5_7 x0 n40 v37 s38) = (w41, s42) → ((in32 w41) ∧ (fr [34, 53, 54, 55, 56, 57, 58] s0 s42) ∧ (TK s42) ∧ (RCO s42) ∧ (0 ≤ w41 ∧ w41 ≤ 160)) → gK D vwCl (wdX a cI cJ cS cT) lgX A p l e { frames := 45, cells := 0, slots := 0, locals := 2880 } s m args below meth c 4 (gQQ D vwCl (wdX a cI cJ cS cT) lgX A kV rgV below args s) (f_X3_readSum_5 x0 s0) s42 69 [] []) → gK D vwCl (wdX a cI cJ cS cT) lgX A p l e { frames := 45, cells := 0, slots := 0, locals := 2880 } s m args below meth c 4 (gQQ D vwCl (wdX a cI cJ cS cT) lgX A kV rgV below args s) (f_X3_readSum_5 x0 s0) s38 7 [(0, .ref (a 2)), (1, gI x0), (2, gI v37)] [] := by
    intro n40; induction n40 with
    | zero =>
      intro v37 s38 hq hm hk
      exfalso
      obtain ⟨hq71, hf_s38, hTK_s38, hRCO_s38, hq72⟩ := hq
      omega
    | succ n40 ih =>
      intro v37 s38 hq hm hk
      obtain ⟨hq73, hf_s38, hTK_s38, hRCO_s38, hq74⟩ := hq
      have hT := w_X3_readSum_5_7_s x0 n40 v37 s38
      refine k_iloadn (pc := 7) E 2 dX3_readSum_7 rfl rfl ?_
      refine k_sipush (pc := 8) E dX3_readSum_8 (by decide) ?_
      by_cases h43 : v37 < 160
      · replace hT := hT.trans (if_pos h43)
        refine k_icmp_ge_f (pc := 11) (tgt := 69) E (by omega) (by omega) dX3_readSum_11 (by decide) h43 ?_
        refine k_aloadn (pc := 14) E 0 dX3_readSum_14 rfl rfl ?_
        refine k_getfI (pc := 15) (q0 := 2) (f := 6) (k := 55) E inX3 rfl rfl (by decide) wm_65 rfl rfl rfl dX3_readSum_15 (fun hr44 => ?_)
        refine k_bipush (pc := 18) E dX3_readSum_18 (by decide) ?_
        obtain ⟨j46c, hj46c, hT⟩ := gjx hT
        have j46 : (True) → (w_X3_readSum_5_7 x0 (n40 + 1) v37 s38) = j46c  → gK D vwCl (wdX a cI cJ cS cT) lgX A p l e { frames := 45, cells := 0, slots := 0, locals := 2880 } s m args below meth c 4 (gQQ D vwCl (wdX a cI cJ cS cT) lgX A kV rgV below args s) (f_X3_readSum_5 x0 s0) s38 32 [(0, .ref (a 2)), (1, gI x0), (2, gI v37)] [] := by
          intro  hq hT
          rw [hj46c] at hT
          refine k_aloadn (pc := 32) E 0 dX3_readSum_32 rfl rfl ?_
          refine k_getfI (pc := 33) (q0 := 2) (f := 6) (k := 55) E inX3 rfl rfl (by decide) wm_65 rfl rfl rfl dX3_readSum_33 (fun hr47 => ?_)
          refine k_bipush (pc := 36) E dX3_readSum_36 (by decide) ?_
          obtain ⟨z68, hz68, hT⟩ := gl1x hT
          have j49 : ∀ (v50 : Int), ((in32 v50) ∧ (-12 ≤ v50 ∧ v50 ≤ -11)) → z68 = v50 → gK D vwCl (wdX a cI cJ cS cT) lgX A p l e { frames := 45, cells := 0, slots := 0, locals := 2880 } s m args below meth c 4 (gQQ D vwCl (wdX a cI cJ cS cT) lgX A kV rgV below args s) (f_X3_readSum_5 x0 s0) s38 48 [(0, .ref (a 2)), (1, gI x0), (2, gI v37)] [gI v50] := by
            intro v50 hq hz
            obtain ⟨hq66, hq67⟩ := hq
            replace hT := gl1y hT hz
            refine k_istoren (pc := 48) (lv' := [(3, gI v50), (0, .ref (a 2)), (1, gI x0), (2, gI v37)]) E dX3_readSum_48 rfl (by decide) rfl ?_
            refine k_aloadn (pc := 49) E 1 dX3_readSum_49 rfl rfl ?_
            refine k_mr (fun hm_s38 => ?_)
            refine k_callVX (pc := 50) (np := 0) (As := []) (st := []) (q0 := 2) E HX rfl rfl (c_X3_next l D a cI cJ cS cT adK adV kA s38  hTK_s38) wm_336 wm_3 wm_333 wm_335 wp_0 (by decide +kernel) ⟨by decide, by decide⟩ rfl (Nat.le_of_ble_eq_true rfl) dX3_readSum_50 (fun r52 s53 hs53 hr51 => ?_)
            replace hT := gby hT hs53
            have hp54 := f_X3_next_p  s38  hm_s38 hTK_s38 r52 s53 hs53
            obtain ⟨hfc_s53, hm_s53, hp55, hTK_s53⟩ := hp54
            have hf_s53 : fr [34, 53, 54, 55, 56, 57, 58] s0 s53 := hf_s38.call (by decide) hfc_s53
            have hRCO_s53 : RCO s53 := RCO_fr hRCO_s38 (fun k hk => hfc_s53 k (dj (by decide) k hk))
            refine k_st (st' := []) rfl ?_
            refine k_aloadn (pc := 53) E 1 dX3_readSum_53 rfl rfl ?_
            refine k_iloadn (pc := 54) E 2 dX3_readSum_54 rfl rfl ?_
            refine k_mr (fun hm_s53 => ?_)
            refine k_callVX (pc := 55) (np := 1) (As := [gI x0]) (st := []) (q0 := 2) E HX rfl rfl (c_X3_readTerm_5 l D a cI cJ cS cT adK adV kA s53 x0 (by omega) hTK_s53 hRCO_s53 (by first | assumption | omega)) wm_452 wm_3 wm_449 wm_451 wp_11 (by decide +kernel) ⟨by decide, by decide⟩ rfl (Nat.le_of_ble_eq_true rfl) dX3_readSum_55 (fun r57 s58 hs58 hr56 => ?_)
            replace hT := gby hT hs58
            have hp59 := f_X3_readTerm_5_p x0 s53 (by omega) hm_s53 hTK_s53 hRCO_s53 (by first | assumption | omega) r57 s58 hs58
            obtain ⟨hfc_s58, hm_s58, hp60, hTK_s58, hRCO_s58⟩ := hp59
            have hf_s58 : fr [34, 53, 54, 55, 56, 57, 58] s0 s58 := hf_s53.call (by decide) hfc_s58
            refine k_st (st' := []) rfl ?_
            refine k_aloadn (pc := 58) E 1 dX3_readSum_58 rfl rfl ?_
            refine k_iloadn (pc := 59) E 0 dX3_readSum_59 rfl rfl ?_
            refine k_mr (fun hm_s58 => ?_)
            refine k_callV (pc := 60) (np := 1) (As := [gI v50]) (st := []) (q0 := 2) E (c_X3_emit l D a cI cJ cS cT s58 v50 (by omega) hTK_s58 hRCO_s58 (by first | assumption | omega)) wm_460 wm_3 wm_457 wm_459 wp_13 (by decide +kernel) rfl rfl ⟨by decide, by decide⟩ rfl (Nat.le_of_ble_eq_true rfl) dX3_readSum_60 (fun r62 s63 hs63 hr61 => ?_)
            replace hT := gby hT hs63
            have hp64 := f_X3_emit_p v50 s58 (by omega) hm_s58 hTK_s58 hRCO_s58 (by first | assumption | omega) r62 s63 hs63
            obtain ⟨hfc_s63, hm_s63, hp65, hTK_s63, hRCO_s63⟩ := hp64
            have hf_s63 : fr [34, 53, 54, 55, 56, 57, 58] s0 s63 := hf_s58.call (by decide) hfc_s63
            refine k_st (st' := []) rfl ?_
            refine k_iinc (pc := 63) (lv' := [(2, gI (v37 + 1)), (3, gI v50), (0, .ref (a 2)), (1, gI x0)]) E 3 dX3_readSum_63 rfl (by decide) rfl ?_
            refine k_goto (pc := 66) (tgt := 7) E dX3_readSum_66 (by decide) ?_
            refine k_lv (lv' := [(0, .ref (a 2)), (1, gI x0), (2, gI (v37 + 1))]) [2, 3, 0] rfl ?_
            exact ih (v37 + 1) s63 ⟨(by omega), hf_s63, hTK_s63, hRCO_s63, (by first | assumption | omega)⟩ (by omega) (fun w41 s42 hw hi => hk w41 s42 (hT.trans hw) hi)
          replace hT := hz68
          by_cases h48 : (s38 55 0) = 43
          · replace hT := hT.trans (if_pos h48)
            refine k_icmp_ne_f (pc := 38) (tgt := 46) E (by omega) (by omega) dX3_readSum_38 (by decide) h48 ?_
            refine k_bipush (pc := 41) E dX3_readSum_41 (by decide) ?_
            refine k_goto (pc := 43) (tgt := 48) E dX3_readSum_43 (by decide) ?_
            exact j49 (-11) ⟨(by omega), (by first | assumption | omega)⟩ hT
          · replace hT := hT.trans (if_neg h48)
            refine k_icmp_ne_t (pc := 38) (tgt := 46) E (by omega) (by omega) dX3_readSum_38 (by decide) h48 ?_
            refine k_bipush (pc := 46) E dX3_readSum_46 (by decide) ?_
            exact j49 (-12) ⟨(by omega), (by first | assumption | omega)⟩ hT
        by_cases h45 : (s38 55 0) = 43
        · replace hT := hT.trans (if_pos h45)
          refine k_icmp_eq_t (pc := 20) (tgt := 32) E (by omega) (by omega) dX3_readSum_20 (by decide) h45 ?_
          exact j46  trivial hT
        · replace hT := hT.trans (if_neg h45)
          refine k_icmp_eq_f (pc := 20) (tgt := 32) E (by omega) (by omega) dX3_readSum_20 (by decide) h45 ?_
          refine k_aloadn (pc := 23) E 0 dX3_readSum_23 rfl rfl ?_
          refine k_getfI (pc := 24) (q0 := 2) (f := 6) (k := 55) E inX3 rfl rfl (by decide) wm_65 rfl rfl rfl dX3_readSum_24 (fun hr69 => ?_)
          refine k_bipush (pc := 27) E dX3_readSum_27 (by decide) ?_
          by_cases h70 : (s38 55 0) = 45
          · replace hT := hT.trans (if_pos h70)
            refine k_icmp_ne_f (pc := 29) (tgt := 69) E (by omega) (by omega) dX3_readSum_29 (by decide) h70 ?_
            exact j46  trivial hT
          · replace hT := hT.trans (if_neg h70)
            refine k_icmp_ne_t (pc := 29) (tgt := 69) E (by omega) (by omega) dX3_readSum_29 (by decide) h70 ?_
            refine k_lv (lv' := []) [] rfl ?_
            exact hk v37 s38 hT ⟨(by omega), hf_s38, hTK_s38, hRCO_s38, (by first | assumption | omega)⟩
      · replace hT := hT.trans (if_neg h43)
        refine k_icmp_ge_t (pc := 11) (tgt := 69) E (by omega) (by omega) dX3_readSum_11 (by decide) h43 ?_
        refine k_lv (lv' := []) [] rfl ?_
        exact hk v37 s38 hT ⟨(by omega), hf_s38, hTK_s38, hRCO_s38, (by first | assumption | omega)⟩
  refine k_lv (lv' := [(0, .ref (a 2)), (1, gI x0), (2, gI 0)]) [1, 2, 0] rfl ?_
  refine L39 161 0 s3 ⟨(by omega), hf_s3, hTK_s3, hRCO_s3, (by first | assumption | omega)⟩ (by omega) (fun v75 s76 hw hq => ?_)
  obtain ⟨hq77, hf_s76, hTK_s76, hRCO_s76, hq78⟩ := hq
  replace hT := gl2y hT hw
  exact k_rho hT (k_vret (pc := 69) E dX3_readSum_69)

def f_X3_readCompared_5 (x0 : Int) (s0 : gMem) : gRes := gb (f_X3_readSum_5 x0 s0) (fun r2 s3 => (gj (fun j8c => (if (s3 55 0) = 60 then j8c else (if (s3 55 0) = 61 then j8c else (0, s3)))) ((gl ((if (s3 55 0) = 60 then (-9) else (-10))) (fun v12 => gb (f_X3_next  s3) (fun r14 s15 => gb (f_X3_readSum_5 x0 s15) (fun r19 s20 => gb (f_X3_emit v12 s20) (fun r24 s25 => (0, s25)))))))))
theorem f_X3_readCompared_5_e (x0 : Int) (s0 : gMem) : f_X3_readCompared_5 x0 s0 = gb (f_X3_readSum_5 x0 s0) (fun r2 s3 => (gj (fun j8c => (if (s3 55 0) = 60 then j8c else (if (s3 55 0) = 61 then j8c else (0, s3)))) ((gl ((if (s3 55 0) = 60 then (-9) else (-10))) (fun v12 => gb (f_X3_next  s3) (fun r14 s15 => gb (f_X3_readSum_5 x0 s15) (fun r19 s20 => gb (f_X3_emit v12 s20) (fun r24 s25 => (0, s25))))))))) := rfl
set_option maxRecDepth 100000 in
set_option maxHeartbeats 4000000 in
theorem f_X3_readCompared_5_p (x0 : Int) (s0 : gMem) (hx0 : in32 x0) (hm_s0 : gMR lgX s0) (hpre0 : TK s0) (hpre1 : RCO s0) (hpre2 : x0 = 0) (rZ : Int) (sZ : gMem) (hres : f_X3_readCompared_5 x0 s0 = (rZ, sZ)) : (fr [34, 53, 54, 55, 56, 57, 58] s0 sZ) ∧ (gMR lgX sZ) ∧ (True) ∧ (TK sZ) ∧ (RCO sZ) := by
  have hT := f_X3_readCompared_5_e x0 s0
  have hf_s0 : fr [34, 53, 54, 55, 56, 57, 58] s0 s0 := fr.rf _ _
  have hTK_s0 := hpre0
  have hRCO_s0 := hpre1
  obtain ⟨r2, s3, hs3⟩ : ∃ rr ss, (f_X3_readSum_5 x0 s0) = (rr, ss) := ⟨_, _, rfl⟩
  replace hT := gby hT hs3
  have hp4 := f_X3_readSum_5_p x0 s0 (by omega) hm_s0 hTK_s0 hRCO_s0 (by first | assumption | omega) r2 s3 hs3
  obtain ⟨hfc_s3, hm_s3, hp5, hTK_s3, hRCO_s3⟩ := hp4
  have hf_s3 : fr [34, 53, 54, 55, 56, 57, 58] s0 s3 := hf_s0.call (by decide) hfc_s3
  have hr6 := (hm_s3 55 0).1 rfl
  obtain ⟨j8c, hj8c, hT⟩ := gjx hT
  have j8 : (True) → (f_X3_readCompared_5 x0 s0) = j8c  → (fr [34, 53, 54, 55, 56, 57, 58] s0 sZ) ∧ (gMR lgX sZ) ∧ (True) ∧ (TK sZ) ∧ (RCO sZ) := by
    intro  hq hT
    rw [hj8c] at hT
    have hr9 := (hm_s3 55 0).1 rfl
    obtain ⟨z30, hz30, hT⟩ := gl1x hT
    have j11 : ∀ (v12 : Int), ((in32 v12) ∧ (-10 ≤ v12 ∧ v12 ≤ -9)) → z30 = v12 → (fr [34, 53, 54, 55, 56, 57, 58] s0 sZ) ∧ (gMR lgX sZ) ∧ (True) ∧ (TK sZ) ∧ (RCO sZ) := by
      intro v12 hq hz
      obtain ⟨hq28, hq29⟩ := hq
      replace hT := gl1y hT hz
      obtain ⟨r14, s15, hs15⟩ : ∃ rr ss, (f_X3_next  s3) = (rr, ss) := ⟨_, _, rfl⟩
      replace hT := gby hT hs15
      have hp16 := f_X3_next_p  s3  hm_s3 hTK_s3 r14 s15 hs15
      obtain ⟨hfc_s15, hm_s15, hp17, hTK_s15⟩ := hp16
      have hf_s15 : fr [34, 53, 54, 55, 56, 57, 58] s0 s15 := hf_s3.call (by decide) hfc_s15
      have hRCO_s15 : RCO s15 := RCO_fr hRCO_s3 (fun k hk => hfc_s15 k (dj (by decide) k hk))
      obtain ⟨r19, s20, hs20⟩ : ∃ rr ss, (f_X3_readSum_5 x0 s15) = (rr, ss) := ⟨_, _, rfl⟩
      replace hT := gby hT hs20
      have hp21 := f_X3_readSum_5_p x0 s15 (by omega) hm_s15 hTK_s15 hRCO_s15 (by first | assumption | omega) r19 s20 hs20
      obtain ⟨hfc_s20, hm_s20, hp22, hTK_s20, hRCO_s20⟩ := hp21
      have hf_s20 : fr [34, 53, 54, 55, 56, 57, 58] s0 s20 := hf_s15.call (by decide) hfc_s20
      obtain ⟨r24, s25, hs25⟩ : ∃ rr ss, (f_X3_emit v12 s20) = (rr, ss) := ⟨_, _, rfl⟩
      replace hT := gby hT hs25
      have hp26 := f_X3_emit_p v12 s20 (by omega) hm_s20 hTK_s20 hRCO_s20 (by first | assumption | omega) r24 s25 hs25
      obtain ⟨hfc_s25, hm_s25, hp27, hTK_s25, hRCO_s25⟩ := hp26
      have hf_s25 : fr [34, 53, 54, 55, 56, 57, 58] s0 s25 := hf_s20.call (by decide) hfc_s25
      obtain ⟨rfl, rfl⟩ := Prod.mk.inj (hT.symm.trans hres)
      exact ⟨hf_s25, hm_s25, trivial, hTK_s25, hRCO_s25⟩
    replace hT := hz30
    by_cases h10 : (s3 55 0) = 60
    · replace hT := hT.trans (if_pos h10)
      exact j11 (-9) ⟨(by omega), (by first | assumption | omega)⟩ hT
    · replace hT := hT.trans (if_neg h10)
      exact j11 (-10) ⟨(by omega), (by first | assumption | omega)⟩ hT
  by_cases h7 : (s3 55 0) = 60
  · replace hT := hT.trans (if_pos h7)
    exact j8  trivial hT
  · replace hT := hT.trans (if_neg h7)
    have hr31 := (hm_s3 55 0).1 rfl
    by_cases h32 : (s3 55 0) = 61
    · replace hT := hT.trans (if_pos h32)
      exact j8  trivial hT
    · replace hT := hT.trans (if_neg h32)
      obtain ⟨rfl, rfl⟩ := Prod.mk.inj (hT.symm.trans hres)
      exact ⟨hf_s3, hm_s3, trivial, hTK_s3, hRCO_s3⟩
set_option maxRecDepth 100000 in
set_option maxHeartbeats 4000000 in
theorem c_X3_readCompared_5 (l : Launch) (D : va_G) (a : Nat → Nat) (cI cJ cS cT : ClassId) (adK adV : Nat → Nat) (kA : Nat) (s0 : gMem) (x0 : Int) (hx0 : in32 x0) (hpre0 : TK s0) (hpre1 : RCO s0) (hpre2 : x0 = 0) : gCS l yX3_readCompared cX3_readCompared 3 none 46 2944 D vwCl (gT cI cJ cS cT) (wdX a cI cJ cS cT) lgX kV rgV [.ref (a 2), gI x0] s0 (f_X3_readCompared_5 x0 s0) adK adV kA := by
  refine gCS_of (by decide +kernel) (hwdX a cI cJ cS cT) (Nat.le_of_ble_eq_true rfl) ?_
  intro A p e R s m args below meth c hR E HX
  subst hR
  have hT := f_X3_readCompared_5_e x0 s0
  have hf_s0 : fr [34, 53, 54, 55, 56, 57, 58] s0 s0 := fr.rf _ _
  refine k_lv0 (lv' := [(0, .ref (a 2)), (1, gI x0)]) rfl ?_
  refine k_mr (fun hm_s0 => ?_)
  have hTK_s0 := hpre0
  have hRCO_s0 := hpre1
  refine k_aloadn (pc := 0) E 0 dX3_readCompared_0 rfl rfl ?_
  refine k_iloadn (pc := 1) E 1 dX3_readCompared_1 rfl rfl ?_
  refine k_mr (fun hm_s0 => ?_)
  refine k_callVX (pc := 2) (np := 1) (As := [gI x0]) (st := []) (q0 := 2) E HX rfl rfl (c_X3_readSum_5 l D a cI cJ cS cT adK adV kA s0 x0 (by omega) hTK_s0 hRCO_s0 (by first | assumption | omega)) wm_448 wm_3 wm_445 wm_447 wp_10 (by decide +kernel) ⟨by decide, by decide⟩ rfl (Nat.le_of_ble_eq_true rfl) dX3_readCompared_2 (fun r2 s3 hs3 hr1 => ?_)
  replace hT := gby hT hs3
  have hp4 := f_X3_readSum_5_p x0 s0 (by omega) hm_s0 hTK_s0 hRCO_s0 (by first | assumption | omega) r2 s3 hs3
  obtain ⟨hfc_s3, hm_s3, hp5, hTK_s3, hRCO_s3⟩ := hp4
  have hf_s3 : fr [34, 53, 54, 55, 56, 57, 58] s0 s3 := hf_s0.call (by decide) hfc_s3
  refine k_st (st' := []) rfl ?_
  refine k_aloadn (pc := 5) E 0 dX3_readCompared_5 rfl rfl ?_
  refine k_getfI (pc := 6) (q0 := 2) (f := 6) (k := 55) E inX3 rfl rfl (by decide) wm_65 rfl rfl rfl dX3_readCompared_6 (fun hr6 => ?_)
  refine k_bipush (pc := 9) E dX3_readCompared_9 (by decide) ?_
  obtain ⟨j8c, hj8c, hT⟩ := gjx hT
  have j8 : (True) → (f_X3_readCompared_5 x0 s0) = j8c  → gK D vwCl (wdX a cI cJ cS cT) lgX A p l e { frames := 46, cells := 0, slots := 0, locals := 2944 } s m args below meth c 3 (gQQ D vwCl (wdX a cI cJ cS cT) lgX A kV rgV below args s) (f_X3_readCompared_5 x0 s0) s3 23 [(0, .ref (a 2)), (1, gI x0)] [] := by
    intro  hq hT
    rw [hj8c] at hT
    refine k_aloadn (pc := 23) E 0 dX3_readCompared_23 rfl rfl ?_
    refine k_getfI (pc := 24) (q0 := 2) (f := 6) (k := 55) E inX3 rfl rfl (by decide) wm_65 rfl rfl rfl dX3_readCompared_24 (fun hr9 => ?_)
    refine k_bipush (pc := 27) E dX3_readCompared_27 (by decide) ?_
    obtain ⟨z30, hz30, hT⟩ := gl1x hT
    have j11 : ∀ (v12 : Int), ((in32 v12) ∧ (-10 ≤ v12 ∧ v12 ≤ -9)) → z30 = v12 → gK D vwCl (wdX a cI cJ cS cT) lgX A p l e { frames := 46, cells := 0, slots := 0, locals := 2944 } s m args below meth c 3 (gQQ D vwCl (wdX a cI cJ cS cT) lgX A kV rgV below args s) (f_X3_readCompared_5 x0 s0) s3 39 [(0, .ref (a 2)), (1, gI x0)] [gI v12] := by
      intro v12 hq hz
      obtain ⟨hq28, hq29⟩ := hq
      replace hT := gl1y hT hz
      refine k_istoren (pc := 39) (lv' := [(2, gI v12), (0, .ref (a 2)), (1, gI x0)]) E dX3_readCompared_39 rfl (by decide) rfl ?_
      refine k_aloadn (pc := 40) E 1 dX3_readCompared_40 rfl rfl ?_
      refine k_mr (fun hm_s3 => ?_)
      refine k_callVX (pc := 41) (np := 0) (As := []) (st := []) (q0 := 2) E HX rfl rfl (c_X3_next l D a cI cJ cS cT adK adV kA s3  hTK_s3) wm_336 wm_3 wm_333 wm_335 wp_0 (by decide +kernel) ⟨by decide, by decide⟩ rfl (Nat.le_of_ble_eq_true rfl) dX3_readCompared_41 (fun r14 s15 hs15 hr13 => ?_)
      replace hT := gby hT hs15
      have hp16 := f_X3_next_p  s3  hm_s3 hTK_s3 r14 s15 hs15
      obtain ⟨hfc_s15, hm_s15, hp17, hTK_s15⟩ := hp16
      have hf_s15 : fr [34, 53, 54, 55, 56, 57, 58] s0 s15 := hf_s3.call (by decide) hfc_s15
      have hRCO_s15 : RCO s15 := RCO_fr hRCO_s3 (fun k hk => hfc_s15 k (dj (by decide) k hk))
      refine k_st (st' := []) rfl ?_
      refine k_aloadn (pc := 44) E 1 dX3_readCompared_44 rfl rfl ?_
      refine k_iloadn (pc := 45) E 2 dX3_readCompared_45 rfl rfl ?_
      refine k_mr (fun hm_s15 => ?_)
      refine k_callVX (pc := 46) (np := 1) (As := [gI x0]) (st := []) (q0 := 2) E HX rfl rfl (c_X3_readSum_5 l D a cI cJ cS cT adK adV kA s15 x0 (by omega) hTK_s15 hRCO_s15 (by first | assumption | omega)) wm_448 wm_3 wm_445 wm_447 wp_10 (by decide +kernel) ⟨by decide, by decide⟩ rfl (Nat.le_of_ble_eq_true rfl) dX3_readCompared_46 (fun r19 s20 hs20 hr18 => ?_)
      replace hT := gby hT hs20
      have hp21 := f_X3_readSum_5_p x0 s15 (by omega) hm_s15 hTK_s15 hRCO_s15 (by first | assumption | omega) r19 s20 hs20
      obtain ⟨hfc_s20, hm_s20, hp22, hTK_s20, hRCO_s20⟩ := hp21
      have hf_s20 : fr [34, 53, 54, 55, 56, 57, 58] s0 s20 := hf_s15.call (by decide) hfc_s20
      refine k_st (st' := []) rfl ?_
      refine k_aloadn (pc := 49) E 1 dX3_readCompared_49 rfl rfl ?_
      refine k_iloadn (pc := 50) E 0 dX3_readCompared_50 rfl rfl ?_
      refine k_mr (fun hm_s20 => ?_)
      refine k_callV (pc := 51) (np := 1) (As := [gI v12]) (st := []) (q0 := 2) E (c_X3_emit l D a cI cJ cS cT s20 v12 (by omega) hTK_s20 hRCO_s20 (by first | assumption | omega)) wm_460 wm_3 wm_457 wm_459 wp_13 (by decide +kernel) rfl rfl ⟨by decide, by decide⟩ rfl (Nat.le_of_ble_eq_true rfl) dX3_readCompared_51 (fun r24 s25 hs25 hr23 => ?_)
      replace hT := gby hT hs25
      have hp26 := f_X3_emit_p v12 s20 (by omega) hm_s20 hTK_s20 hRCO_s20 (by first | assumption | omega) r24 s25 hs25
      obtain ⟨hfc_s25, hm_s25, hp27, hTK_s25, hRCO_s25⟩ := hp26
      have hf_s25 : fr [34, 53, 54, 55, 56, 57, 58] s0 s25 := hf_s20.call (by decide) hfc_s25
      refine k_st (st' := []) rfl ?_
      exact k_rho hT (k_vret (pc := 54) E dX3_readCompared_54)
    replace hT := hz30
    by_cases h10 : (s3 55 0) = 60
    · replace hT := hT.trans (if_pos h10)
      refine k_icmp_ne_f (pc := 29) (tgt := 37) E (by omega) (by omega) dX3_readCompared_29 (by decide) h10 ?_
      refine k_bipush (pc := 32) E dX3_readCompared_32 (by decide) ?_
      refine k_goto (pc := 34) (tgt := 39) E dX3_readCompared_34 (by decide) ?_
      exact j11 (-9) ⟨(by omega), (by first | assumption | omega)⟩ hT
    · replace hT := hT.trans (if_neg h10)
      refine k_icmp_ne_t (pc := 29) (tgt := 37) E (by omega) (by omega) dX3_readCompared_29 (by decide) h10 ?_
      refine k_bipush (pc := 37) E dX3_readCompared_37 (by decide) ?_
      exact j11 (-10) ⟨(by omega), (by first | assumption | omega)⟩ hT
  by_cases h7 : (s3 55 0) = 60
  · replace hT := hT.trans (if_pos h7)
    refine k_icmp_eq_t (pc := 11) (tgt := 23) E (by omega) (by omega) dX3_readCompared_11 (by decide) h7 ?_
    exact j8  trivial hT
  · replace hT := hT.trans (if_neg h7)
    refine k_icmp_eq_f (pc := 11) (tgt := 23) E (by omega) (by omega) dX3_readCompared_11 (by decide) h7 ?_
    refine k_aloadn (pc := 14) E 0 dX3_readCompared_14 rfl rfl ?_
    refine k_getfI (pc := 15) (q0 := 2) (f := 6) (k := 55) E inX3 rfl rfl (by decide) wm_65 rfl rfl rfl dX3_readCompared_15 (fun hr31 => ?_)
    refine k_bipush (pc := 18) E dX3_readCompared_18 (by decide) ?_
    by_cases h32 : (s3 55 0) = 61
    · replace hT := hT.trans (if_pos h32)
      refine k_icmp_ne_f (pc := 20) (tgt := 54) E (by omega) (by omega) dX3_readCompared_20 (by decide) h32 ?_
      exact j8  trivial hT
    · replace hT := hT.trans (if_neg h32)
      refine k_icmp_ne_t (pc := 20) (tgt := 54) E (by omega) (by omega) dX3_readCompared_20 (by decide) h32 ?_
      exact k_rho hT (k_vret (pc := 54) E dX3_readCompared_54)

def f_X3_readNot_5 (x0 : Int) (s0 : gMem) : gRes := (if (s0 55 0) = 261 then (if x0 < 5 then gb (f_X3_next  s0) (fun r5 s6 => gb (f_X3_readNot_4 (x0 + 1) s6) (fun r10 s11 => gb (f_X3_emit (-14) s11) (fun r15 s16 => (0, s16)))) else gb (f_X3_fail  s0) (fun r20 s21 => (0, s21))) else gb (f_X3_readCompared_5 x0 s0) (fun r26 s27 => (0, s27)))
theorem f_X3_readNot_5_e (x0 : Int) (s0 : gMem) : f_X3_readNot_5 x0 s0 = (if (s0 55 0) = 261 then (if x0 < 5 then gb (f_X3_next  s0) (fun r5 s6 => gb (f_X3_readNot_4 (x0 + 1) s6) (fun r10 s11 => gb (f_X3_emit (-14) s11) (fun r15 s16 => (0, s16)))) else gb (f_X3_fail  s0) (fun r20 s21 => (0, s21))) else gb (f_X3_readCompared_5 x0 s0) (fun r26 s27 => (0, s27))) := rfl
set_option maxRecDepth 100000 in
set_option maxHeartbeats 4000000 in
theorem f_X3_readNot_5_p (x0 : Int) (s0 : gMem) (hx0 : in32 x0) (hm_s0 : gMR lgX s0) (hpre0 : TK s0) (hpre1 : RCO s0) (hpre2 : x0 = 0) (rZ : Int) (sZ : gMem) (hres : f_X3_readNot_5 x0 s0 = (rZ, sZ)) : (fr [34, 53, 54, 55, 56, 57, 58] s0 sZ) ∧ (gMR lgX sZ) ∧ (True) ∧ (TK sZ) ∧ (RCO sZ) := by
  have hT := f_X3_readNot_5_e x0 s0
  have hf_s0 : fr [34, 53, 54, 55, 56, 57, 58] s0 s0 := fr.rf _ _
  have hTK_s0 := hpre0
  have hRCO_s0 := hpre1
  have hr1 := (hm_s0 55 0).1 rfl
  by_cases h2 : (s0 55 0) = 261
  · replace hT := hT.trans (if_pos h2)
    by_cases h3 : x0 < 5
    · replace hT := hT.trans (if_pos h3)
      obtain ⟨r5, s6, hs6⟩ : ∃ rr ss, (f_X3_next  s0) = (rr, ss) := ⟨_, _, rfl⟩
      replace hT := gby hT hs6
      have hp7 := f_X3_next_p  s0  hm_s0 hTK_s0 r5 s6 hs6
      obtain ⟨hfc_s6, hm_s6, hp8, hTK_s6⟩ := hp7
      have hf_s6 : fr [34, 53, 54, 55, 56, 57, 58] s0 s6 := hf_s0.call (by decide) hfc_s6
      have hRCO_s6 : RCO s6 := RCO_fr hRCO_s0 (fun k hk => hfc_s6 k (dj (by decide) k hk))
      obtain ⟨r10, s11, hs11⟩ : ∃ rr ss, (f_X3_readNot_4 (x0 + 1) s6) = (rr, ss) := ⟨_, _, rfl⟩
      replace hT := gby hT hs11
      have hp12 := f_X3_readNot_4_p (x0 + 1) s6 (by omega) hm_s6 hTK_s6 hRCO_s6 (by first | assumption | omega) r10 s11 hs11
      obtain ⟨hfc_s11, hm_s11, hp13, hTK_s11, hRCO_s11⟩ := hp12
      have hf_s11 : fr [34, 53, 54, 55, 56, 57, 58] s0 s11 := hf_s6.call (by decide) hfc_s11
      obtain ⟨r15, s16, hs16⟩ : ∃ rr ss, (f_X3_emit (-14) s11) = (rr, ss) := ⟨_, _, rfl⟩
      replace hT := gby hT hs16
      have hp17 := f_X3_emit_p (-14) s11 (by omega) hm_s11 hTK_s11 hRCO_s11 (by first | assumption | omega) r15 s16 hs16
      obtain ⟨hfc_s16, hm_s16, hp18, hTK_s16, hRCO_s16⟩ := hp17
      have hf_s16 : fr [34, 53, 54, 55, 56, 57, 58] s0 s16 := hf_s11.call (by decide) hfc_s16
      obtain ⟨rfl, rfl⟩ := Prod.mk.inj (hT.symm.trans hres)
      exact ⟨hf_s16, hm_s16, trivial, hTK_s16, hRCO_s16⟩
    · replace hT := hT.trans (if_neg h3)
      obtain ⟨r20, s21, hs21⟩ : ∃ rr ss, (f_X3_fail  s0) = (rr, ss) := ⟨_, _, rfl⟩
      replace hT := gby hT hs21
      have hp22 := f_X3_fail_p  s0  hm_s0 hTK_s0 r20 s21 hs21
      obtain ⟨hfc_s21, hm_s21, hp23, hTK_s21, hp24⟩ := hp22
      have hf_s21 : fr [34, 53, 54, 55, 56, 57, 58] s0 s21 := hf_s0.call (by decide) hfc_s21
      have hRCO_s21 : RCO s21 := RCO_fr hRCO_s0 (fun k hk => hfc_s21 k (dj (by decide) k hk))
      obtain ⟨rfl, rfl⟩ := Prod.mk.inj (hT.symm.trans hres)
      exact ⟨hf_s21, hm_s21, trivial, hTK_s21, hRCO_s21⟩
  · replace hT := hT.trans (if_neg h2)
    obtain ⟨r26, s27, hs27⟩ : ∃ rr ss, (f_X3_readCompared_5 x0 s0) = (rr, ss) := ⟨_, _, rfl⟩
    replace hT := gby hT hs27
    have hp28 := f_X3_readCompared_5_p x0 s0 (by omega) hm_s0 hTK_s0 hRCO_s0 (by first | assumption | omega) r26 s27 hs27
    obtain ⟨hfc_s27, hm_s27, hp29, hTK_s27, hRCO_s27⟩ := hp28
    have hf_s27 : fr [34, 53, 54, 55, 56, 57, 58] s0 s27 := hf_s0.call (by decide) hfc_s27
    obtain ⟨rfl, rfl⟩ := Prod.mk.inj (hT.symm.trans hres)
    exact ⟨hf_s27, hm_s27, trivial, hTK_s27, hRCO_s27⟩
set_option maxRecDepth 100000 in
set_option maxHeartbeats 4000000 in
theorem c_X3_readNot_5 (l : Launch) (D : va_G) (a : Nat → Nat) (cI cJ cS cT : ClassId) (adK adV : Nat → Nat) (kA : Nat) (s0 : gMem) (x0 : Int) (hx0 : in32 x0) (hpre0 : TK s0) (hpre1 : RCO s0) (hpre2 : x0 = 0) : gCS l yX3_readNot cX3_readNot 2 none 47 3008 D vwCl (gT cI cJ cS cT) (wdX a cI cJ cS cT) lgX kV rgV [.ref (a 2), gI x0] s0 (f_X3_readNot_5 x0 s0) adK adV kA := by
  refine gCS_of (by decide +kernel) (hwdX a cI cJ cS cT) (Nat.le_of_ble_eq_true rfl) ?_
  intro A p e R s m args below meth c hR E HX
  subst hR
  have hT := f_X3_readNot_5_e x0 s0
  have hf_s0 : fr [34, 53, 54, 55, 56, 57, 58] s0 s0 := fr.rf _ _
  refine k_lv0 (lv' := [(0, .ref (a 2)), (1, gI x0)]) rfl ?_
  refine k_mr (fun hm_s0 => ?_)
  have hTK_s0 := hpre0
  have hRCO_s0 := hpre1
  refine k_aloadn (pc := 0) E 0 dX3_readNot_0 rfl rfl ?_
  refine k_getfI (pc := 1) (q0 := 2) (f := 6) (k := 55) E inX3 rfl rfl (by decide) wm_65 rfl rfl rfl dX3_readNot_1 (fun hr1 => ?_)
  refine k_sipush (pc := 4) E dX3_readNot_4 (by decide) ?_
  by_cases h2 : (s0 55 0) = 261
  · replace hT := hT.trans (if_pos h2)
    refine k_icmp_eq_t (pc := 7) (tgt := 18) E (by omega) (by omega) dX3_readNot_7 (by decide) h2 ?_
    refine k_iloadn (pc := 18) E 1 dX3_readNot_18 rfl rfl ?_
    refine k_iconst (pc := 19) E dX3_readNot_19 ?_
    by_cases h3 : x0 < 5
    · replace hT := hT.trans (if_pos h3)
      refine k_icmp_lt_t (pc := 20) (tgt := 30) E (by omega) (by omega) dX3_readNot_20 (by decide) h3 ?_
      refine k_aloadn (pc := 30) E 0 dX3_readNot_30 rfl rfl ?_
      refine k_mr (fun hm_s0 => ?_)
      refine k_callVX (pc := 31) (np := 0) (As := []) (st := []) (q0 := 2) E HX rfl rfl (c_X3_next l D a cI cJ cS cT adK adV kA s0  hTK_s0) wm_336 wm_3 wm_333 wm_335 wp_0 (by decide +kernel) ⟨by decide, by decide⟩ rfl (Nat.le_of_ble_eq_true rfl) dX3_readNot_31 (fun r5 s6 hs6 hr4 => ?_)
      replace hT := gby hT hs6
      have hp7 := f_X3_next_p  s0  hm_s0 hTK_s0 r5 s6 hs6
      obtain ⟨hfc_s6, hm_s6, hp8, hTK_s6⟩ := hp7
      have hf_s6 : fr [34, 53, 54, 55, 56, 57, 58] s0 s6 := hf_s0.call (by decide) hfc_s6
      have hRCO_s6 : RCO s6 := RCO_fr hRCO_s0 (fun k hk => hfc_s6 k (dj (by decide) k hk))
      refine k_st (st' := []) rfl ?_
      refine k_aloadn (pc := 34) E 0 dX3_readNot_34 rfl rfl ?_
      refine k_iloadn (pc := 35) E 1 dX3_readNot_35 rfl rfl ?_
      refine k_iconst (pc := 36) E dX3_readNot_36 ?_
      refine k_iadd (pc := 37) E dX3_readNot_37 ?_
      refine k_mr (fun hm_s6 => ?_)
      refine k_callVX (pc := 38) (np := 1) (As := [gI (x0 + 1)]) (st := []) (q0 := 2) E HX rfl rfl (c_X3_readNot_4 l D a cI cJ cS cT adK adV kA s6 (x0 + 1) (by omega) hTK_s6 hRCO_s6 (by first | assumption | omega)) wm_440 wm_3 wm_437 wm_439 wp_8 (by decide +kernel) ⟨by decide, by decide⟩ rfl (Nat.le_of_ble_eq_true rfl) dX3_readNot_38 (fun r10 s11 hs11 hr9 => ?_)
      replace hT := gby hT hs11
      have hp12 := f_X3_readNot_4_p (x0 + 1) s6 (by omega) hm_s6 hTK_s6 hRCO_s6 (by first | assumption | omega) r10 s11 hs11
      obtain ⟨hfc_s11, hm_s11, hp13, hTK_s11, hRCO_s11⟩ := hp12
      have hf_s11 : fr [34, 53, 54, 55, 56, 57, 58] s0 s11 := hf_s6.call (by decide) hfc_s11
      refine k_st (st' := []) rfl ?_
      refine k_aloadn (pc := 41) E 0 dX3_readNot_41 rfl rfl ?_
      refine k_bipush (pc := 42) E dX3_readNot_42 (by decide) ?_
      refine k_mr (fun hm_s11 => ?_)
      refine k_callV (pc := 44) (np := 1) (As := [gI (-14)]) (st := []) (q0 := 2) E (c_X3_emit l D a cI cJ cS cT s11 (-14) (by omega) hTK_s11 hRCO_s11 (by first | assumption | omega)) wm_460 wm_3 wm_457 wm_459 wp_13 (by decide +kernel) rfl rfl ⟨by decide, by decide⟩ rfl (Nat.le_of_ble_eq_true rfl) dX3_readNot_44 (fun r15 s16 hs16 hr14 => ?_)
      replace hT := gby hT hs16
      have hp17 := f_X3_emit_p (-14) s11 (by omega) hm_s11 hTK_s11 hRCO_s11 (by first | assumption | omega) r15 s16 hs16
      obtain ⟨hfc_s16, hm_s16, hp18, hTK_s16, hRCO_s16⟩ := hp17
      have hf_s16 : fr [34, 53, 54, 55, 56, 57, 58] s0 s16 := hf_s11.call (by decide) hfc_s16
      refine k_st (st' := []) rfl ?_
      exact k_rho hT (k_vret (pc := 47) E dX3_readNot_47)
    · replace hT := hT.trans (if_neg h3)
      refine k_icmp_lt_f (pc := 20) (tgt := 30) E (by omega) (by omega) dX3_readNot_20 (by decide) h3 ?_
      refine k_aloadn (pc := 23) E 0 dX3_readNot_23 rfl rfl ?_
      refine k_mr (fun hm_s0 => ?_)
      refine k_callV (pc := 24) (np := 0) (As := []) (st := []) (q0 := 2) E (c_X3_fail l D a cI cJ cS cT s0  hTK_s0) wm_428 wm_3 wm_425 wm_427 wp_5 (by decide +kernel) rfl rfl ⟨by decide, by decide⟩ rfl (Nat.le_of_ble_eq_true rfl) dX3_readNot_24 (fun r20 s21 hs21 hr19 => ?_)
      replace hT := gby hT hs21
      have hp22 := f_X3_fail_p  s0  hm_s0 hTK_s0 r20 s21 hs21
      obtain ⟨hfc_s21, hm_s21, hp23, hTK_s21, hp24⟩ := hp22
      have hf_s21 : fr [34, 53, 54, 55, 56, 57, 58] s0 s21 := hf_s0.call (by decide) hfc_s21
      have hRCO_s21 : RCO s21 := RCO_fr hRCO_s0 (fun k hk => hfc_s21 k (dj (by decide) k hk))
      refine k_st (st' := []) rfl ?_
      refine k_goto (pc := 27) (tgt := 47) E dX3_readNot_27 (by decide) ?_
      exact k_rho hT (k_vret (pc := 47) E dX3_readNot_47)
  · replace hT := hT.trans (if_neg h2)
    refine k_icmp_eq_f (pc := 7) (tgt := 18) E (by omega) (by omega) dX3_readNot_7 (by decide) h2 ?_
    refine k_aloadn (pc := 10) E 0 dX3_readNot_10 rfl rfl ?_
    refine k_iloadn (pc := 11) E 1 dX3_readNot_11 rfl rfl ?_
    refine k_mr (fun hm_s0 => ?_)
    refine k_callVX (pc := 12) (np := 1) (As := [gI x0]) (st := []) (q0 := 2) E HX rfl rfl (c_X3_readCompared_5 l D a cI cJ cS cT adK adV kA s0 x0 (by omega) hTK_s0 hRCO_s0 (by first | assumption | omega)) wm_444 wm_3 wm_441 wm_443 wp_9 (by decide +kernel) ⟨by decide, by decide⟩ rfl (Nat.le_of_ble_eq_true rfl) dX3_readNot_12 (fun r26 s27 hs27 hr25 => ?_)
    replace hT := gby hT hs27
    have hp28 := f_X3_readCompared_5_p x0 s0 (by omega) hm_s0 hTK_s0 hRCO_s0 (by first | assumption | omega) r26 s27 hs27
    obtain ⟨hfc_s27, hm_s27, hp29, hTK_s27, hRCO_s27⟩ := hp28
    have hf_s27 : fr [34, 53, 54, 55, 56, 57, 58] s0 s27 := hf_s0.call (by decide) hfc_s27
    refine k_st (st' := []) rfl ?_
    refine k_goto (pc := 15) (tgt := 47) E dX3_readNot_15 (by decide) ?_
    exact k_rho hT (k_vret (pc := 47) E dX3_readNot_47)

def w_X3_readAnd_5_7 (c1 : Int) : Nat → Int → gMem → Int × gMem
  | 0, v6, s7 => (v6, s7)
  | n8 + 1, v6, s7 => (if v6 < 160 then (if (s7 55 0) = 260 then gb (f_X3_next  s7) (fun r13 s14 => gb (f_X3_readNot_5 c1 s14) (fun r18 s19 => gb (f_X3_emit (-8) s19) (fun r23 s24 => (w_X3_readAnd_5_7 c1 n8 (v6 + 1) s24)))) else (v6, s7)) else (v6, s7))
theorem w_X3_readAnd_5_7_s (c1 : Int) (n8 : Nat) (v6 : Int) (s7 : gMem) : w_X3_readAnd_5_7 c1 (n8 + 1) v6 s7 = (if v6 < 160 then (if (s7 55 0) = 260 then gb (f_X3_next  s7) (fun r13 s14 => gb (f_X3_readNot_5 c1 s14) (fun r18 s19 => gb (f_X3_emit (-8) s19) (fun r23 s24 => (w_X3_readAnd_5_7 c1 n8 (v6 + 1) s24)))) else (v6, s7)) else (v6, s7)) := rfl
def f_X3_readAnd_5 (x0 : Int) (s0 : gMem) : gRes := gb (f_X3_readNot_5 x0 s0) (fun r2 s3 => (gl2 (w_X3_readAnd_5_7 x0 161 0 s3) (fun v55 s56 => (0, s56))))
theorem f_X3_readAnd_5_e (x0 : Int) (s0 : gMem) : f_X3_readAnd_5 x0 s0 = gb (f_X3_readNot_5 x0 s0) (fun r2 s3 => (gl2 (w_X3_readAnd_5_7 x0 161 0 s3) (fun v55 s56 => (0, s56)))) := rfl
set_option maxRecDepth 100000 in
set_option maxHeartbeats 4000000 in
theorem f_X3_readAnd_5_p (x0 : Int) (s0 : gMem) (hx0 : in32 x0) (hm_s0 : gMR lgX s0) (hpre0 : TK s0) (hpre1 : RCO s0) (hpre2 : x0 = 0) (rZ : Int) (sZ : gMem) (hres : f_X3_readAnd_5 x0 s0 = (rZ, sZ)) : (fr [34, 53, 54, 55, 56, 57, 58] s0 sZ) ∧ (gMR lgX sZ) ∧ (True) ∧ (TK sZ) ∧ (RCO sZ) := by
  have hT := f_X3_readAnd_5_e x0 s0
  have hf_s0 : fr [34, 53, 54, 55, 56, 57, 58] s0 s0 := fr.rf _ _
  have hTK_s0 := hpre0
  have hRCO_s0 := hpre1
  obtain ⟨r2, s3, hs3⟩ : ∃ rr ss, (f_X3_readNot_5 x0 s0) = (rr, ss) := ⟨_, _, rfl⟩
  replace hT := gby hT hs3
  have hp4 := f_X3_readNot_5_p x0 s0 (by omega) hm_s0 hTK_s0 hRCO_s0 (by first | assumption | omega) r2 s3 hs3
  obtain ⟨hfc_s3, hm_s3, hp5, hTK_s3, hRCO_s3⟩ := hp4
  have hf_s3 : fr [34, 53, 54, 55, 56, 57, 58] s0 s3 := hf_s0.call (by decide) hfc_s3
  have L29 : ∀ (n30 : Nat) (v27 : Int) (s28 : gMem), ((in32 v27) ∧ (fr [34, 53, 54, 55, 56, 57, 58] s0 s28) ∧ (gMR lgX s28) ∧ (TK s28) ∧ (RCO s28) ∧ (0 ≤ v27 ∧ v27 ≤ 160)) → 160 - v27 < (n30 : Int) → (∀ (w31 : Int) (s32 : gMem), (w_X3_readAnd_5_7 x0 n30 v27 s28) = (w31, s32) → ((in32 w31) ∧ (fr [34, 53, 54, 55, 56, 57, 58] s0 s32) ∧ (gMR lgX s32) ∧ (TK s32) ∧ (RCO s32) ∧ (0 ≤ w31 ∧ w31 ≤ 160)) → (fr [34, 53, 54, 55, 56, 57, 58] s0 sZ) ∧ (gMR lgX sZ) ∧ (True) ∧ (TK sZ) ∧ (RCO sZ)) → (fr [34, 53, 54, 55, 56, 57, 58] s0 sZ) ∧ (gMR lgX sZ) ∧ (True) ∧ (TK sZ) ∧ (RCO sZ) := by
    intro n30; induction n30 with
    | zero =>
      intro v27 s28 hq hm hk
      exfalso
      obtain ⟨hq51, hf_s28, hm_s28, hTK_s28, hRCO_s28, hq52⟩ := hq
      omega
    | succ n30 ih =>
      intro v27 s28 hq hm hk
      obtain ⟨hq53, hf_s28, hm_s28, hTK_s28, hRCO_s28, hq54⟩ := hq
      have hT := w_X3_readAnd_5_7_s x0 n30 v27 s28
      by_cases h33 : v27 < 160
      · replace hT := hT.trans (if_pos h33)
        have hr34 := (hm_s28 55 0).1 rfl
        by_cases h35 : (s28 55 0) = 260
        · replace hT := hT.trans (if_pos h35)
          obtain ⟨r37, s38, hs38⟩ : ∃ rr ss, (f_X3_next  s28) = (rr, ss) := ⟨_, _, rfl⟩
          replace hT := gby hT hs38
          have hp39 := f_X3_next_p  s28  hm_s28 hTK_s28 r37 s38 hs38
          obtain ⟨hfc_s38, hm_s38, hp40, hTK_s38⟩ := hp39
          have hf_s38 : fr [34, 53, 54, 55, 56, 57, 58] s0 s38 := hf_s28.call (by decide) hfc_s38
          have hRCO_s38 : RCO s38 := RCO_fr hRCO_s28 (fun k hk => hfc_s38 k (dj (by decide) k hk))
          obtain ⟨r42, s43, hs43⟩ : ∃ rr ss, (f_X3_readNot_5 x0 s38) = (rr, ss) := ⟨_, _, rfl⟩
          replace hT := gby hT hs43
          have hp44 := f_X3_readNot_5_p x0 s38 (by omega) hm_s38 hTK_s38 hRCO_s38 (by first | assumption | omega) r42 s43 hs43
          obtain ⟨hfc_s43, hm_s43, hp45, hTK_s43, hRCO_s43⟩ := hp44
          have hf_s43 : fr [34, 53, 54, 55, 56, 57, 58] s0 s43 := hf_s38.call (by decide) hfc_s43
          obtain ⟨r47, s48, hs48⟩ : ∃ rr ss, (f_X3_emit (-8) s43) = (rr, ss) := ⟨_, _, rfl⟩
          replace hT := gby hT hs48
          have hp49 := f_X3_emit_p (-8) s43 (by omega) hm_s43 hTK_s43 hRCO_s43 (by first | assumption | omega) r47 s48 hs48
          obtain ⟨hfc_s48, hm_s48, hp50, hTK_s48, hRCO_s48⟩ := hp49
          have hf_s48 : fr [34, 53, 54, 55, 56, 57, 58] s0 s48 := hf_s43.call (by decide) hfc_s48
          exact ih (v27 + 1) s48 ⟨(by omega), hf_s48, hm_s48, hTK_s48, hRCO_s48, (by first | assumption | omega)⟩ (by omega) (fun w31 s32 hw hi => hk w31 s32 (hT.trans hw) hi)
        · replace hT := hT.trans (if_neg h35)
          exact hk v27 s28 hT ⟨(by omega), hf_s28, hm_s28, hTK_s28, hRCO_s28, (by first | assumption | omega)⟩
      · replace hT := hT.trans (if_neg h33)
        exact hk v27 s28 hT ⟨(by omega), hf_s28, hm_s28, hTK_s28, hRCO_s28, (by first | assumption | omega)⟩
  refine L29 161 0 s3 ⟨(by omega), hf_s3, hm_s3, hTK_s3, hRCO_s3, (by first | assumption | omega)⟩ (by omega) (fun v55 s56 hw hq => ?_)
  obtain ⟨hq57, hf_s56, hm_s56, hTK_s56, hRCO_s56, hq58⟩ := hq
  replace hT := gl2y hT hw
  obtain ⟨rfl, rfl⟩ := Prod.mk.inj (hT.symm.trans hres)
  exact ⟨hf_s56, hm_s56, trivial, hTK_s56, hRCO_s56⟩
set_option maxRecDepth 100000 in
set_option maxHeartbeats 4000000 in
theorem c_X3_readAnd_5 (l : Launch) (D : va_G) (a : Nat → Nat) (cI cJ cS cT : ClassId) (adK adV : Nat → Nat) (kA : Nat) (s0 : gMem) (x0 : Int) (hx0 : in32 x0) (hpre0 : TK s0) (hpre1 : RCO s0) (hpre2 : x0 = 0) : gCS l yX3_readAnd cX3_readAnd 3 none 48 3072 D vwCl (gT cI cJ cS cT) (wdX a cI cJ cS cT) lgX kV rgV [.ref (a 2), gI x0] s0 (f_X3_readAnd_5 x0 s0) adK adV kA := by
  refine gCS_of (by decide +kernel) (hwdX a cI cJ cS cT) (Nat.le_of_ble_eq_true rfl) ?_
  intro A p e R s m args below meth c hR E HX
  subst hR
  have hT := f_X3_readAnd_5_e x0 s0
  have hf_s0 : fr [34, 53, 54, 55, 56, 57, 58] s0 s0 := fr.rf _ _
  refine k_lv0 (lv' := [(0, .ref (a 2)), (1, gI x0)]) rfl ?_
  refine k_mr (fun hm_s0 => ?_)
  have hTK_s0 := hpre0
  have hRCO_s0 := hpre1
  refine k_aloadn (pc := 0) E 0 dX3_readAnd_0 rfl rfl ?_
  refine k_iloadn (pc := 1) E 1 dX3_readAnd_1 rfl rfl ?_
  refine k_mr (fun hm_s0 => ?_)
  refine k_callVX (pc := 2) (np := 1) (As := [gI x0]) (st := []) (q0 := 2) E HX rfl rfl (c_X3_readNot_5 l D a cI cJ cS cT adK adV kA s0 x0 (by omega) hTK_s0 hRCO_s0 (by first | assumption | omega)) wm_440 wm_3 wm_437 wm_439 wp_8 (by decide +kernel) ⟨by decide, by decide⟩ rfl (Nat.le_of_ble_eq_true rfl) dX3_readAnd_2 (fun r2 s3 hs3 hr1 => ?_)
  replace hT := gby hT hs3
  have hp4 := f_X3_readNot_5_p x0 s0 (by omega) hm_s0 hTK_s0 hRCO_s0 (by first | assumption | omega) r2 s3 hs3
  obtain ⟨hfc_s3, hm_s3, hp5, hTK_s3, hRCO_s3⟩ := hp4
  have hf_s3 : fr [34, 53, 54, 55, 56, 57, 58] s0 s3 := hf_s0.call (by decide) hfc_s3
  refine k_st (st' := []) rfl ?_
  refine k_iconst (pc := 5) E dX3_readAnd_5 ?_
  refine k_istoren (pc := 6) (lv' := [(2, gI 0), (0, .ref (a 2)), (1, gI x0)]) E dX3_readAnd_6 rfl (by decide) rfl ?_
  have L29 : ∀ (n30 : Nat) (v27 : Int) (s28 : gMem), ((in32 v27) ∧ (fr [34, 53, 54, 55, 56, 57, 58] s0 s28) ∧ (TK s28) ∧ (RCO s28) ∧ (0 ≤ v27 ∧ v27 ≤ 160)) → 160 - v27 < (n30 : Int) → (∀ (w31 : Int) (s32 : gMem), (w_X3_readAnd_5_7 x0 n30 v27 s28) = (w31, s32) → ((in32 w31) ∧ (fr [34, 53, 54, 55, 56, 57, 58] s0 s32) ∧ (TK s32) ∧ (RCO s32) ∧ (0 ≤ w31 ∧ w31 ≤ 160)) → gK D vwCl (wdX a cI cJ cS cT) lgX A p l e { frames := 48, cells := 0, slots := 0, locals := 3072 } s m args below meth c 3 (gQQ D vwCl (wdX a cI cJ cS cT) lgX A kV rgV below args s) (f_X3_readAnd_5 x0 s0) s32 45 [] []) → gK D vwCl (wdX a cI cJ cS cT) lgX A p l e { frames := 48, cells := 0, slots := 0, locals := 3072 } s m args below meth c 3 (gQQ D vwCl (wdX a cI cJ cS cT) lgX A kV rgV below args s) (f_X3_readAnd_5 x0 s0) s28 7 [(0, .ref (a 2)), (1, gI x0), (2, gI v27)] [] := by
    intro n30; induction n30 with
    | zero =>
      intro v27 s28 hq hm hk
      exfalso
      obtain ⟨hq51, hf_s28, hTK_s28, hRCO_s28, hq52⟩ := hq
      omega
    | succ n30 ih =>
      intro v27 s28 hq hm hk
      obtain ⟨hq53, hf_s28, hTK_s28, hRCO_s28, hq54⟩ := hq
      have hT := w_X3_readAnd_5_7_s x0 n30 v27 s28
      refine k_iloadn (pc := 7) E 2 dX3_readAnd_7 rfl rfl ?_
      refine k_sipush (pc := 8) E dX3_readAnd_8 (by decide) ?_
      by_cases h33 : v27 < 160
      · replace hT := hT.trans (if_pos h33)
        refine k_icmp_ge_f (pc := 11) (tgt := 45) E (by omega) (by omega) dX3_readAnd_11 (by decide) h33 ?_
        refine k_aloadn (pc := 14) E 0 dX3_readAnd_14 rfl rfl ?_
        refine k_getfI (pc := 15) (q0 := 2) (f := 6) (k := 55) E inX3 rfl rfl (by decide) wm_65 rfl rfl rfl dX3_readAnd_15 (fun hr34 => ?_)
        refine k_sipush (pc := 18) E dX3_readAnd_18 (by decide) ?_
        by_cases h35 : (s28 55 0) = 260
        · replace hT := hT.trans (if_pos h35)
          refine k_icmp_ne_f (pc := 21) (tgt := 45) E (by omega) (by omega) dX3_readAnd_21 (by decide) h35 ?_
          refine k_aloadn (pc := 24) E 0 dX3_readAnd_24 rfl rfl ?_
          refine k_mr (fun hm_s28 => ?_)
          refine k_callVX (pc := 25) (np := 0) (As := []) (st := []) (q0 := 2) E HX rfl rfl (c_X3_next l D a cI cJ cS cT adK adV kA s28  hTK_s28) wm_336 wm_3 wm_333 wm_335 wp_0 (by decide +kernel) ⟨by decide, by decide⟩ rfl (Nat.le_of_ble_eq_true rfl) dX3_readAnd_25 (fun r37 s38 hs38 hr36 => ?_)
          replace hT := gby hT hs38
          have hp39 := f_X3_next_p  s28  hm_s28 hTK_s28 r37 s38 hs38
          obtain ⟨hfc_s38, hm_s38, hp40, hTK_s38⟩ := hp39
          have hf_s38 : fr [34, 53, 54, 55, 56, 57, 58] s0 s38 := hf_s28.call (by decide) hfc_s38
          have hRCO_s38 : RCO s38 := RCO_fr hRCO_s28 (fun k hk => hfc_s38 k (dj (by decide) k hk))
          refine k_st (st' := []) rfl ?_
          refine k_aloadn (pc := 28) E 0 dX3_readAnd_28 rfl rfl ?_
          refine k_iloadn (pc := 29) E 1 dX3_readAnd_29 rfl rfl ?_
          refine k_mr (fun hm_s38 => ?_)
          refine k_callVX (pc := 30) (np := 1) (As := [gI x0]) (st := []) (q0 := 2) E HX rfl rfl (c_X3_readNot_5 l D a cI cJ cS cT adK adV kA s38 x0 (by omega) hTK_s38 hRCO_s38 (by first | assumption | omega)) wm_440 wm_3 wm_437 wm_439 wp_8 (by decide +kernel) ⟨by decide, by decide⟩ rfl (Nat.le_of_ble_eq_true rfl) dX3_readAnd_30 (fun r42 s43 hs43 hr41 => ?_)
          replace hT := gby hT hs43
          have hp44 := f_X3_readNot_5_p x0 s38 (by omega) hm_s38 hTK_s38 hRCO_s38 (by first | assumption | omega) r42 s43 hs43
          obtain ⟨hfc_s43, hm_s43, hp45, hTK_s43, hRCO_s43⟩ := hp44
          have hf_s43 : fr [34, 53, 54, 55, 56, 57, 58] s0 s43 := hf_s38.call (by decide) hfc_s43
          refine k_st (st' := []) rfl ?_
          refine k_aloadn (pc := 33) E 0 dX3_readAnd_33 rfl rfl ?_
          refine k_bipush (pc := 34) E dX3_readAnd_34 (by decide) ?_
          refine k_mr (fun hm_s43 => ?_)
          refine k_callV (pc := 36) (np := 1) (As := [gI (-8)]) (st := []) (q0 := 2) E (c_X3_emit l D a cI cJ cS cT s43 (-8) (by omega) hTK_s43 hRCO_s43 (by first | assumption | omega)) wm_460 wm_3 wm_457 wm_459 wp_13 (by decide +kernel) rfl rfl ⟨by decide, by decide⟩ rfl (Nat.le_of_ble_eq_true rfl) dX3_readAnd_36 (fun r47 s48 hs48 hr46 => ?_)
          replace hT := gby hT hs48
          have hp49 := f_X3_emit_p (-8) s43 (by omega) hm_s43 hTK_s43 hRCO_s43 (by first | assumption | omega) r47 s48 hs48
          obtain ⟨hfc_s48, hm_s48, hp50, hTK_s48, hRCO_s48⟩ := hp49
          have hf_s48 : fr [34, 53, 54, 55, 56, 57, 58] s0 s48 := hf_s43.call (by decide) hfc_s48
          refine k_st (st' := []) rfl ?_
          refine k_iinc (pc := 39) (lv' := [(2, gI (v27 + 1)), (0, .ref (a 2)), (1, gI x0)]) E 2 dX3_readAnd_39 rfl (by decide) rfl ?_
          refine k_goto (pc := 42) (tgt := 7) E dX3_readAnd_42 (by decide) ?_
          refine k_lv (lv' := [(0, .ref (a 2)), (1, gI x0), (2, gI (v27 + 1))]) [1, 2, 0] rfl ?_
          exact ih (v27 + 1) s48 ⟨(by omega), hf_s48, hTK_s48, hRCO_s48, (by first | assumption | omega)⟩ (by omega) (fun w31 s32 hw hi => hk w31 s32 (hT.trans hw) hi)
        · replace hT := hT.trans (if_neg h35)
          refine k_icmp_ne_t (pc := 21) (tgt := 45) E (by omega) (by omega) dX3_readAnd_21 (by decide) h35 ?_
          refine k_lv (lv' := []) [] rfl ?_
          exact hk v27 s28 hT ⟨(by omega), hf_s28, hTK_s28, hRCO_s28, (by first | assumption | omega)⟩
      · replace hT := hT.trans (if_neg h33)
        refine k_icmp_ge_t (pc := 11) (tgt := 45) E (by omega) (by omega) dX3_readAnd_11 (by decide) h33 ?_
        refine k_lv (lv' := []) [] rfl ?_
        exact hk v27 s28 hT ⟨(by omega), hf_s28, hTK_s28, hRCO_s28, (by first | assumption | omega)⟩
  refine k_lv (lv' := [(0, .ref (a 2)), (1, gI x0), (2, gI 0)]) [1, 2, 0] rfl ?_
  refine L29 161 0 s3 ⟨(by omega), hf_s3, hTK_s3, hRCO_s3, (by first | assumption | omega)⟩ (by omega) (fun v55 s56 hw hq => ?_)
  obtain ⟨hq57, hf_s56, hTK_s56, hRCO_s56, hq58⟩ := hq
  replace hT := gl2y hT hw
  exact k_rho hT (k_vret (pc := 45) E dX3_readAnd_45)

def w_X3_readOr_5_7 (c1 : Int) : Nat → Int → gMem → Int × gMem
  | 0, v6, s7 => (v6, s7)
  | n8 + 1, v6, s7 => (if v6 < 160 then (if (s7 55 0) = 259 then gb (f_X3_next  s7) (fun r13 s14 => gb (f_X3_readAnd_5 c1 s14) (fun r18 s19 => gb (f_X3_emit (-7) s19) (fun r23 s24 => (w_X3_readOr_5_7 c1 n8 (v6 + 1) s24)))) else (v6, s7)) else (v6, s7))
theorem w_X3_readOr_5_7_s (c1 : Int) (n8 : Nat) (v6 : Int) (s7 : gMem) : w_X3_readOr_5_7 c1 (n8 + 1) v6 s7 = (if v6 < 160 then (if (s7 55 0) = 259 then gb (f_X3_next  s7) (fun r13 s14 => gb (f_X3_readAnd_5 c1 s14) (fun r18 s19 => gb (f_X3_emit (-7) s19) (fun r23 s24 => (w_X3_readOr_5_7 c1 n8 (v6 + 1) s24)))) else (v6, s7)) else (v6, s7)) := rfl
def f_X3_readOr_5 (x0 : Int) (s0 : gMem) : gRes := gb (f_X3_readAnd_5 x0 s0) (fun r2 s3 => (gl2 (w_X3_readOr_5_7 x0 161 0 s3) (fun v55 s56 => (0, s56))))
theorem f_X3_readOr_5_e (x0 : Int) (s0 : gMem) : f_X3_readOr_5 x0 s0 = gb (f_X3_readAnd_5 x0 s0) (fun r2 s3 => (gl2 (w_X3_readOr_5_7 x0 161 0 s3) (fun v55 s56 => (0, s56)))) := rfl
set_option maxRecDepth 100000 in
set_option maxHeartbeats 4000000 in
theorem f_X3_readOr_5_p (x0 : Int) (s0 : gMem) (hx0 : in32 x0) (hm_s0 : gMR lgX s0) (hpre0 : TK s0) (hpre1 : RCO s0) (hpre2 : x0 = 0) (rZ : Int) (sZ : gMem) (hres : f_X3_readOr_5 x0 s0 = (rZ, sZ)) : (fr [34, 53, 54, 55, 56, 57, 58] s0 sZ) ∧ (gMR lgX sZ) ∧ (True) ∧ (TK sZ) ∧ (RCO sZ) := by
  have hT := f_X3_readOr_5_e x0 s0
  have hf_s0 : fr [34, 53, 54, 55, 56, 57, 58] s0 s0 := fr.rf _ _
  have hTK_s0 := hpre0
  have hRCO_s0 := hpre1
  obtain ⟨r2, s3, hs3⟩ : ∃ rr ss, (f_X3_readAnd_5 x0 s0) = (rr, ss) := ⟨_, _, rfl⟩
  replace hT := gby hT hs3
  have hp4 := f_X3_readAnd_5_p x0 s0 (by omega) hm_s0 hTK_s0 hRCO_s0 (by first | assumption | omega) r2 s3 hs3
  obtain ⟨hfc_s3, hm_s3, hp5, hTK_s3, hRCO_s3⟩ := hp4
  have hf_s3 : fr [34, 53, 54, 55, 56, 57, 58] s0 s3 := hf_s0.call (by decide) hfc_s3
  have L29 : ∀ (n30 : Nat) (v27 : Int) (s28 : gMem), ((in32 v27) ∧ (fr [34, 53, 54, 55, 56, 57, 58] s0 s28) ∧ (gMR lgX s28) ∧ (TK s28) ∧ (RCO s28) ∧ (0 ≤ v27 ∧ v27 ≤ 160)) → 160 - v27 < (n30 : Int) → (∀ (w31 : Int) (s32 : gMem), (w_X3_readOr_5_7 x0 n30 v27 s28) = (w31, s32) → ((in32 w31) ∧ (fr [34, 53, 54, 55, 56, 57, 58] s0 s32) ∧ (gMR lgX s32) ∧ (TK s32) ∧ (RCO s32) ∧ (0 ≤ w31 ∧ w31 ≤ 160)) → (fr [34, 53, 54, 55, 56, 57, 58] s0 sZ) ∧ (gMR lgX sZ) ∧ (True) ∧ (TK sZ) ∧ (RCO sZ)) → (fr [34, 53, 54, 55, 56, 57, 58] s0 sZ) ∧ (gMR lgX sZ) ∧ (True) ∧ (TK sZ) ∧ (RCO sZ) := by
    intro n30; induction n30 with
    | zero =>
      intro v27 s28 hq hm hk
      exfalso
      obtain ⟨hq51, hf_s28, hm_s28, hTK_s28, hRCO_s28, hq52⟩ := hq
      omega
    | succ n30 ih =>
      intro v27 s28 hq hm hk
      obtain ⟨hq53, hf_s28, hm_s28, hTK_s28, hRCO_s28, hq54⟩ := hq
      have hT := w_X3_readOr_5_7_s x0 n30 v27 s28
      by_cases h33 : v27 < 160
      · replace hT := hT.trans (if_pos h33)
        have hr34 := (hm_s28 55 0).1 rfl
        by_cases h35 : (s28 55 0) = 259
        · replace hT := hT.trans (if_pos h35)
          obtain ⟨r37, s38, hs38⟩ : ∃ rr ss, (f_X3_next  s28) = (rr, ss) := ⟨_, _, rfl⟩
          replace hT := gby hT hs38
          have hp39 := f_X3_next_p  s28  hm_s28 hTK_s28 r37 s38 hs38
          obtain ⟨hfc_s38, hm_s38, hp40, hTK_s38⟩ := hp39
          have hf_s38 : fr [34, 53, 54, 55, 56, 57, 58] s0 s38 := hf_s28.call (by decide) hfc_s38
          have hRCO_s38 : RCO s38 := RCO_fr hRCO_s28 (fun k hk => hfc_s38 k (dj (by decide) k hk))
          obtain ⟨r42, s43, hs43⟩ : ∃ rr ss, (f_X3_readAnd_5 x0 s38) = (rr, ss) := ⟨_, _, rfl⟩
          replace hT := gby hT hs43
          have hp44 := f_X3_readAnd_5_p x0 s38 (by omega) hm_s38 hTK_s38 hRCO_s38 (by first | assumption | omega) r42 s43 hs43
          obtain ⟨hfc_s43, hm_s43, hp45, hTK_s43, hRCO_s43⟩ := hp44
          have hf_s43 : fr [34, 53, 54, 55, 56, 57, 58] s0 s43 := hf_s38.call (by decide) hfc_s43
          obtain ⟨r47, s48, hs48⟩ : ∃ rr ss, (f_X3_emit (-7) s43) = (rr, ss) := ⟨_, _, rfl⟩
          replace hT := gby hT hs48
          have hp49 := f_X3_emit_p (-7) s43 (by omega) hm_s43 hTK_s43 hRCO_s43 (by first | assumption | omega) r47 s48 hs48
          obtain ⟨hfc_s48, hm_s48, hp50, hTK_s48, hRCO_s48⟩ := hp49
          have hf_s48 : fr [34, 53, 54, 55, 56, 57, 58] s0 s48 := hf_s43.call (by decide) hfc_s48
          exact ih (v27 + 1) s48 ⟨(by omega), hf_s48, hm_s48, hTK_s48, hRCO_s48, (by first | assumption | omega)⟩ (by omega) (fun w31 s32 hw hi => hk w31 s32 (hT.trans hw) hi)
        · replace hT := hT.trans (if_neg h35)
          exact hk v27 s28 hT ⟨(by omega), hf_s28, hm_s28, hTK_s28, hRCO_s28, (by first | assumption | omega)⟩
      · replace hT := hT.trans (if_neg h33)
        exact hk v27 s28 hT ⟨(by omega), hf_s28, hm_s28, hTK_s28, hRCO_s28, (by first | assumption | omega)⟩
  refine L29 161 0 s3 ⟨(by omega), hf_s3, hm_s3, hTK_s3, hRCO_s3, (by first | assumption | omega)⟩ (by omega) (fun v55 s56 hw hq => ?_)
  obtain ⟨hq57, hf_s56, hm_s56, hTK_s56, hRCO_s56, hq58⟩ := hq
  replace hT := gl2y hT hw
  obtain ⟨rfl, rfl⟩ := Prod.mk.inj (hT.symm.trans hres)
  exact ⟨hf_s56, hm_s56, trivial, hTK_s56, hRCO_s56⟩
set_option maxRecDepth 100000 in
set_option maxHeartbeats 4000000 in
theorem c_X3_readOr_5 (l : Launch) (D : va_G) (a : Nat → Nat) (cI cJ cS cT : ClassId) (adK adV : Nat → Nat) (kA : Nat) (s0 : gMem) (x0 : Int) (hx0 : in32 x0) (hpre0 : TK s0) (hpre1 : RCO s0) (hpre2 : x0 = 0) : gCS l yX3_readOr cX3_readOr 3 none 49 3136 D vwCl (gT cI cJ cS cT) (wdX a cI cJ cS cT) lgX kV rgV [.ref (a 2), gI x0] s0 (f_X3_readOr_5 x0 s0) adK adV kA := by
  refine gCS_of (by decide +kernel) (hwdX a cI cJ cS cT) (Nat.le_of_ble_eq_true rfl) ?_
  intro A p e R s m args below meth c hR E HX
  subst hR
  have hT := f_X3_readOr_5_e x0 s0
  have hf_s0 : fr [34, 53, 54, 55, 56, 57, 58] s0 s0 := fr.rf _ _
  refine k_lv0 (lv' := [(0, .ref (a 2)), (1, gI x0)]) rfl ?_
  refine k_mr (fun hm_s0 => ?_)
  have hTK_s0 := hpre0
  have hRCO_s0 := hpre1
  refine k_aloadn (pc := 0) E 0 dX3_readOr_0 rfl rfl ?_
  refine k_iloadn (pc := 1) E 1 dX3_readOr_1 rfl rfl ?_
  refine k_mr (fun hm_s0 => ?_)
  refine k_callVX (pc := 2) (np := 1) (As := [gI x0]) (st := []) (q0 := 2) E HX rfl rfl (c_X3_readAnd_5 l D a cI cJ cS cT adK adV kA s0 x0 (by omega) hTK_s0 hRCO_s0 (by first | assumption | omega)) wm_436 wm_3 wm_433 wm_435 wp_7 (by decide +kernel) ⟨by decide, by decide⟩ rfl (Nat.le_of_ble_eq_true rfl) dX3_readOr_2 (fun r2 s3 hs3 hr1 => ?_)
  replace hT := gby hT hs3
  have hp4 := f_X3_readAnd_5_p x0 s0 (by omega) hm_s0 hTK_s0 hRCO_s0 (by first | assumption | omega) r2 s3 hs3
  obtain ⟨hfc_s3, hm_s3, hp5, hTK_s3, hRCO_s3⟩ := hp4
  have hf_s3 : fr [34, 53, 54, 55, 56, 57, 58] s0 s3 := hf_s0.call (by decide) hfc_s3
  refine k_st (st' := []) rfl ?_
  refine k_iconst (pc := 5) E dX3_readOr_5 ?_
  refine k_istoren (pc := 6) (lv' := [(2, gI 0), (0, .ref (a 2)), (1, gI x0)]) E dX3_readOr_6 rfl (by decide) rfl ?_
  have L29 : ∀ (n30 : Nat) (v27 : Int) (s28 : gMem), ((in32 v27) ∧ (fr [34, 53, 54, 55, 56, 57, 58] s0 s28) ∧ (TK s28) ∧ (RCO s28) ∧ (0 ≤ v27 ∧ v27 ≤ 160)) → 160 - v27 < (n30 : Int) → (∀ (w31 : Int) (s32 : gMem), (w_X3_readOr_5_7 x0 n30 v27 s28) = (w31, s32) → ((in32 w31) ∧ (fr [34, 53, 54, 55, 56, 57, 58] s0 s32) ∧ (TK s32) ∧ (RCO s32) ∧ (0 ≤ w31 ∧ w31 ≤ 160)) → gK D vwCl (wdX a cI cJ cS cT) lgX A p l e { frames := 49, cells := 0, slots := 0, locals := 3136 } s m args below meth c 3 (gQQ D vwCl (wdX a cI cJ cS cT) lgX A kV rgV below args s) (f_X3_readOr_5 x0 s0) s32 45 [] []) → gK D vwCl (wdX a cI cJ cS cT) lgX A p l e { frames := 49, cells := 0, slots := 0, locals := 3136 } s m args below meth c 3 (gQQ D vwCl (wdX a cI cJ cS cT) lgX A kV rgV below args s) (f_X3_readOr_5 x0 s0) s28 7 [(0, .ref (a 2)), (1, gI x0), (2, gI v27)] [] := by
    intro n30; induction n30 with
    | zero =>
      intro v27 s28 hq hm hk
      exfalso
      obtain ⟨hq51, hf_s28, hTK_s28, hRCO_s28, hq52⟩ := hq
      omega
    | succ n30 ih =>
      intro v27 s28 hq hm hk
      obtain ⟨hq53, hf_s28, hTK_s28, hRCO_s28, hq54⟩ := hq
      have hT := w_X3_readOr_5_7_s x0 n30 v27 s28
      refine k_iloadn (pc := 7) E 2 dX3_readOr_7 rfl rfl ?_
      refine k_sipush (pc := 8) E dX3_readOr_8 (by decide) ?_
      by_cases h33 : v27 < 160
      · replace hT := hT.trans (if_pos h33)
        refine k_icmp_ge_f (pc := 11) (tgt := 45) E (by omega) (by omega) dX3_readOr_11 (by decide) h33 ?_
        refine k_aloadn (pc := 14) E 0 dX3_readOr_14 rfl rfl ?_
        refine k_getfI (pc := 15) (q0 := 2) (f := 6) (k := 55) E inX3 rfl rfl (by decide) wm_65 rfl rfl rfl dX3_readOr_15 (fun hr34 => ?_)
        refine k_sipush (pc := 18) E dX3_readOr_18 (by decide) ?_
        by_cases h35 : (s28 55 0) = 259
        · replace hT := hT.trans (if_pos h35)
          refine k_icmp_ne_f (pc := 21) (tgt := 45) E (by omega) (by omega) dX3_readOr_21 (by decide) h35 ?_
          refine k_aloadn (pc := 24) E 0 dX3_readOr_24 rfl rfl ?_
          refine k_mr (fun hm_s28 => ?_)
          refine k_callVX (pc := 25) (np := 0) (As := []) (st := []) (q0 := 2) E HX rfl rfl (c_X3_next l D a cI cJ cS cT adK adV kA s28  hTK_s28) wm_336 wm_3 wm_333 wm_335 wp_0 (by decide +kernel) ⟨by decide, by decide⟩ rfl (Nat.le_of_ble_eq_true rfl) dX3_readOr_25 (fun r37 s38 hs38 hr36 => ?_)
          replace hT := gby hT hs38
          have hp39 := f_X3_next_p  s28  hm_s28 hTK_s28 r37 s38 hs38
          obtain ⟨hfc_s38, hm_s38, hp40, hTK_s38⟩ := hp39
          have hf_s38 : fr [34, 53, 54, 55, 56, 57, 58] s0 s38 := hf_s28.call (by decide) hfc_s38
          have hRCO_s38 : RCO s38 := RCO_fr hRCO_s28 (fun k hk => hfc_s38 k (dj (by decide) k hk))
          refine k_st (st' := []) rfl ?_
          refine k_aloadn (pc := 28) E 0 dX3_readOr_28 rfl rfl ?_
          refine k_iloadn (pc := 29) E 1 dX3_readOr_29 rfl rfl ?_
          refine k_mr (fun hm_s38 => ?_)
          refine k_callVX (pc := 30) (np := 1) (As := [gI x0]) (st := []) (q0 := 2) E HX rfl rfl (c_X3_readAnd_5 l D a cI cJ cS cT adK adV kA s38 x0 (by omega) hTK_s38 hRCO_s38 (by first | assumption | omega)) wm_436 wm_3 wm_433 wm_435 wp_7 (by decide +kernel) ⟨by decide, by decide⟩ rfl (Nat.le_of_ble_eq_true rfl) dX3_readOr_30 (fun r42 s43 hs43 hr41 => ?_)
          replace hT := gby hT hs43
          have hp44 := f_X3_readAnd_5_p x0 s38 (by omega) hm_s38 hTK_s38 hRCO_s38 (by first | assumption | omega) r42 s43 hs43
          obtain ⟨hfc_s43, hm_s43, hp45, hTK_s43, hRCO_s43⟩ := hp44
          have hf_s43 : fr [34, 53, 54, 55, 56, 57, 58] s0 s43 := hf_s38.call (by decide) hfc_s43
          refine k_st (st' := []) rfl ?_
          refine k_aloadn (pc := 33) E 0 dX3_readOr_33 rfl rfl ?_
          refine k_bipush (pc := 34) E dX3_readOr_34 (by decide) ?_
          refine k_mr (fun hm_s43 => ?_)
          refine k_callV (pc := 36) (np := 1) (As := [gI (-7)]) (st := []) (q0 := 2) E (c_X3_emit l D a cI cJ cS cT s43 (-7) (by omega) hTK_s43 hRCO_s43 (by first | assumption | omega)) wm_460 wm_3 wm_457 wm_459 wp_13 (by decide +kernel) rfl rfl ⟨by decide, by decide⟩ rfl (Nat.le_of_ble_eq_true rfl) dX3_readOr_36 (fun r47 s48 hs48 hr46 => ?_)
          replace hT := gby hT hs48
          have hp49 := f_X3_emit_p (-7) s43 (by omega) hm_s43 hTK_s43 hRCO_s43 (by first | assumption | omega) r47 s48 hs48
          obtain ⟨hfc_s48, hm_s48, hp50, hTK_s48, hRCO_s48⟩ := hp49
          have hf_s48 : fr [34, 53, 54, 55, 56, 57, 58] s0 s48 := hf_s43.call (by decide) hfc_s48
          refine k_st (st' := []) rfl ?_
          refine k_iinc (pc := 39) (lv' := [(2, gI (v27 + 1)), (0, .ref (a 2)), (1, gI x0)]) E 2 dX3_readOr_39 rfl (by decide) rfl ?_
          refine k_goto (pc := 42) (tgt := 7) E dX3_readOr_42 (by decide) ?_
          refine k_lv (lv' := [(0, .ref (a 2)), (1, gI x0), (2, gI (v27 + 1))]) [1, 2, 0] rfl ?_
          exact ih (v27 + 1) s48 ⟨(by omega), hf_s48, hTK_s48, hRCO_s48, (by first | assumption | omega)⟩ (by omega) (fun w31 s32 hw hi => hk w31 s32 (hT.trans hw) hi)
        · replace hT := hT.trans (if_neg h35)
          refine k_icmp_ne_t (pc := 21) (tgt := 45) E (by omega) (by omega) dX3_readOr_21 (by decide) h35 ?_
          refine k_lv (lv' := []) [] rfl ?_
          exact hk v27 s28 hT ⟨(by omega), hf_s28, hTK_s28, hRCO_s28, (by first | assumption | omega)⟩
      · replace hT := hT.trans (if_neg h33)
        refine k_icmp_ge_t (pc := 11) (tgt := 45) E (by omega) (by omega) dX3_readOr_11 (by decide) h33 ?_
        refine k_lv (lv' := []) [] rfl ?_
        exact hk v27 s28 hT ⟨(by omega), hf_s28, hTK_s28, hRCO_s28, (by first | assumption | omega)⟩
  refine k_lv (lv' := [(0, .ref (a 2)), (1, gI x0), (2, gI 0)]) [1, 2, 0] rfl ?_
  refine L29 161 0 s3 ⟨(by omega), hf_s3, hTK_s3, hRCO_s3, (by first | assumption | omega)⟩ (by omega) (fun v55 s56 hw hq => ?_)
  obtain ⟨hq57, hf_s56, hTK_s56, hRCO_s56, hq58⟩ := hq
  replace hT := gl2y hT hw
  exact k_rho hT (k_vret (pc := 45) E dX3_readOr_45)
