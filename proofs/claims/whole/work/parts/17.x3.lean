def f_X3_append (x0 : Int) (s0 : gMem) : gRes := (if (s0 52 0) < 160 then gl (mset s0 33 (s0 52 0) x0) (fun s6 => gl (mset s6 52 0 ((s6 52 0) + 1)) (fun s10 => (0, s10))) else (0, s0))
theorem f_X3_append_e (x0 : Int) (s0 : gMem) : f_X3_append x0 s0 = (if (s0 52 0) < 160 then gl (mset s0 33 (s0 52 0) x0) (fun s6 => gl (mset s6 52 0 ((s6 52 0) + 1)) (fun s10 => (0, s10))) else (0, s0)) := rfl
set_option maxRecDepth 100000 in
set_option maxHeartbeats 4000000 in
theorem f_X3_append_p (x0 : Int) (s0 : gMem) (hx0 : in32 x0) (hm_s0 : gMR lgX s0) (hpre0 : RS s0) (rZ : Int) (sZ : gMem) (hres : f_X3_append x0 s0 = (rZ, sZ)) : (fr [33, 52] s0 sZ) ∧ (gMR lgX sZ) ∧ (True) ∧ (RS sZ) := by
  have hT := f_X3_append_e x0 s0
  have hf_s0 : fr [33, 52] s0 s0 := fr.rf _ _
  have hRS_s0 := hpre0
  have hr1 := (hm_s0 52 0).1 rfl
  have hi2 := hRS_s0 0
  by_cases h3 : (s0 52 0) < 160
  · replace hT := hT.trans (if_pos h3)
    have hr4 := (hm_s0 52 0).1 rfl
    have hi5 := hRS_s0 0
    obtain ⟨s6, hs6, hT⟩ := glx hT
    have hf_s6 : fr [33, 52] s0 s6 := hs6 ▸ hf_s0.set (by decide)
    have hm_s6 : gMR lgX s6 := hs6 ▸ hm_s0.set32 rfl (by omega)
    have hg_s6 : fr [33] s0 s6 := hs6 ▸ (fr.rf _ _).set (by decide)
    have hRS_s6 : RS s6 := RS_fr hRS_s0 (fun k hk => hg_s6 k (dj (by decide) k hk))
    have ht7 : s6 52 0 = s0 52 0 := by rw [hs6]; exact mset_ne _ _ _ _ _ (by decide)
    have hr8 := (hm_s6 52 0).1 rfl
    have hi9 := hRS_s6 0
    obtain ⟨s10, hs10, hT⟩ := glx hT
    have hf_s10 : fr [33, 52] s0 s10 := hs10 ▸ hf_s6.set (by decide)
    have hm_s10 : gMR lgX s10 := hs10 ▸ hm_s6.set32 rfl (by omega)
    have hg_s10 : fr [52] s6 s10 := hs10 ▸ (fr.rf _ _).set (by decide)
    have hRS_s10 : RS s10 := hs10 ▸ RS_set hRS_s6 (by omega)
    have ht11 : s10 52 0 = ((s6 52 0) + 1) := by rw [hs10]; exact mset_eq _ _ _ _
    obtain ⟨rfl, rfl⟩ := Prod.mk.inj (hT.symm.trans hres)
    exact ⟨hf_s10, hm_s10, trivial, hRS_s10⟩
  · replace hT := hT.trans (if_neg h3)
    obtain ⟨rfl, rfl⟩ := Prod.mk.inj (hT.symm.trans hres)
    exact ⟨hf_s0, hm_s0, trivial, hRS_s0⟩
set_option maxRecDepth 100000 in
set_option maxHeartbeats 4000000 in
theorem c_X3_append (l : Launch) (D : va_G) (a : Nat → Nat) (cI cJ cS cT : ClassId) (s0 : gMem) (x0 : Int) (hx0 : in32 x0) (hpre0 : RS s0) : gC l yX3_append cX3_append 2 none 1 64 D vwCl (gT cI cJ cS cT) (wdX a cI cJ cS cT) lgX kV rgV [.ref (a 2), gI x0] s0 (f_X3_append x0 s0) := by
  refine gC_of (by decide +kernel) (hwdX a cI cJ cS cT) (Nat.le_of_ble_eq_true rfl) ?_
  intro A p e R s m args below meth c hR E
  subst hR
  have hT := f_X3_append_e x0 s0
  have hf_s0 : fr [33, 52] s0 s0 := fr.rf _ _
  refine k_lv0 (lv' := [(0, .ref (a 2)), (1, gI x0)]) rfl ?_
  refine k_mr (fun hm_s0 => ?_)
  have hRS_s0 := hpre0
  refine k_aloadn (pc := 0) E 0 dX3_append_0 rfl rfl ?_
  refine k_getfI (pc := 1) (q0 := 2) (f := 3) (k := 52) E inX3 rfl rfl (by decide) wm_61 rfl rfl rfl dX3_append_1 (fun hr1 => ?_)
  have hi2 := hRS_s0 0
  refine k_sipush (pc := 4) E dX3_append_4 (by decide) ?_
  by_cases h3 : (s0 52 0) < 160
  · replace hT := hT.trans (if_pos h3)
    refine k_icmp_ge_f (pc := 7) (tgt := 30) E (by omega) (by omega) dX3_append_7 (by decide) h3 ?_
    refine k_aloadn (pc := 10) E 0 dX3_append_10 rfl rfl ?_
    refine k_getf (pc := 11) (q0 := 2) (f := 0) (v := .ref (a 33)) E inX3 rfl rfl (by decide) wm_56 rfl rfl dX3_append_11 ?_
    refine k_aloadn (pc := 14) E 0 dX3_append_14 rfl rfl ?_
    refine k_getfI (pc := 15) (q0 := 2) (f := 3) (k := 52) E inX3 rfl rfl (by decide) wm_61 rfl rfl rfl dX3_append_15 (fun hr4 => ?_)
    have hi5 := hRS_s0 0
    refine k_iloadn (pc := 18) E 1 dX3_append_18 rfl rfl ?_
    refine k_iastore (pc := 19) (q0 := 33) (t0 := 0) (k := 33) (n := 160) E rfl rfl rfl rfl (by decide) (by omega) (by omega) (by omega) dX3_append_19 ?_
    obtain ⟨s6, hs6, hT⟩ := glx hT
    refine k_sg hs6.symm ?_
    have hf_s6 : fr [33, 52] s0 s6 := hs6 ▸ hf_s0.set (by decide)
    have hg_s6 : fr [33] s0 s6 := hs6 ▸ (fr.rf _ _).set (by decide)
    have hRS_s6 : RS s6 := RS_fr hRS_s0 (fun k hk => hg_s6 k (dj (by decide) k hk))
    have ht7 : s6 52 0 = s0 52 0 := by rw [hs6]; exact mset_ne _ _ _ _ _ (by decide)
    refine k_aloadn (pc := 20) E 0 dX3_append_20 rfl rfl ?_
    refine k_dup (pc := 21) E dX3_append_21 rfl ?_
    refine k_getfI (pc := 22) (q0 := 2) (f := 3) (k := 52) E inX3 rfl rfl (by decide) wm_61 rfl rfl rfl dX3_append_22 (fun hr8 => ?_)
    have hi9 := hRS_s6 0
    refine k_iconst (pc := 25) E dX3_append_25 ?_
    refine k_iadd (pc := 26) E dX3_append_26 ?_
    refine k_putfI (pc := 27) (q0 := 2) (f := 3) (k := 52) E tyX3 tyX3_ok nmX3 inX3 rfl rfl (by decide) wm_61 rfl rfl rfl (Nat.le_of_ble_eq_true rfl) rfl rfl (by omega) dX3_append_27 ?_
    obtain ⟨s10, hs10, hT⟩ := glx hT
    refine k_sg hs10.symm ?_
    have hf_s10 : fr [33, 52] s0 s10 := hs10 ▸ hf_s6.set (by decide)
    have hg_s10 : fr [52] s6 s10 := hs10 ▸ (fr.rf _ _).set (by decide)
    have hRS_s10 : RS s10 := hs10 ▸ RS_set hRS_s6 (by omega)
    have ht11 : s10 52 0 = ((s6 52 0) + 1) := by rw [hs10]; exact mset_eq _ _ _ _
    exact k_rho hT (k_vret (pc := 30) E dX3_append_30)
  · replace hT := hT.trans (if_neg h3)
    refine k_icmp_ge_t (pc := 7) (tgt := 30) E (by omega) (by omega) dX3_append_7 (by decide) h3 ?_
    exact k_rho hT (k_vret (pc := 30) E dX3_append_30)

def f_X8_count (x0 : Int) (s0 : gMem) : Int := (if x0 = 0 then (s0 59 0) else (if x0 = 1 then (s0 60 0) else (if x0 = 2 then (s0 61 0) else (if x0 = 3 then (s0 62 0) else (if x0 = 4 then (s0 51 0) else (if x0 = 5 then (s0 63 0) else (if x0 = 6 then (s0 52 0) else (-2))))))))
theorem f_X8_count_e (x0 : Int) (s0 : gMem) : f_X8_count x0 s0 = (if x0 = 0 then (s0 59 0) else (if x0 = 1 then (s0 60 0) else (if x0 = 2 then (s0 61 0) else (if x0 = 3 then (s0 62 0) else (if x0 = 4 then (s0 51 0) else (if x0 = 5 then (s0 63 0) else (if x0 = 6 then (s0 52 0) else (-2)))))))) := rfl
set_option maxRecDepth 100000 in
set_option maxHeartbeats 4000000 in
theorem f_X8_count_p (x0 : Int) (s0 : gMem) (hx0 : in32 x0) (hm_s0 : gMR lgX s0)  : (in32 (f_X8_count x0 s0)) := by
  have hT := f_X8_count_e x0 s0
  by_cases h1 : x0 = 0
  · replace hT := hT.trans (if_pos h1)
    have hr8 := (hm_s0 59 0).1 rfl
    rw [hT]
    exact (by omega)
  · replace hT := hT.trans (if_neg h1)
    by_cases h2 : x0 = 1
    · replace hT := hT.trans (if_pos h2)
      have hr9 := (hm_s0 60 0).1 rfl
      rw [hT]
      exact (by omega)
    · replace hT := hT.trans (if_neg h2)
      by_cases h3 : x0 = 2
      · replace hT := hT.trans (if_pos h3)
        have hr10 := (hm_s0 61 0).1 rfl
        rw [hT]
        exact (by omega)
      · replace hT := hT.trans (if_neg h3)
        by_cases h4 : x0 = 3
        · replace hT := hT.trans (if_pos h4)
          have hr11 := (hm_s0 62 0).1 rfl
          rw [hT]
          exact (by omega)
        · replace hT := hT.trans (if_neg h4)
          by_cases h5 : x0 = 4
          · replace hT := hT.trans (if_pos h5)
            have hr12 := (hm_s0 51 0).1 rfl
            rw [hT]
            exact (by omega)
          · replace hT := hT.trans (if_neg h5)
            by_cases h6 : x0 = 5
            · replace hT := hT.trans (if_pos h6)
              have hr13 := (hm_s0 63 0).1 rfl
              rw [hT]
              exact (by omega)
            · replace hT := hT.trans (if_neg h6)
              by_cases h7 : x0 = 6
              · replace hT := hT.trans (if_pos h7)
                have hr14 := (hm_s0 52 0).1 rfl
                rw [hT]
                exact (by omega)
              · replace hT := hT.trans (if_neg h7)
                rw [hT]
                exact (by omega)
set_option maxRecDepth 100000 in
set_option maxHeartbeats 4000000 in
theorem c_X8_count (l : Launch) (D : va_G) (a : Nat → Nat) (cI cJ cS cT : ClassId) (s0 : gMem) (x0 : Int) (hx0 : in32 x0)  : gC l yX8_count cX8_count 2 (some .int) 1 64 D vwCl (gT cI cJ cS cT) (wdX a cI cJ cS cT) lgX kI in32 [.ref (a 0), gI x0] s0 ((f_X8_count x0 s0), s0) := by
  refine gC_of (by decide +kernel) (hwdX a cI cJ cS cT) (Nat.le_of_ble_eq_true rfl) ?_
  intro A p e R s m args below meth c hR E
  subst hR
  have hT := f_X8_count_e x0 s0
  refine k_lv0 (lv' := [(0, .ref (a 0)), (1, gI x0)]) rfl ?_
  refine k_mr (fun hm_s0 => ?_)
  refine k_iloadn (pc := 0) E 1 dX8_count_0 rfl rfl ?_
  by_cases h1 : x0 = 0
  · replace hT := hT.trans (if_pos h1)
    refine k_tabIn (pc := 1) (tgt := 44) E dX8_count_1 (by omega) (by omega) (by omega) (by rw [h1]; rfl) (by decide) ?_
    refine k_aloadn (pc := 44) E 0 dX8_count_44 rfl rfl ?_
    refine k_getf (pc := 45) (q0 := 0) (f := 2) (v := .ref (a 3)) E inX8 rfl rfl (by decide) wm_274 rfl rfl dX8_count_45 ?_
    refine k_getf (pc := 48) (q0 := 3) (f := 0) (v := .ref (a 4)) E inX4 rfl rfl (by decide) wm_149 rfl rfl dX8_count_48 ?_
    refine k_getfI (pc := 51) (q0 := 4) (f := 2) (k := 59) E inX6 rfl rfl (by decide) wm_109 rfl rfl rfl dX8_count_51 (fun hr8 => ?_)
    exact k_rho (congrArg (fun q => (q, s0)) hT) (k_iret (pc := 54) E dX8_count_54 (by omega))
  · replace hT := hT.trans (if_neg h1)
    by_cases h2 : x0 = 1
    · replace hT := hT.trans (if_pos h2)
      refine k_tabIn (pc := 1) (tgt := 55) E dX8_count_1 (by omega) (by omega) (by omega) (by rw [h2]; rfl) (by decide) ?_
      refine k_aloadn (pc := 55) E 0 dX8_count_55 rfl rfl ?_
      refine k_getf (pc := 56) (q0 := 0) (f := 2) (v := .ref (a 3)) E inX8 rfl rfl (by decide) wm_274 rfl rfl dX8_count_56 ?_
      refine k_getf (pc := 59) (q0 := 3) (f := 0) (v := .ref (a 4)) E inX4 rfl rfl (by decide) wm_149 rfl rfl dX8_count_59 ?_
      refine k_getfI (pc := 62) (q0 := 4) (f := 3) (k := 60) E inX6 rfl rfl (by decide) wm_113 rfl rfl rfl dX8_count_62 (fun hr9 => ?_)
      exact k_rho (congrArg (fun q => (q, s0)) hT) (k_iret (pc := 65) E dX8_count_65 (by omega))
    · replace hT := hT.trans (if_neg h2)
      by_cases h3 : x0 = 2
      · replace hT := hT.trans (if_pos h3)
        refine k_tabIn (pc := 1) (tgt := 66) E dX8_count_1 (by omega) (by omega) (by omega) (by rw [h3]; rfl) (by decide) ?_
        refine k_aloadn (pc := 66) E 0 dX8_count_66 rfl rfl ?_
        refine k_getf (pc := 67) (q0 := 0) (f := 2) (v := .ref (a 3)) E inX8 rfl rfl (by decide) wm_274 rfl rfl dX8_count_67 ?_
        refine k_getf (pc := 70) (q0 := 3) (f := 0) (v := .ref (a 4)) E inX4 rfl rfl (by decide) wm_149 rfl rfl dX8_count_70 ?_
        refine k_getfI (pc := 73) (q0 := 4) (f := 4) (k := 61) E inX6 rfl rfl (by decide) wm_116 rfl rfl rfl dX8_count_73 (fun hr10 => ?_)
        exact k_rho (congrArg (fun q => (q, s0)) hT) (k_iret (pc := 76) E dX8_count_76 (by omega))
      · replace hT := hT.trans (if_neg h3)
        by_cases h4 : x0 = 3
        · replace hT := hT.trans (if_pos h4)
          refine k_tabIn (pc := 1) (tgt := 77) E dX8_count_1 (by omega) (by omega) (by omega) (by rw [h4]; rfl) (by decide) ?_
          refine k_aloadn (pc := 77) E 0 dX8_count_77 rfl rfl ?_
          refine k_getf (pc := 78) (q0 := 0) (f := 2) (v := .ref (a 3)) E inX8 rfl rfl (by decide) wm_274 rfl rfl dX8_count_78 ?_
          refine k_getf (pc := 81) (q0 := 3) (f := 0) (v := .ref (a 4)) E inX4 rfl rfl (by decide) wm_149 rfl rfl dX8_count_81 ?_
          refine k_getfI (pc := 84) (q0 := 4) (f := 5) (k := 62) E inX6 rfl rfl (by decide) wm_119 rfl rfl rfl dX8_count_84 (fun hr11 => ?_)
          exact k_rho (congrArg (fun q => (q, s0)) hT) (k_iret (pc := 87) E dX8_count_87 (by omega))
        · replace hT := hT.trans (if_neg h4)
          by_cases h5 : x0 = 4
          · replace hT := hT.trans (if_pos h5)
            refine k_tabIn (pc := 1) (tgt := 88) E dX8_count_1 (by omega) (by omega) (by omega) (by rw [h5]; rfl) (by decide) ?_
            refine k_aloadn (pc := 88) E 0 dX8_count_88 rfl rfl ?_
            refine k_getf (pc := 89) (q0 := 0) (f := 0) (v := .ref (a 1)) E inX8 rfl rfl (by decide) wm_272 rfl rfl dX8_count_89 ?_
            refine k_getfI (pc := 92) (q0 := 1) (f := 3) (k := 51) E inX7 rfl rfl (by decide) wm_39 rfl rfl rfl dX8_count_92 (fun hr12 => ?_)
            exact k_rho (congrArg (fun q => (q, s0)) hT) (k_iret (pc := 95) E dX8_count_95 (by omega))
          · replace hT := hT.trans (if_neg h5)
            by_cases h6 : x0 = 5
            · replace hT := hT.trans (if_pos h6)
              refine k_tabIn (pc := 1) (tgt := 96) E dX8_count_1 (by omega) (by omega) (by omega) (by rw [h6]; rfl) (by decide) ?_
              refine k_aloadn (pc := 96) E 0 dX8_count_96 rfl rfl ?_
              refine k_getf (pc := 97) (q0 := 0) (f := 2) (v := .ref (a 3)) E inX8 rfl rfl (by decide) wm_274 rfl rfl dX8_count_97 ?_
              refine k_getf (pc := 100) (q0 := 3) (f := 0) (v := .ref (a 4)) E inX4 rfl rfl (by decide) wm_149 rfl rfl dX8_count_100 ?_
              refine k_getfI (pc := 103) (q0 := 4) (f := 6) (k := 63) E inX6 rfl rfl (by decide) wm_123 rfl rfl rfl dX8_count_103 (fun hr13 => ?_)
              exact k_rho (congrArg (fun q => (q, s0)) hT) (k_iret (pc := 106) E dX8_count_106 (by omega))
            · replace hT := hT.trans (if_neg h6)
              by_cases h7 : x0 = 6
              · replace hT := hT.trans (if_pos h7)
                refine k_tabIn (pc := 1) (tgt := 107) E dX8_count_1 (by omega) (by omega) (by omega) (by rw [h7]; rfl) (by decide) ?_
                refine k_aloadn (pc := 107) E 0 dX8_count_107 rfl rfl ?_
                refine k_getf (pc := 108) (q0 := 0) (f := 1) (v := .ref (a 2)) E inX8 rfl rfl (by decide) wm_273 rfl rfl dX8_count_108 ?_
                refine k_getfI (pc := 111) (q0 := 2) (f := 3) (k := 52) E inX3 rfl rfl (by decide) wm_62 rfl rfl rfl dX8_count_111 (fun hr14 => ?_)
                exact k_rho (congrArg (fun q => (q, s0)) hT) (k_iret (pc := 114) E dX8_count_114 (by omega))
              · replace hT := hT.trans (if_neg h7)
                refine k_tabOut (pc := 1) (tgt := 115) E dX8_count_1 (by omega) (by omega) (by decide) ?_
                refine k_bipush (pc := 115) E dX8_count_115 (by decide) ?_
                exact k_rho (congrArg (fun q => (q, s0)) hT) (k_iret (pc := 117) E dX8_count_117 (by omega))

def f_X8_set (x0 : Int) (x1 : Int) (s0 : gMem) : gRes := (if (f_X8_outside x0 4) = 0 then (gl ((if x0 < 2 then 65536 else 3)) (fun v6 => (if (f_X8_outside x1 v6) = 0 then (gl ((if x0 = 0 then gl (mset s0 59 0 x1) (fun s23 => s23) else (if x0 = 1 then gl (mset s0 60 0 x1) (fun s24 => s24) else (if x0 = 2 then gl (mset s0 61 0 x1) (fun s25 => s25) else gl (mset s0 62 0 x1) (fun s26 => s26))))) (fun s16 => gb (f_X4_forget  s16) (fun r18 s19 => ((f_X8_count x0 s0), s19)))) else ((-7), s0)))) else ((-5), s0))
theorem f_X8_set_e (x0 : Int) (x1 : Int) (s0 : gMem) : f_X8_set x0 x1 s0 = (if (f_X8_outside x0 4) = 0 then (gl ((if x0 < 2 then 65536 else 3)) (fun v6 => (if (f_X8_outside x1 v6) = 0 then (gl ((if x0 = 0 then gl (mset s0 59 0 x1) (fun s23 => s23) else (if x0 = 1 then gl (mset s0 60 0 x1) (fun s24 => s24) else (if x0 = 2 then gl (mset s0 61 0 x1) (fun s25 => s25) else gl (mset s0 62 0 x1) (fun s26 => s26))))) (fun s16 => gb (f_X4_forget  s16) (fun r18 s19 => ((f_X8_count x0 s0), s19)))) else ((-7), s0)))) else ((-5), s0)) := rfl
set_option maxRecDepth 100000 in
set_option maxHeartbeats 4000000 in
theorem f_X8_set_p (x0 : Int) (x1 : Int) (s0 : gMem) (hx0 : in32 x0) (hx1 : in32 x1) (hm_s0 : gMR lgX s0) (hpre0 : GP s0) (hpre1 : ST s0) (hpre2 : EN s0) (hpre3 : RE s0) (hpre4 : KF s0) (hpre5 : KC s0) (hpre6 : KT s0) (rZ : Int) (sZ : gMem) (hres : f_X8_set x0 x1 s0 = (rZ, sZ)) : (fr [37, 38, 39, 59, 60, 61, 62] s0 sZ) ∧ (gMR lgX sZ) ∧ (in32 rZ) ∧ (GP sZ) ∧ (ST sZ) ∧ (EN sZ) ∧ (RE sZ) ∧ (KF sZ) ∧ (KC sZ) ∧ (KT sZ) := by
  have hT := f_X8_set_e x0 x1 s0
  have hf_s0 : fr [37, 38, 39, 59, 60, 61, 62] s0 s0 := fr.rf _ _
  have hGP_s0 := hpre0
  have hST_s0 := hpre1
  have hEN_s0 := hpre2
  have hRE_s0 := hpre3
  have hKF_s0 := hpre4
  have hKC_s0 := hpre5
  have hKT_s0 := hpre6
  have hp2 := f_X8_outside_p x0 4 (by omega) (by omega) 
  by_cases h3 : (f_X8_outside x0 4) = 0
  · replace hT := hT.trans (if_pos h3)
    obtain ⟨z28, hz28, hT⟩ := gl1x hT
    have j5 : ∀ (v6 : Int), ((in32 v6)) → z28 = v6 → (fr [37, 38, 39, 59, 60, 61, 62] s0 sZ) ∧ (gMR lgX sZ) ∧ (in32 rZ) ∧ (GP sZ) ∧ (ST sZ) ∧ (EN sZ) ∧ (RE sZ) ∧ (KF sZ) ∧ (KC sZ) ∧ (KT sZ) := by
      intro v6 hq hz
      have hq27 := hq
      replace hT := gl1y hT hz
      have hp8 := f_X8_outside_p x1 v6 (by omega) (by omega) 
      by_cases h9 : (f_X8_outside x1 v6) = 0
      · replace hT := hT.trans (if_pos h9)
        have hp11 := f_X8_count_p x0 s0 (by omega) hm_s0 
        obtain ⟨z22, hz22, hT⟩ := gl1x hT
        have j15 : ∀ (s16 : gMem), ((fr [37, 38, 39, 59, 60, 61, 62] s0 s16) ∧ (gMR lgX s16) ∧ (GP s16) ∧ (ST s16) ∧ (EN s16) ∧ (RE s16) ∧ (KF s16) ∧ (KC s16) ∧ (KT s16)) → z22 = s16 → (fr [37, 38, 39, 59, 60, 61, 62] s0 sZ) ∧ (gMR lgX sZ) ∧ (in32 rZ) ∧ (GP sZ) ∧ (ST sZ) ∧ (EN sZ) ∧ (RE sZ) ∧ (KF sZ) ∧ (KC sZ) ∧ (KT sZ) := by
          intro s16 hq hz
          obtain ⟨hf_s16, hm_s16, hGP_s16, hST_s16, hEN_s16, hRE_s16, hKF_s16, hKC_s16, hKT_s16⟩ := hq
          replace hT := gl1y hT hz
          obtain ⟨r18, s19, hs19⟩ : ∃ rr ss, (f_X4_forget  s16) = (rr, ss) := ⟨_, _, rfl⟩
          replace hT := gby hT hs19
          have hp20 := f_X4_forget_p  s16  hm_s16 hKF_s16 hKC_s16 hKT_s16 r18 s19 hs19
          obtain ⟨hfc_s19, hm_s19, hp21, hKF_s19, hKC_s19, hKT_s19⟩ := hp20
          have hf_s19 : fr [37, 38, 39, 59, 60, 61, 62] s0 s19 := hf_s16.call (by decide) hfc_s19
          have hGP_s19 : GP s19 := GP_fr hGP_s16 (fun k hk => hfc_s19 k (dj (by decide) k hk))
          have hST_s19 : ST s19 := ST_fr hST_s16 (fun k hk => hfc_s19 k (dj (by decide) k hk))
          have hEN_s19 : EN s19 := EN_fr hEN_s16 (fun k hk => hfc_s19 k (dj (by decide) k hk))
          have hRE_s19 : RE s19 := RE_fr hRE_s16 (fun k hk => hfc_s19 k (dj (by decide) k hk))
          obtain ⟨rfl, rfl⟩ := Prod.mk.inj (hT.symm.trans hres)
          exact ⟨hf_s19, hm_s19, (by omega), hGP_s19, hST_s19, hEN_s19, hRE_s19, hKF_s19, hKC_s19, hKT_s19⟩
        replace hT := hz22
        by_cases h12 : x0 = 0
        · replace hT := hT.trans (if_pos h12)
          obtain ⟨s23, hs23, hT⟩ := glx hT
          have hf_s23 : fr [37, 38, 39, 59, 60, 61, 62] s0 s23 := hs23 ▸ hf_s0.set (by decide)
          have hm_s23 : gMR lgX s23 := hs23 ▸ hm_s0.set32 rfl (by omega)
          have hg_s23 : fr [59] s0 s23 := hs23 ▸ (fr.rf _ _).set (by decide)
          have hGP_s23 : GP s23 := hs23 ▸ GP_set hGP_s0 (by omega)
          have hST_s23 : ST s23 := ST_fr hST_s0 (fun k hk => hg_s23 k (dj (by decide) k hk))
          have hEN_s23 : EN s23 := EN_fr hEN_s0 (fun k hk => hg_s23 k (dj (by decide) k hk))
          have hRE_s23 : RE s23 := RE_fr hRE_s0 (fun k hk => hg_s23 k (dj (by decide) k hk))
          have hKF_s23 : KF s23 := KF_fr hKF_s0 (fun k hk => hg_s23 k (dj (by decide) k hk))
          have hKC_s23 : KC s23 := KC_fr hKC_s0 (fun k hk => hg_s23 k (dj (by decide) k hk))
          have hKT_s23 : KT s23 := KT_fr hKT_s0 (fun k hk => hg_s23 k (dj (by decide) k hk))
          exact j15 s23 ⟨hf_s23, hm_s23, hGP_s23, hST_s23, hEN_s23, hRE_s23, hKF_s23, hKC_s23, hKT_s23⟩ hT
        · replace hT := hT.trans (if_neg h12)
          by_cases h13 : x0 = 1
          · replace hT := hT.trans (if_pos h13)
            obtain ⟨s24, hs24, hT⟩ := glx hT
            have hf_s24 : fr [37, 38, 39, 59, 60, 61, 62] s0 s24 := hs24 ▸ hf_s0.set (by decide)
            have hm_s24 : gMR lgX s24 := hs24 ▸ hm_s0.set32 rfl (by omega)
            have hg_s24 : fr [60] s0 s24 := hs24 ▸ (fr.rf _ _).set (by decide)
            have hGP_s24 : GP s24 := GP_fr hGP_s0 (fun k hk => hg_s24 k (dj (by decide) k hk))
            have hST_s24 : ST s24 := hs24 ▸ ST_set hST_s0 (by omega)
            have hEN_s24 : EN s24 := EN_fr hEN_s0 (fun k hk => hg_s24 k (dj (by decide) k hk))
            have hRE_s24 : RE s24 := RE_fr hRE_s0 (fun k hk => hg_s24 k (dj (by decide) k hk))
            have hKF_s24 : KF s24 := KF_fr hKF_s0 (fun k hk => hg_s24 k (dj (by decide) k hk))
            have hKC_s24 : KC s24 := KC_fr hKC_s0 (fun k hk => hg_s24 k (dj (by decide) k hk))
            have hKT_s24 : KT s24 := KT_fr hKT_s0 (fun k hk => hg_s24 k (dj (by decide) k hk))
            exact j15 s24 ⟨hf_s24, hm_s24, hGP_s24, hST_s24, hEN_s24, hRE_s24, hKF_s24, hKC_s24, hKT_s24⟩ hT
          · replace hT := hT.trans (if_neg h13)
            by_cases h14 : x0 = 2
            · replace hT := hT.trans (if_pos h14)
              obtain ⟨s25, hs25, hT⟩ := glx hT
              have hf_s25 : fr [37, 38, 39, 59, 60, 61, 62] s0 s25 := hs25 ▸ hf_s0.set (by decide)
              have hm_s25 : gMR lgX s25 := hs25 ▸ hm_s0.set32 rfl (by omega)
              have hg_s25 : fr [61] s0 s25 := hs25 ▸ (fr.rf _ _).set (by decide)
              have hGP_s25 : GP s25 := GP_fr hGP_s0 (fun k hk => hg_s25 k (dj (by decide) k hk))
              have hST_s25 : ST s25 := ST_fr hST_s0 (fun k hk => hg_s25 k (dj (by decide) k hk))
              have hEN_s25 : EN s25 := hs25 ▸ EN_set hEN_s0 (by omega)
              have hRE_s25 : RE s25 := RE_fr hRE_s0 (fun k hk => hg_s25 k (dj (by decide) k hk))
              have hKF_s25 : KF s25 := KF_fr hKF_s0 (fun k hk => hg_s25 k (dj (by decide) k hk))
              have hKC_s25 : KC s25 := KC_fr hKC_s0 (fun k hk => hg_s25 k (dj (by decide) k hk))
              have hKT_s25 : KT s25 := KT_fr hKT_s0 (fun k hk => hg_s25 k (dj (by decide) k hk))
              exact j15 s25 ⟨hf_s25, hm_s25, hGP_s25, hST_s25, hEN_s25, hRE_s25, hKF_s25, hKC_s25, hKT_s25⟩ hT
            · replace hT := hT.trans (if_neg h14)
              obtain ⟨s26, hs26, hT⟩ := glx hT
              have hf_s26 : fr [37, 38, 39, 59, 60, 61, 62] s0 s26 := hs26 ▸ hf_s0.set (by decide)
              have hm_s26 : gMR lgX s26 := hs26 ▸ hm_s0.set32 rfl (by omega)
              have hg_s26 : fr [62] s0 s26 := hs26 ▸ (fr.rf _ _).set (by decide)
              have hGP_s26 : GP s26 := GP_fr hGP_s0 (fun k hk => hg_s26 k (dj (by decide) k hk))
              have hST_s26 : ST s26 := ST_fr hST_s0 (fun k hk => hg_s26 k (dj (by decide) k hk))
              have hEN_s26 : EN s26 := EN_fr hEN_s0 (fun k hk => hg_s26 k (dj (by decide) k hk))
              have hRE_s26 : RE s26 := hs26 ▸ RE_set hRE_s0 (by omega)
              have hKF_s26 : KF s26 := KF_fr hKF_s0 (fun k hk => hg_s26 k (dj (by decide) k hk))
              have hKC_s26 : KC s26 := KC_fr hKC_s0 (fun k hk => hg_s26 k (dj (by decide) k hk))
              have hKT_s26 : KT s26 := KT_fr hKT_s0 (fun k hk => hg_s26 k (dj (by decide) k hk))
              exact j15 s26 ⟨hf_s26, hm_s26, hGP_s26, hST_s26, hEN_s26, hRE_s26, hKF_s26, hKC_s26, hKT_s26⟩ hT
      · replace hT := hT.trans (if_neg h9)
        obtain ⟨rfl, rfl⟩ := Prod.mk.inj (hT.symm.trans hres)
        exact ⟨hf_s0, hm_s0, (by omega), hGP_s0, hST_s0, hEN_s0, hRE_s0, hKF_s0, hKC_s0, hKT_s0⟩
    replace hT := hz28
    by_cases h4 : x0 < 2
    · replace hT := hT.trans (if_pos h4)
      exact j5 65536 (by omega) hT
    · replace hT := hT.trans (if_neg h4)
      exact j5 3 (by omega) hT
  · replace hT := hT.trans (if_neg h3)
    obtain ⟨rfl, rfl⟩ := Prod.mk.inj (hT.symm.trans hres)
    exact ⟨hf_s0, hm_s0, (by omega), hGP_s0, hST_s0, hEN_s0, hRE_s0, hKF_s0, hKC_s0, hKT_s0⟩
set_option maxRecDepth 100000 in
set_option maxHeartbeats 4000000 in
theorem c_X8_set (l : Launch) (D : va_G) (a : Nat → Nat) (cI cJ cS cT : ClassId) (s0 : gMem) (x0 : Int) (x1 : Int) (hx0 : in32 x0) (hx1 : in32 x1) (hpre0 : GP s0) (hpre1 : ST s0) (hpre2 : EN s0) (hpre3 : RE s0) (hpre4 : KF s0) (hpre5 : KC s0) (hpre6 : KT s0) : gC l yX8_set cX8_set 4 (some .int) 3 192 D vwCl (gT cI cJ cS cT) (wdX a cI cJ cS cT) lgX kI in32 [.ref (a 0), gI x0, gI x1] s0 (f_X8_set x0 x1 s0) := by
  refine gC_of (by decide +kernel) (hwdX a cI cJ cS cT) (Nat.le_of_ble_eq_true rfl) ?_
  intro A p e R s m args below meth c hR E
  subst hR
  have hT := f_X8_set_e x0 x1 s0
  have hf_s0 : fr [37, 38, 39, 59, 60, 61, 62] s0 s0 := fr.rf _ _
  refine k_lv0 (lv' := [(0, .ref (a 0)), (1, gI x0), (2, gI x1)]) rfl ?_
  refine k_mr (fun hm_s0 => ?_)
  have hGP_s0 := hpre0
  have hST_s0 := hpre1
  have hEN_s0 := hpre2
  have hRE_s0 := hpre3
  have hKF_s0 := hpre4
  have hKC_s0 := hpre5
  have hKT_s0 := hpre6
  refine k_iloadn (pc := 0) E 1 dX8_set_0 rfl rfl ?_
  refine k_iconst (pc := 1) E dX8_set_1 ?_
  refine k_mr (fun hm_s0 => ?_)
  refine k_callS (pc := 2) (np := 2) (As := [gI x0, gI 4]) (st := []) E (c_X8_outside l D a cI cJ cS cT s0 x0 4 (by omega) (by omega)) wm_310 wm_1 wm_308 wm_309 (by decide +kernel) ⟨by decide, by decide⟩ rfl (Nat.le_of_ble_eq_true rfl) dX8_set_2 (ro_kk (fun hr1 => ?_))
  have hp2 := f_X8_outside_p x0 4 (by omega) (by omega) 
  refine k_st (st' := [gI (f_X8_outside x0 4)]) rfl ?_
  by_cases h3 : (f_X8_outside x0 4) = 0
  · replace hT := hT.trans (if_pos h3)
    refine k_if_eq_t (pc := 5) (tgt := 11) E (by omega) dX8_set_5 (by decide) h3 ?_
    refine k_iloadn (pc := 11) E 2 dX8_set_11 rfl rfl ?_
    refine k_iloadn (pc := 12) E 1 dX8_set_12 rfl rfl ?_
    refine k_iconst (pc := 13) E dX8_set_13 ?_
    obtain ⟨z28, hz28, hT⟩ := gl1x hT
    have j5 : ∀ (v6 : Int), ((in32 v6)) → z28 = v6 → gK D vwCl (wdX a cI cJ cS cT) lgX A p l e { frames := 3, cells := 0, slots := 0, locals := 192 } s m args below meth c 4 (gQQ D vwCl (wdX a cI cJ cS cT) lgX A kI in32 below args s) (f_X8_set x0 x1 s0) s0 23 [(0, .ref (a 0)), (1, gI x0), (2, gI x1)] [gI v6, gI x1] := by
      intro v6 hq hz
      have hq27 := hq
      replace hT := gl1y hT hz
      refine k_mr (fun hm_s0 => ?_)
      refine k_callS (pc := 23) (np := 2) (As := [gI x1, gI v6]) (st := []) E (c_X8_outside l D a cI cJ cS cT s0 x1 v6 (by omega) (by omega)) wm_310 wm_1 wm_308 wm_309 (by decide +kernel) ⟨by decide, by decide⟩ rfl (Nat.le_of_ble_eq_true rfl) dX8_set_23 (ro_kk (fun hr7 => ?_))
      have hp8 := f_X8_outside_p x1 v6 (by omega) (by omega) 
      refine k_st (st' := [gI (f_X8_outside x1 v6)]) rfl ?_
      by_cases h9 : (f_X8_outside x1 v6) = 0
      · replace hT := hT.trans (if_pos h9)
        refine k_if_eq_t (pc := 26) (tgt := 32) E (by omega) dX8_set_26 (by decide) h9 ?_
        refine k_aloadn (pc := 32) E 0 dX8_set_32 rfl rfl ?_
        refine k_iloadn (pc := 33) E 1 dX8_set_33 rfl rfl ?_
        refine k_callV (pc := 34) (np := 1) (As := [gI x0]) (st := []) (q0 := 0) E (c_X8_count l D a cI cJ cS cT s0 x0 (by omega)) wm_303 wm_1 wm_312 wm_301 wm_302 (by decide +kernel) rfl rfl ⟨by decide, by decide⟩ rfl (Nat.le_of_ble_eq_true rfl) dX8_set_34 (ro_kk (fun hr10 => ?_))
        refine k_st (st' := [gI (f_X8_count x0 s0)]) rfl ?_
        refine k_istoren (pc := 37) (lv' := [(3, gI (f_X8_count x0 s0)), (0, .ref (a 0)), (1, gI x0), (2, gI x1)]) E dX8_set_37 rfl (by decide) rfl ?_
        refine k_iloadn (pc := 38) E 2 dX8_set_38 rfl rfl ?_
        obtain ⟨z22, hz22, hT⟩ := gl1x hT
        have j15 : ∀ (s16 : gMem), ((fr [37, 38, 39, 59, 60, 61, 62] s0 s16) ∧ (GP s16) ∧ (ST s16) ∧ (EN s16) ∧ (RE s16) ∧ (KF s16) ∧ (KC s16) ∧ (KT s16)) → z22 = s16 → gK D vwCl (wdX a cI cJ cS cT) lgX A p l e { frames := 3, cells := 0, slots := 0, locals := 192 } s m args below meth c 4 (gQQ D vwCl (wdX a cI cJ cS cT) lgX A kI in32 below args s) (f_X8_set x0 x1 s0) s16 117 [(0, .ref (a 0)), (3, gI (f_X8_count x0 s0))] [] := by
          intro s16 hq hz
          obtain ⟨hf_s16, hGP_s16, hST_s16, hEN_s16, hRE_s16, hKF_s16, hKC_s16, hKT_s16⟩ := hq
          replace hT := gl1y hT hz
          refine k_aloadn (pc := 117) E 0 dX8_set_117 rfl rfl ?_
          refine k_getf (pc := 118) (q0 := 0) (f := 2) (v := .ref (a 3)) E inX8 rfl rfl (by decide) wm_274 rfl rfl dX8_set_118 ?_
          refine k_mr (fun hm_s16 => ?_)
          refine k_callV (pc := 121) (np := 0) (As := []) (st := []) (q0 := 3) E (c_X4_forget l D a cI cJ cS cT s16  hKF_s16 hKC_s16 hKT_s16) wm_143 wm_4 wm_313 wm_141 wm_142 (by decide +kernel) rfl rfl ⟨by decide, by decide⟩ rfl (Nat.le_of_ble_eq_true rfl) dX8_set_121 (fun r18 s19 hs19 hr17 => ?_)
          replace hT := gby hT hs19
          have hp20 := f_X4_forget_p  s16  hm_s16 hKF_s16 hKC_s16 hKT_s16 r18 s19 hs19
          obtain ⟨hfc_s19, hm_s19, hp21, hKF_s19, hKC_s19, hKT_s19⟩ := hp20
          have hf_s19 : fr [37, 38, 39, 59, 60, 61, 62] s0 s19 := hf_s16.call (by decide) hfc_s19
          have hGP_s19 : GP s19 := GP_fr hGP_s16 (fun k hk => hfc_s19 k (dj (by decide) k hk))
          have hST_s19 : ST s19 := ST_fr hST_s16 (fun k hk => hfc_s19 k (dj (by decide) k hk))
          have hEN_s19 : EN s19 := EN_fr hEN_s16 (fun k hk => hfc_s19 k (dj (by decide) k hk))
          have hRE_s19 : RE s19 := RE_fr hRE_s16 (fun k hk => hfc_s19 k (dj (by decide) k hk))
          refine k_st (st' := []) rfl ?_
          refine k_iloadn (pc := 124) E 1 dX8_set_124 rfl rfl ?_
          exact k_rho hT (k_iret (pc := 125) E dX8_set_125 (by omega))
        replace hT := hz22
        by_cases h12 : x0 = 0
        · replace hT := hT.trans (if_pos h12)
          refine k_tabIn (pc := 39) (tgt := 64) E dX8_set_39 (by omega) (by omega) (by omega) (by rw [h12]; rfl) (by decide) ?_
          refine k_aloadn (pc := 64) E 1 dX8_set_64 rfl rfl ?_
          refine k_getf (pc := 65) (q0 := 0) (f := 2) (v := .ref (a 3)) E inX8 rfl rfl (by decide) wm_274 rfl rfl dX8_set_65 ?_
          refine k_getf (pc := 68) (q0 := 3) (f := 0) (v := .ref (a 4)) E inX4 rfl rfl (by decide) wm_149 rfl rfl dX8_set_68 ?_
          refine k_iloadn (pc := 71) E 3 dX8_set_71 rfl rfl ?_
          refine k_putfI (pc := 72) (q0 := 4) (f := 2) (k := 59) E tyX6 tyX6_ok nmX6 inX6 rfl rfl (by decide) wm_109 rfl rfl rfl (Nat.le_of_ble_eq_true rfl) rfl rfl (by omega) dX8_set_72 ?_
          obtain ⟨s23, hs23, hT⟩ := glx hT
          refine k_sg hs23.symm ?_
          have hf_s23 : fr [37, 38, 39, 59, 60, 61, 62] s0 s23 := hs23 ▸ hf_s0.set (by decide)
          have hg_s23 : fr [59] s0 s23 := hs23 ▸ (fr.rf _ _).set (by decide)
          have hGP_s23 : GP s23 := hs23 ▸ GP_set hGP_s0 (by omega)
          have hST_s23 : ST s23 := ST_fr hST_s0 (fun k hk => hg_s23 k (dj (by decide) k hk))
          have hEN_s23 : EN s23 := EN_fr hEN_s0 (fun k hk => hg_s23 k (dj (by decide) k hk))
          have hRE_s23 : RE s23 := RE_fr hRE_s0 (fun k hk => hg_s23 k (dj (by decide) k hk))
          have hKF_s23 : KF s23 := KF_fr hKF_s0 (fun k hk => hg_s23 k (dj (by decide) k hk))
          have hKC_s23 : KC s23 := KC_fr hKC_s0 (fun k hk => hg_s23 k (dj (by decide) k hk))
          have hKT_s23 : KT s23 := KT_fr hKT_s0 (fun k hk => hg_s23 k (dj (by decide) k hk))
          refine k_goto (pc := 75) (tgt := 117) E dX8_set_75 (by decide) ?_
          refine k_lv (lv' := [(0, .ref (a 0)), (3, gI (f_X8_count x0 s0))]) [1, 0] rfl ?_
          exact j15 s23 ⟨hf_s23, hGP_s23, hST_s23, hEN_s23, hRE_s23, hKF_s23, hKC_s23, hKT_s23⟩ hT
        · replace hT := hT.trans (if_neg h12)
          by_cases h13 : x0 = 1
          · replace hT := hT.trans (if_pos h13)
            refine k_tabIn (pc := 39) (tgt := 78) E dX8_set_39 (by omega) (by omega) (by omega) (by rw [h13]; rfl) (by decide) ?_
            refine k_aloadn (pc := 78) E 1 dX8_set_78 rfl rfl ?_
            refine k_getf (pc := 79) (q0 := 0) (f := 2) (v := .ref (a 3)) E inX8 rfl rfl (by decide) wm_274 rfl rfl dX8_set_79 ?_
            refine k_getf (pc := 82) (q0 := 3) (f := 0) (v := .ref (a 4)) E inX4 rfl rfl (by decide) wm_149 rfl rfl dX8_set_82 ?_
            refine k_iloadn (pc := 85) E 3 dX8_set_85 rfl rfl ?_
            refine k_putfI (pc := 86) (q0 := 4) (f := 3) (k := 60) E tyX6 tyX6_ok nmX6 inX6 rfl rfl (by decide) wm_113 rfl rfl rfl (Nat.le_of_ble_eq_true rfl) rfl rfl (by omega) dX8_set_86 ?_
            obtain ⟨s24, hs24, hT⟩ := glx hT
            refine k_sg hs24.symm ?_
            have hf_s24 : fr [37, 38, 39, 59, 60, 61, 62] s0 s24 := hs24 ▸ hf_s0.set (by decide)
            have hg_s24 : fr [60] s0 s24 := hs24 ▸ (fr.rf _ _).set (by decide)
            have hGP_s24 : GP s24 := GP_fr hGP_s0 (fun k hk => hg_s24 k (dj (by decide) k hk))
            have hST_s24 : ST s24 := hs24 ▸ ST_set hST_s0 (by omega)
            have hEN_s24 : EN s24 := EN_fr hEN_s0 (fun k hk => hg_s24 k (dj (by decide) k hk))
            have hRE_s24 : RE s24 := RE_fr hRE_s0 (fun k hk => hg_s24 k (dj (by decide) k hk))
            have hKF_s24 : KF s24 := KF_fr hKF_s0 (fun k hk => hg_s24 k (dj (by decide) k hk))
            have hKC_s24 : KC s24 := KC_fr hKC_s0 (fun k hk => hg_s24 k (dj (by decide) k hk))
            have hKT_s24 : KT s24 := KT_fr hKT_s0 (fun k hk => hg_s24 k (dj (by decide) k hk))
            refine k_goto (pc := 89) (tgt := 117) E dX8_set_89 (by decide) ?_
            refine k_lv (lv' := [(0, .ref (a 0)), (3, gI (f_X8_count x0 s0))]) [1, 0] rfl ?_
            exact j15 s24 ⟨hf_s24, hGP_s24, hST_s24, hEN_s24, hRE_s24, hKF_s24, hKC_s24, hKT_s24⟩ hT
          · replace hT := hT.trans (if_neg h13)
            by_cases h14 : x0 = 2
            · replace hT := hT.trans (if_pos h14)
              refine k_tabIn (pc := 39) (tgt := 92) E dX8_set_39 (by omega) (by omega) (by omega) (by rw [h14]; rfl) (by decide) ?_
              refine k_aloadn (pc := 92) E 1 dX8_set_92 rfl rfl ?_
              refine k_getf (pc := 93) (q0 := 0) (f := 2) (v := .ref (a 3)) E inX8 rfl rfl (by decide) wm_274 rfl rfl dX8_set_93 ?_
              refine k_getf (pc := 96) (q0 := 3) (f := 0) (v := .ref (a 4)) E inX4 rfl rfl (by decide) wm_149 rfl rfl dX8_set_96 ?_
              refine k_iloadn (pc := 99) E 3 dX8_set_99 rfl rfl ?_
              refine k_putfI (pc := 100) (q0 := 4) (f := 4) (k := 61) E tyX6 tyX6_ok nmX6 inX6 rfl rfl (by decide) wm_116 rfl rfl rfl (Nat.le_of_ble_eq_true rfl) rfl rfl (by omega) dX8_set_100 ?_
              obtain ⟨s25, hs25, hT⟩ := glx hT
              refine k_sg hs25.symm ?_
              have hf_s25 : fr [37, 38, 39, 59, 60, 61, 62] s0 s25 := hs25 ▸ hf_s0.set (by decide)
              have hg_s25 : fr [61] s0 s25 := hs25 ▸ (fr.rf _ _).set (by decide)
              have hGP_s25 : GP s25 := GP_fr hGP_s0 (fun k hk => hg_s25 k (dj (by decide) k hk))
              have hST_s25 : ST s25 := ST_fr hST_s0 (fun k hk => hg_s25 k (dj (by decide) k hk))
              have hEN_s25 : EN s25 := hs25 ▸ EN_set hEN_s0 (by omega)
              have hRE_s25 : RE s25 := RE_fr hRE_s0 (fun k hk => hg_s25 k (dj (by decide) k hk))
              have hKF_s25 : KF s25 := KF_fr hKF_s0 (fun k hk => hg_s25 k (dj (by decide) k hk))
              have hKC_s25 : KC s25 := KC_fr hKC_s0 (fun k hk => hg_s25 k (dj (by decide) k hk))
              have hKT_s25 : KT s25 := KT_fr hKT_s0 (fun k hk => hg_s25 k (dj (by decide) k hk))
              refine k_goto (pc := 103) (tgt := 117) E dX8_set_103 (by decide) ?_
              refine k_lv (lv' := [(0, .ref (a 0)), (3, gI (f_X8_count x0 s0))]) [1, 0] rfl ?_
              exact j15 s25 ⟨hf_s25, hGP_s25, hST_s25, hEN_s25, hRE_s25, hKF_s25, hKC_s25, hKT_s25⟩ hT
            · replace hT := hT.trans (if_neg h14)
              refine k_tabOut (pc := 39) (tgt := 106) E dX8_set_39 (by omega) (by omega) (by decide) ?_
              refine k_aloadn (pc := 106) E 1 dX8_set_106 rfl rfl ?_
              refine k_getf (pc := 107) (q0 := 0) (f := 2) (v := .ref (a 3)) E inX8 rfl rfl (by decide) wm_274 rfl rfl dX8_set_107 ?_
              refine k_getf (pc := 110) (q0 := 3) (f := 0) (v := .ref (a 4)) E inX4 rfl rfl (by decide) wm_149 rfl rfl dX8_set_110 ?_
              refine k_iloadn (pc := 113) E 3 dX8_set_113 rfl rfl ?_
              refine k_putfI (pc := 114) (q0 := 4) (f := 5) (k := 62) E tyX6 tyX6_ok nmX6 inX6 rfl rfl (by decide) wm_119 rfl rfl rfl (Nat.le_of_ble_eq_true rfl) rfl rfl (by omega) dX8_set_114 ?_
              obtain ⟨s26, hs26, hT⟩ := glx hT
              refine k_sg hs26.symm ?_
              have hf_s26 : fr [37, 38, 39, 59, 60, 61, 62] s0 s26 := hs26 ▸ hf_s0.set (by decide)
              have hg_s26 : fr [62] s0 s26 := hs26 ▸ (fr.rf _ _).set (by decide)
              have hGP_s26 : GP s26 := GP_fr hGP_s0 (fun k hk => hg_s26 k (dj (by decide) k hk))
              have hST_s26 : ST s26 := ST_fr hST_s0 (fun k hk => hg_s26 k (dj (by decide) k hk))
              have hEN_s26 : EN s26 := EN_fr hEN_s0 (fun k hk => hg_s26 k (dj (by decide) k hk))
              have hRE_s26 : RE s26 := hs26 ▸ RE_set hRE_s0 (by omega)
              have hKF_s26 : KF s26 := KF_fr hKF_s0 (fun k hk => hg_s26 k (dj (by decide) k hk))
              have hKC_s26 : KC s26 := KC_fr hKC_s0 (fun k hk => hg_s26 k (dj (by decide) k hk))
              have hKT_s26 : KT s26 := KT_fr hKT_s0 (fun k hk => hg_s26 k (dj (by decide) k hk))
              refine k_lv (lv' := [(0, .ref (a 0)), (3, gI (f_X8_count x0 s0))]) [1, 0] rfl ?_
              exact j15 s26 ⟨hf_s26, hGP_s26, hST_s26, hEN_s26, hRE_s26, hKF_s26, hKC_s26, hKT_s26⟩ hT
      · replace hT := hT.trans (if_neg h9)
        refine k_if_eq_f (pc := 26) (tgt := 32) E (by omega) dX8_set_26 (by decide) h9 ?_
        refine k_bipush (pc := 29) E dX8_set_29 (by decide) ?_
        exact k_rho hT (k_iret (pc := 31) E dX8_set_31 (by omega))
    replace hT := hz28
    by_cases h4 : x0 < 2
    · replace hT := hT.trans (if_pos h4)
      refine k_icmp_ge_f (pc := 14) (tgt := 22) E (by omega) (by omega) dX8_set_14 (by decide) h4 ?_
      refine k_ldc (pc := 17) (n := 65536) E dX8_set_17 wm_311 (by decide) ?_
      refine k_goto (pc := 19) (tgt := 23) E dX8_set_19 (by decide) ?_
      exact j5 65536 (by omega) hT
    · replace hT := hT.trans (if_neg h4)
      refine k_icmp_ge_t (pc := 14) (tgt := 22) E (by omega) (by omega) dX8_set_14 (by decide) h4 ?_
      refine k_iconst (pc := 22) E dX8_set_22 ?_
      exact j5 3 (by omega) hT
  · replace hT := hT.trans (if_neg h3)
    refine k_if_eq_f (pc := 5) (tgt := 11) E (by omega) dX8_set_5 (by decide) h3 ?_
    refine k_bipush (pc := 8) E dX8_set_8 (by decide) ?_
    exact k_rho hT (k_iret (pc := 10) E dX8_set_10 (by omega))

def f_X8_feed (x0 : Int) (x1 : Int) (x2 : Int) (x3 : Int) (x4 : Int) (x5 : Int) (s0 : gMem) : gRes := (if x0 < 1 then ((-2), s0) else (if 5 < x0 then ((-2), s0) else (if (f_X8_noByte x1) = 0 then (if (f_X8_noByte x2) = 0 then (if (f_X8_noByte x3) = 0 then (if (f_X8_noByte x4) = 0 then (if (f_X8_noByte x5) = 0 then (if 160 < ((s0 52 0) + x0) then ((-4), s0) else gb (f_X3_append x1 s0) (fun r22 s23 => (gl ((if 1 < x0 then gb (f_X3_append x2 s23) (fun r60 s61 => s61) else s23)) (fun s28 => (gl ((if 2 < x0 then gb (f_X3_append x3 s28) (fun r54 s55 => s55) else s28)) (fun s31 => (gl ((if 3 < x0 then gb (f_X3_append x4 s31) (fun r48 s49 => s49) else s31)) (fun s34 => (gl ((if 4 < x0 then gb (f_X3_append x5 s34) (fun r42 s43 => s43) else s34)) (fun s37 => ((s37 52 0), s37))))))))))) else ((-2), s0)) else ((-2), s0)) else ((-2), s0)) else ((-2), s0)) else ((-2), s0))))
theorem f_X8_feed_e (x0 : Int) (x1 : Int) (x2 : Int) (x3 : Int) (x4 : Int) (x5 : Int) (s0 : gMem) : f_X8_feed x0 x1 x2 x3 x4 x5 s0 = (if x0 < 1 then ((-2), s0) else (if 5 < x0 then ((-2), s0) else (if (f_X8_noByte x1) = 0 then (if (f_X8_noByte x2) = 0 then (if (f_X8_noByte x3) = 0 then (if (f_X8_noByte x4) = 0 then (if (f_X8_noByte x5) = 0 then (if 160 < ((s0 52 0) + x0) then ((-4), s0) else gb (f_X3_append x1 s0) (fun r22 s23 => (gl ((if 1 < x0 then gb (f_X3_append x2 s23) (fun r60 s61 => s61) else s23)) (fun s28 => (gl ((if 2 < x0 then gb (f_X3_append x3 s28) (fun r54 s55 => s55) else s28)) (fun s31 => (gl ((if 3 < x0 then gb (f_X3_append x4 s31) (fun r48 s49 => s49) else s31)) (fun s34 => (gl ((if 4 < x0 then gb (f_X3_append x5 s34) (fun r42 s43 => s43) else s34)) (fun s37 => ((s37 52 0), s37))))))))))) else ((-2), s0)) else ((-2), s0)) else ((-2), s0)) else ((-2), s0)) else ((-2), s0)))) := rfl
set_option maxRecDepth 100000 in
set_option maxHeartbeats 4000000 in
theorem f_X8_feed_p (x0 : Int) (x1 : Int) (x2 : Int) (x3 : Int) (x4 : Int) (x5 : Int) (s0 : gMem) (hx0 : in32 x0) (hx1 : in32 x1) (hx2 : in32 x2) (hx3 : in32 x3) (hx4 : in32 x4) (hx5 : in32 x5) (hm_s0 : gMR lgX s0) (hpre0 : RS s0) (rZ : Int) (sZ : gMem) (hres : f_X8_feed x0 x1 x2 x3 x4 x5 s0 = (rZ, sZ)) : (fr [33, 52] s0 sZ) ∧ (gMR lgX sZ) ∧ (in32 rZ) ∧ (RS sZ) := by
  have hT := f_X8_feed_e x0 x1 x2 x3 x4 x5 s0
  have hf_s0 : fr [33, 52] s0 s0 := fr.rf _ _
  have hRS_s0 := hpre0
  by_cases h1 : x0 < 1
  · replace hT := hT.trans (if_pos h1)
    obtain ⟨rfl, rfl⟩ := Prod.mk.inj (hT.symm.trans hres)
    exact ⟨hf_s0, hm_s0, (by omega), hRS_s0⟩
  · replace hT := hT.trans (if_neg h1)
    by_cases h2 : 5 < x0
    · replace hT := hT.trans (if_pos h2)
      obtain ⟨rfl, rfl⟩ := Prod.mk.inj (hT.symm.trans hres)
      exact ⟨hf_s0, hm_s0, (by omega), hRS_s0⟩
    · replace hT := hT.trans (if_neg h2)
      have hp4 := f_X8_noByte_p x1 (by omega) 
      by_cases h5 : (f_X8_noByte x1) = 0
      · replace hT := hT.trans (if_pos h5)
        have hp7 := f_X8_noByte_p x2 (by omega) 
        by_cases h8 : (f_X8_noByte x2) = 0
        · replace hT := hT.trans (if_pos h8)
          have hp10 := f_X8_noByte_p x3 (by omega) 
          by_cases h11 : (f_X8_noByte x3) = 0
          · replace hT := hT.trans (if_pos h11)
            have hp13 := f_X8_noByte_p x4 (by omega) 
            by_cases h14 : (f_X8_noByte x4) = 0
            · replace hT := hT.trans (if_pos h14)
              have hp16 := f_X8_noByte_p x5 (by omega) 
              by_cases h17 : (f_X8_noByte x5) = 0
              · replace hT := hT.trans (if_pos h17)
                have hr18 := (hm_s0 52 0).1 rfl
                have hi19 := hRS_s0 0
                by_cases h20 : 160 < ((s0 52 0) + x0)
                · replace hT := hT.trans (if_pos h20)
                  obtain ⟨rfl, rfl⟩ := Prod.mk.inj (hT.symm.trans hres)
                  exact ⟨hf_s0, hm_s0, (by omega), hRS_s0⟩
                · replace hT := hT.trans (if_neg h20)
                  obtain ⟨r22, s23, hs23⟩ : ∃ rr ss, (f_X3_append x1 s0) = (rr, ss) := ⟨_, _, rfl⟩
                  replace hT := gby hT hs23
                  have hp24 := f_X3_append_p x1 s0 (by omega) hm_s0 hRS_s0 r22 s23 hs23
                  obtain ⟨hfc_s23, hm_s23, hp25, hRS_s23⟩ := hp24
                  have hf_s23 : fr [33, 52] s0 s23 := hf_s0.call (by decide) hfc_s23
                  obtain ⟨z58, hz58, hT⟩ := gl1x hT
                  have j27 : ∀ (s28 : gMem), ((fr [33, 52] s0 s28) ∧ (gMR lgX s28) ∧ (RS s28)) → z58 = s28 → (fr [33, 52] s0 sZ) ∧ (gMR lgX sZ) ∧ (in32 rZ) ∧ (RS sZ) := by
                    intro s28 hq hz
                    obtain ⟨hf_s28, hm_s28, hRS_s28⟩ := hq
                    replace hT := gl1y hT hz
                    obtain ⟨z52, hz52, hT⟩ := gl1x hT
                    have j30 : ∀ (s31 : gMem), ((fr [33, 52] s0 s31) ∧ (gMR lgX s31) ∧ (RS s31)) → z52 = s31 → (fr [33, 52] s0 sZ) ∧ (gMR lgX sZ) ∧ (in32 rZ) ∧ (RS sZ) := by
                      intro s31 hq hz
                      obtain ⟨hf_s31, hm_s31, hRS_s31⟩ := hq
                      replace hT := gl1y hT hz
                      obtain ⟨z46, hz46, hT⟩ := gl1x hT
                      have j33 : ∀ (s34 : gMem), ((fr [33, 52] s0 s34) ∧ (gMR lgX s34) ∧ (RS s34)) → z46 = s34 → (fr [33, 52] s0 sZ) ∧ (gMR lgX sZ) ∧ (in32 rZ) ∧ (RS sZ) := by
                        intro s34 hq hz
                        obtain ⟨hf_s34, hm_s34, hRS_s34⟩ := hq
                        replace hT := gl1y hT hz
                        obtain ⟨z40, hz40, hT⟩ := gl1x hT
                        have j36 : ∀ (s37 : gMem), ((fr [33, 52] s0 s37) ∧ (gMR lgX s37) ∧ (RS s37)) → z40 = s37 → (fr [33, 52] s0 sZ) ∧ (gMR lgX sZ) ∧ (in32 rZ) ∧ (RS sZ) := by
                          intro s37 hq hz
                          obtain ⟨hf_s37, hm_s37, hRS_s37⟩ := hq
                          replace hT := gl1y hT hz
                          have hr38 := (hm_s37 52 0).1 rfl
                          have hi39 := hRS_s37 0
                          obtain ⟨rfl, rfl⟩ := Prod.mk.inj (hT.symm.trans hres)
                          exact ⟨hf_s37, hm_s37, (by omega), hRS_s37⟩
                        replace hT := hz40
                        by_cases h35 : 4 < x0
                        · replace hT := hT.trans (if_pos h35)
                          obtain ⟨r42, s43, hs43⟩ : ∃ rr ss, (f_X3_append x5 s34) = (rr, ss) := ⟨_, _, rfl⟩
                          replace hT := gby hT hs43
                          have hp44 := f_X3_append_p x5 s34 (by omega) hm_s34 hRS_s34 r42 s43 hs43
                          obtain ⟨hfc_s43, hm_s43, hp45, hRS_s43⟩ := hp44
                          have hf_s43 : fr [33, 52] s0 s43 := hf_s34.call (by decide) hfc_s43
                          exact j36 s43 ⟨hf_s43, hm_s43, hRS_s43⟩ hT
                        · replace hT := hT.trans (if_neg h35)
                          exact j36 s34 ⟨hf_s34, hm_s34, hRS_s34⟩ hT
                      replace hT := hz46
                      by_cases h32 : 3 < x0
                      · replace hT := hT.trans (if_pos h32)
                        obtain ⟨r48, s49, hs49⟩ : ∃ rr ss, (f_X3_append x4 s31) = (rr, ss) := ⟨_, _, rfl⟩
                        replace hT := gby hT hs49
                        have hp50 := f_X3_append_p x4 s31 (by omega) hm_s31 hRS_s31 r48 s49 hs49
                        obtain ⟨hfc_s49, hm_s49, hp51, hRS_s49⟩ := hp50
                        have hf_s49 : fr [33, 52] s0 s49 := hf_s31.call (by decide) hfc_s49
                        exact j33 s49 ⟨hf_s49, hm_s49, hRS_s49⟩ hT
                      · replace hT := hT.trans (if_neg h32)
                        exact j33 s31 ⟨hf_s31, hm_s31, hRS_s31⟩ hT
                    replace hT := hz52
                    by_cases h29 : 2 < x0
                    · replace hT := hT.trans (if_pos h29)
                      obtain ⟨r54, s55, hs55⟩ : ∃ rr ss, (f_X3_append x3 s28) = (rr, ss) := ⟨_, _, rfl⟩
                      replace hT := gby hT hs55
                      have hp56 := f_X3_append_p x3 s28 (by omega) hm_s28 hRS_s28 r54 s55 hs55
                      obtain ⟨hfc_s55, hm_s55, hp57, hRS_s55⟩ := hp56
                      have hf_s55 : fr [33, 52] s0 s55 := hf_s28.call (by decide) hfc_s55
                      exact j30 s55 ⟨hf_s55, hm_s55, hRS_s55⟩ hT
                    · replace hT := hT.trans (if_neg h29)
                      exact j30 s28 ⟨hf_s28, hm_s28, hRS_s28⟩ hT
                  replace hT := hz58
                  by_cases h26 : 1 < x0
                  · replace hT := hT.trans (if_pos h26)
                    obtain ⟨r60, s61, hs61⟩ : ∃ rr ss, (f_X3_append x2 s23) = (rr, ss) := ⟨_, _, rfl⟩
                    replace hT := gby hT hs61
                    have hp62 := f_X3_append_p x2 s23 (by omega) hm_s23 hRS_s23 r60 s61 hs61
                    obtain ⟨hfc_s61, hm_s61, hp63, hRS_s61⟩ := hp62
                    have hf_s61 : fr [33, 52] s0 s61 := hf_s23.call (by decide) hfc_s61
                    exact j27 s61 ⟨hf_s61, hm_s61, hRS_s61⟩ hT
                  · replace hT := hT.trans (if_neg h26)
                    exact j27 s23 ⟨hf_s23, hm_s23, hRS_s23⟩ hT
              · replace hT := hT.trans (if_neg h17)
                obtain ⟨rfl, rfl⟩ := Prod.mk.inj (hT.symm.trans hres)
                exact ⟨hf_s0, hm_s0, (by omega), hRS_s0⟩
            · replace hT := hT.trans (if_neg h14)
              obtain ⟨rfl, rfl⟩ := Prod.mk.inj (hT.symm.trans hres)
              exact ⟨hf_s0, hm_s0, (by omega), hRS_s0⟩
          · replace hT := hT.trans (if_neg h11)
            obtain ⟨rfl, rfl⟩ := Prod.mk.inj (hT.symm.trans hres)
            exact ⟨hf_s0, hm_s0, (by omega), hRS_s0⟩
        · replace hT := hT.trans (if_neg h8)
          obtain ⟨rfl, rfl⟩ := Prod.mk.inj (hT.symm.trans hres)
          exact ⟨hf_s0, hm_s0, (by omega), hRS_s0⟩
      · replace hT := hT.trans (if_neg h5)
        obtain ⟨rfl, rfl⟩ := Prod.mk.inj (hT.symm.trans hres)
        exact ⟨hf_s0, hm_s0, (by omega), hRS_s0⟩
set_option maxRecDepth 100000 in
set_option maxHeartbeats 4000000 in
theorem c_X8_feed (l : Launch) (D : va_G) (a : Nat → Nat) (cI cJ cS cT : ClassId) (s0 : gMem) (x0 : Int) (x1 : Int) (x2 : Int) (x3 : Int) (x4 : Int) (x5 : Int) (hx0 : in32 x0) (hx1 : in32 x1) (hx2 : in32 x2) (hx3 : in32 x3) (hx4 : in32 x4) (hx5 : in32 x5) (hpre0 : RS s0) : gC l yX8_feed cX8_feed 7 (some .int) 3 192 D vwCl (gT cI cJ cS cT) (wdX a cI cJ cS cT) lgX kI in32 [.ref (a 0), gI x0, gI x1, gI x2, gI x3, gI x4, gI x5] s0 (f_X8_feed x0 x1 x2 x3 x4 x5 s0) := by
  refine gC_of (by decide +kernel) (hwdX a cI cJ cS cT) (Nat.le_of_ble_eq_true rfl) ?_
  intro A p e R s m args below meth c hR E
  subst hR
  have hT := f_X8_feed_e x0 x1 x2 x3 x4 x5 s0
  have hf_s0 : fr [33, 52] s0 s0 := fr.rf _ _
  refine k_lv0 (lv' := [(0, .ref (a 0)), (1, gI x0), (2, gI x1), (3, gI x2), (4, gI x3), (5, gI x4), (6, gI x5)]) rfl ?_
  refine k_mr (fun hm_s0 => ?_)
  have hRS_s0 := hpre0
  refine k_iloadn (pc := 0) E 1 dX8_feed_0 rfl rfl ?_
  refine k_iconst (pc := 1) E dX8_feed_1 ?_
  by_cases h1 : x0 < 1
  · replace hT := hT.trans (if_pos h1)
    refine k_icmp_lt_t (pc := 2) (tgt := 48) E (by omega) (by omega) dX8_feed_2 (by decide) h1 ?_
    refine k_bipush (pc := 48) E dX8_feed_48 (by decide) ?_
    exact k_rho hT (k_iret (pc := 50) E dX8_feed_50 (by omega))
  · replace hT := hT.trans (if_neg h1)
    refine k_icmp_lt_f (pc := 2) (tgt := 48) E (by omega) (by omega) dX8_feed_2 (by decide) h1 ?_
    refine k_iloadn (pc := 5) E 1 dX8_feed_5 rfl rfl ?_
    refine k_iconst (pc := 6) E dX8_feed_6 ?_
    by_cases h2 : 5 < x0
    · replace hT := hT.trans (if_pos h2)
      refine k_icmp_gt_t (pc := 7) (tgt := 48) E (by omega) (by omega) dX8_feed_7 (by decide) h2 ?_
      refine k_bipush (pc := 48) E dX8_feed_48 (by decide) ?_
      exact k_rho hT (k_iret (pc := 50) E dX8_feed_50 (by omega))
    · replace hT := hT.trans (if_neg h2)
      refine k_icmp_gt_f (pc := 7) (tgt := 48) E (by omega) (by omega) dX8_feed_7 (by decide) h2 ?_
      refine k_iloadn (pc := 10) E 2 dX8_feed_10 rfl rfl ?_
      refine k_mr (fun hm_s0 => ?_)
      refine k_callS (pc := 11) (np := 1) (As := [gI x1]) (st := []) E (c_X8_noByte l D a cI cJ cS cT s0 x1 (by omega)) wm_320 wm_1 wm_318 wm_319 (by decide +kernel) ⟨by decide, by decide⟩ rfl (Nat.le_of_ble_eq_true rfl) dX8_feed_11 (ro_kk (fun hr3 => ?_))
      have hp4 := f_X8_noByte_p x1 (by omega) 
      refine k_st (st' := [gI (f_X8_noByte x1)]) rfl ?_
      by_cases h5 : (f_X8_noByte x1) = 0
      · replace hT := hT.trans (if_pos h5)
        refine k_if_ne_f (pc := 14) (tgt := 48) E (by omega) dX8_feed_14 (by decide) h5 ?_
        refine k_iloadn (pc := 17) E 3 dX8_feed_17 rfl rfl ?_
        refine k_mr (fun hm_s0 => ?_)
        refine k_callS (pc := 18) (np := 1) (As := [gI x2]) (st := []) E (c_X8_noByte l D a cI cJ cS cT s0 x2 (by omega)) wm_320 wm_1 wm_318 wm_319 (by decide +kernel) ⟨by decide, by decide⟩ rfl (Nat.le_of_ble_eq_true rfl) dX8_feed_18 (ro_kk (fun hr6 => ?_))
        have hp7 := f_X8_noByte_p x2 (by omega) 
        refine k_st (st' := [gI (f_X8_noByte x2)]) rfl ?_
        by_cases h8 : (f_X8_noByte x2) = 0
        · replace hT := hT.trans (if_pos h8)
          refine k_if_ne_f (pc := 21) (tgt := 48) E (by omega) dX8_feed_21 (by decide) h8 ?_
          refine k_iload (pc := 24) E 4 dX8_feed_24 rfl ?_
          refine k_mr (fun hm_s0 => ?_)
          refine k_callS (pc := 26) (np := 1) (As := [gI x3]) (st := []) E (c_X8_noByte l D a cI cJ cS cT s0 x3 (by omega)) wm_320 wm_1 wm_318 wm_319 (by decide +kernel) ⟨by decide, by decide⟩ rfl (Nat.le_of_ble_eq_true rfl) dX8_feed_26 (ro_kk (fun hr9 => ?_))
          have hp10 := f_X8_noByte_p x3 (by omega) 
          refine k_st (st' := [gI (f_X8_noByte x3)]) rfl ?_
          by_cases h11 : (f_X8_noByte x3) = 0
          · replace hT := hT.trans (if_pos h11)
            refine k_if_ne_f (pc := 29) (tgt := 48) E (by omega) dX8_feed_29 (by decide) h11 ?_
            refine k_iload (pc := 32) E 5 dX8_feed_32 rfl ?_
            refine k_mr (fun hm_s0 => ?_)
            refine k_callS (pc := 34) (np := 1) (As := [gI x4]) (st := []) E (c_X8_noByte l D a cI cJ cS cT s0 x4 (by omega)) wm_320 wm_1 wm_318 wm_319 (by decide +kernel) ⟨by decide, by decide⟩ rfl (Nat.le_of_ble_eq_true rfl) dX8_feed_34 (ro_kk (fun hr12 => ?_))
            have hp13 := f_X8_noByte_p x4 (by omega) 
            refine k_st (st' := [gI (f_X8_noByte x4)]) rfl ?_
            by_cases h14 : (f_X8_noByte x4) = 0
            · replace hT := hT.trans (if_pos h14)
              refine k_if_ne_f (pc := 37) (tgt := 48) E (by omega) dX8_feed_37 (by decide) h14 ?_
              refine k_iload (pc := 40) E 6 dX8_feed_40 rfl ?_
              refine k_mr (fun hm_s0 => ?_)
              refine k_callS (pc := 42) (np := 1) (As := [gI x5]) (st := []) E (c_X8_noByte l D a cI cJ cS cT s0 x5 (by omega)) wm_320 wm_1 wm_318 wm_319 (by decide +kernel) ⟨by decide, by decide⟩ rfl (Nat.le_of_ble_eq_true rfl) dX8_feed_42 (ro_kk (fun hr15 => ?_))
              have hp16 := f_X8_noByte_p x5 (by omega) 
              refine k_st (st' := [gI (f_X8_noByte x5)]) rfl ?_
              by_cases h17 : (f_X8_noByte x5) = 0
              · replace hT := hT.trans (if_pos h17)
                refine k_if_eq_t (pc := 45) (tgt := 51) E (by omega) dX8_feed_45 (by decide) h17 ?_
                refine k_aloadn (pc := 51) E 0 dX8_feed_51 rfl rfl ?_
                refine k_getf (pc := 52) (q0 := 0) (f := 1) (v := .ref (a 2)) E inX8 rfl rfl (by decide) wm_273 rfl rfl dX8_feed_52 ?_
                refine k_getfI (pc := 55) (q0 := 2) (f := 3) (k := 52) E inX3 rfl rfl (by decide) wm_62 rfl rfl rfl dX8_feed_55 (fun hr18 => ?_)
                have hi19 := hRS_s0 0
                refine k_iloadn (pc := 58) E 1 dX8_feed_58 rfl rfl ?_
                refine k_iadd (pc := 59) E dX8_feed_59 ?_
                refine k_sipush (pc := 60) E dX8_feed_60 (by decide) ?_
                by_cases h20 : 160 < ((s0 52 0) + x0)
                · replace hT := hT.trans (if_pos h20)
                  refine k_icmp_le_f (pc := 63) (tgt := 69) E (by omega) (by omega) dX8_feed_63 (by decide) h20 ?_
                  refine k_bipush (pc := 66) E dX8_feed_66 (by decide) ?_
                  exact k_rho hT (k_iret (pc := 68) E dX8_feed_68 (by omega))
                · replace hT := hT.trans (if_neg h20)
                  refine k_icmp_le_t (pc := 63) (tgt := 69) E (by omega) (by omega) dX8_feed_63 (by decide) h20 ?_
                  refine k_aloadn (pc := 69) E 0 dX8_feed_69 rfl rfl ?_
                  refine k_getf (pc := 70) (q0 := 0) (f := 1) (v := .ref (a 2)) E inX8 rfl rfl (by decide) wm_273 rfl rfl dX8_feed_70 ?_
                  refine k_iloadn (pc := 73) E 2 dX8_feed_73 rfl rfl ?_
                  refine k_mr (fun hm_s0 => ?_)
                  refine k_callV (pc := 74) (np := 1) (As := [gI x1]) (st := []) (q0 := 2) E (c_X3_append l D a cI cJ cS cT s0 x1 (by omega) hRS_s0) wm_324 wm_3 wm_321 wm_322 wm_323 (by decide +kernel) rfl rfl ⟨by decide, by decide⟩ rfl (Nat.le_of_ble_eq_true rfl) dX8_feed_74 (fun r22 s23 hs23 hr21 => ?_)
                  replace hT := gby hT hs23
                  have hp24 := f_X3_append_p x1 s0 (by omega) hm_s0 hRS_s0 r22 s23 hs23
                  obtain ⟨hfc_s23, hm_s23, hp25, hRS_s23⟩ := hp24
                  have hf_s23 : fr [33, 52] s0 s23 := hf_s0.call (by decide) hfc_s23
                  refine k_st (st' := []) rfl ?_
                  refine k_iloadn (pc := 77) E 1 dX8_feed_77 rfl rfl ?_
                  refine k_iconst (pc := 78) E dX8_feed_78 ?_
                  obtain ⟨z58, hz58, hT⟩ := gl1x hT
                  have j27 : ∀ (s28 : gMem), ((fr [33, 52] s0 s28) ∧ (RS s28)) → z58 = s28 → gK D vwCl (wdX a cI cJ cS cT) lgX A p l e { frames := 3, cells := 0, slots := 0, locals := 192 } s m args below meth c 7 (gQQ D vwCl (wdX a cI cJ cS cT) lgX A kI in32 below args s) (f_X8_feed x0 x1 x2 x3 x4 x5 s0) s28 90 [(0, .ref (a 0)), (1, gI x0), (4, gI x3), (5, gI x4), (6, gI x5)] [] := by
                    intro s28 hq hz
                    obtain ⟨hf_s28, hRS_s28⟩ := hq
                    replace hT := gl1y hT hz
                    refine k_iloadn (pc := 90) E 1 dX8_feed_90 rfl rfl ?_
                    refine k_iconst (pc := 91) E dX8_feed_91 ?_
                    obtain ⟨z52, hz52, hT⟩ := gl1x hT
                    have j30 : ∀ (s31 : gMem), ((fr [33, 52] s0 s31) ∧ (RS s31)) → z52 = s31 → gK D vwCl (wdX a cI cJ cS cT) lgX A p l e { frames := 3, cells := 0, slots := 0, locals := 192 } s m args below meth c 7 (gQQ D vwCl (wdX a cI cJ cS cT) lgX A kI in32 below args s) (f_X8_feed x0 x1 x2 x3 x4 x5 s0) s31 104 [(0, .ref (a 0)), (1, gI x0), (5, gI x4), (6, gI x5)] [] := by
                      intro s31 hq hz
                      obtain ⟨hf_s31, hRS_s31⟩ := hq
                      replace hT := gl1y hT hz
                      refine k_iloadn (pc := 104) E 1 dX8_feed_104 rfl rfl ?_
                      refine k_iconst (pc := 105) E dX8_feed_105 ?_
                      obtain ⟨z46, hz46, hT⟩ := gl1x hT
                      have j33 : ∀ (s34 : gMem), ((fr [33, 52] s0 s34) ∧ (RS s34)) → z46 = s34 → gK D vwCl (wdX a cI cJ cS cT) lgX A p l e { frames := 3, cells := 0, slots := 0, locals := 192 } s m args below meth c 7 (gQQ D vwCl (wdX a cI cJ cS cT) lgX A kI in32 below args s) (f_X8_feed x0 x1 x2 x3 x4 x5 s0) s34 118 [(0, .ref (a 0)), (1, gI x0), (6, gI x5)] [] := by
                        intro s34 hq hz
                        obtain ⟨hf_s34, hRS_s34⟩ := hq
                        replace hT := gl1y hT hz
                        refine k_iloadn (pc := 118) E 1 dX8_feed_118 rfl rfl ?_
                        refine k_iconst (pc := 119) E dX8_feed_119 ?_
                        obtain ⟨z40, hz40, hT⟩ := gl1x hT
                        have j36 : ∀ (s37 : gMem), ((fr [33, 52] s0 s37) ∧ (RS s37)) → z40 = s37 → gK D vwCl (wdX a cI cJ cS cT) lgX A p l e { frames := 3, cells := 0, slots := 0, locals := 192 } s m args below meth c 7 (gQQ D vwCl (wdX a cI cJ cS cT) lgX A kI in32 below args s) (f_X8_feed x0 x1 x2 x3 x4 x5 s0) s37 132 [(0, .ref (a 0))] [] := by
                          intro s37 hq hz
                          obtain ⟨hf_s37, hRS_s37⟩ := hq
                          replace hT := gl1y hT hz
                          refine k_aloadn (pc := 132) E 0 dX8_feed_132 rfl rfl ?_
                          refine k_getf (pc := 133) (q0 := 0) (f := 1) (v := .ref (a 2)) E inX8 rfl rfl (by decide) wm_273 rfl rfl dX8_feed_133 ?_
                          refine k_getfI (pc := 136) (q0 := 2) (f := 3) (k := 52) E inX3 rfl rfl (by decide) wm_62 rfl rfl rfl dX8_feed_136 (fun hr38 => ?_)
                          have hi39 := hRS_s37 0
                          exact k_rho hT (k_iret (pc := 139) E dX8_feed_139 (by omega))
                        replace hT := hz40
                        by_cases h35 : 4 < x0
                        · replace hT := hT.trans (if_pos h35)
                          refine k_icmp_le_f (pc := 120) (tgt := 132) E (by omega) (by omega) dX8_feed_120 (by decide) h35 ?_
                          refine k_aloadn (pc := 123) E 0 dX8_feed_123 rfl rfl ?_
                          refine k_getf (pc := 124) (q0 := 0) (f := 1) (v := .ref (a 2)) E inX8 rfl rfl (by decide) wm_273 rfl rfl dX8_feed_124 ?_
                          refine k_iload (pc := 127) E 2 dX8_feed_127 rfl ?_
                          refine k_mr (fun hm_s34 => ?_)
                          refine k_callV (pc := 129) (np := 1) (As := [gI x5]) (st := []) (q0 := 2) E (c_X3_append l D a cI cJ cS cT s34 x5 (by omega) hRS_s34) wm_324 wm_3 wm_321 wm_322 wm_323 (by decide +kernel) rfl rfl ⟨by decide, by decide⟩ rfl (Nat.le_of_ble_eq_true rfl) dX8_feed_129 (fun r42 s43 hs43 hr41 => ?_)
                          replace hT := gby hT hs43
                          have hp44 := f_X3_append_p x5 s34 (by omega) hm_s34 hRS_s34 r42 s43 hs43
                          obtain ⟨hfc_s43, hm_s43, hp45, hRS_s43⟩ := hp44
                          have hf_s43 : fr [33, 52] s0 s43 := hf_s34.call (by decide) hfc_s43
                          refine k_st (st' := []) rfl ?_
                          refine k_lv (lv' := [(0, .ref (a 0))]) [0] rfl ?_
                          exact j36 s43 ⟨hf_s43, hRS_s43⟩ hT
                        · replace hT := hT.trans (if_neg h35)
                          refine k_icmp_le_t (pc := 120) (tgt := 132) E (by omega) (by omega) dX8_feed_120 (by decide) h35 ?_
                          refine k_lv (lv' := [(0, .ref (a 0))]) [0] rfl ?_
                          exact j36 s34 ⟨hf_s34, hRS_s34⟩ hT
                      replace hT := hz46
                      by_cases h32 : 3 < x0
                      · replace hT := hT.trans (if_pos h32)
                        refine k_icmp_le_f (pc := 106) (tgt := 118) E (by omega) (by omega) dX8_feed_106 (by decide) h32 ?_
                        refine k_aloadn (pc := 109) E 0 dX8_feed_109 rfl rfl ?_
                        refine k_getf (pc := 110) (q0 := 0) (f := 1) (v := .ref (a 2)) E inX8 rfl rfl (by decide) wm_273 rfl rfl dX8_feed_110 ?_
                        refine k_iload (pc := 113) E 2 dX8_feed_113 rfl ?_
                        refine k_mr (fun hm_s31 => ?_)
                        refine k_callV (pc := 115) (np := 1) (As := [gI x4]) (st := []) (q0 := 2) E (c_X3_append l D a cI cJ cS cT s31 x4 (by omega) hRS_s31) wm_324 wm_3 wm_321 wm_322 wm_323 (by decide +kernel) rfl rfl ⟨by decide, by decide⟩ rfl (Nat.le_of_ble_eq_true rfl) dX8_feed_115 (fun r48 s49 hs49 hr47 => ?_)
                        replace hT := gby hT hs49
                        have hp50 := f_X3_append_p x4 s31 (by omega) hm_s31 hRS_s31 r48 s49 hs49
                        obtain ⟨hfc_s49, hm_s49, hp51, hRS_s49⟩ := hp50
                        have hf_s49 : fr [33, 52] s0 s49 := hf_s31.call (by decide) hfc_s49
                        refine k_st (st' := []) rfl ?_
                        refine k_lv (lv' := [(0, .ref (a 0)), (1, gI x0), (6, gI x5)]) [0, 1, 3] rfl ?_
                        exact j33 s49 ⟨hf_s49, hRS_s49⟩ hT
                      · replace hT := hT.trans (if_neg h32)
                        refine k_icmp_le_t (pc := 106) (tgt := 118) E (by omega) (by omega) dX8_feed_106 (by decide) h32 ?_
                        refine k_lv (lv' := [(0, .ref (a 0)), (1, gI x0), (6, gI x5)]) [0, 1, 3] rfl ?_
                        exact j33 s31 ⟨hf_s31, hRS_s31⟩ hT
                    replace hT := hz52
                    by_cases h29 : 2 < x0
                    · replace hT := hT.trans (if_pos h29)
                      refine k_icmp_le_f (pc := 92) (tgt := 104) E (by omega) (by omega) dX8_feed_92 (by decide) h29 ?_
                      refine k_aloadn (pc := 95) E 0 dX8_feed_95 rfl rfl ?_
                      refine k_getf (pc := 96) (q0 := 0) (f := 1) (v := .ref (a 2)) E inX8 rfl rfl (by decide) wm_273 rfl rfl dX8_feed_96 ?_
                      refine k_iload (pc := 99) E 2 dX8_feed_99 rfl ?_
                      refine k_mr (fun hm_s28 => ?_)
                      refine k_callV (pc := 101) (np := 1) (As := [gI x3]) (st := []) (q0 := 2) E (c_X3_append l D a cI cJ cS cT s28 x3 (by omega) hRS_s28) wm_324 wm_3 wm_321 wm_322 wm_323 (by decide +kernel) rfl rfl ⟨by decide, by decide⟩ rfl (Nat.le_of_ble_eq_true rfl) dX8_feed_101 (fun r54 s55 hs55 hr53 => ?_)
                      replace hT := gby hT hs55
                      have hp56 := f_X3_append_p x3 s28 (by omega) hm_s28 hRS_s28 r54 s55 hs55
                      obtain ⟨hfc_s55, hm_s55, hp57, hRS_s55⟩ := hp56
                      have hf_s55 : fr [33, 52] s0 s55 := hf_s28.call (by decide) hfc_s55
                      refine k_st (st' := []) rfl ?_
                      refine k_lv (lv' := [(0, .ref (a 0)), (1, gI x0), (5, gI x4), (6, gI x5)]) [0, 1, 3, 4] rfl ?_
                      exact j30 s55 ⟨hf_s55, hRS_s55⟩ hT
                    · replace hT := hT.trans (if_neg h29)
                      refine k_icmp_le_t (pc := 92) (tgt := 104) E (by omega) (by omega) dX8_feed_92 (by decide) h29 ?_
                      refine k_lv (lv' := [(0, .ref (a 0)), (1, gI x0), (5, gI x4), (6, gI x5)]) [0, 1, 3, 4] rfl ?_
                      exact j30 s28 ⟨hf_s28, hRS_s28⟩ hT
                  replace hT := hz58
                  by_cases h26 : 1 < x0
                  · replace hT := hT.trans (if_pos h26)
                    refine k_icmp_le_f (pc := 79) (tgt := 90) E (by omega) (by omega) dX8_feed_79 (by decide) h26 ?_
                    refine k_aloadn (pc := 82) E 0 dX8_feed_82 rfl rfl ?_
                    refine k_getf (pc := 83) (q0 := 0) (f := 1) (v := .ref (a 2)) E inX8 rfl rfl (by decide) wm_273 rfl rfl dX8_feed_83 ?_
                    refine k_iloadn (pc := 86) E 3 dX8_feed_86 rfl rfl ?_
                    refine k_mr (fun hm_s23 => ?_)
                    refine k_callV (pc := 87) (np := 1) (As := [gI x2]) (st := []) (q0 := 2) E (c_X3_append l D a cI cJ cS cT s23 x2 (by omega) hRS_s23) wm_324 wm_3 wm_321 wm_322 wm_323 (by decide +kernel) rfl rfl ⟨by decide, by decide⟩ rfl (Nat.le_of_ble_eq_true rfl) dX8_feed_87 (fun r60 s61 hs61 hr59 => ?_)
                    replace hT := gby hT hs61
                    have hp62 := f_X3_append_p x2 s23 (by omega) hm_s23 hRS_s23 r60 s61 hs61
                    obtain ⟨hfc_s61, hm_s61, hp63, hRS_s61⟩ := hp62
                    have hf_s61 : fr [33, 52] s0 s61 := hf_s23.call (by decide) hfc_s61
                    refine k_st (st' := []) rfl ?_
                    refine k_lv (lv' := [(0, .ref (a 0)), (1, gI x0), (4, gI x3), (5, gI x4), (6, gI x5)]) [0, 1, 4, 5, 6] rfl ?_
                    exact j27 s61 ⟨hf_s61, hRS_s61⟩ hT
                  · replace hT := hT.trans (if_neg h26)
                    refine k_icmp_le_t (pc := 79) (tgt := 90) E (by omega) (by omega) dX8_feed_79 (by decide) h26 ?_
                    refine k_lv (lv' := [(0, .ref (a 0)), (1, gI x0), (4, gI x3), (5, gI x4), (6, gI x5)]) [0, 1, 4, 5, 6] rfl ?_
                    exact j27 s23 ⟨hf_s23, hRS_s23⟩ hT
              · replace hT := hT.trans (if_neg h17)
                refine k_if_eq_f (pc := 45) (tgt := 51) E (by omega) dX8_feed_45 (by decide) h17 ?_
                refine k_bipush (pc := 48) E dX8_feed_48 (by decide) ?_
                exact k_rho hT (k_iret (pc := 50) E dX8_feed_50 (by omega))
            · replace hT := hT.trans (if_neg h14)
              refine k_if_ne_t (pc := 37) (tgt := 48) E (by omega) dX8_feed_37 (by decide) h14 ?_
              refine k_bipush (pc := 48) E dX8_feed_48 (by decide) ?_
              exact k_rho hT (k_iret (pc := 50) E dX8_feed_50 (by omega))
          · replace hT := hT.trans (if_neg h11)
            refine k_if_ne_t (pc := 29) (tgt := 48) E (by omega) dX8_feed_29 (by decide) h11 ?_
            refine k_bipush (pc := 48) E dX8_feed_48 (by decide) ?_
            exact k_rho hT (k_iret (pc := 50) E dX8_feed_50 (by omega))
        · replace hT := hT.trans (if_neg h8)
          refine k_if_ne_t (pc := 21) (tgt := 48) E (by omega) dX8_feed_21 (by decide) h8 ?_
          refine k_bipush (pc := 48) E dX8_feed_48 (by decide) ?_
          exact k_rho hT (k_iret (pc := 50) E dX8_feed_50 (by omega))
      · replace hT := hT.trans (if_neg h5)
        refine k_if_ne_t (pc := 14) (tgt := 48) E (by omega) dX8_feed_14 (by decide) h5 ?_
        refine k_bipush (pc := 48) E dX8_feed_48 (by decide) ?_
        exact k_rho hT (k_iret (pc := 50) E dX8_feed_50 (by omega))

def f_X8_force (x0 : Int) (s0 : gMem) : gRes := (if (f_X8_outside x0 (s0 51 0)) = 0 then gb (f_X4_obey x0 s0) (fun r9 s10 => ((s0 63 0), s10)) else ((-2), s0))
theorem f_X8_force_e (x0 : Int) (s0 : gMem) : f_X8_force x0 s0 = (if (f_X8_outside x0 (s0 51 0)) = 0 then gb (f_X4_obey x0 s0) (fun r9 s10 => ((s0 63 0), s10)) else ((-2), s0)) := rfl
set_option maxRecDepth 100000 in
set_option maxHeartbeats 4000000 in
theorem f_X8_force_p (x0 : Int) (s0 : gMem) (hx0 : in32 x0) (hm_s0 : gMR lgX s0) (hpre0 : LA s0) (hpre1 : MY s0) (hpre2 : KF s0) (hpre3 : KC s0) (hpre4 : KT s0) (rZ : Int) (sZ : gMem) (hres : f_X8_force x0 s0 = (rZ, sZ)) : (fr [37, 38, 39, 63] s0 sZ) ∧ (gMR lgX sZ) ∧ (in32 rZ) ∧ (LA sZ) ∧ (KF sZ) ∧ (KC sZ) ∧ (KT sZ) := by
  have hT := f_X8_force_e x0 s0
  have hf_s0 : fr [37, 38, 39, 63] s0 s0 := fr.rf _ _
  have hLA_s0 := hpre0
  have hKF_s0 := hpre2
  have hKC_s0 := hpre3
  have hKT_s0 := hpre4
  have hr1 := (hm_s0 51 0).1 rfl
  have hi2 := hpre1 0
  have hp4 := f_X8_outside_p x0 (s0 51 0) (by omega) (by omega) 
  by_cases h5 : (f_X8_outside x0 (s0 51 0)) = 0
  · replace hT := hT.trans (if_pos h5)
    have hr6 := (hm_s0 63 0).1 rfl
    have hi7 := hLA_s0 0
    obtain ⟨r9, s10, hs10⟩ : ∃ rr ss, (f_X4_obey x0 s0) = (rr, ss) := ⟨_, _, rfl⟩
    replace hT := gby hT hs10
    have hp11 := f_X4_obey_p x0 s0 (by omega) hm_s0 hLA_s0 hKF_s0 hKC_s0 hKT_s0 (by first | assumption | omega) r9 s10 hs10
    obtain ⟨hfc_s10, hm_s10, hp12, hLA_s10, hKF_s10, hKC_s10, hKT_s10⟩ := hp11
    have hf_s10 : fr [37, 38, 39, 63] s0 s10 := hf_s0.call (by decide) hfc_s10
    obtain ⟨rfl, rfl⟩ := Prod.mk.inj (hT.symm.trans hres)
    exact ⟨hf_s10, hm_s10, (by omega), hLA_s10, hKF_s10, hKC_s10, hKT_s10⟩
  · replace hT := hT.trans (if_neg h5)
    obtain ⟨rfl, rfl⟩ := Prod.mk.inj (hT.symm.trans hres)
    exact ⟨hf_s0, hm_s0, (by omega), hLA_s0, hKF_s0, hKC_s0, hKT_s0⟩
set_option maxRecDepth 100000 in
set_option maxHeartbeats 4000000 in
theorem c_X8_force (l : Launch) (D : va_G) (a : Nat → Nat) (cI cJ cS cT : ClassId) (s0 : gMem) (x0 : Int) (hx0 : in32 x0) (hpre0 : LA s0) (hpre1 : MY s0) (hpre2 : KF s0) (hpre3 : KC s0) (hpre4 : KT s0) : gC l yX8_force cX8_force 3 (some .int) 4 256 D vwCl (gT cI cJ cS cT) (wdX a cI cJ cS cT) lgX kI in32 [.ref (a 0), gI x0] s0 (f_X8_force x0 s0) := by
  refine gC_of (by decide +kernel) (hwdX a cI cJ cS cT) (Nat.le_of_ble_eq_true rfl) ?_
  intro A p e R s m args below meth c hR E
  subst hR
  have hT := f_X8_force_e x0 s0
  have hf_s0 : fr [37, 38, 39, 63] s0 s0 := fr.rf _ _
  refine k_lv0 (lv' := [(0, .ref (a 0)), (1, gI x0)]) rfl ?_
  refine k_mr (fun hm_s0 => ?_)
  have hLA_s0 := hpre0
  have hKF_s0 := hpre2
  have hKC_s0 := hpre3
  have hKT_s0 := hpre4
  refine k_iloadn (pc := 0) E 1 dX8_force_0 rfl rfl ?_
  refine k_aloadn (pc := 1) E 0 dX8_force_1 rfl rfl ?_
  refine k_getf (pc := 2) (q0 := 0) (f := 0) (v := .ref (a 1)) E inX8 rfl rfl (by decide) wm_272 rfl rfl dX8_force_2 ?_
  refine k_getfI (pc := 5) (q0 := 1) (f := 3) (k := 51) E inX7 rfl rfl (by decide) wm_39 rfl rfl rfl dX8_force_5 (fun hr1 => ?_)
  have hi2 := hpre1 0
  refine k_mr (fun hm_s0 => ?_)
  refine k_callS (pc := 8) (np := 2) (As := [gI x0, gI (s0 51 0)]) (st := []) E (c_X8_outside l D a cI cJ cS cT s0 x0 (s0 51 0) (by omega) (by omega)) wm_310 wm_1 wm_308 wm_309 (by decide +kernel) ⟨by decide, by decide⟩ rfl (Nat.le_of_ble_eq_true rfl) dX8_force_8 (ro_kk (fun hr3 => ?_))
  have hp4 := f_X8_outside_p x0 (s0 51 0) (by omega) (by omega) 
  refine k_st (st' := [gI (f_X8_outside x0 (s0 51 0))]) rfl ?_
  by_cases h5 : (f_X8_outside x0 (s0 51 0)) = 0
  · replace hT := hT.trans (if_pos h5)
    refine k_if_eq_t (pc := 11) (tgt := 17) E (by omega) dX8_force_11 (by decide) h5 ?_
    refine k_aloadn (pc := 17) E 0 dX8_force_17 rfl rfl ?_
    refine k_getf (pc := 18) (q0 := 0) (f := 2) (v := .ref (a 3)) E inX8 rfl rfl (by decide) wm_274 rfl rfl dX8_force_18 ?_
    refine k_getf (pc := 21) (q0 := 3) (f := 0) (v := .ref (a 4)) E inX4 rfl rfl (by decide) wm_149 rfl rfl dX8_force_21 ?_
    refine k_getfI (pc := 24) (q0 := 4) (f := 6) (k := 63) E inX6 rfl rfl (by decide) wm_123 rfl rfl rfl dX8_force_24 (fun hr6 => ?_)
    have hi7 := hLA_s0 0
    refine k_istoren (pc := 27) (lv' := [(2, gI (s0 63 0)), (0, .ref (a 0)), (1, gI x0)]) E dX8_force_27 rfl (by decide) rfl ?_
    refine k_aloadn (pc := 28) E 1 dX8_force_28 rfl rfl ?_
    refine k_getf (pc := 29) (q0 := 0) (f := 2) (v := .ref (a 3)) E inX8 rfl rfl (by decide) wm_274 rfl rfl dX8_force_29 ?_
    refine k_iloadn (pc := 32) E 2 dX8_force_32 rfl rfl ?_
    refine k_mr (fun hm_s0 => ?_)
    refine k_callV (pc := 33) (np := 1) (As := [gI x0]) (st := []) (q0 := 3) E (c_X4_obey l D a cI cJ cS cT s0 x0 (by omega) hLA_s0 hKF_s0 hKC_s0 hKT_s0 (by first | assumption | omega)) wm_476 wm_4 wm_473 wm_474 wm_475 (by decide +kernel) rfl rfl ⟨by decide, by decide⟩ rfl (Nat.le_of_ble_eq_true rfl) dX8_force_33 (fun r9 s10 hs10 hr8 => ?_)
    replace hT := gby hT hs10
    have hp11 := f_X4_obey_p x0 s0 (by omega) hm_s0 hLA_s0 hKF_s0 hKC_s0 hKT_s0 (by first | assumption | omega) r9 s10 hs10
    obtain ⟨hfc_s10, hm_s10, hp12, hLA_s10, hKF_s10, hKC_s10, hKT_s10⟩ := hp11
    have hf_s10 : fr [37, 38, 39, 63] s0 s10 := hf_s0.call (by decide) hfc_s10
    refine k_st (st' := []) rfl ?_
    refine k_iloadn (pc := 36) E 0 dX8_force_36 rfl rfl ?_
    exact k_rho hT (k_iret (pc := 37) E dX8_force_37 (by omega))
  · replace hT := hT.trans (if_neg h5)
    refine k_if_eq_f (pc := 11) (tgt := 17) E (by omega) dX8_force_11 (by decide) h5 ?_
    refine k_bipush (pc := 14) E dX8_force_14 (by decide) ?_
    exact k_rho hT (k_iret (pc := 16) E dX8_force_16 (by omega))

def f_X8_asks (x0 : Int) (x1 : Int) (x2 : Int) (s0 : gMem) : gRes := (if (f_X8_outside x0 3) = 0 then (if (f_X8_outside x1 16) = 0 then (if (f_X8_outside x2 17) = 0 then gb (f_X4_says x0 x1 x2 s0) (fun r11 s12 => (r11, s12)) else ((-2), s0)) else ((-2), s0)) else ((-2), s0))
theorem f_X8_asks_e (x0 : Int) (x1 : Int) (x2 : Int) (s0 : gMem) : f_X8_asks x0 x1 x2 s0 = (if (f_X8_outside x0 3) = 0 then (if (f_X8_outside x1 16) = 0 then (if (f_X8_outside x2 17) = 0 then gb (f_X4_says x0 x1 x2 s0) (fun r11 s12 => (r11, s12)) else ((-2), s0)) else ((-2), s0)) else ((-2), s0)) := rfl
set_option maxRecDepth 100000 in
set_option maxHeartbeats 4000000 in
theorem f_X8_asks_p (x0 : Int) (x1 : Int) (x2 : Int) (s0 : gMem) (hx0 : in32 x0) (hx1 : in32 x1) (hx2 : in32 x2) (hm_s0 : gMR lgX s0) (hpre0 : CD s0) (hpre1 : BG s0) (hpre2 : LA s0) (rZ : Int) (sZ : gMem) (hres : f_X8_asks x0 x1 x2 s0 = (rZ, sZ)) : (fr [32, 36] s0 sZ) ∧ (gMR lgX sZ) ∧ (in32 rZ) := by
  have hT := f_X8_asks_e x0 x1 x2 s0
  have hf_s0 : fr [32, 36] s0 s0 := fr.rf _ _
  have hp2 := f_X8_outside_p x0 3 (by omega) (by omega) 
  by_cases h3 : (f_X8_outside x0 3) = 0
  · replace hT := hT.trans (if_pos h3)
    have hp5 := f_X8_outside_p x1 16 (by omega) (by omega) 
    by_cases h6 : (f_X8_outside x1 16) = 0
    · replace hT := hT.trans (if_pos h6)
      have hp8 := f_X8_outside_p x2 17 (by omega) (by omega) 
      by_cases h9 : (f_X8_outside x2 17) = 0
      · replace hT := hT.trans (if_pos h9)
        obtain ⟨r11, s12, hs12⟩ : ∃ rr ss, (f_X4_says x0 x1 x2 s0) = (rr, ss) := ⟨_, _, rfl⟩
        replace hT := gby hT hs12
        have hp13 := f_X4_says_p x0 x1 x2 s0 (by omega) (by omega) (by omega) hm_s0 hpre0 hpre1 hpre2 (by first | assumption | omega) (by first | assumption | omega) r11 s12 hs12
        obtain ⟨hfc_s12, hm_s12, hp14, hp15⟩ := hp13
        have hf_s12 : fr [32, 36] s0 s12 := hf_s0.call (by decide) hfc_s12
        obtain ⟨rfl, rfl⟩ := Prod.mk.inj (hT.symm.trans hres)
        exact ⟨hf_s12, hm_s12, (by omega)⟩
      · replace hT := hT.trans (if_neg h9)
        obtain ⟨rfl, rfl⟩ := Prod.mk.inj (hT.symm.trans hres)
        exact ⟨hf_s0, hm_s0, (by omega)⟩
    · replace hT := hT.trans (if_neg h6)
      obtain ⟨rfl, rfl⟩ := Prod.mk.inj (hT.symm.trans hres)
      exact ⟨hf_s0, hm_s0, (by omega)⟩
  · replace hT := hT.trans (if_neg h3)
    obtain ⟨rfl, rfl⟩ := Prod.mk.inj (hT.symm.trans hres)
    exact ⟨hf_s0, hm_s0, (by omega)⟩
set_option maxRecDepth 100000 in
set_option maxHeartbeats 4000000 in
theorem c_X8_asks (l : Launch) (D : va_G) (a : Nat → Nat) (cI cJ cS cT : ClassId) (s0 : gMem) (x0 : Int) (x1 : Int) (x2 : Int) (hx0 : in32 x0) (hx1 : in32 x1) (hx2 : in32 x2) (hpre0 : CD s0) (hpre1 : BG s0) (hpre2 : LA s0) : gC l yX8_asks cX8_asks 4 (some .int) 3 192 D vwCl (gT cI cJ cS cT) (wdX a cI cJ cS cT) lgX kI in32 [.ref (a 0), gI x0, gI x1, gI x2] s0 (f_X8_asks x0 x1 x2 s0) := by
  refine gC_of (by decide +kernel) (hwdX a cI cJ cS cT) (Nat.le_of_ble_eq_true rfl) ?_
  intro A p e R s m args below meth c hR E
  subst hR
  have hT := f_X8_asks_e x0 x1 x2 s0
  have hf_s0 : fr [32, 36] s0 s0 := fr.rf _ _
  refine k_lv0 (lv' := [(0, .ref (a 0)), (1, gI x0), (2, gI x1), (3, gI x2)]) rfl ?_
  refine k_mr (fun hm_s0 => ?_)
  refine k_iloadn (pc := 0) E 1 dX8_asks_0 rfl rfl ?_
  refine k_iconst (pc := 1) E dX8_asks_1 ?_
  refine k_mr (fun hm_s0 => ?_)
  refine k_callS (pc := 2) (np := 2) (As := [gI x0, gI 3]) (st := []) E (c_X8_outside l D a cI cJ cS cT s0 x0 3 (by omega) (by omega)) wm_310 wm_1 wm_308 wm_309 (by decide +kernel) ⟨by decide, by decide⟩ rfl (Nat.le_of_ble_eq_true rfl) dX8_asks_2 (ro_kk (fun hr1 => ?_))
  have hp2 := f_X8_outside_p x0 3 (by omega) (by omega) 
  refine k_st (st' := [gI (f_X8_outside x0 3)]) rfl ?_
  by_cases h3 : (f_X8_outside x0 3) = 0
  · replace hT := hT.trans (if_pos h3)
    refine k_if_ne_f (pc := 5) (tgt := 26) E (by omega) dX8_asks_5 (by decide) h3 ?_
    refine k_iloadn (pc := 8) E 2 dX8_asks_8 rfl rfl ?_
    refine k_bipush (pc := 9) E dX8_asks_9 (by decide) ?_
    refine k_mr (fun hm_s0 => ?_)
    refine k_callS (pc := 11) (np := 2) (As := [gI x1, gI 16]) (st := []) E (c_X8_outside l D a cI cJ cS cT s0 x1 16 (by omega) (by omega)) wm_310 wm_1 wm_308 wm_309 (by decide +kernel) ⟨by decide, by decide⟩ rfl (Nat.le_of_ble_eq_true rfl) dX8_asks_11 (ro_kk (fun hr4 => ?_))
    have hp5 := f_X8_outside_p x1 16 (by omega) (by omega) 
    refine k_st (st' := [gI (f_X8_outside x1 16)]) rfl ?_
    by_cases h6 : (f_X8_outside x1 16) = 0
    · replace hT := hT.trans (if_pos h6)
      refine k_if_ne_f (pc := 14) (tgt := 26) E (by omega) dX8_asks_14 (by decide) h6 ?_
      refine k_iloadn (pc := 17) E 3 dX8_asks_17 rfl rfl ?_
      refine k_bipush (pc := 18) E dX8_asks_18 (by decide) ?_
      refine k_mr (fun hm_s0 => ?_)
      refine k_callS (pc := 20) (np := 2) (As := [gI x2, gI 17]) (st := []) E (c_X8_outside l D a cI cJ cS cT s0 x2 17 (by omega) (by omega)) wm_310 wm_1 wm_308 wm_309 (by decide +kernel) ⟨by decide, by decide⟩ rfl (Nat.le_of_ble_eq_true rfl) dX8_asks_20 (ro_kk (fun hr7 => ?_))
      have hp8 := f_X8_outside_p x2 17 (by omega) (by omega) 
      refine k_st (st' := [gI (f_X8_outside x2 17)]) rfl ?_
      by_cases h9 : (f_X8_outside x2 17) = 0
      · replace hT := hT.trans (if_pos h9)
        refine k_if_eq_t (pc := 23) (tgt := 29) E (by omega) dX8_asks_23 (by decide) h9 ?_
        refine k_aloadn (pc := 29) E 0 dX8_asks_29 rfl rfl ?_
        refine k_getf (pc := 30) (q0 := 0) (f := 2) (v := .ref (a 3)) E inX8 rfl rfl (by decide) wm_274 rfl rfl dX8_asks_30 ?_
        refine k_iloadn (pc := 33) E 1 dX8_asks_33 rfl rfl ?_
        refine k_iloadn (pc := 34) E 2 dX8_asks_34 rfl rfl ?_
        refine k_iloadn (pc := 35) E 3 dX8_asks_35 rfl rfl ?_
        refine k_mr (fun hm_s0 => ?_)
        refine k_callV (pc := 36) (np := 3) (As := [gI x0, gI x1, gI x2]) (st := []) (q0 := 3) E (c_X4_says l D a cI cJ cS cT s0 x0 x1 x2 (by omega) (by omega) (by omega) hpre0 hpre1 hpre2 (by first | assumption | omega) (by first | assumption | omega)) wm_484 wm_4 wm_481 wm_482 wm_483 (by decide +kernel) rfl rfl ⟨by decide, by decide⟩ rfl (Nat.le_of_ble_eq_true rfl) dX8_asks_36 (fun r11 s12 hs12 hr10 => ?_)
        replace hT := gby hT hs12
        have hp13 := f_X4_says_p x0 x1 x2 s0 (by omega) (by omega) (by omega) hm_s0 hpre0 hpre1 hpre2 (by first | assumption | omega) (by first | assumption | omega) r11 s12 hs12
        obtain ⟨hfc_s12, hm_s12, hp14, hp15⟩ := hp13
        have hf_s12 : fr [32, 36] s0 s12 := hf_s0.call (by decide) hfc_s12
        refine k_st (st' := [gI r11]) rfl ?_
        exact k_rho hT (k_iret (pc := 39) E dX8_asks_39 (by omega))
      · replace hT := hT.trans (if_neg h9)
        refine k_if_eq_f (pc := 23) (tgt := 29) E (by omega) dX8_asks_23 (by decide) h9 ?_
        refine k_bipush (pc := 26) E dX8_asks_26 (by decide) ?_
        exact k_rho hT (k_iret (pc := 28) E dX8_asks_28 (by omega))
    · replace hT := hT.trans (if_neg h6)
      refine k_if_ne_t (pc := 14) (tgt := 26) E (by omega) dX8_asks_14 (by decide) h6 ?_
      refine k_bipush (pc := 26) E dX8_asks_26 (by decide) ?_
      exact k_rho hT (k_iret (pc := 28) E dX8_asks_28 (by omega))
  · replace hT := hT.trans (if_neg h3)
    refine k_if_ne_t (pc := 5) (tgt := 26) E (by omega) dX8_asks_5 (by decide) h3 ?_
    refine k_bipush (pc := 26) E dX8_asks_26 (by decide) ?_
    exact k_rho hT (k_iret (pc := 28) E dX8_asks_28 (by omega))

def f_X8_lay (x0 : Int) (x1 : Int) (x2 : Int) (s0 : gMem) : gRes := (if (f_X8_outside x0 16) = 0 then (if (f_X8_outside x1 6) = 0 then (if (f_X8_outside x2 10) = 0 then gl ((10 * (s0 40 x0)) + (s0 41 x0)) (fun v14 => gb (f_X4_become x0 x1 x2 s0) (fun r16 s17 => (v14, s17))) else ((-7), s0)) else ((-7), s0)) else ((-5), s0))
theorem f_X8_lay_e (x0 : Int) (x1 : Int) (x2 : Int) (s0 : gMem) : f_X8_lay x0 x1 x2 s0 = (if (f_X8_outside x0 16) = 0 then (if (f_X8_outside x1 6) = 0 then (if (f_X8_outside x2 10) = 0 then gl ((10 * (s0 40 x0)) + (s0 41 x0)) (fun v14 => gb (f_X4_become x0 x1 x2 s0) (fun r16 s17 => (v14, s17))) else ((-7), s0)) else ((-7), s0)) else ((-5), s0)) := rfl
set_option maxRecDepth 100000 in
set_option maxHeartbeats 4000000 in
theorem f_X8_lay_p (x0 : Int) (x1 : Int) (x2 : Int) (s0 : gMem) (hx0 : in32 x0) (hx1 : in32 x1) (hx2 : in32 x2) (hm_s0 : gMR lgX s0) (hpre0 : KNx s0) (hpre1 : MOx s0) (hpre2 : KF s0) (hpre3 : KC s0) (hpre4 : KT s0) (rZ : Int) (sZ : gMem) (hres : f_X8_lay x0 x1 x2 s0 = (rZ, sZ)) : (fr [37, 38, 39, 40, 41] s0 sZ) ∧ (gMR lgX sZ) ∧ (in32 rZ) ∧ (KNx sZ) ∧ (MOx sZ) ∧ (KF sZ) ∧ (KC sZ) ∧ (KT sZ) := by
  have hT := f_X8_lay_e x0 x1 x2 s0
  have hf_s0 : fr [37, 38, 39, 40, 41] s0 s0 := fr.rf _ _
  have hKNx_s0 := hpre0
  have hMOx_s0 := hpre1
  have hKF_s0 := hpre2
  have hKC_s0 := hpre3
  have hKT_s0 := hpre4
  have hp2 := f_X8_outside_p x0 16 (by omega) (by omega) 
  by_cases h3 : (f_X8_outside x0 16) = 0
  · replace hT := hT.trans (if_pos h3)
    have hp5 := f_X8_outside_p x1 6 (by omega) (by omega) 
    by_cases h6 : (f_X8_outside x1 6) = 0
    · replace hT := hT.trans (if_pos h6)
      have hp8 := f_X8_outside_p x2 10 (by omega) (by omega) 
      by_cases h9 : (f_X8_outside x2 10) = 0
      · replace hT := hT.trans (if_pos h9)
        have hr10 := (hm_s0 40 x0).1 rfl
        have hi11 := hKNx_s0 x0
        have hr12 := (hm_s0 41 x0).1 rfl
        have hi13 := hMOx_s0 x0
        obtain ⟨v14, hv14, hT⟩ := glx hT
        obtain ⟨r16, s17, hs17⟩ : ∃ rr ss, (f_X4_become x0 x1 x2 s0) = (rr, ss) := ⟨_, _, rfl⟩
        replace hT := gby hT hs17
        have hp18 := f_X4_become_p x0 x1 x2 s0 (by omega) (by omega) (by omega) hm_s0 hKNx_s0 hMOx_s0 hKF_s0 hKC_s0 hKT_s0 (by first | assumption | omega) (by first | assumption | omega) (by first | assumption | omega) r16 s17 hs17
        obtain ⟨hfc_s17, hm_s17, hp19, hKNx_s17, hMOx_s17, hKF_s17, hKC_s17, hKT_s17⟩ := hp18
        have hf_s17 : fr [37, 38, 39, 40, 41] s0 s17 := hf_s0.call (by decide) hfc_s17
        obtain ⟨rfl, rfl⟩ := Prod.mk.inj (hT.symm.trans hres)
        exact ⟨hf_s17, hm_s17, (by omega), hKNx_s17, hMOx_s17, hKF_s17, hKC_s17, hKT_s17⟩
      · replace hT := hT.trans (if_neg h9)
        obtain ⟨rfl, rfl⟩ := Prod.mk.inj (hT.symm.trans hres)
        exact ⟨hf_s0, hm_s0, (by omega), hKNx_s0, hMOx_s0, hKF_s0, hKC_s0, hKT_s0⟩
    · replace hT := hT.trans (if_neg h6)
      obtain ⟨rfl, rfl⟩ := Prod.mk.inj (hT.symm.trans hres)
      exact ⟨hf_s0, hm_s0, (by omega), hKNx_s0, hMOx_s0, hKF_s0, hKC_s0, hKT_s0⟩
  · replace hT := hT.trans (if_neg h3)
    obtain ⟨rfl, rfl⟩ := Prod.mk.inj (hT.symm.trans hres)
    exact ⟨hf_s0, hm_s0, (by omega), hKNx_s0, hMOx_s0, hKF_s0, hKC_s0, hKT_s0⟩
set_option maxRecDepth 100000 in
set_option maxHeartbeats 4000000 in
theorem c_X8_lay (l : Launch) (D : va_G) (a : Nat → Nat) (cI cJ cS cT : ClassId) (s0 : gMem) (x0 : Int) (x1 : Int) (x2 : Int) (hx0 : in32 x0) (hx1 : in32 x1) (hx2 : in32 x2) (hpre0 : KNx s0) (hpre1 : MOx s0) (hpre2 : KF s0) (hpre3 : KC s0) (hpre4 : KT s0) : gC l yX8_lay cX8_lay 5 (some .int) 4 256 D vwCl (gT cI cJ cS cT) (wdX a cI cJ cS cT) lgX kI in32 [.ref (a 0), gI x0, gI x1, gI x2] s0 (f_X8_lay x0 x1 x2 s0) := by
  refine gC_of (by decide +kernel) (hwdX a cI cJ cS cT) (Nat.le_of_ble_eq_true rfl) ?_
  intro A p e R s m args below meth c hR E
  subst hR
  have hT := f_X8_lay_e x0 x1 x2 s0
  have hf_s0 : fr [37, 38, 39, 40, 41] s0 s0 := fr.rf _ _
  refine k_lv0 (lv' := [(0, .ref (a 0)), (1, gI x0), (2, gI x1), (3, gI x2)]) rfl ?_
  refine k_mr (fun hm_s0 => ?_)
  have hKNx_s0 := hpre0
  have hMOx_s0 := hpre1
  have hKF_s0 := hpre2
  have hKC_s0 := hpre3
  have hKT_s0 := hpre4
  refine k_iloadn (pc := 0) E 1 dX8_lay_0 rfl rfl ?_
  refine k_bipush (pc := 1) E dX8_lay_1 (by decide) ?_
  refine k_mr (fun hm_s0 => ?_)
  refine k_callS (pc := 3) (np := 2) (As := [gI x0, gI 16]) (st := []) E (c_X8_outside l D a cI cJ cS cT s0 x0 16 (by omega) (by omega)) wm_310 wm_1 wm_308 wm_309 (by decide +kernel) ⟨by decide, by decide⟩ rfl (Nat.le_of_ble_eq_true rfl) dX8_lay_3 (ro_kk (fun hr1 => ?_))
  have hp2 := f_X8_outside_p x0 16 (by omega) (by omega) 
  refine k_st (st' := [gI (f_X8_outside x0 16)]) rfl ?_
  by_cases h3 : (f_X8_outside x0 16) = 0
  · replace hT := hT.trans (if_pos h3)
    refine k_if_eq_t (pc := 6) (tgt := 12) E (by omega) dX8_lay_6 (by decide) h3 ?_
    refine k_iloadn (pc := 12) E 2 dX8_lay_12 rfl rfl ?_
    refine k_bipush (pc := 13) E dX8_lay_13 (by decide) ?_
    refine k_mr (fun hm_s0 => ?_)
    refine k_callS (pc := 15) (np := 2) (As := [gI x1, gI 6]) (st := []) E (c_X8_outside l D a cI cJ cS cT s0 x1 6 (by omega) (by omega)) wm_310 wm_1 wm_308 wm_309 (by decide +kernel) ⟨by decide, by decide⟩ rfl (Nat.le_of_ble_eq_true rfl) dX8_lay_15 (ro_kk (fun hr4 => ?_))
    have hp5 := f_X8_outside_p x1 6 (by omega) (by omega) 
    refine k_st (st' := [gI (f_X8_outside x1 6)]) rfl ?_
    by_cases h6 : (f_X8_outside x1 6) = 0
    · replace hT := hT.trans (if_pos h6)
      refine k_if_ne_f (pc := 18) (tgt := 30) E (by omega) dX8_lay_18 (by decide) h6 ?_
      refine k_iloadn (pc := 21) E 3 dX8_lay_21 rfl rfl ?_
      refine k_bipush (pc := 22) E dX8_lay_22 (by decide) ?_
      refine k_mr (fun hm_s0 => ?_)
      refine k_callS (pc := 24) (np := 2) (As := [gI x2, gI 10]) (st := []) E (c_X8_outside l D a cI cJ cS cT s0 x2 10 (by omega) (by omega)) wm_310 wm_1 wm_308 wm_309 (by decide +kernel) ⟨by decide, by decide⟩ rfl (Nat.le_of_ble_eq_true rfl) dX8_lay_24 (ro_kk (fun hr7 => ?_))
      have hp8 := f_X8_outside_p x2 10 (by omega) (by omega) 
      refine k_st (st' := [gI (f_X8_outside x2 10)]) rfl ?_
      by_cases h9 : (f_X8_outside x2 10) = 0
      · replace hT := hT.trans (if_pos h9)
        refine k_if_eq_t (pc := 27) (tgt := 33) E (by omega) dX8_lay_27 (by decide) h9 ?_
        refine k_bipush (pc := 33) E dX8_lay_33 (by decide) ?_
        refine k_aloadn (pc := 35) E 0 dX8_lay_35 rfl rfl ?_
        refine k_getf (pc := 36) (q0 := 0) (f := 2) (v := .ref (a 3)) E inX8 rfl rfl (by decide) wm_274 rfl rfl dX8_lay_36 ?_
        refine k_getf (pc := 39) (q0 := 3) (f := 0) (v := .ref (a 4)) E inX4 rfl rfl (by decide) wm_149 rfl rfl dX8_lay_39 ?_
        refine k_getf (pc := 42) (q0 := 4) (f := 0) (v := .ref (a 40)) E inX6 rfl rfl (by decide) wm_104 rfl rfl dX8_lay_42 ?_
        refine k_iloadn (pc := 45) E 1 dX8_lay_45 rfl rfl ?_
        refine k_iaload (pc := 46) (q0 := 40) (t0 := 0) (k := 40) (n := 16) E rfl rfl rfl (by decide) (by omega) (by omega) dX8_lay_46 (fun hr10 => ?_)
        have hi11 := hKNx_s0 x0
        refine k_imul (pc := 47) E dX8_lay_47 ?_
        refine k_aloadn (pc := 48) E 0 dX8_lay_48 rfl rfl ?_
        refine k_getf (pc := 49) (q0 := 0) (f := 2) (v := .ref (a 3)) E inX8 rfl rfl (by decide) wm_274 rfl rfl dX8_lay_49 ?_
        refine k_getf (pc := 52) (q0 := 3) (f := 0) (v := .ref (a 4)) E inX4 rfl rfl (by decide) wm_149 rfl rfl dX8_lay_52 ?_
        refine k_getf (pc := 55) (q0 := 4) (f := 1) (v := .ref (a 41)) E inX6 rfl rfl (by decide) wm_107 rfl rfl dX8_lay_55 ?_
        refine k_iloadn (pc := 58) E 1 dX8_lay_58 rfl rfl ?_
        refine k_iaload (pc := 59) (q0 := 41) (t0 := 0) (k := 41) (n := 16) E rfl rfl rfl (by decide) (by omega) (by omega) dX8_lay_59 (fun hr12 => ?_)
        have hi13 := hMOx_s0 x0
        refine k_iadd (pc := 60) E dX8_lay_60 ?_
        obtain ⟨v14, hv14, hT⟩ := glx hT
        refine k_st (st' := [gI v14]) (by rw [hv14]) ?_
        refine k_istore (pc := 61) (lv' := [(4, gI v14), (0, .ref (a 0)), (1, gI x0), (2, gI x1), (3, gI x2)]) E dX8_lay_61 (by decide) rfl ?_
        refine k_aloadn (pc := 63) E 1 dX8_lay_63 rfl rfl ?_
        refine k_getf (pc := 64) (q0 := 0) (f := 2) (v := .ref (a 3)) E inX8 rfl rfl (by decide) wm_274 rfl rfl dX8_lay_64 ?_
        refine k_iloadn (pc := 67) E 2 dX8_lay_67 rfl rfl ?_
        refine k_iloadn (pc := 68) E 3 dX8_lay_68 rfl rfl ?_
        refine k_iloadn (pc := 69) E 4 dX8_lay_69 rfl rfl ?_
        refine k_mr (fun hm_s0 => ?_)
        refine k_callV (pc := 70) (np := 3) (As := [gI x0, gI x1, gI x2]) (st := []) (q0 := 3) E (c_X4_become l D a cI cJ cS cT s0 x0 x1 x2 (by omega) (by omega) (by omega) hKNx_s0 hMOx_s0 hKF_s0 hKC_s0 hKT_s0 (by first | assumption | omega) (by first | assumption | omega) (by first | assumption | omega)) wm_505 wm_4 wm_502 wm_503 wm_504 (by decide +kernel) rfl rfl ⟨by decide, by decide⟩ rfl (Nat.le_of_ble_eq_true rfl) dX8_lay_70 (fun r16 s17 hs17 hr15 => ?_)
        replace hT := gby hT hs17
        have hp18 := f_X4_become_p x0 x1 x2 s0 (by omega) (by omega) (by omega) hm_s0 hKNx_s0 hMOx_s0 hKF_s0 hKC_s0 hKT_s0 (by first | assumption | omega) (by first | assumption | omega) (by first | assumption | omega) r16 s17 hs17
        obtain ⟨hfc_s17, hm_s17, hp19, hKNx_s17, hMOx_s17, hKF_s17, hKC_s17, hKT_s17⟩ := hp18
        have hf_s17 : fr [37, 38, 39, 40, 41] s0 s17 := hf_s0.call (by decide) hfc_s17
        refine k_st (st' := []) rfl ?_
        refine k_iload (pc := 73) E 0 dX8_lay_73 rfl ?_
        exact k_rho hT (k_iret (pc := 75) E dX8_lay_75 (by omega))
      · replace hT := hT.trans (if_neg h9)
        refine k_if_eq_f (pc := 27) (tgt := 33) E (by omega) dX8_lay_27 (by decide) h9 ?_
        refine k_bipush (pc := 30) E dX8_lay_30 (by decide) ?_
        exact k_rho hT (k_iret (pc := 32) E dX8_lay_32 (by omega))
    · replace hT := hT.trans (if_neg h6)
      refine k_if_ne_t (pc := 18) (tgt := 30) E (by omega) dX8_lay_18 (by decide) h6 ?_
      refine k_bipush (pc := 30) E dX8_lay_30 (by decide) ?_
      exact k_rho hT (k_iret (pc := 32) E dX8_lay_32 (by omega))
  · replace hT := hT.trans (if_neg h3)
    refine k_if_eq_f (pc := 6) (tgt := 12) E (by omega) dX8_lay_6 (by decide) h3 ?_
    refine k_bipush (pc := 9) E dX8_lay_9 (by decide) ?_
    exact k_rho hT (k_iret (pc := 11) E dX8_lay_11 (by omega))

def f_X8_told (x0 : Int) (x1 : Int) (s0 : gMem) : gRes := (if (f_X8_outside x0 16) = 0 then (if x1 = 0 then ((s0 40 x0), s0) else (if x1 = 1 then ((s0 41 x0), s0) else (if x1 = 2 then gb (f_X4_falls x0 0 s0) (fun r15 s16 => (r15, s16)) else (if x1 = 3 then gb (f_X4_takes x0 s0) (fun r21 s22 => (r21, s22)) else (if x1 = 4 then (if (f_X4_stops x0 s0) = 0 then (0, s0) else (1, s0)) else (if x1 = 5 then gb (f_X4_closes x0 0 s0) (fun r30 s31 => (r30, s31)) else ((-7), s0))))))) else ((-5), s0))
theorem f_X8_told_e (x0 : Int) (x1 : Int) (s0 : gMem) : f_X8_told x0 x1 s0 = (if (f_X8_outside x0 16) = 0 then (if x1 = 0 then ((s0 40 x0), s0) else (if x1 = 1 then ((s0 41 x0), s0) else (if x1 = 2 then gb (f_X4_falls x0 0 s0) (fun r15 s16 => (r15, s16)) else (if x1 = 3 then gb (f_X4_takes x0 s0) (fun r21 s22 => (r21, s22)) else (if x1 = 4 then (if (f_X4_stops x0 s0) = 0 then (0, s0) else (1, s0)) else (if x1 = 5 then gb (f_X4_closes x0 0 s0) (fun r30 s31 => (r30, s31)) else ((-7), s0))))))) else ((-5), s0)) := rfl
set_option maxRecDepth 100000 in
set_option maxHeartbeats 4000000 in
theorem f_X8_told_p (x0 : Int) (x1 : Int) (s0 : gMem) (hx0 : in32 x0) (hx1 : in32 x1) (hm_s0 : gMR lgX s0) (hpre0 : CD s0) (hpre1 : BG s0) (hpre2 : LA s0) (hpre3 : MOx s0) (hpre4 : KNx s0) (hpre5 : KF s0) (hpre6 : KC s0) (hpre7 : KT s0) (rZ : Int) (sZ : gMem) (hres : f_X8_told x0 x1 s0 = (rZ, sZ)) : (fr [32, 36, 37, 38, 39] s0 sZ) ∧ (gMR lgX sZ) ∧ (in32 rZ) ∧ (KF sZ) ∧ (KC sZ) ∧ (KT sZ) := by
  have hT := f_X8_told_e x0 x1 s0
  have hf_s0 : fr [32, 36, 37, 38, 39] s0 s0 := fr.rf _ _
  have hKF_s0 := hpre5
  have hKC_s0 := hpre6
  have hKT_s0 := hpre7
  have hp2 := f_X8_outside_p x0 16 (by omega) (by omega) 
  by_cases h3 : (f_X8_outside x0 16) = 0
  · replace hT := hT.trans (if_pos h3)
    by_cases h4 : x1 = 0
    · replace hT := hT.trans (if_pos h4)
      have hr10 := (hm_s0 40 x0).1 rfl
      have hi11 := hpre4 x0
      obtain ⟨rfl, rfl⟩ := Prod.mk.inj (hT.symm.trans hres)
      exact ⟨hf_s0, hm_s0, (by omega), hKF_s0, hKC_s0, hKT_s0⟩
    · replace hT := hT.trans (if_neg h4)
      by_cases h5 : x1 = 1
      · replace hT := hT.trans (if_pos h5)
        have hr12 := (hm_s0 41 x0).1 rfl
        have hi13 := hpre3 x0
        obtain ⟨rfl, rfl⟩ := Prod.mk.inj (hT.symm.trans hres)
        exact ⟨hf_s0, hm_s0, (by omega), hKF_s0, hKC_s0, hKT_s0⟩
      · replace hT := hT.trans (if_neg h5)
        by_cases h6 : x1 = 2
        · replace hT := hT.trans (if_pos h6)
          obtain ⟨r15, s16, hs16⟩ : ∃ rr ss, (f_X4_falls x0 0 s0) = (rr, ss) := ⟨_, _, rfl⟩
          replace hT := gby hT hs16
          have hp17 := f_X4_falls_p x0 0 s0 (by omega) (by omega) hm_s0 hpre0 hpre1 hpre2 hpre3 hKF_s0 (by first | assumption | omega) (by first | assumption | omega) r15 s16 hs16
          obtain ⟨hfc_s16, hm_s16, hp18, hKF_s16, hp19⟩ := hp17
          have hf_s16 : fr [32, 36, 37, 38, 39] s0 s16 := hf_s0.call (by decide) hfc_s16
          have hKC_s16 : KC s16 := KC_fr hKC_s0 (fun k hk => hfc_s16 k (dj (by decide) k hk))
          have hKT_s16 : KT s16 := KT_fr hKT_s0 (fun k hk => hfc_s16 k (dj (by decide) k hk))
          obtain ⟨rfl, rfl⟩ := Prod.mk.inj (hT.symm.trans hres)
          exact ⟨hf_s16, hm_s16, (by omega), hKF_s16, hKC_s16, hKT_s16⟩
        · replace hT := hT.trans (if_neg h6)
          by_cases h7 : x1 = 3
          · replace hT := hT.trans (if_pos h7)
            obtain ⟨r21, s22, hs22⟩ : ∃ rr ss, (f_X4_takes x0 s0) = (rr, ss) := ⟨_, _, rfl⟩
            replace hT := gby hT hs22
            have hp23 := f_X4_takes_p x0 s0 (by omega) hm_s0 hpre0 hpre1 hpre2 hpre3 hKT_s0 (by first | assumption | omega) r21 s22 hs22
            obtain ⟨hfc_s22, hm_s22, hp24, hKT_s22, hp25⟩ := hp23
            have hf_s22 : fr [32, 36, 37, 38, 39] s0 s22 := hf_s0.call (by decide) hfc_s22
            have hKF_s22 : KF s22 := KF_fr hKF_s0 (fun k hk => hfc_s22 k (dj (by decide) k hk))
            have hKC_s22 : KC s22 := KC_fr hKC_s0 (fun k hk => hfc_s22 k (dj (by decide) k hk))
            obtain ⟨rfl, rfl⟩ := Prod.mk.inj (hT.symm.trans hres)
            exact ⟨hf_s22, hm_s22, (by omega), hKF_s22, hKC_s22, hKT_s22⟩
          · replace hT := hT.trans (if_neg h7)
            by_cases h8 : x1 = 4
            · replace hT := hT.trans (if_pos h8)
              have hp27 := f_X4_stops_p x0 s0 (by omega) hm_s0 (by first | assumption | omega)
              by_cases h28 : (f_X4_stops x0 s0) = 0
              · replace hT := hT.trans (if_pos h28)
                obtain ⟨rfl, rfl⟩ := Prod.mk.inj (hT.symm.trans hres)
                exact ⟨hf_s0, hm_s0, (by omega), hKF_s0, hKC_s0, hKT_s0⟩
              · replace hT := hT.trans (if_neg h28)
                obtain ⟨rfl, rfl⟩ := Prod.mk.inj (hT.symm.trans hres)
                exact ⟨hf_s0, hm_s0, (by omega), hKF_s0, hKC_s0, hKT_s0⟩
            · replace hT := hT.trans (if_neg h8)
              by_cases h9 : x1 = 5
              · replace hT := hT.trans (if_pos h9)
                obtain ⟨r30, s31, hs31⟩ : ∃ rr ss, (f_X4_closes x0 0 s0) = (rr, ss) := ⟨_, _, rfl⟩
                replace hT := gby hT hs31
                have hp32 := f_X4_closes_p x0 0 s0 (by omega) (by omega) hm_s0 hpre0 hpre1 hpre2 hpre3 hKC_s0 (by first | assumption | omega) (by first | assumption | omega) r30 s31 hs31
                obtain ⟨hfc_s31, hm_s31, hp33, hKC_s31, hp34⟩ := hp32
                have hf_s31 : fr [32, 36, 37, 38, 39] s0 s31 := hf_s0.call (by decide) hfc_s31
                have hKF_s31 : KF s31 := KF_fr hKF_s0 (fun k hk => hfc_s31 k (dj (by decide) k hk))
                have hKT_s31 : KT s31 := KT_fr hKT_s0 (fun k hk => hfc_s31 k (dj (by decide) k hk))
                obtain ⟨rfl, rfl⟩ := Prod.mk.inj (hT.symm.trans hres)
                exact ⟨hf_s31, hm_s31, (by omega), hKF_s31, hKC_s31, hKT_s31⟩
              · replace hT := hT.trans (if_neg h9)
                obtain ⟨rfl, rfl⟩ := Prod.mk.inj (hT.symm.trans hres)
                exact ⟨hf_s0, hm_s0, (by omega), hKF_s0, hKC_s0, hKT_s0⟩
  · replace hT := hT.trans (if_neg h3)
    obtain ⟨rfl, rfl⟩ := Prod.mk.inj (hT.symm.trans hres)
    exact ⟨hf_s0, hm_s0, (by omega), hKF_s0, hKC_s0, hKT_s0⟩
set_option maxRecDepth 100000 in
set_option maxHeartbeats 4000000 in
theorem c_X8_told (l : Launch) (D : va_G) (a : Nat → Nat) (cI cJ cS cT : ClassId) (s0 : gMem) (x0 : Int) (x1 : Int) (hx0 : in32 x0) (hx1 : in32 x1) (hpre0 : CD s0) (hpre1 : BG s0) (hpre2 : LA s0) (hpre3 : MOx s0) (hpre4 : KNx s0) (hpre5 : KF s0) (hpre6 : KC s0) (hpre7 : KT s0) : gC l yX8_told cX8_told 3 (some .int) 4 256 D vwCl (gT cI cJ cS cT) (wdX a cI cJ cS cT) lgX kI in32 [.ref (a 0), gI x0, gI x1] s0 (f_X8_told x0 x1 s0) := by
  refine gC_of (by decide +kernel) (hwdX a cI cJ cS cT) (Nat.le_of_ble_eq_true rfl) ?_
  intro A p e R s m args below meth c hR E
  subst hR
  have hT := f_X8_told_e x0 x1 s0
  have hf_s0 : fr [32, 36, 37, 38, 39] s0 s0 := fr.rf _ _
  refine k_lv0 (lv' := [(0, .ref (a 0)), (1, gI x0), (2, gI x1)]) rfl ?_
  refine k_mr (fun hm_s0 => ?_)
  have hKF_s0 := hpre5
  have hKC_s0 := hpre6
  have hKT_s0 := hpre7
  refine k_iloadn (pc := 0) E 1 dX8_told_0 rfl rfl ?_
  refine k_bipush (pc := 1) E dX8_told_1 (by decide) ?_
  refine k_mr (fun hm_s0 => ?_)
  refine k_callS (pc := 3) (np := 2) (As := [gI x0, gI 16]) (st := []) E (c_X8_outside l D a cI cJ cS cT s0 x0 16 (by omega) (by omega)) wm_310 wm_1 wm_308 wm_309 (by decide +kernel) ⟨by decide, by decide⟩ rfl (Nat.le_of_ble_eq_true rfl) dX8_told_3 (ro_kk (fun hr1 => ?_))
  have hp2 := f_X8_outside_p x0 16 (by omega) (by omega) 
  refine k_st (st' := [gI (f_X8_outside x0 16)]) rfl ?_
  by_cases h3 : (f_X8_outside x0 16) = 0
  · replace hT := hT.trans (if_pos h3)
    refine k_if_eq_t (pc := 6) (tgt := 12) E (by omega) dX8_told_6 (by decide) h3 ?_
    refine k_iloadn (pc := 12) E 2 dX8_told_12 rfl rfl ?_
    by_cases h4 : x1 = 0
    · replace hT := hT.trans (if_pos h4)
      refine k_tabIn (pc := 13) (tgt := 52) E dX8_told_13 (by omega) (by omega) (by omega) (by rw [h4]; rfl) (by decide) ?_
      refine k_aloadn (pc := 52) E 0 dX8_told_52 rfl rfl ?_
      refine k_getf (pc := 53) (q0 := 0) (f := 2) (v := .ref (a 3)) E inX8 rfl rfl (by decide) wm_274 rfl rfl dX8_told_53 ?_
      refine k_getf (pc := 56) (q0 := 3) (f := 0) (v := .ref (a 4)) E inX4 rfl rfl (by decide) wm_149 rfl rfl dX8_told_56 ?_
      refine k_getf (pc := 59) (q0 := 4) (f := 0) (v := .ref (a 40)) E inX6 rfl rfl (by decide) wm_104 rfl rfl dX8_told_59 ?_
      refine k_iloadn (pc := 62) E 1 dX8_told_62 rfl rfl ?_
      refine k_iaload (pc := 63) (q0 := 40) (t0 := 0) (k := 40) (n := 16) E rfl rfl rfl (by decide) (by omega) (by omega) dX8_told_63 (fun hr10 => ?_)
      have hi11 := hpre4 x0
      exact k_rho hT (k_iret (pc := 64) E dX8_told_64 (by omega))
    · replace hT := hT.trans (if_neg h4)
      by_cases h5 : x1 = 1
      · replace hT := hT.trans (if_pos h5)
        refine k_tabIn (pc := 13) (tgt := 65) E dX8_told_13 (by omega) (by omega) (by omega) (by rw [h5]; rfl) (by decide) ?_
        refine k_aloadn (pc := 65) E 0 dX8_told_65 rfl rfl ?_
        refine k_getf (pc := 66) (q0 := 0) (f := 2) (v := .ref (a 3)) E inX8 rfl rfl (by decide) wm_274 rfl rfl dX8_told_66 ?_
        refine k_getf (pc := 69) (q0 := 3) (f := 0) (v := .ref (a 4)) E inX4 rfl rfl (by decide) wm_149 rfl rfl dX8_told_69 ?_
        refine k_getf (pc := 72) (q0 := 4) (f := 1) (v := .ref (a 41)) E inX6 rfl rfl (by decide) wm_107 rfl rfl dX8_told_72 ?_
        refine k_iloadn (pc := 75) E 1 dX8_told_75 rfl rfl ?_
        refine k_iaload (pc := 76) (q0 := 41) (t0 := 0) (k := 41) (n := 16) E rfl rfl rfl (by decide) (by omega) (by omega) dX8_told_76 (fun hr12 => ?_)
        have hi13 := hpre3 x0
        exact k_rho hT (k_iret (pc := 77) E dX8_told_77 (by omega))
      · replace hT := hT.trans (if_neg h5)
        by_cases h6 : x1 = 2
        · replace hT := hT.trans (if_pos h6)
          refine k_tabIn (pc := 13) (tgt := 78) E dX8_told_13 (by omega) (by omega) (by omega) (by rw [h6]; rfl) (by decide) ?_
          refine k_aloadn (pc := 78) E 0 dX8_told_78 rfl rfl ?_
          refine k_getf (pc := 79) (q0 := 0) (f := 2) (v := .ref (a 3)) E inX8 rfl rfl (by decide) wm_274 rfl rfl dX8_told_79 ?_
          refine k_iloadn (pc := 82) E 1 dX8_told_82 rfl rfl ?_
          refine k_iconst (pc := 83) E dX8_told_83 ?_
          refine k_mr (fun hm_s0 => ?_)
          refine k_callV (pc := 84) (np := 2) (As := [gI x0, gI 0]) (st := []) (q0 := 3) E (c_X4_falls l D a cI cJ cS cT s0 x0 0 (by omega) (by omega) hpre0 hpre1 hpre2 hpre3 hKF_s0 (by first | assumption | omega) (by first | assumption | omega)) wm_513 wm_4 wm_510 wm_511 wm_512 (by decide +kernel) rfl rfl ⟨by decide, by decide⟩ rfl (Nat.le_of_ble_eq_true rfl) dX8_told_84 (fun r15 s16 hs16 hr14 => ?_)
          replace hT := gby hT hs16
          have hp17 := f_X4_falls_p x0 0 s0 (by omega) (by omega) hm_s0 hpre0 hpre1 hpre2 hpre3 hKF_s0 (by first | assumption | omega) (by first | assumption | omega) r15 s16 hs16
          obtain ⟨hfc_s16, hm_s16, hp18, hKF_s16, hp19⟩ := hp17
          have hf_s16 : fr [32, 36, 37, 38, 39] s0 s16 := hf_s0.call (by decide) hfc_s16
          have hKC_s16 : KC s16 := KC_fr hKC_s0 (fun k hk => hfc_s16 k (dj (by decide) k hk))
          have hKT_s16 : KT s16 := KT_fr hKT_s0 (fun k hk => hfc_s16 k (dj (by decide) k hk))
          refine k_st (st' := [gI r15]) rfl ?_
          exact k_rho hT (k_iret (pc := 87) E dX8_told_87 (by omega))
        · replace hT := hT.trans (if_neg h6)
          by_cases h7 : x1 = 3
          · replace hT := hT.trans (if_pos h7)
            refine k_tabIn (pc := 13) (tgt := 88) E dX8_told_13 (by omega) (by omega) (by omega) (by rw [h7]; rfl) (by decide) ?_
            refine k_aloadn (pc := 88) E 0 dX8_told_88 rfl rfl ?_
            refine k_getf (pc := 89) (q0 := 0) (f := 2) (v := .ref (a 3)) E inX8 rfl rfl (by decide) wm_274 rfl rfl dX8_told_89 ?_
            refine k_iloadn (pc := 92) E 1 dX8_told_92 rfl rfl ?_
            refine k_mr (fun hm_s0 => ?_)
            refine k_callV (pc := 93) (np := 1) (As := [gI x0]) (st := []) (q0 := 3) E (c_X4_takes l D a cI cJ cS cT s0 x0 (by omega) hpre0 hpre1 hpre2 hpre3 hKT_s0 (by first | assumption | omega)) wm_522 wm_4 wm_519 wm_520 wm_521 (by decide +kernel) rfl rfl ⟨by decide, by decide⟩ rfl (Nat.le_of_ble_eq_true rfl) dX8_told_93 (fun r21 s22 hs22 hr20 => ?_)
            replace hT := gby hT hs22
            have hp23 := f_X4_takes_p x0 s0 (by omega) hm_s0 hpre0 hpre1 hpre2 hpre3 hKT_s0 (by first | assumption | omega) r21 s22 hs22
            obtain ⟨hfc_s22, hm_s22, hp24, hKT_s22, hp25⟩ := hp23
            have hf_s22 : fr [32, 36, 37, 38, 39] s0 s22 := hf_s0.call (by decide) hfc_s22
            have hKF_s22 : KF s22 := KF_fr hKF_s0 (fun k hk => hfc_s22 k (dj (by decide) k hk))
            have hKC_s22 : KC s22 := KC_fr hKC_s0 (fun k hk => hfc_s22 k (dj (by decide) k hk))
            refine k_st (st' := [gI r21]) rfl ?_
            exact k_rho hT (k_iret (pc := 96) E dX8_told_96 (by omega))
          · replace hT := hT.trans (if_neg h7)
            by_cases h8 : x1 = 4
            · replace hT := hT.trans (if_pos h8)
              refine k_tabIn (pc := 13) (tgt := 97) E dX8_told_13 (by omega) (by omega) (by omega) (by rw [h8]; rfl) (by decide) ?_
              refine k_aloadn (pc := 97) E 0 dX8_told_97 rfl rfl ?_
              refine k_getf (pc := 98) (q0 := 0) (f := 2) (v := .ref (a 3)) E inX8 rfl rfl (by decide) wm_274 rfl rfl dX8_told_98 ?_
              refine k_iloadn (pc := 101) E 1 dX8_told_101 rfl rfl ?_
              refine k_mr (fun hm_s0 => ?_)
              refine k_callV (pc := 102) (np := 1) (As := [gI x0]) (st := []) (q0 := 3) E (c_X4_stops l D a cI cJ cS cT s0 x0 (by omega) (by first | assumption | omega)) wm_533 wm_4 wm_530 wm_531 wm_532 (by decide +kernel) rfl rfl ⟨by decide, by decide⟩ rfl (Nat.le_of_ble_eq_true rfl) dX8_told_102 (ro_kk (fun hr26 => ?_))
              have hp27 := f_X4_stops_p x0 s0 (by omega) hm_s0 (by first | assumption | omega)
              refine k_st (st' := [gI (f_X4_stops x0 s0)]) rfl ?_
              by_cases h28 : (f_X4_stops x0 s0) = 0
              · replace hT := hT.trans (if_pos h28)
                refine k_if_eq_t (pc := 105) (tgt := 112) E (by omega) dX8_told_105 (by decide) h28 ?_
                refine k_iconst (pc := 112) E dX8_told_112 ?_
                exact k_rho hT (k_iret (pc := 113) E dX8_told_113 (by omega))
              · replace hT := hT.trans (if_neg h28)
                refine k_if_eq_f (pc := 105) (tgt := 112) E (by omega) dX8_told_105 (by decide) h28 ?_
                refine k_iconst (pc := 108) E dX8_told_108 ?_
                refine k_goto (pc := 109) (tgt := 113) E dX8_told_109 (by decide) ?_
                exact k_rho hT (k_iret (pc := 113) E dX8_told_113 (by omega))
            · replace hT := hT.trans (if_neg h8)
              by_cases h9 : x1 = 5
              · replace hT := hT.trans (if_pos h9)
                refine k_tabIn (pc := 13) (tgt := 114) E dX8_told_13 (by omega) (by omega) (by omega) (by rw [h9]; rfl) (by decide) ?_
                refine k_aloadn (pc := 114) E 0 dX8_told_114 rfl rfl ?_
                refine k_getf (pc := 115) (q0 := 0) (f := 2) (v := .ref (a 3)) E inX8 rfl rfl (by decide) wm_274 rfl rfl dX8_told_115 ?_
                refine k_iloadn (pc := 118) E 1 dX8_told_118 rfl rfl ?_
                refine k_iconst (pc := 119) E dX8_told_119 ?_
                refine k_mr (fun hm_s0 => ?_)
                refine k_callV (pc := 120) (np := 2) (As := [gI x0, gI 0]) (st := []) (q0 := 3) E (c_X4_closes l D a cI cJ cS cT s0 x0 0 (by omega) (by omega) hpre0 hpre1 hpre2 hpre3 hKC_s0 (by first | assumption | omega) (by first | assumption | omega)) wm_537 wm_4 wm_534 wm_535 wm_536 (by decide +kernel) rfl rfl ⟨by decide, by decide⟩ rfl (Nat.le_of_ble_eq_true rfl) dX8_told_120 (fun r30 s31 hs31 hr29 => ?_)
                replace hT := gby hT hs31
                have hp32 := f_X4_closes_p x0 0 s0 (by omega) (by omega) hm_s0 hpre0 hpre1 hpre2 hpre3 hKC_s0 (by first | assumption | omega) (by first | assumption | omega) r30 s31 hs31
                obtain ⟨hfc_s31, hm_s31, hp33, hKC_s31, hp34⟩ := hp32
                have hf_s31 : fr [32, 36, 37, 38, 39] s0 s31 := hf_s0.call (by decide) hfc_s31
                have hKF_s31 : KF s31 := KF_fr hKF_s0 (fun k hk => hfc_s31 k (dj (by decide) k hk))
                have hKT_s31 : KT s31 := KT_fr hKT_s0 (fun k hk => hfc_s31 k (dj (by decide) k hk))
                refine k_st (st' := [gI r30]) rfl ?_
                exact k_rho hT (k_iret (pc := 123) E dX8_told_123 (by omega))
              · replace hT := hT.trans (if_neg h9)
                refine k_tabOut (pc := 13) (tgt := 124) E dX8_told_13 (by omega) (by omega) (by decide) ?_
                refine k_bipush (pc := 124) E dX8_told_124 (by decide) ?_
                exact k_rho hT (k_iret (pc := 126) E dX8_told_126 (by omega))
  · replace hT := hT.trans (if_neg h3)
    refine k_if_eq_f (pc := 6) (tgt := 12) E (by omega) dX8_told_6 (by decide) h3 ?_
    refine k_bipush (pc := 9) E dX8_told_9 (by decide) ?_
    exact k_rho hT (k_iret (pc := 11) E dX8_told_11 (by omega))

def f_X8_push (x0 : Int) (x1 : Int) (s0 : gMem) : Int := (if (f_X8_outside x0 16) = 0 then (if (f_X8_outside x1 3) = 0 then (f_X4_pushed x0 x1 (s0 62 0) s0) else (-7)) else (-5))
theorem f_X8_push_e (x0 : Int) (x1 : Int) (s0 : gMem) : f_X8_push x0 x1 s0 = (if (f_X8_outside x0 16) = 0 then (if (f_X8_outside x1 3) = 0 then (f_X4_pushed x0 x1 (s0 62 0) s0) else (-7)) else (-5)) := rfl
set_option maxRecDepth 100000 in
set_option maxHeartbeats 4000000 in
theorem f_X8_push_p (x0 : Int) (x1 : Int) (s0 : gMem) (hx0 : in32 x0) (hx1 : in32 x1) (hm_s0 : gMR lgX s0)  : (in32 (f_X8_push x0 x1 s0)) := by
  have hT := f_X8_push_e x0 x1 s0
  have hp2 := f_X8_outside_p x0 16 (by omega) (by omega) 
  by_cases h3 : (f_X8_outside x0 16) = 0
  · replace hT := hT.trans (if_pos h3)
    have hp5 := f_X8_outside_p x1 3 (by omega) (by omega) 
    by_cases h6 : (f_X8_outside x1 3) = 0
    · replace hT := hT.trans (if_pos h6)
      have hr7 := (hm_s0 62 0).1 rfl
      have hp9 := f_X4_pushed_p x0 x1 (s0 62 0) s0 (by omega) (by omega) (by omega) hm_s0 (by first | assumption | omega)
      rw [hT]
      exact (by omega)
    · replace hT := hT.trans (if_neg h6)
      rw [hT]
      exact (by omega)
  · replace hT := hT.trans (if_neg h3)
    rw [hT]
    exact (by omega)
set_option maxRecDepth 100000 in
set_option maxHeartbeats 4000000 in
theorem c_X8_push (l : Launch) (D : va_G) (a : Nat → Nat) (cI cJ cS cT : ClassId) (s0 : gMem) (x0 : Int) (x1 : Int) (hx0 : in32 x0) (hx1 : in32 x1)  : gC l yX8_push cX8_push 3 (some .int) 4 256 D vwCl (gT cI cJ cS cT) (wdX a cI cJ cS cT) lgX kI in32 [.ref (a 0), gI x0, gI x1] s0 ((f_X8_push x0 x1 s0), s0) := by
  refine gC_of (by decide +kernel) (hwdX a cI cJ cS cT) (Nat.le_of_ble_eq_true rfl) ?_
  intro A p e R s m args below meth c hR E
  subst hR
  have hT := f_X8_push_e x0 x1 s0
  refine k_lv0 (lv' := [(0, .ref (a 0)), (1, gI x0), (2, gI x1)]) rfl ?_
  refine k_mr (fun hm_s0 => ?_)
  refine k_iloadn (pc := 0) E 1 dX8_push_0 rfl rfl ?_
  refine k_bipush (pc := 1) E dX8_push_1 (by decide) ?_
  refine k_mr (fun hm_s0 => ?_)
  refine k_callS (pc := 3) (np := 2) (As := [gI x0, gI 16]) (st := []) E (c_X8_outside l D a cI cJ cS cT s0 x0 16 (by omega) (by omega)) wm_310 wm_1 wm_308 wm_309 (by decide +kernel) ⟨by decide, by decide⟩ rfl (Nat.le_of_ble_eq_true rfl) dX8_push_3 (ro_kk (fun hr1 => ?_))
  have hp2 := f_X8_outside_p x0 16 (by omega) (by omega) 
  refine k_st (st' := [gI (f_X8_outside x0 16)]) rfl ?_
  by_cases h3 : (f_X8_outside x0 16) = 0
  · replace hT := hT.trans (if_pos h3)
    refine k_if_eq_t (pc := 6) (tgt := 12) E (by omega) dX8_push_6 (by decide) h3 ?_
    refine k_iloadn (pc := 12) E 2 dX8_push_12 rfl rfl ?_
    refine k_iconst (pc := 13) E dX8_push_13 ?_
    refine k_mr (fun hm_s0 => ?_)
    refine k_callS (pc := 14) (np := 2) (As := [gI x1, gI 3]) (st := []) E (c_X8_outside l D a cI cJ cS cT s0 x1 3 (by omega) (by omega)) wm_310 wm_1 wm_308 wm_309 (by decide +kernel) ⟨by decide, by decide⟩ rfl (Nat.le_of_ble_eq_true rfl) dX8_push_14 (ro_kk (fun hr4 => ?_))
    have hp5 := f_X8_outside_p x1 3 (by omega) (by omega) 
    refine k_st (st' := [gI (f_X8_outside x1 3)]) rfl ?_
    by_cases h6 : (f_X8_outside x1 3) = 0
    · replace hT := hT.trans (if_pos h6)
      refine k_if_eq_t (pc := 17) (tgt := 23) E (by omega) dX8_push_17 (by decide) h6 ?_
      refine k_aloadn (pc := 23) E 0 dX8_push_23 rfl rfl ?_
      refine k_getf (pc := 24) (q0 := 0) (f := 2) (v := .ref (a 3)) E inX8 rfl rfl (by decide) wm_274 rfl rfl dX8_push_24 ?_
      refine k_iloadn (pc := 27) E 1 dX8_push_27 rfl rfl ?_
      refine k_iloadn (pc := 28) E 2 dX8_push_28 rfl rfl ?_
      refine k_aloadn (pc := 29) E 0 dX8_push_29 rfl rfl ?_
      refine k_getf (pc := 30) (q0 := 0) (f := 2) (v := .ref (a 3)) E inX8 rfl rfl (by decide) wm_274 rfl rfl dX8_push_30 ?_
      refine k_getf (pc := 33) (q0 := 3) (f := 0) (v := .ref (a 4)) E inX4 rfl rfl (by decide) wm_149 rfl rfl dX8_push_33 ?_
      refine k_getfI (pc := 36) (q0 := 4) (f := 5) (k := 62) E inX6 rfl rfl (by decide) wm_119 rfl rfl rfl dX8_push_36 (fun hr7 => ?_)
      refine k_callV (pc := 39) (np := 3) (As := [gI x0, gI x1, gI (s0 62 0)]) (st := []) (q0 := 3) E (c_X4_pushed l D a cI cJ cS cT s0 x0 x1 (s0 62 0) (by omega) (by omega) (by omega) (by first | assumption | omega)) wm_672 wm_4 wm_669 wm_670 wm_671 (by decide +kernel) rfl rfl ⟨by decide, by decide⟩ rfl (Nat.le_of_ble_eq_true rfl) dX8_push_39 (ro_kk (fun hr8 => ?_))
      refine k_st (st' := [gI (f_X4_pushed x0 x1 (s0 62 0) s0)]) rfl ?_
      exact k_rho (congrArg (fun q => (q, s0)) hT) (k_iret (pc := 42) E dX8_push_42 (by omega))
    · replace hT := hT.trans (if_neg h6)
      refine k_if_eq_f (pc := 17) (tgt := 23) E (by omega) dX8_push_17 (by decide) h6 ?_
      refine k_bipush (pc := 20) E dX8_push_20 (by decide) ?_
      exact k_rho (congrArg (fun q => (q, s0)) hT) (k_iret (pc := 22) E dX8_push_22 (by omega))
  · replace hT := hT.trans (if_neg h3)
    refine k_if_eq_f (pc := 6) (tgt := 12) E (by omega) dX8_push_6 (by decide) h3 ?_
    refine k_bipush (pc := 9) E dX8_push_9 (by decide) ?_
    exact k_rho (congrArg (fun q => (q, s0)) hT) (k_iret (pc := 11) E dX8_push_11 (by omega))

def w_X8_far_18 (c1 : Int) (s0 : gMem) : Nat → Int → Int → Int → Int × Int × Int
  | 0, v4, v5, v6 => (v4, v5, v6)
  | n7 + 1, v4, v5, v6 => (if v6 < 16 then gl (f_J6_bitCount_0f7a4 (f_X4_pushed v6 1 (s0 62 0) s0)) (fun v14 => (gl2 ((if (f_X8_has (s0 60 0) v6) = 0 then (v4, v5) else (if v5 < v14 then (v6, v14) else (v4, v5)))) (fun v20 v21 => (w_X8_far_18 c1 s0 n7 v20 v21 (v6 + 1))))) else (v4, v5, v6))
theorem w_X8_far_18_s (c1 : Int) (s0 : gMem) (n7 : Nat) (v4 : Int) (v5 : Int) (v6 : Int)  : w_X8_far_18 c1 s0 (n7 + 1) v4 v5 v6 = (if v6 < 16 then gl (f_J6_bitCount_0f7a4 (f_X4_pushed v6 1 (s0 62 0) s0)) (fun v14 => (gl2 ((if (f_X8_has (s0 60 0) v6) = 0 then (v4, v5) else (if v5 < v14 then (v6, v14) else (v4, v5)))) (fun v20 v21 => (w_X8_far_18 c1 s0 n7 v20 v21 (v6 + 1))))) else (v4, v5, v6)) := rfl
def f_X8_far (x0 : Int) (s0 : gMem) : Int := (if (f_X8_outside x0 2) = 0 then (gl3 (w_X8_far_18 x0 s0 17 (-1) (-1) 0) (fun v60 v61 v62 => (if x0 = 0 then v60 else v61))) else (-2))
theorem f_X8_far_e (x0 : Int) (s0 : gMem) : f_X8_far x0 s0 = (if (f_X8_outside x0 2) = 0 then (gl3 (w_X8_far_18 x0 s0 17 (-1) (-1) 0) (fun v60 v61 v62 => (if x0 = 0 then v60 else v61))) else (-2)) := rfl
set_option maxRecDepth 100000 in
set_option maxHeartbeats 4000000 in
theorem f_X8_far_p (x0 : Int) (s0 : gMem) (hx0 : in32 x0) (hm_s0 : gMR lgX s0)  : (in32 (f_X8_far x0 s0)) := by
  have hT := f_X8_far_e x0 s0
  have hp2 := f_X8_outside_p x0 2 (by omega) (by omega) 
  by_cases h3 : (f_X8_outside x0 2) = 0
  · replace hT := hT.trans (if_pos h3)
    have L29 : ∀ (n30 : Nat) (v26 : Int) (v27 : Int) (v28 : Int), ((in32 v26) ∧ (in32 v27) ∧ (in32 v28) ∧ (0 ≤ v28 ∧ v28 ≤ 16)) → 16 - v28 < (n30 : Int) → (∀ (w31 : Int) (w32 : Int) (w33 : Int), (w_X8_far_18 x0 s0 n30 v26 v27 v28) = (w31, w32, w33) → ((in32 w31) ∧ (in32 w32) ∧ (in32 w33) ∧ (0 ≤ w33 ∧ w33 ≤ 16)) → (in32 (f_X8_far x0 s0))) → (in32 (f_X8_far x0 s0)) := by
      intro n30; induction n30 with
      | zero =>
        intro v26 v27 v28 hq hm hk
        exfalso
        obtain ⟨hq52, hq53, hq54, hq55⟩ := hq
        omega
      | succ n30 ih =>
        intro v26 v27 v28 hq hm hk
        obtain ⟨hq56, hq57, hq58, hq59⟩ := hq
        have hT := w_X8_far_18_s x0 s0 n30 v26 v27 v28
        by_cases h34 : v28 < 16
        · replace hT := hT.trans (if_pos h34)
          have hr35 := (hm_s0 62 0).1 rfl
          have hp37 := f_X4_pushed_p v28 1 (s0 62 0) s0 (by omega) (by omega) (by omega) hm_s0 (by first | assumption | omega)
          have hp39 := f_J6_bitCount_0f7a4_p (f_X4_pushed v28 1 (s0 62 0) s0) (by omega) 
          obtain ⟨v40, hv40, hT⟩ := glx hT
          rw [← hv40] at hp39
          clear hv40
          have hr41 := (hm_s0 60 0).1 rfl
          have hp43 := f_X8_has_p (s0 60 0) v28 (by omega) (by omega) 
          obtain ⟨z50, hz50, hT⟩ := gl2x hT
          have j45 : ∀ (v46 : Int) (v47 : Int), ((in32 v46) ∧ (in32 v47)) → z50 = (v46, v47) → (in32 (f_X8_far x0 s0)) := by
            intro v46 v47 hq hz
            obtain ⟨hq48, hq49⟩ := hq
            replace hT := gl2y hT hz
            exact ih v46 v47 (v28 + 1) ⟨(by omega), (by omega), (by omega), (by first | assumption | omega)⟩ (by omega) (fun w31 w32 w33 hw hi => hk w31 w32 w33 (hT.trans hw) hi)
          replace hT := hz50
          by_cases h44 : (f_X8_has (s0 60 0) v28) = 0
          · replace hT := hT.trans (if_pos h44)
            exact j45 v26 v27 ⟨(by omega), (by omega)⟩ hT
          · replace hT := hT.trans (if_neg h44)
            by_cases h51 : v27 < v40
            · replace hT := hT.trans (if_pos h51)
              exact j45 v28 v40 ⟨(by omega), (by omega)⟩ hT
            · replace hT := hT.trans (if_neg h51)
              exact j45 v26 v27 ⟨(by omega), (by omega)⟩ hT
        · replace hT := hT.trans (if_neg h34)
          exact hk v26 v27 v28 hT ⟨(by omega), (by omega), (by omega), (by first | assumption | omega)⟩
    refine L29 17 (-1) (-1) 0 ⟨(by omega), (by omega), (by omega), (by first | assumption | omega)⟩ (by omega) (fun v60 v61 v62 hw hq => ?_)
    obtain ⟨hq63, hq64, hq65, hq66⟩ := hq
    replace hT := gl3y hT hw
    by_cases h67 : x0 = 0
    · replace hT := hT.trans (if_pos h67)
      rw [hT]
      exact (by omega)
    · replace hT := hT.trans (if_neg h67)
      rw [hT]
      exact (by omega)
  · replace hT := hT.trans (if_neg h3)
    rw [hT]
    exact (by omega)
set_option maxRecDepth 100000 in
set_option maxHeartbeats 4000000 in
theorem c_X8_far (l : Launch) (D : va_G) (a : Nat → Nat) (cI cJ cS cT : ClassId) (s0 : gMem) (x0 : Int) (hx0 : in32 x0)  : gC l yX8_far cX8_far 6 (some .int) 4 256 D vwCl (gT cI cJ cS cT) (wdX a cI cJ cS cT) lgX kI in32 [.ref (a 0), gI x0] s0 ((f_X8_far x0 s0), s0) := by
  refine gC_of (by decide +kernel) (hwdX a cI cJ cS cT) (Nat.le_of_ble_eq_true rfl) ?_
  intro A p e R s m args below meth c hR E
  subst hR
  have hT := f_X8_far_e x0 s0
  refine k_lv0 (lv' := [(0, .ref (a 0)), (1, gI x0)]) rfl ?_
  refine k_mr (fun hm_s0 => ?_)
  refine k_iloadn (pc := 0) E 1 dX8_far_0 rfl rfl ?_
  refine k_iconst (pc := 1) E dX8_far_1 ?_
  refine k_mr (fun hm_s0 => ?_)
  refine k_callS (pc := 2) (np := 2) (As := [gI x0, gI 2]) (st := []) E (c_X8_outside l D a cI cJ cS cT s0 x0 2 (by omega) (by omega)) wm_310 wm_1 wm_308 wm_309 (by decide +kernel) ⟨by decide, by decide⟩ rfl (Nat.le_of_ble_eq_true rfl) dX8_far_2 (ro_kk (fun hr1 => ?_))
  have hp2 := f_X8_outside_p x0 2 (by omega) (by omega) 
  refine k_st (st' := [gI (f_X8_outside x0 2)]) rfl ?_
  by_cases h3 : (f_X8_outside x0 2) = 0
  · replace hT := hT.trans (if_pos h3)
    refine k_if_eq_t (pc := 5) (tgt := 11) E (by omega) dX8_far_5 (by decide) h3 ?_
    refine k_iconst (pc := 11) E dX8_far_11 ?_
    refine k_istoren (pc := 12) (lv' := [(2, gI (-1)), (0, .ref (a 0)), (1, gI x0)]) E dX8_far_12 rfl (by decide) rfl ?_
    refine k_iconst (pc := 13) E dX8_far_13 ?_
    refine k_istoren (pc := 14) (lv' := [(3, gI (-1)), (2, gI (-1)), (0, .ref (a 0)), (1, gI x0)]) E dX8_far_14 rfl (by decide) rfl ?_
    refine k_iconst (pc := 15) E dX8_far_15 ?_
    refine k_istore (pc := 16) (lv' := [(4, gI 0), (3, gI (-1)), (2, gI (-1)), (0, .ref (a 0)), (1, gI x0)]) E dX8_far_16 (by decide) rfl ?_
    have L29 : ∀ (n30 : Nat) (v26 : Int) (v27 : Int) (v28 : Int), ((in32 v26) ∧ (in32 v27) ∧ (in32 v28) ∧ (0 ≤ v28 ∧ v28 ≤ 16)) → 16 - v28 < (n30 : Int) → (∀ (w31 : Int) (w32 : Int) (w33 : Int), (w_X8_far_18 x0 s0 n30 v26 v27 v28) = (w31, w32, w33) → ((in32 w31) ∧ (in32 w32) ∧ (in32 w33) ∧ (0 ≤ w33 ∧ w33 ≤ 16)) → gK D vwCl (wdX a cI cJ cS cT) lgX A p l e { frames := 4, cells := 0, slots := 0, locals := 256 } s m args below meth c 6 (gQQ D vwCl (wdX a cI cJ cS cT) lgX A kI in32 below args s) ((f_X8_far x0 s0), s0) s0 86 [(1, gI x0), (2, gI w31), (3, gI w32)] []) → gK D vwCl (wdX a cI cJ cS cT) lgX A p l e { frames := 4, cells := 0, slots := 0, locals := 256 } s m args below meth c 6 (gQQ D vwCl (wdX a cI cJ cS cT) lgX A kI in32 below args s) ((f_X8_far x0 s0), s0) s0 18 [(0, .ref (a 0)), (1, gI x0), (2, gI v26), (3, gI v27), (4, gI v28)] [] := by
      intro n30; induction n30 with
      | zero =>
        intro v26 v27 v28 hq hm hk
        exfalso
        obtain ⟨hq52, hq53, hq54, hq55⟩ := hq
        omega
      | succ n30 ih =>
        intro v26 v27 v28 hq hm hk
        obtain ⟨hq56, hq57, hq58, hq59⟩ := hq
        have hT := w_X8_far_18_s x0 s0 n30 v26 v27 v28
        refine k_iload (pc := 18) E 4 dX8_far_18 rfl ?_
        refine k_bipush (pc := 20) E dX8_far_20 (by decide) ?_
        by_cases h34 : v28 < 16
        · replace hT := hT.trans (if_pos h34)
          refine k_icmp_ge_f (pc := 22) (tgt := 86) E (by omega) (by omega) dX8_far_22 (by decide) h34 ?_
          refine k_aloadn (pc := 25) E 0 dX8_far_25 rfl rfl ?_
          refine k_getf (pc := 26) (q0 := 0) (f := 2) (v := .ref (a 3)) E inX8 rfl rfl (by decide) wm_274 rfl rfl dX8_far_26 ?_
          refine k_iload (pc := 29) E 4 dX8_far_29 rfl ?_
          refine k_iconst (pc := 31) E dX8_far_31 ?_
          refine k_aloadn (pc := 32) E 0 dX8_far_32 rfl rfl ?_
          refine k_getf (pc := 33) (q0 := 0) (f := 2) (v := .ref (a 3)) E inX8 rfl rfl (by decide) wm_274 rfl rfl dX8_far_33 ?_
          refine k_getf (pc := 36) (q0 := 3) (f := 0) (v := .ref (a 4)) E inX4 rfl rfl (by decide) wm_149 rfl rfl dX8_far_36 ?_
          refine k_getfI (pc := 39) (q0 := 4) (f := 5) (k := 62) E inX6 rfl rfl (by decide) wm_119 rfl rfl rfl dX8_far_39 (fun hr35 => ?_)
          refine k_callV (pc := 42) (np := 3) (As := [gI v28, gI 1, gI (s0 62 0)]) (st := []) (q0 := 3) E (c_X4_pushed l D a cI cJ cS cT s0 v28 1 (s0 62 0) (by omega) (by omega) (by omega) (by first | assumption | omega)) wm_672 wm_4 wm_669 wm_670 wm_671 (by decide +kernel) rfl rfl ⟨by decide, by decide⟩ rfl (Nat.le_of_ble_eq_true rfl) dX8_far_42 (ro_kk (fun hr36 => ?_))
          refine k_st (st' := [gI (f_X4_pushed v28 1 (s0 62 0) s0)]) rfl ?_
          refine k_callS (pc := 45) (np := 1) (As := [gI (f_X4_pushed v28 1 (s0 62 0) s0)]) (st := []) E (c_J6_bitCount_0f7a4 l D a cI cJ cS cT s0 (f_X4_pushed v28 1 (s0 62 0) s0) (by omega)) wm_487 wm_17 wm_686 wm_486 (by decide +kernel) ⟨by decide, by decide⟩ rfl (Nat.le_of_ble_eq_true rfl) dX8_far_45 (ro_kk (fun hr38 => ?_))
          have hp39 := f_J6_bitCount_0f7a4_p (f_X4_pushed v28 1 (s0 62 0) s0) (by omega) 
          obtain ⟨v40, hv40, hT⟩ := glx hT
          refine k_st (st' := [gI v40]) (by rw [hv40]; rfl) ?_
          rw [← hv40] at hr38 hp39
          clear hv40
          refine k_istore (pc := 48) (lv' := [(5, gI v40), (0, .ref (a 0)), (1, gI x0), (2, gI v26), (3, gI v27), (4, gI v28)]) E dX8_far_48 (by decide) rfl ?_
          refine k_aloadn (pc := 50) E 1 dX8_far_50 rfl rfl ?_
          refine k_getf (pc := 51) (q0 := 0) (f := 2) (v := .ref (a 3)) E inX8 rfl rfl (by decide) wm_274 rfl rfl dX8_far_51 ?_
          refine k_getf (pc := 54) (q0 := 3) (f := 0) (v := .ref (a 4)) E inX4 rfl rfl (by decide) wm_149 rfl rfl dX8_far_54 ?_
          refine k_getfI (pc := 57) (q0 := 4) (f := 3) (k := 60) E inX6 rfl rfl (by decide) wm_113 rfl rfl rfl dX8_far_57 (fun hr41 => ?_)
          refine k_iload (pc := 60) E 5 dX8_far_60 rfl ?_
          refine k_mr (fun hm_s0 => ?_)
          refine k_callS (pc := 62) (np := 2) (As := [gI (s0 60 0), gI v28]) (st := []) E (c_X8_has l D a cI cJ cS cT s0 (s0 60 0) v28 (by omega) (by omega)) wm_552 wm_1 wm_651 wm_551 (by decide +kernel) ⟨by decide, by decide⟩ rfl (Nat.le_of_ble_eq_true rfl) dX8_far_62 (ro_kk (fun hr42 => ?_))
          have hp43 := f_X8_has_p (s0 60 0) v28 (by omega) (by omega) 
          refine k_st (st' := [gI (f_X8_has (s0 60 0) v28)]) rfl ?_
          obtain ⟨z50, hz50, hT⟩ := gl2x hT
          have j45 : ∀ (v46 : Int) (v47 : Int), ((in32 v46) ∧ (in32 v47)) → z50 = (v46, v47) → gK D vwCl (wdX a cI cJ cS cT) lgX A p l e { frames := 4, cells := 0, slots := 0, locals := 256 } s m args below meth c 6 (gQQ D vwCl (wdX a cI cJ cS cT) lgX A kI in32 below args s) ((f_X8_far x0 s0), s0) s0 80 [(0, .ref (a 0)), (1, gI x0), (2, gI v46), (3, gI v47), (4, gI v28)] [] := by
            intro v46 v47 hq hz
            obtain ⟨hq48, hq49⟩ := hq
            replace hT := gl2y hT hz
            refine k_iinc (pc := 80) (lv' := [(4, gI (v28 + 1)), (0, .ref (a 0)), (1, gI x0), (2, gI v46), (3, gI v47)]) E 4 dX8_far_80 rfl (by decide) rfl ?_
            refine k_goto (pc := 83) (tgt := 18) E dX8_far_83 (by decide) ?_
            refine k_lv (lv' := [(0, .ref (a 0)), (1, gI x0), (2, gI v46), (3, gI v47), (4, gI (v28 + 1))]) [1, 2, 3, 4, 0] rfl ?_
            exact ih v46 v47 (v28 + 1) ⟨(by omega), (by omega), (by omega), (by first | assumption | omega)⟩ (by omega) (fun w31 w32 w33 hw hi => hk w31 w32 w33 (hT.trans hw) hi)
          replace hT := hz50
          by_cases h44 : (f_X8_has (s0 60 0) v28) = 0
          · replace hT := hT.trans (if_pos h44)
            refine k_if_eq_t (pc := 65) (tgt := 80) E (by omega) dX8_far_65 (by decide) h44 ?_
            refine k_lv (lv' := [(0, .ref (a 0)), (1, gI x0), (2, gI v26), (3, gI v27), (4, gI v28)]) [1, 2, 3, 4, 5] rfl ?_
            exact j45 v26 v27 ⟨(by omega), (by omega)⟩ hT
          · replace hT := hT.trans (if_neg h44)
            refine k_if_eq_f (pc := 65) (tgt := 80) E (by omega) dX8_far_65 (by decide) h44 ?_
            refine k_iload (pc := 68) E 0 dX8_far_68 rfl ?_
            refine k_iloadn (pc := 70) E 4 dX8_far_70 rfl rfl ?_
            by_cases h51 : v27 < v40
            · replace hT := hT.trans (if_pos h51)
              refine k_icmp_le_f (pc := 71) (tgt := 80) E (by omega) (by omega) dX8_far_71 (by decide) h51 ?_
              refine k_iload (pc := 74) E 5 dX8_far_74 rfl ?_
              refine k_istoren (pc := 76) (lv' := [(2, gI v28), (5, gI v40), (0, .ref (a 0)), (1, gI x0), (3, gI v27), (4, gI v28)]) E dX8_far_76 rfl (by decide) rfl ?_
              refine k_iload (pc := 77) E 1 dX8_far_77 rfl ?_
              refine k_istoren (pc := 79) (lv' := [(3, gI v40), (2, gI v28), (5, gI v40), (0, .ref (a 0)), (1, gI x0), (4, gI v28)]) E dX8_far_79 rfl (by decide) rfl ?_
              refine k_lv (lv' := [(0, .ref (a 0)), (1, gI x0), (2, gI v28), (3, gI v40), (4, gI v28)]) [3, 4, 1, 0, 5] rfl ?_
              exact j45 v28 v40 ⟨(by omega), (by omega)⟩ hT
            · replace hT := hT.trans (if_neg h51)
              refine k_icmp_le_t (pc := 71) (tgt := 80) E (by omega) (by omega) dX8_far_71 (by decide) h51 ?_
              refine k_lv (lv' := [(0, .ref (a 0)), (1, gI x0), (2, gI v26), (3, gI v27), (4, gI v28)]) [1, 2, 3, 4, 5] rfl ?_
              exact j45 v26 v27 ⟨(by omega), (by omega)⟩ hT
        · replace hT := hT.trans (if_neg h34)
          refine k_icmp_ge_t (pc := 22) (tgt := 86) E (by omega) (by omega) dX8_far_22 (by decide) h34 ?_
          refine k_lv (lv' := [(1, gI x0), (2, gI v26), (3, gI v27)]) [1, 2, 3] rfl ?_
          exact hk v26 v27 v28 hT ⟨(by omega), (by omega), (by omega), (by first | assumption | omega)⟩
    refine k_lv (lv' := [(0, .ref (a 0)), (1, gI x0), (2, gI (-1)), (3, gI (-1)), (4, gI 0)]) [3, 4, 2, 1, 0] rfl ?_
    refine L29 17 (-1) (-1) 0 ⟨(by omega), (by omega), (by omega), (by first | assumption | omega)⟩ (by omega) (fun v60 v61 v62 hw hq => ?_)
    obtain ⟨hq63, hq64, hq65, hq66⟩ := hq
    replace hT := gl3y hT hw
    refine k_iloadn (pc := 86) E 0 dX8_far_86 rfl rfl ?_
    by_cases h67 : x0 = 0
    · replace hT := hT.trans (if_pos h67)
      refine k_if_ne_f (pc := 87) (tgt := 94) E (by omega) dX8_far_87 (by decide) h67 ?_
      refine k_iloadn (pc := 90) E 1 dX8_far_90 rfl rfl ?_
      refine k_goto (pc := 91) (tgt := 95) E dX8_far_91 (by decide) ?_
      exact k_rho (congrArg (fun q => (q, s0)) hT) (k_iret (pc := 95) E dX8_far_95 (by omega))
    · replace hT := hT.trans (if_neg h67)
      refine k_if_ne_t (pc := 87) (tgt := 94) E (by omega) dX8_far_87 (by decide) h67 ?_
      refine k_iloadn (pc := 94) E 2 dX8_far_94 rfl rfl ?_
      exact k_rho (congrArg (fun q => (q, s0)) hT) (k_iret (pc := 95) E dX8_far_95 (by omega))
  · replace hT := hT.trans (if_neg h3)
    refine k_if_eq_f (pc := 5) (tgt := 11) E (by omega) dX8_far_5 (by decide) h3 ?_
    refine k_bipush (pc := 8) E dX8_far_8 (by decide) ?_
    exact k_rho (congrArg (fun q => (q, s0)) hT) (k_iret (pc := 10) E dX8_far_10 (by omega))

def f_X8_tip (x0 : Int) (x1 : Int) (s0 : gMem) : gRes := (if (f_X8_push x0 x1 s0) < 0 then ((f_X8_push x0 x1 s0), s0) else gl (mset s0 60 0 (iand (s0 60 0) (ixor (f_X8_push x0 x1 s0) (-1)))) (fun s8 => gl (f_J6_bitCount_0f7a4 (f_X8_push x0 x1 s0)) (fun v11 => (v11, s8))))
theorem f_X8_tip_e (x0 : Int) (x1 : Int) (s0 : gMem) : f_X8_tip x0 x1 s0 = (if (f_X8_push x0 x1 s0) < 0 then ((f_X8_push x0 x1 s0), s0) else gl (mset s0 60 0 (iand (s0 60 0) (ixor (f_X8_push x0 x1 s0) (-1)))) (fun s8 => gl (f_J6_bitCount_0f7a4 (f_X8_push x0 x1 s0)) (fun v11 => (v11, s8)))) := rfl
set_option maxRecDepth 100000 in
set_option maxHeartbeats 4000000 in
theorem f_X8_tip_p (x0 : Int) (x1 : Int) (s0 : gMem) (hx0 : in32 x0) (hx1 : in32 x1) (hm_s0 : gMR lgX s0) (hpre0 : ST s0) (rZ : Int) (sZ : gMem) (hres : f_X8_tip x0 x1 s0 = (rZ, sZ)) : (fr [60] s0 sZ) ∧ (gMR lgX sZ) ∧ (in32 rZ) ∧ (ST sZ) := by
  have hT := f_X8_tip_e x0 x1 s0
  have hf_s0 : fr [60] s0 s0 := fr.rf _ _
  have hST_s0 := hpre0
  have hp2 := f_X8_push_p x0 x1 s0 (by omega) (by omega) hm_s0 
  by_cases h3 : (f_X8_push x0 x1 s0) < 0
  · replace hT := hT.trans (if_pos h3)
    obtain ⟨rfl, rfl⟩ := Prod.mk.inj (hT.symm.trans hres)
    exact ⟨hf_s0, hm_s0, (by omega), hST_s0⟩
  · replace hT := hT.trans (if_neg h3)
    have hr4 := (hm_s0 60 0).1 rfl
    have hi5 := hST_s0 0
    have hb6 := ixor_rg (f_X8_push x0 x1 s0) (-1)
    have hb7 := iand_rg (s0 60 0) (ixor (f_X8_push x0 x1 s0) (-1))
    have kn := iand_nn (ixor (f_X8_push x0 x1 s0) (-1)) (x := s0 60 0) (by omega) (by omega)
    obtain ⟨s8, hs8, hT⟩ := glx hT
    have hf_s8 : fr [60] s0 s8 := hs8 ▸ hf_s0.set (by decide)
    have hm_s8 : gMR lgX s8 := hs8 ▸ hm_s0.set32 rfl (by omega)
    have hg_s8 : fr [60] s0 s8 := hs8 ▸ (fr.rf _ _).set (by decide)
    have hST_s8 : ST s8 := hs8 ▸ ST_set hST_s0 (by omega)
    have hp10 := f_J6_bitCount_0f7a4_p (f_X8_push x0 x1 s0) (by omega) 
    obtain ⟨v11, hv11, hT⟩ := glx hT
    rw [← hv11] at hp10
    clear hv11
    obtain ⟨rfl, rfl⟩ := Prod.mk.inj (hT.symm.trans hres)
    exact ⟨hf_s8, hm_s8, (by omega), hST_s8⟩
set_option maxRecDepth 100000 in
set_option maxHeartbeats 4000000 in
theorem c_X8_tip (l : Launch) (D : va_G) (a : Nat → Nat) (cI cJ cS cT : ClassId) (s0 : gMem) (x0 : Int) (x1 : Int) (hx0 : in32 x0) (hx1 : in32 x1) (hpre0 : ST s0) : gC l yX8_tip cX8_tip 4 (some .int) 5 320 D vwCl (gT cI cJ cS cT) (wdX a cI cJ cS cT) lgX kI in32 [.ref (a 0), gI x0, gI x1] s0 (f_X8_tip x0 x1 s0) := by
  refine gC_of (by decide +kernel) (hwdX a cI cJ cS cT) (Nat.le_of_ble_eq_true rfl) ?_
  intro A p e R s m args below meth c hR E
  subst hR
  have hT := f_X8_tip_e x0 x1 s0
  have hf_s0 : fr [60] s0 s0 := fr.rf _ _
  refine k_lv0 (lv' := [(0, .ref (a 0)), (1, gI x0), (2, gI x1)]) rfl ?_
  refine k_mr (fun hm_s0 => ?_)
  have hST_s0 := hpre0
  refine k_aloadn (pc := 0) E 0 dX8_tip_0 rfl rfl ?_
  refine k_iloadn (pc := 1) E 1 dX8_tip_1 rfl rfl ?_
  refine k_iloadn (pc := 2) E 2 dX8_tip_2 rfl rfl ?_
  refine k_callV (pc := 3) (np := 2) (As := [gI x0, gI x1]) (st := []) (q0 := 0) E (c_X8_push l D a cI cJ cS cT s0 x0 x1 (by omega) (by omega)) wm_668 wm_1 wm_691 wm_666 wm_667 (by decide +kernel) rfl rfl ⟨by decide, by decide⟩ rfl (Nat.le_of_ble_eq_true rfl) dX8_tip_3 (ro_kk (fun hr1 => ?_))
  refine k_st (st' := [gI (f_X8_push x0 x1 s0)]) rfl ?_
  refine k_istoren (pc := 6) (lv' := [(3, gI (f_X8_push x0 x1 s0)), (0, .ref (a 0)), (1, gI x0), (2, gI x1)]) E dX8_tip_6 rfl (by decide) rfl ?_
  refine k_iloadn (pc := 7) E 0 dX8_tip_7 rfl rfl ?_
  by_cases h3 : (f_X8_push x0 x1 s0) < 0
  · replace hT := hT.trans (if_pos h3)
    refine k_if_ge_f (pc := 8) (tgt := 13) E (by omega) dX8_tip_8 (by decide) h3 ?_
    refine k_iloadn (pc := 11) E 0 dX8_tip_11 rfl rfl ?_
    exact k_rho hT (k_iret (pc := 12) E dX8_tip_12 (by omega))
  · replace hT := hT.trans (if_neg h3)
    refine k_if_ge_t (pc := 8) (tgt := 13) E (by omega) dX8_tip_8 (by decide) h3 ?_
    refine k_aloadn (pc := 13) E 1 dX8_tip_13 rfl rfl ?_
    refine k_getf (pc := 14) (q0 := 0) (f := 2) (v := .ref (a 3)) E inX8 rfl rfl (by decide) wm_274 rfl rfl dX8_tip_14 ?_
    refine k_getf (pc := 17) (q0 := 3) (f := 0) (v := .ref (a 4)) E inX4 rfl rfl (by decide) wm_149 rfl rfl dX8_tip_17 ?_
    refine k_dup (pc := 20) E dX8_tip_20 rfl ?_
    refine k_getfI (pc := 21) (q0 := 4) (f := 3) (k := 60) E inX6 rfl rfl (by decide) wm_113 rfl rfl rfl dX8_tip_21 (fun hr4 => ?_)
    have hi5 := hST_s0 0
    refine k_iloadn (pc := 24) E 0 dX8_tip_24 rfl rfl ?_
    refine k_iconst (pc := 25) E dX8_tip_25 ?_
    refine k_ixor (pc := 26) E dX8_tip_26 ?_
    have hb6 := ixor_rg (f_X8_push x0 x1 s0) (-1)
    refine k_iand (pc := 27) E dX8_tip_27 ?_
    have hb7 := iand_rg (s0 60 0) (ixor (f_X8_push x0 x1 s0) (-1))
    have kn := iand_nn (ixor (f_X8_push x0 x1 s0) (-1)) (x := s0 60 0) (by omega) (by omega)
    refine k_putfI (pc := 28) (q0 := 4) (f := 3) (k := 60) E tyX6 tyX6_ok nmX6 inX6 rfl rfl (by decide) wm_113 rfl rfl rfl (Nat.le_of_ble_eq_true rfl) rfl rfl (by omega) dX8_tip_28 ?_
    obtain ⟨s8, hs8, hT⟩ := glx hT
    refine k_sg hs8.symm ?_
    have hf_s8 : fr [60] s0 s8 := hs8 ▸ hf_s0.set (by decide)
    have hg_s8 : fr [60] s0 s8 := hs8 ▸ (fr.rf _ _).set (by decide)
    have hST_s8 : ST s8 := hs8 ▸ ST_set hST_s0 (by omega)
    refine k_iloadn (pc := 31) E 0 dX8_tip_31 rfl rfl ?_
    refine k_callS (pc := 32) (np := 1) (As := [gI (f_X8_push x0 x1 s0)]) (st := []) E (c_J6_bitCount_0f7a4 l D a cI cJ cS cT s8 (f_X8_push x0 x1 s0) (by omega)) wm_487 wm_17 wm_686 wm_486 (by decide +kernel) ⟨by decide, by decide⟩ rfl (Nat.le_of_ble_eq_true rfl) dX8_tip_32 (ro_kk (fun hr9 => ?_))
    have hp10 := f_J6_bitCount_0f7a4_p (f_X8_push x0 x1 s0) (by omega) 
    obtain ⟨v11, hv11, hT⟩ := glx hT
    refine k_st (st' := [gI v11]) (by rw [hv11]; rfl) ?_
    rw [← hv11] at hr9 hp10
    clear hv11
    exact k_rho hT (k_iret (pc := 35) E dX8_tip_35 (by omega))

def f_X0_begin (x0 : Int) (s0 : gMem) : gRes := gl (mset s0 71 0 (x0 + 1)) (fun s1 => gl (mset s1 72 0 (s1 60 0)) (fun s6 => gl (mset s6 73 0 0) (fun s9 => gl (mset s9 74 0 0) (fun s12 => (0, s12)))))
theorem f_X0_begin_e (x0 : Int) (s0 : gMem) : f_X0_begin x0 s0 = gl (mset s0 71 0 (x0 + 1)) (fun s1 => gl (mset s1 72 0 (s1 60 0)) (fun s6 => gl (mset s6 73 0 0) (fun s9 => gl (mset s9 74 0 0) (fun s12 => (0, s12))))) := rfl
set_option maxRecDepth 100000 in
set_option maxHeartbeats 4000000 in
theorem f_X0_begin_p (x0 : Int) (s0 : gMem) (hx0 : in32 x0) (hm_s0 : gMR lgX s0) (hpre0 : LST s0) (hpre1 : LT s0) (hpre2 : ST s0) (hpre3 : 0 ≤ x0 ∧ x0 ≤ 100100) (rZ : Int) (sZ : gMem) (hres : f_X0_begin x0 s0 = (rZ, sZ)) : (fr [71, 72, 73, 74] s0 sZ) ∧ (gMR lgX sZ) ∧ (True) ∧ (LST sZ) ∧ (LT sZ) ∧ (sZ 73 0 = 0) ∧ (sZ 74 0 = 0) := by
  have hT := f_X0_begin_e x0 s0
  have hf_s0 : fr [71, 72, 73, 74] s0 s0 := fr.rf _ _
  have hLST_s0 := hpre0
  have hLT_s0 := hpre1
  obtain ⟨s1, hs1, hT⟩ := glx hT
  have hf_s1 : fr [71, 72, 73, 74] s0 s1 := hs1 ▸ hf_s0.set (by decide)
  have hm_s1 : gMR lgX s1 := hs1 ▸ hm_s0.set64 rfl (by omega)
  have hg_s1 : fr [71] s0 s1 := hs1 ▸ (fr.rf _ _).set (by decide)
  have hLST_s1 : LST s1 := LST_fr hLST_s0 (fun k hk => hg_s1 k (dj (by decide) k hk))
  have hLT_s1 : LT s1 := hs1 ▸ LT_set hLT_s0 (by omega)
  have ht2 : s1 73 0 = s0 73 0 := by rw [hs1]; exact mset_ne _ _ _ _ _ (by decide)
  have ht3 : s1 74 0 = s0 74 0 := by rw [hs1]; exact mset_ne _ _ _ _ _ (by decide)
  have hr4 := (hm_s1 60 0).1 rfl
  have hi5 := (ST_fr hpre2 (fun k hk => hf_s1 k (dj (by decide) k hk))) 0
  obtain ⟨s6, hs6, hT⟩ := glx hT
  have hf_s6 : fr [71, 72, 73, 74] s0 s6 := hs6 ▸ hf_s1.set (by decide)
  have hm_s6 : gMR lgX s6 := hs6 ▸ hm_s1.set32 rfl (by omega)
  have hg_s6 : fr [72] s1 s6 := hs6 ▸ (fr.rf _ _).set (by decide)
  have hLST_s6 : LST s6 := hs6 ▸ LST_set hLST_s1 (by omega)
  have hLT_s6 : LT s6 := LT_fr hLT_s1 (fun k hk => hg_s6 k (dj (by decide) k hk))
  have ht7 : s6 73 0 = s1 73 0 := by rw [hs6]; exact mset_ne _ _ _ _ _ (by decide)
  have ht8 : s6 74 0 = s1 74 0 := by rw [hs6]; exact mset_ne _ _ _ _ _ (by decide)
  obtain ⟨s9, hs9, hT⟩ := glx hT
  have hf_s9 : fr [71, 72, 73, 74] s0 s9 := hs9 ▸ hf_s6.set (by decide)
  have hm_s9 : gMR lgX s9 := hs9 ▸ hm_s6.set32 rfl (by omega)
  have hg_s9 : fr [73] s6 s9 := hs9 ▸ (fr.rf _ _).set (by decide)
  have hLST_s9 : LST s9 := LST_fr hLST_s6 (fun k hk => hg_s9 k (dj (by decide) k hk))
  have hLT_s9 : LT s9 := LT_fr hLT_s6 (fun k hk => hg_s9 k (dj (by decide) k hk))
  have ht10 : s9 73 0 = 0 := by rw [hs9]; exact mset_eq _ _ _ _
  have ht11 : s9 74 0 = s6 74 0 := by rw [hs9]; exact mset_ne _ _ _ _ _ (by decide)
  obtain ⟨s12, hs12, hT⟩ := glx hT
  have hf_s12 : fr [71, 72, 73, 74] s0 s12 := hs12 ▸ hf_s9.set (by decide)
  have hm_s12 : gMR lgX s12 := hs12 ▸ hm_s9.set32 rfl (by omega)
  have hg_s12 : fr [74] s9 s12 := hs12 ▸ (fr.rf _ _).set (by decide)
  have hLST_s12 : LST s12 := LST_fr hLST_s9 (fun k hk => hg_s12 k (dj (by decide) k hk))
  have hLT_s12 : LT s12 := LT_fr hLT_s9 (fun k hk => hg_s12 k (dj (by decide) k hk))
  have ht13 : s12 73 0 = s9 73 0 := by rw [hs12]; exact mset_ne _ _ _ _ _ (by decide)
  have ht14 : s12 74 0 = 0 := by rw [hs12]; exact mset_eq _ _ _ _
  obtain ⟨rfl, rfl⟩ := Prod.mk.inj (hT.symm.trans hres)
  exact ⟨hf_s12, hm_s12, trivial, hLST_s12, hLT_s12, (by first | assumption | omega), (by first | assumption | omega)⟩
set_option maxRecDepth 100000 in
set_option maxHeartbeats 4000000 in
theorem c_X0_begin (l : Launch) (D : va_G) (a : Nat → Nat) (cI cJ cS cT : ClassId) (s0 : gMem) (x0 : Int) (hx0 : in32 x0) (hpre0 : LST s0) (hpre1 : LT s0) (hpre2 : ST s0) (hpre3 : 0 ≤ x0 ∧ x0 ≤ 100100) : gC l yX0_begin cX0_begin 2 none 1 64 D vwCl (gT cI cJ cS cT) (wdX a cI cJ cS cT) lgX kV rgV [.ref (a 7), gI x0] s0 (f_X0_begin x0 s0) := by
  refine gC_of (by decide +kernel) (hwdX a cI cJ cS cT) (Nat.le_of_ble_eq_true rfl) ?_
  intro A p e R s m args below meth c hR E
  subst hR
  have hT := f_X0_begin_e x0 s0
  have hf_s0 : fr [71, 72, 73, 74] s0 s0 := fr.rf _ _
  refine k_lv0 (lv' := [(0, .ref (a 7)), (1, gI x0)]) rfl ?_
  refine k_mr (fun hm_s0 => ?_)
  have hLST_s0 := hpre0
  have hLT_s0 := hpre1
  refine k_aloadn (pc := 0) E 0 dX0_begin_0 rfl rfl ?_
  refine k_iloadn (pc := 1) E 1 dX0_begin_1 rfl rfl ?_
  refine k_iconst (pc := 2) E dX0_begin_2 ?_
  refine k_iadd (pc := 3) E dX0_begin_3 ?_
  refine k_i2l (pc := 4) E dX0_begin_4 (by omega) ?_
  refine k_putfJ (pc := 5) (q0 := 7) (f := 1) (k := 71) E tyX0 tyX0_ok nmX0 inX0 rfl rfl (by decide) wm_232 rfl rfl rfl (Nat.le_of_ble_eq_true rfl) rfl rfl (by omega) dX0_begin_5 ?_
  obtain ⟨s1, hs1, hT⟩ := glx hT
  refine k_sg hs1.symm ?_
  have hf_s1 : fr [71, 72, 73, 74] s0 s1 := hs1 ▸ hf_s0.set (by decide)
  have hg_s1 : fr [71] s0 s1 := hs1 ▸ (fr.rf _ _).set (by decide)
  have hLST_s1 : LST s1 := LST_fr hLST_s0 (fun k hk => hg_s1 k (dj (by decide) k hk))
  have hLT_s1 : LT s1 := hs1 ▸ LT_set hLT_s0 (by omega)
  have ht2 : s1 73 0 = s0 73 0 := by rw [hs1]; exact mset_ne _ _ _ _ _ (by decide)
  have ht3 : s1 74 0 = s0 74 0 := by rw [hs1]; exact mset_ne _ _ _ _ _ (by decide)
  refine k_aloadn (pc := 8) E 0 dX0_begin_8 rfl rfl ?_
  refine k_aloadn (pc := 9) E 0 dX0_begin_9 rfl rfl ?_
  refine k_getf (pc := 10) (q0 := 7) (f := 0) (v := .ref (a 3)) E inX0 rfl rfl (by decide) wm_231 rfl rfl dX0_begin_10 ?_
  refine k_getf (pc := 13) (q0 := 3) (f := 0) (v := .ref (a 4)) E inX4 rfl rfl (by decide) wm_148 rfl rfl dX0_begin_13 ?_
  refine k_getfI (pc := 16) (q0 := 4) (f := 3) (k := 60) E inX6 rfl rfl (by decide) wm_111 rfl rfl rfl dX0_begin_16 (fun hr4 => ?_)
  have hi5 := (ST_fr hpre2 (fun k hk => hf_s1 k (dj (by decide) k hk))) 0
  refine k_putfI (pc := 19) (q0 := 7) (f := 2) (k := 72) E tyX0 tyX0_ok nmX0 inX0 rfl rfl (by decide) wm_233 rfl rfl rfl (Nat.le_of_ble_eq_true rfl) rfl rfl (by omega) dX0_begin_19 ?_
  obtain ⟨s6, hs6, hT⟩ := glx hT
  refine k_sg hs6.symm ?_
  have hf_s6 : fr [71, 72, 73, 74] s0 s6 := hs6 ▸ hf_s1.set (by decide)
  have hg_s6 : fr [72] s1 s6 := hs6 ▸ (fr.rf _ _).set (by decide)
  have hLST_s6 : LST s6 := hs6 ▸ LST_set hLST_s1 (by omega)
  have hLT_s6 : LT s6 := LT_fr hLT_s1 (fun k hk => hg_s6 k (dj (by decide) k hk))
  have ht7 : s6 73 0 = s1 73 0 := by rw [hs6]; exact mset_ne _ _ _ _ _ (by decide)
  have ht8 : s6 74 0 = s1 74 0 := by rw [hs6]; exact mset_ne _ _ _ _ _ (by decide)
  refine k_aloadn (pc := 22) E 0 dX0_begin_22 rfl rfl ?_
  refine k_iconst (pc := 23) E dX0_begin_23 ?_
  refine k_putfI (pc := 24) (q0 := 7) (f := 3) (k := 73) E tyX0 tyX0_ok nmX0 inX0 rfl rfl (by decide) wm_235 rfl rfl rfl (Nat.le_of_ble_eq_true rfl) rfl rfl (by omega) dX0_begin_24 ?_
  obtain ⟨s9, hs9, hT⟩ := glx hT
  refine k_sg hs9.symm ?_
  have hf_s9 : fr [71, 72, 73, 74] s0 s9 := hs9 ▸ hf_s6.set (by decide)
  have hg_s9 : fr [73] s6 s9 := hs9 ▸ (fr.rf _ _).set (by decide)
  have hLST_s9 : LST s9 := LST_fr hLST_s6 (fun k hk => hg_s9 k (dj (by decide) k hk))
  have hLT_s9 : LT s9 := LT_fr hLT_s6 (fun k hk => hg_s9 k (dj (by decide) k hk))
  have ht10 : s9 73 0 = 0 := by rw [hs9]; exact mset_eq _ _ _ _
  have ht11 : s9 74 0 = s6 74 0 := by rw [hs9]; exact mset_ne _ _ _ _ _ (by decide)
  refine k_aloadn (pc := 27) E 0 dX0_begin_27 rfl rfl ?_
  refine k_iconst (pc := 28) E dX0_begin_28 ?_
  refine k_putfI (pc := 29) (q0 := 7) (f := 4) (k := 74) E tyX0 tyX0_ok nmX0 inX0 rfl rfl (by decide) wm_237 rfl rfl rfl (Nat.le_of_ble_eq_true rfl) rfl rfl (by omega) dX0_begin_29 ?_
  obtain ⟨s12, hs12, hT⟩ := glx hT
  refine k_sg hs12.symm ?_
  have hf_s12 : fr [71, 72, 73, 74] s0 s12 := hs12 ▸ hf_s9.set (by decide)
  have hg_s12 : fr [74] s9 s12 := hs12 ▸ (fr.rf _ _).set (by decide)
  have hLST_s12 : LST s12 := LST_fr hLST_s9 (fun k hk => hg_s12 k (dj (by decide) k hk))
  have hLT_s12 : LT s12 := LT_fr hLT_s9 (fun k hk => hg_s12 k (dj (by decide) k hk))
  have ht13 : s12 73 0 = s9 73 0 := by rw [hs12]; exact mset_ne _ _ _ _ _ (by decide)
  have ht14 : s12 74 0 = 0 := by rw [hs12]; exact mset_eq _ _ _ _
  exact k_rho hT (k_vret (pc := 32) E dX0_begin_32)

def f_X8_refusedAsTold (x0 : Int) (s0 : gMem) : Int := (if (f_X8_outside x0 4) = 0 then (if (f_X5_isMissing  x0.toNat s0) = 0 then (if (s0 (94 + x0.toNat) 0) = 16 then 0 else (-2)) else (-11)) else (-2))
theorem f_X8_refusedAsTold_e (x0 : Int) (s0 : gMem) : f_X8_refusedAsTold x0 s0 = (if (f_X8_outside x0 4) = 0 then (if (f_X5_isMissing  x0.toNat s0) = 0 then (if (s0 (94 + x0.toNat) 0) = 16 then 0 else (-2)) else (-11)) else (-2)) := rfl
set_option maxRecDepth 100000 in
set_option maxHeartbeats 4000000 in
theorem f_X8_refusedAsTold_p (x0 : Int) (s0 : gMem) (hx0 : in32 x0) (hm_s0 : gMR lgX s0) (hpre0 : SSo s0) (hpre1 : SSi s0) : (in32 (f_X8_refusedAsTold x0 s0)) ∧ ((f_X8_refusedAsTold x0 s0) = 0 → (0 ≤ x0 ∧ x0 ≤ 3)) := by
  have hT := f_X8_refusedAsTold_e x0 s0
  have hp2 := f_X8_outside_p x0 4 (by omega) (by omega) 
  by_cases h3 : (f_X8_outside x0 4) = 0
  · replace hT := hT.trans (if_pos h3)
    have hp5 := f_X5_isMissing_p  x0.toNat s0  (by omega) hm_s0 
    by_cases h6 : (f_X5_isMissing  x0.toNat s0) = 0
    · replace hT := hT.trans (if_pos h6)
      have hr7 := (hm_s0 (94 + x0.toNat) 0).1 (shL2 (by omega))
      have hi8 := hpre1 x0.toNat (by omega) 0
      by_cases h9 : (s0 (94 + x0.toNat) 0) = 16
      · replace hT := hT.trans (if_pos h9)
        rw [hT]
        exact ⟨(by omega), (by first | assumption | omega)⟩
      · replace hT := hT.trans (if_neg h9)
        rw [hT]
        exact ⟨(by omega), (by first | assumption | omega)⟩
    · replace hT := hT.trans (if_neg h6)
      rw [hT]
      exact ⟨(by omega), (by first | assumption | omega)⟩
  · replace hT := hT.trans (if_neg h3)
    rw [hT]
    exact ⟨(by omega), (by first | assumption | omega)⟩
set_option maxRecDepth 100000 in
set_option maxHeartbeats 4000000 in
theorem c_X8_refusedAsTold (l : Launch) (D : va_G) (a : Nat → Nat) (cI cJ cS cT : ClassId) (s0 : gMem) (x0 : Int) (hx0 : in32 x0) (hpre0 : SSo s0) (hpre1 : SSi s0) : gC l yX8_refusedAsTold cX8_refusedAsTold 2 (some .int) 2 128 D vwCl (gT cI cJ cS cT) (wdX a cI cJ cS cT) lgX kI in32 [.ref (a 0), gI x0] s0 ((f_X8_refusedAsTold x0 s0), s0) := by
  refine gC_of (by decide +kernel) (hwdX a cI cJ cS cT) (Nat.le_of_ble_eq_true rfl) ?_
  intro A p e R s m args below meth c hR E
  subst hR
  have hT := f_X8_refusedAsTold_e x0 s0
  refine k_lv0 (lv' := [(0, .ref (a 0)), (1, gI x0)]) rfl ?_
  refine k_mr (fun hm_s0 => ?_)
  refine k_iloadn (pc := 0) E 1 dX8_refusedAsTold_0 rfl rfl ?_
  refine k_iconst (pc := 1) E dX8_refusedAsTold_1 ?_
  refine k_mr (fun hm_s0 => ?_)
  refine k_callS (pc := 2) (np := 2) (As := [gI x0, gI 4]) (st := []) E (c_X8_outside l D a cI cJ cS cT s0 x0 4 (by omega) (by omega)) wm_310 wm_1 wm_308 wm_309 (by decide +kernel) ⟨by decide, by decide⟩ rfl (Nat.le_of_ble_eq_true rfl) dX8_refusedAsTold_2 (ro_kk (fun hr1 => ?_))
  have hp2 := f_X8_outside_p x0 4 (by omega) (by omega) 
  refine k_st (st' := [gI (f_X8_outside x0 4)]) rfl ?_
  by_cases h3 : (f_X8_outside x0 4) = 0
  · replace hT := hT.trans (if_pos h3)
    refine k_if_eq_t (pc := 5) (tgt := 11) E (by omega) dX8_refusedAsTold_5 (by decide) h3 ?_
    refine k_aloadn (pc := 11) E 0 dX8_refusedAsTold_11 rfl rfl ?_
    refine k_getf (pc := 12) (q0 := 0) (f := 7) (v := .ref (a 9)) E inX8 rfl rfl (by decide) wm_279 rfl rfl dX8_refusedAsTold_12 ?_
    refine k_iloadn (pc := 15) E 1 dX8_refusedAsTold_15 rfl rfl ?_
    refine k_aaload (pc := 16) (q0 := 9) (t0 := 2) (b := 10) (n := 4) E rfl rfl (by decide) (by omega) (by omega) dX8_refusedAsTold_16 ?_
    refine k_mr (fun hm_s0 => ?_)
    refine k_callV (pc := 17) (np := 0) (As := []) (st := []) (q0 := (10 + x0.toNat)) E (c_X5_isMissing l D a cI cJ cS cT x0.toNat (by omega) s0  ) wm_748 wm_10 wm_745 wm_746 wm_747 (by decide +kernel) (shO a cI cJ cS cT s0 (by omega)) rfl ⟨by decide, by decide⟩ rfl (Nat.le_of_ble_eq_true rfl) dX8_refusedAsTold_17 (ro_kk (fun hr4 => ?_))
    have hp5 := f_X5_isMissing_p  x0.toNat s0  (by omega) hm_s0 
    refine k_st (st' := [gI (f_X5_isMissing  x0.toNat s0)]) rfl ?_
    by_cases h6 : (f_X5_isMissing  x0.toNat s0) = 0
    · replace hT := hT.trans (if_pos h6)
      refine k_if_eq_t (pc := 20) (tgt := 26) E (by omega) dX8_refusedAsTold_20 (by decide) h6 ?_
      refine k_aloadn (pc := 26) E 0 dX8_refusedAsTold_26 rfl rfl ?_
      refine k_getf (pc := 27) (q0 := 0) (f := 7) (v := .ref (a 9)) E inX8 rfl rfl (by decide) wm_279 rfl rfl dX8_refusedAsTold_27 ?_
      refine k_iloadn (pc := 30) E 1 dX8_refusedAsTold_30 rfl rfl ?_
      refine k_aaload (pc := 31) (q0 := 9) (t0 := 2) (b := 10) (n := 4) E rfl rfl (by decide) (by omega) (by omega) dX8_refusedAsTold_31 ?_
      refine k_getfI (pc := 32) (q0 := (10 + x0.toNat)) (f := 2) (k := (94 + x0.toNat)) E inX5 (shO a cI cJ cS cT s0 (by omega)) rfl (by decide) wm_264 rfl rfl (shL2 (by omega)) dX8_refusedAsTold_32 (fun hr7 => ?_)
      have hi8 := hpre1 x0.toNat (by omega) 0
      refine k_bipush (pc := 35) E dX8_refusedAsTold_35 (by decide) ?_
      by_cases h9 : (s0 (94 + x0.toNat) 0) = 16
      · replace hT := hT.trans (if_pos h9)
        refine k_icmp_ne_f (pc := 37) (tgt := 44) E (by omega) (by omega) dX8_refusedAsTold_37 (by decide) h9 ?_
        refine k_iconst (pc := 40) E dX8_refusedAsTold_40 ?_
        refine k_goto (pc := 41) (tgt := 46) E dX8_refusedAsTold_41 (by decide) ?_
        exact k_rho (congrArg (fun q => (q, s0)) hT) (k_iret (pc := 46) E dX8_refusedAsTold_46 (by omega))
      · replace hT := hT.trans (if_neg h9)
        refine k_icmp_ne_t (pc := 37) (tgt := 44) E (by omega) (by omega) dX8_refusedAsTold_37 (by decide) h9 ?_
        refine k_bipush (pc := 44) E dX8_refusedAsTold_44 (by decide) ?_
        exact k_rho (congrArg (fun q => (q, s0)) hT) (k_iret (pc := 46) E dX8_refusedAsTold_46 (by omega))
    · replace hT := hT.trans (if_neg h6)
      refine k_if_eq_f (pc := 20) (tgt := 26) E (by omega) dX8_refusedAsTold_20 (by decide) h6 ?_
      refine k_bipush (pc := 23) E dX8_refusedAsTold_23 (by decide) ?_
      exact k_rho (congrArg (fun q => (q, s0)) hT) (k_iret (pc := 25) E dX8_refusedAsTold_25 (by omega))
  · replace hT := hT.trans (if_neg h3)
    refine k_if_eq_f (pc := 5) (tgt := 11) E (by omega) dX8_refusedAsTold_5 (by decide) h3 ?_
    refine k_bipush (pc := 8) E dX8_refusedAsTold_8 (by decide) ?_
    exact k_rho (congrArg (fun q => (q, s0)) hT) (k_iret (pc := 10) E dX8_refusedAsTold_10 (by omega))

def f_X8_judge (x0 : Int) (x1 : Int) (x2 : Int) (s0 : gMem) : Int := gl (f_X8_refusedAsTold x0 s0) (fun v3 => (if v3 = 0 then (if (f_X8_outside x1 16) = 0 then (if (f_X8_outside x2 3) = 0 then (f_X5_firstUnlike (f_X4_pushed x1 x2 (s0 62 0) s0) x0.toNat s0) else (-7)) else (-5)) else v3))
theorem f_X8_judge_e (x0 : Int) (x1 : Int) (x2 : Int) (s0 : gMem) : f_X8_judge x0 x1 x2 s0 = gl (f_X8_refusedAsTold x0 s0) (fun v3 => (if v3 = 0 then (if (f_X8_outside x1 16) = 0 then (if (f_X8_outside x2 3) = 0 then (f_X5_firstUnlike (f_X4_pushed x1 x2 (s0 62 0) s0) x0.toNat s0) else (-7)) else (-5)) else v3)) := rfl
set_option maxRecDepth 100000 in
set_option maxHeartbeats 4000000 in
theorem f_X8_judge_p (x0 : Int) (x1 : Int) (x2 : Int) (s0 : gMem) (hx0 : in32 x0) (hx1 : in32 x1) (hx2 : in32 x2) (hm_s0 : gMR lgX s0) (hpre0 : SSo s0) (hpre1 : SSi s0) : (in32 (f_X8_judge x0 x1 x2 s0)) := by
  have hT := f_X8_judge_e x0 x1 x2 s0
  have hp2 := f_X8_refusedAsTold_p x0 s0 (by omega) hm_s0 hpre0 hpre1
  obtain ⟨v3, hv3, hT⟩ := glx hT
  by_cases h4 : v3 = 0
  · replace hT := hT.trans (if_pos h4)
    have hp6 := f_X8_outside_p x1 16 (by omega) (by omega) 
    by_cases h7 : (f_X8_outside x1 16) = 0
    · replace hT := hT.trans (if_pos h7)
      have hp9 := f_X8_outside_p x2 3 (by omega) (by omega) 
      by_cases h10 : (f_X8_outside x2 3) = 0
      · replace hT := hT.trans (if_pos h10)
        have hr11 := (hm_s0 62 0).1 rfl
        have hp13 := f_X4_pushed_p x1 x2 (s0 62 0) s0 (by omega) (by omega) (by omega) hm_s0 (by first | assumption | omega)
        have hp15 := f_X5_firstUnlike_p (f_X4_pushed x1 x2 (s0 62 0) s0) x0.toNat s0 (by omega) (by omega) hm_s0 
        rw [hT]
        exact (by omega)
      · replace hT := hT.trans (if_neg h10)
        rw [hT]
        exact (by omega)
    · replace hT := hT.trans (if_neg h7)
      rw [hT]
      exact (by omega)
  · replace hT := hT.trans (if_neg h4)
    rw [hT]
    exact (by omega)
set_option maxRecDepth 100000 in
set_option maxHeartbeats 4000000 in
theorem c_X8_judge (l : Launch) (D : va_G) (a : Nat → Nat) (cI cJ cS cT : ClassId) (s0 : gMem) (x0 : Int) (x1 : Int) (x2 : Int) (hx0 : in32 x0) (hx1 : in32 x1) (hx2 : in32 x2) (hpre0 : SSo s0) (hpre1 : SSi s0) : gC l yX8_judge cX8_judge 5 (some .int) 4 256 D vwCl (gT cI cJ cS cT) (wdX a cI cJ cS cT) lgX kI in32 [.ref (a 0), gI x0, gI x1, gI x2] s0 ((f_X8_judge x0 x1 x2 s0), s0) := by
  refine gC_of (by decide +kernel) (hwdX a cI cJ cS cT) (Nat.le_of_ble_eq_true rfl) ?_
  intro A p e R s m args below meth c hR E
  subst hR
  have hT := f_X8_judge_e x0 x1 x2 s0
  refine k_lv0 (lv' := [(0, .ref (a 0)), (1, gI x0), (2, gI x1), (3, gI x2)]) rfl ?_
  refine k_mr (fun hm_s0 => ?_)
  refine k_aloadn (pc := 0) E 0 dX8_judge_0 rfl rfl ?_
  refine k_iloadn (pc := 1) E 1 dX8_judge_1 rfl rfl ?_
  refine k_mr (fun hm_s0 => ?_)
  refine k_callV (pc := 2) (np := 1) (As := [gI x0]) (st := []) (q0 := 0) E (c_X8_refusedAsTold l D a cI cJ cS cT s0 x0 (by omega) hpre0 hpre1) wm_744 wm_1 wm_741 wm_743 wp_23 (by decide +kernel) rfl rfl ⟨by decide, by decide⟩ rfl (Nat.le_of_ble_eq_true rfl) dX8_judge_2 (ro_kk (fun hr1 => ?_))
  have hp2 := f_X8_refusedAsTold_p x0 s0 (by omega) hm_s0 hpre0 hpre1
  refine k_st (st' := [gI (f_X8_refusedAsTold x0 s0)]) rfl ?_
  obtain ⟨v3, hv3, hT⟩ := glx hT
  refine k_st (st' := [gI v3]) (by rw [hv3]) ?_
  refine k_istore (pc := 5) (lv' := [(4, gI v3), (0, .ref (a 0)), (1, gI x0), (2, gI x1), (3, gI x2)]) E dX8_judge_5 (by decide) rfl ?_
  refine k_iload (pc := 7) E 0 dX8_judge_7 rfl ?_
  by_cases h4 : v3 = 0
  · replace hT := hT.trans (if_pos h4)
    refine k_if_eq_t (pc := 9) (tgt := 15) E (by omega) dX8_judge_9 (by decide) h4 ?_
    refine k_iloadn (pc := 15) E 3 dX8_judge_15 rfl rfl ?_
    refine k_bipush (pc := 16) E dX8_judge_16 (by decide) ?_
    refine k_mr (fun hm_s0 => ?_)
    refine k_callS (pc := 18) (np := 2) (As := [gI x1, gI 16]) (st := []) E (c_X8_outside l D a cI cJ cS cT s0 x1 16 (by omega) (by omega)) wm_310 wm_1 wm_308 wm_309 (by decide +kernel) ⟨by decide, by decide⟩ rfl (Nat.le_of_ble_eq_true rfl) dX8_judge_18 (ro_kk (fun hr5 => ?_))
    have hp6 := f_X8_outside_p x1 16 (by omega) (by omega) 
    refine k_st (st' := [gI (f_X8_outside x1 16)]) rfl ?_
    by_cases h7 : (f_X8_outside x1 16) = 0
    · replace hT := hT.trans (if_pos h7)
      refine k_if_eq_t (pc := 21) (tgt := 27) E (by omega) dX8_judge_21 (by decide) h7 ?_
      refine k_iloadn (pc := 27) E 4 dX8_judge_27 rfl rfl ?_
      refine k_iconst (pc := 28) E dX8_judge_28 ?_
      refine k_mr (fun hm_s0 => ?_)
      refine k_callS (pc := 29) (np := 2) (As := [gI x2, gI 3]) (st := []) E (c_X8_outside l D a cI cJ cS cT s0 x2 3 (by omega) (by omega)) wm_310 wm_1 wm_308 wm_309 (by decide +kernel) ⟨by decide, by decide⟩ rfl (Nat.le_of_ble_eq_true rfl) dX8_judge_29 (ro_kk (fun hr8 => ?_))
      have hp9 := f_X8_outside_p x2 3 (by omega) (by omega) 
      refine k_st (st' := [gI (f_X8_outside x2 3)]) rfl ?_
      by_cases h10 : (f_X8_outside x2 3) = 0
      · replace hT := hT.trans (if_pos h10)
        refine k_if_eq_t (pc := 32) (tgt := 38) E (by omega) dX8_judge_32 (by decide) h10 ?_
        refine k_aloadn (pc := 38) E 1 dX8_judge_38 rfl rfl ?_
        refine k_getf (pc := 39) (q0 := 0) (f := 7) (v := .ref (a 9)) E inX8 rfl rfl (by decide) wm_279 rfl rfl dX8_judge_39 ?_
        refine k_iloadn (pc := 42) E 2 dX8_judge_42 rfl rfl ?_
        refine k_aaload (pc := 43) (q0 := 9) (t0 := 2) (b := 10) (n := 4) E rfl rfl (by decide) (by omega) (by omega) dX8_judge_43 ?_
        refine k_aloadn (pc := 44) E 1 dX8_judge_44 rfl rfl ?_
        refine k_getf (pc := 45) (q0 := 0) (f := 2) (v := .ref (a 3)) E inX8 rfl rfl (by decide) wm_274 rfl rfl dX8_judge_45 ?_
        refine k_iloadn (pc := 48) E 3 dX8_judge_48 rfl rfl ?_
        refine k_iloadn (pc := 49) E 4 dX8_judge_49 rfl rfl ?_
        refine k_aloadn (pc := 50) E 1 dX8_judge_50 rfl rfl ?_
        refine k_getf (pc := 51) (q0 := 0) (f := 2) (v := .ref (a 3)) E inX8 rfl rfl (by decide) wm_274 rfl rfl dX8_judge_51 ?_
        refine k_getf (pc := 54) (q0 := 3) (f := 0) (v := .ref (a 4)) E inX4 rfl rfl (by decide) wm_149 rfl rfl dX8_judge_54 ?_
        refine k_getfI (pc := 57) (q0 := 4) (f := 5) (k := 62) E inX6 rfl rfl (by decide) wm_119 rfl rfl rfl dX8_judge_57 (fun hr11 => ?_)
        refine k_callV (pc := 60) (np := 3) (As := [gI x1, gI x2, gI (s0 62 0)]) (st := [.ref (a (10 + x0.toNat))]) (q0 := 3) E (c_X4_pushed l D a cI cJ cS cT s0 x1 x2 (s0 62 0) (by omega) (by omega) (by omega) (by first | assumption | omega)) wm_672 wm_4 wm_669 wm_670 wm_671 (by decide +kernel) rfl rfl ⟨by decide, by decide⟩ rfl (Nat.le_of_ble_eq_true rfl) dX8_judge_60 (ro_kk (fun hr12 => ?_))
        refine k_st (st' := [gI (f_X4_pushed x1 x2 (s0 62 0) s0), .ref (a (10 + x0.toNat))]) rfl ?_
        refine k_mr (fun hm_s0 => ?_)
        refine k_callV (pc := 63) (np := 1) (As := [gI (f_X4_pushed x1 x2 (s0 62 0) s0)]) (st := []) (q0 := (10 + x0.toNat)) E (c_X5_firstUnlike l D a cI cJ cS cT x0.toNat (by omega) s0 (f_X4_pushed x1 x2 (s0 62 0) s0) (by omega)) wm_752 wm_10 wm_749 wm_750 wm_751 (by decide +kernel) (shO a cI cJ cS cT s0 (by omega)) rfl ⟨by decide, by decide⟩ rfl (Nat.le_of_ble_eq_true rfl) dX8_judge_63 (ro_kk (fun hr14 => ?_))
        have hp15 := f_X5_firstUnlike_p (f_X4_pushed x1 x2 (s0 62 0) s0) x0.toNat s0 (by omega) (by omega) hm_s0 
        refine k_st (st' := [gI (f_X5_firstUnlike (f_X4_pushed x1 x2 (s0 62 0) s0) x0.toNat s0)]) rfl ?_
        exact k_rho (congrArg (fun q => (q, s0)) hT) (k_iret (pc := 66) E dX8_judge_66 (by omega))
      · replace hT := hT.trans (if_neg h10)
        refine k_if_eq_f (pc := 32) (tgt := 38) E (by omega) dX8_judge_32 (by decide) h10 ?_
        refine k_bipush (pc := 35) E dX8_judge_35 (by decide) ?_
        exact k_rho (congrArg (fun q => (q, s0)) hT) (k_iret (pc := 37) E dX8_judge_37 (by omega))
    · replace hT := hT.trans (if_neg h7)
      refine k_if_eq_f (pc := 21) (tgt := 27) E (by omega) dX8_judge_21 (by decide) h7 ?_
      refine k_bipush (pc := 24) E dX8_judge_24 (by decide) ?_
      exact k_rho (congrArg (fun q => (q, s0)) hT) (k_iret (pc := 26) E dX8_judge_26 (by omega))
  · replace hT := hT.trans (if_neg h4)
    refine k_if_eq_f (pc := 9) (tgt := 15) E (by omega) dX8_judge_9 (by decide) h4 ?_
    refine k_iload (pc := 12) E 0 dX8_judge_12 rfl ?_
    exact k_rho (congrArg (fun q => (q, s0)) hT) (k_iret (pc := 14) E dX8_judge_14 (by omega))

def w_X8_origin_29 (c1 : Int) (c2 : Int) (s0 : gMem) : Nat → Int → Int → Int × Int
  | 0, v8, v9 => (v8, v9)
  | n10 + 1, v8, v9 => (if v9 < 16 then (gl ((if (f_X8_has (s0 60 0) v9) = 0 then v8 else (if (f_X5_firstUnlike (f_X4_pushed v9 c2 (s0 62 0) s0) c1.toNat s0) < 0 then (ior v8 (ishl 1 v9)) else v8))) (fun v17 => (w_X8_origin_29 c1 c2 s0 n10 v17 (v9 + 1)))) else (v8, v9))
theorem w_X8_origin_29_s (c1 : Int) (c2 : Int) (s0 : gMem) (n10 : Nat) (v8 : Int) (v9 : Int)  : w_X8_origin_29 c1 c2 s0 (n10 + 1) v8 v9 = (if v9 < 16 then (gl ((if (f_X8_has (s0 60 0) v9) = 0 then v8 else (if (f_X5_firstUnlike (f_X4_pushed v9 c2 (s0 62 0) s0) c1.toNat s0) < 0 then (ior v8 (ishl 1 v9)) else v8))) (fun v17 => (w_X8_origin_29 c1 c2 s0 n10 v17 (v9 + 1)))) else (v8, v9)) := rfl
def f_X8_origin (x0 : Int) (x1 : Int) (s0 : gMem) : Int := gl (f_X8_refusedAsTold x0 s0) (fun v3 => (if v3 = 0 then (if (f_X8_outside x1 3) = 0 then (gl2 (w_X8_origin_29 x0 x1 s0 17 0 0) (fun v59 v60 => v59)) else (-7)) else v3))
theorem f_X8_origin_e (x0 : Int) (x1 : Int) (s0 : gMem) : f_X8_origin x0 x1 s0 = gl (f_X8_refusedAsTold x0 s0) (fun v3 => (if v3 = 0 then (if (f_X8_outside x1 3) = 0 then (gl2 (w_X8_origin_29 x0 x1 s0 17 0 0) (fun v59 v60 => v59)) else (-7)) else v3)) := rfl
set_option maxRecDepth 100000 in
set_option maxHeartbeats 4000000 in
theorem f_X8_origin_p (x0 : Int) (x1 : Int) (s0 : gMem) (hx0 : in32 x0) (hx1 : in32 x1) (hm_s0 : gMR lgX s0) (hpre0 : SSo s0) (hpre1 : SSi s0) : (in32 (f_X8_origin x0 x1 s0)) := by
  have hT := f_X8_origin_e x0 x1 s0
  have hp2 := f_X8_refusedAsTold_p x0 s0 (by omega) hm_s0 hpre0 hpre1
  obtain ⟨v3, hv3, hT⟩ := glx hT
  by_cases h4 : v3 = 0
  · replace hT := hT.trans (if_pos h4)
    have hp6 := f_X8_outside_p x1 3 (by omega) (by omega) 
    by_cases h7 : (f_X8_outside x1 3) = 0
    · replace hT := hT.trans (if_pos h7)
      have L31 : ∀ (n32 : Nat) (v29 : Int) (v30 : Int), ((in32 v29) ∧ (in32 v30) ∧ (0 ≤ v30 ∧ v30 ≤ 16)) → 16 - v30 < (n32 : Int) → (∀ (w33 : Int) (w34 : Int), (w_X8_origin_29 x0 x1 s0 n32 v29 v30) = (w33, w34) → ((in32 w33) ∧ (in32 w34) ∧ (0 ≤ w34 ∧ w34 ≤ 16)) → (in32 (f_X8_origin x0 x1 s0))) → (in32 (f_X8_origin x0 x1 s0)) := by
        intro n32; induction n32 with
        | zero =>
          intro v29 v30 hq hm hk
          exfalso
          obtain ⟨hq53, hq54, hq55⟩ := hq
          omega
        | succ n32 ih =>
          intro v29 v30 hq hm hk
          obtain ⟨hq56, hq57, hq58⟩ := hq
          have hT := w_X8_origin_29_s x0 x1 s0 n32 v29 v30
          by_cases h35 : v30 < 16
          · replace hT := hT.trans (if_pos h35)
            have hr36 := (hm_s0 60 0).1 rfl
            have hp38 := f_X8_has_p (s0 60 0) v30 (by omega) (by omega) 
            obtain ⟨z43, hz43, hT⟩ := gl1x hT
            have j40 : ∀ (v41 : Int), ((in32 v41)) → z43 = v41 → (in32 (f_X8_origin x0 x1 s0)) := by
              intro v41 hq hz
              have hq42 := hq
              replace hT := gl1y hT hz
              exact ih v41 (v30 + 1) ⟨(by omega), (by omega), (by first | assumption | omega)⟩ (by omega) (fun w33 w34 hw hi => hk w33 w34 (hT.trans hw) hi)
            replace hT := hz43
            by_cases h39 : (f_X8_has (s0 60 0) v30) = 0
            · replace hT := hT.trans (if_pos h39)
              exact j40 v29 (by omega) hT
            · replace hT := hT.trans (if_neg h39)
              have hr44 := (hm_s0 62 0).1 rfl
              have hp46 := f_X4_pushed_p v30 x1 (s0 62 0) s0 (by omega) (by omega) (by omega) hm_s0 (by first | assumption | omega)
              have hp48 := f_X5_firstUnlike_p (f_X4_pushed v30 x1 (s0 62 0) s0) x0.toNat s0 (by omega) (by omega) hm_s0 
              by_cases h49 : (f_X5_firstUnlike (f_X4_pushed v30 x1 (s0 62 0) s0) x0.toNat s0) < 0
              · replace hT := hT.trans (if_pos h49)
                have hb50 := ishl_rg 1 v30
                have hb51 : 0 ≤ v30 ∧ v30 ≤ 15 → _ := fun q => ishl_1 q.1 q.2
                have hb52 := ior_rg v29 (ishl 1 v30)
                exact j40 (ior v29 (ishl 1 v30)) (by omega) hT
              · replace hT := hT.trans (if_neg h49)
                exact j40 v29 (by omega) hT
          · replace hT := hT.trans (if_neg h35)
            exact hk v29 v30 hT ⟨(by omega), (by omega), (by first | assumption | omega)⟩
      refine L31 17 0 0 ⟨(by omega), (by omega), (by first | assumption | omega)⟩ (by omega) (fun v59 v60 hw hq => ?_)
      obtain ⟨hq61, hq62, hq63⟩ := hq
      replace hT := gl2y hT hw
      rw [hT]
      exact (by omega)
    · replace hT := hT.trans (if_neg h7)
      rw [hT]
      exact (by omega)
  · replace hT := hT.trans (if_neg h4)
    rw [hT]
    exact (by omega)
set_option maxRecDepth 100000 in
set_option maxHeartbeats 4000000 in
theorem c_X8_origin (l : Launch) (D : va_G) (a : Nat → Nat) (cI cJ cS cT : ClassId) (s0 : gMem) (x0 : Int) (x1 : Int) (hx0 : in32 x0) (hx1 : in32 x1) (hpre0 : SSo s0) (hpre1 : SSi s0) : gC l yX8_origin cX8_origin 6 (some .int) 4 256 D vwCl (gT cI cJ cS cT) (wdX a cI cJ cS cT) lgX kI in32 [.ref (a 0), gI x0, gI x1] s0 ((f_X8_origin x0 x1 s0), s0) := by
  refine gC_of (by decide +kernel) (hwdX a cI cJ cS cT) (Nat.le_of_ble_eq_true rfl) ?_
  intro A p e R s m args below meth c hR E
  subst hR
  have hT := f_X8_origin_e x0 x1 s0
  refine k_lv0 (lv' := [(0, .ref (a 0)), (1, gI x0), (2, gI x1)]) rfl ?_
  refine k_mr (fun hm_s0 => ?_)
  refine k_aloadn (pc := 0) E 0 dX8_origin_0 rfl rfl ?_
  refine k_iloadn (pc := 1) E 1 dX8_origin_1 rfl rfl ?_
  refine k_mr (fun hm_s0 => ?_)
  refine k_callV (pc := 2) (np := 1) (As := [gI x0]) (st := []) (q0 := 0) E (c_X8_refusedAsTold l D a cI cJ cS cT s0 x0 (by omega) hpre0 hpre1) wm_744 wm_1 wm_741 wm_743 wp_23 (by decide +kernel) rfl rfl ⟨by decide, by decide⟩ rfl (Nat.le_of_ble_eq_true rfl) dX8_origin_2 (ro_kk (fun hr1 => ?_))
  have hp2 := f_X8_refusedAsTold_p x0 s0 (by omega) hm_s0 hpre0 hpre1
  refine k_st (st' := [gI (f_X8_refusedAsTold x0 s0)]) rfl ?_
  obtain ⟨v3, hv3, hT⟩ := glx hT
  refine k_st (st' := [gI v3]) (by rw [hv3]) ?_
  refine k_istoren (pc := 5) (lv' := [(3, gI v3), (0, .ref (a 0)), (1, gI x0), (2, gI x1)]) E dX8_origin_5 rfl (by decide) rfl ?_
  refine k_iloadn (pc := 6) E 0 dX8_origin_6 rfl rfl ?_
  by_cases h4 : v3 = 0
  · replace hT := hT.trans (if_pos h4)
    refine k_if_eq_t (pc := 7) (tgt := 12) E (by omega) dX8_origin_7 (by decide) h4 ?_
    refine k_iloadn (pc := 12) E 3 dX8_origin_12 rfl rfl ?_
    refine k_iconst (pc := 13) E dX8_origin_13 ?_
    refine k_mr (fun hm_s0 => ?_)
    refine k_callS (pc := 14) (np := 2) (As := [gI x1, gI 3]) (st := []) E (c_X8_outside l D a cI cJ cS cT s0 x1 3 (by omega) (by omega)) wm_310 wm_1 wm_308 wm_309 (by decide +kernel) ⟨by decide, by decide⟩ rfl (Nat.le_of_ble_eq_true rfl) dX8_origin_14 (ro_kk (fun hr5 => ?_))
    have hp6 := f_X8_outside_p x1 3 (by omega) (by omega) 
    refine k_st (st' := [gI (f_X8_outside x1 3)]) rfl ?_
    by_cases h7 : (f_X8_outside x1 3) = 0
    · replace hT := hT.trans (if_pos h7)
      refine k_if_eq_t (pc := 17) (tgt := 23) E (by omega) dX8_origin_17 (by decide) h7 ?_
      refine k_iconst (pc := 23) E dX8_origin_23 ?_
      refine k_istore (pc := 24) (lv' := [(4, gI 0), (3, gI v3), (0, .ref (a 0)), (1, gI x0), (2, gI x1)]) E dX8_origin_24 (by decide) rfl ?_
      refine k_iconst (pc := 26) E dX8_origin_26 ?_
      refine k_istore (pc := 27) (lv' := [(5, gI 0), (4, gI 0), (3, gI v3), (0, .ref (a 0)), (1, gI x0), (2, gI x1)]) E dX8_origin_27 (by decide) rfl ?_
      have L31 : ∀ (n32 : Nat) (v29 : Int) (v30 : Int), ((in32 v29) ∧ (in32 v30) ∧ (0 ≤ v30 ∧ v30 ≤ 16)) → 16 - v30 < (n32 : Int) → (∀ (w33 : Int) (w34 : Int), (w_X8_origin_29 x0 x1 s0 n32 v29 v30) = (w33, w34) → ((in32 w33) ∧ (in32 w34) ∧ (0 ≤ w34 ∧ w34 ≤ 16)) → gK D vwCl (wdX a cI cJ cS cT) lgX A p l e { frames := 4, cells := 0, slots := 0, locals := 256 } s m args below meth c 6 (gQQ D vwCl (wdX a cI cJ cS cT) lgX A kI in32 below args s) ((f_X8_origin x0 x1 s0), s0) s0 101 [(4, gI w33)] []) → gK D vwCl (wdX a cI cJ cS cT) lgX A p l e { frames := 4, cells := 0, slots := 0, locals := 256 } s m args below meth c 6 (gQQ D vwCl (wdX a cI cJ cS cT) lgX A kI in32 below args s) ((f_X8_origin x0 x1 s0), s0) s0 29 [(0, .ref (a 0)), (1, gI x0), (2, gI x1), (4, gI v29), (5, gI v30)] [] := by
        intro n32; induction n32 with
        | zero =>
          intro v29 v30 hq hm hk
          exfalso
          obtain ⟨hq53, hq54, hq55⟩ := hq
          omega
        | succ n32 ih =>
          intro v29 v30 hq hm hk
          obtain ⟨hq56, hq57, hq58⟩ := hq
          have hT := w_X8_origin_29_s x0 x1 s0 n32 v29 v30
          refine k_iload (pc := 29) E 4 dX8_origin_29 rfl ?_
          refine k_bipush (pc := 31) E dX8_origin_31 (by decide) ?_
          by_cases h35 : v30 < 16
          · replace hT := hT.trans (if_pos h35)
            refine k_icmp_ge_f (pc := 33) (tgt := 101) E (by omega) (by omega) dX8_origin_33 (by decide) h35 ?_
            refine k_aloadn (pc := 36) E 0 dX8_origin_36 rfl rfl ?_
            refine k_getf (pc := 37) (q0 := 0) (f := 2) (v := .ref (a 3)) E inX8 rfl rfl (by decide) wm_274 rfl rfl dX8_origin_37 ?_
            refine k_getf (pc := 40) (q0 := 3) (f := 0) (v := .ref (a 4)) E inX4 rfl rfl (by decide) wm_149 rfl rfl dX8_origin_40 ?_
            refine k_getfI (pc := 43) (q0 := 4) (f := 3) (k := 60) E inX6 rfl rfl (by decide) wm_113 rfl rfl rfl dX8_origin_43 (fun hr36 => ?_)
            refine k_iload (pc := 46) E 4 dX8_origin_46 rfl ?_
            refine k_mr (fun hm_s0 => ?_)
            refine k_callS (pc := 48) (np := 2) (As := [gI (s0 60 0), gI v30]) (st := []) E (c_X8_has l D a cI cJ cS cT s0 (s0 60 0) v30 (by omega) (by omega)) wm_552 wm_1 wm_651 wm_551 (by decide +kernel) ⟨by decide, by decide⟩ rfl (Nat.le_of_ble_eq_true rfl) dX8_origin_48 (ro_kk (fun hr37 => ?_))
            have hp38 := f_X8_has_p (s0 60 0) v30 (by omega) (by omega) 
            refine k_st (st' := [gI (f_X8_has (s0 60 0) v30)]) rfl ?_
            obtain ⟨z43, hz43, hT⟩ := gl1x hT
            have j40 : ∀ (v41 : Int), ((in32 v41)) → z43 = v41 → gK D vwCl (wdX a cI cJ cS cT) lgX A p l e { frames := 4, cells := 0, slots := 0, locals := 256 } s m args below meth c 6 (gQQ D vwCl (wdX a cI cJ cS cT) lgX A kI in32 below args s) ((f_X8_origin x0 x1 s0), s0) s0 95 [(0, .ref (a 0)), (1, gI x0), (2, gI x1), (4, gI v41), (5, gI v30)] [] := by
              intro v41 hq hz
              have hq42 := hq
              replace hT := gl1y hT hz
              refine k_iinc (pc := 95) (lv' := [(5, gI (v30 + 1)), (0, .ref (a 0)), (1, gI x0), (2, gI x1), (4, gI v41)]) E 4 dX8_origin_95 rfl (by decide) rfl ?_
              refine k_goto (pc := 98) (tgt := 29) E dX8_origin_98 (by decide) ?_
              refine k_lv (lv' := [(0, .ref (a 0)), (1, gI x0), (2, gI x1), (4, gI v41), (5, gI (v30 + 1))]) [1, 2, 3, 4, 0] rfl ?_
              exact ih v41 (v30 + 1) ⟨(by omega), (by omega), (by first | assumption | omega)⟩ (by omega) (fun w33 w34 hw hi => hk w33 w34 (hT.trans hw) hi)
            replace hT := hz43
            by_cases h39 : (f_X8_has (s0 60 0) v30) = 0
            · replace hT := hT.trans (if_pos h39)
              refine k_if_eq_t (pc := 51) (tgt := 95) E (by omega) dX8_origin_51 (by decide) h39 ?_
              exact j40 v29 (by omega) hT
            · replace hT := hT.trans (if_neg h39)
              refine k_if_eq_f (pc := 51) (tgt := 95) E (by omega) dX8_origin_51 (by decide) h39 ?_
              refine k_aloadn (pc := 54) E 0 dX8_origin_54 rfl rfl ?_
              refine k_getf (pc := 55) (q0 := 0) (f := 7) (v := .ref (a 9)) E inX8 rfl rfl (by decide) wm_279 rfl rfl dX8_origin_55 ?_
              refine k_iloadn (pc := 58) E 1 dX8_origin_58 rfl rfl ?_
              refine k_aaload (pc := 59) (q0 := 9) (t0 := 2) (b := 10) (n := 4) E rfl rfl (by decide) (by omega) (by omega) dX8_origin_59 ?_
              refine k_aloadn (pc := 60) E 0 dX8_origin_60 rfl rfl ?_
              refine k_getf (pc := 61) (q0 := 0) (f := 2) (v := .ref (a 3)) E inX8 rfl rfl (by decide) wm_274 rfl rfl dX8_origin_61 ?_
              refine k_iload (pc := 64) E 4 dX8_origin_64 rfl ?_
              refine k_iloadn (pc := 66) E 2 dX8_origin_66 rfl rfl ?_
              refine k_aloadn (pc := 67) E 0 dX8_origin_67 rfl rfl ?_
              refine k_getf (pc := 68) (q0 := 0) (f := 2) (v := .ref (a 3)) E inX8 rfl rfl (by decide) wm_274 rfl rfl dX8_origin_68 ?_
              refine k_getf (pc := 71) (q0 := 3) (f := 0) (v := .ref (a 4)) E inX4 rfl rfl (by decide) wm_149 rfl rfl dX8_origin_71 ?_
              refine k_getfI (pc := 74) (q0 := 4) (f := 5) (k := 62) E inX6 rfl rfl (by decide) wm_119 rfl rfl rfl dX8_origin_74 (fun hr44 => ?_)
              refine k_callV (pc := 77) (np := 3) (As := [gI v30, gI x1, gI (s0 62 0)]) (st := [.ref (a (10 + x0.toNat))]) (q0 := 3) E (c_X4_pushed l D a cI cJ cS cT s0 v30 x1 (s0 62 0) (by omega) (by omega) (by omega) (by first | assumption | omega)) wm_672 wm_4 wm_669 wm_670 wm_671 (by decide +kernel) rfl rfl ⟨by decide, by decide⟩ rfl (Nat.le_of_ble_eq_true rfl) dX8_origin_77 (ro_kk (fun hr45 => ?_))
              refine k_st (st' := [gI (f_X4_pushed v30 x1 (s0 62 0) s0), .ref (a (10 + x0.toNat))]) rfl ?_
              refine k_mr (fun hm_s0 => ?_)
              refine k_callV (pc := 80) (np := 1) (As := [gI (f_X4_pushed v30 x1 (s0 62 0) s0)]) (st := []) (q0 := (10 + x0.toNat)) E (c_X5_firstUnlike l D a cI cJ cS cT x0.toNat (by omega) s0 (f_X4_pushed v30 x1 (s0 62 0) s0) (by omega)) wm_752 wm_10 wm_749 wm_750 wm_751 (by decide +kernel) (shO a cI cJ cS cT s0 (by omega)) rfl ⟨by decide, by decide⟩ rfl (Nat.le_of_ble_eq_true rfl) dX8_origin_80 (ro_kk (fun hr47 => ?_))
              have hp48 := f_X5_firstUnlike_p (f_X4_pushed v30 x1 (s0 62 0) s0) x0.toNat s0 (by omega) (by omega) hm_s0 
              refine k_st (st' := [gI (f_X5_firstUnlike (f_X4_pushed v30 x1 (s0 62 0) s0) x0.toNat s0)]) rfl ?_
              by_cases h49 : (f_X5_firstUnlike (f_X4_pushed v30 x1 (s0 62 0) s0) x0.toNat s0) < 0
              · replace hT := hT.trans (if_pos h49)
                refine k_if_ge_f (pc := 83) (tgt := 95) E (by omega) dX8_origin_83 (by decide) h49 ?_
                refine k_iload (pc := 86) E 3 dX8_origin_86 rfl ?_
                refine k_iconst (pc := 88) E dX8_origin_88 ?_
                refine k_iload (pc := 89) E 4 dX8_origin_89 rfl ?_
                refine k_ishl (pc := 91) E dX8_origin_91 ?_
                have hb50 := ishl_rg 1 v30
                have hb51 : 0 ≤ v30 ∧ v30 ≤ 15 → _ := fun q => ishl_1 q.1 q.2
                refine k_ior (pc := 92) E dX8_origin_92 ?_
                have hb52 := ior_rg v29 (ishl 1 v30)
                refine k_istore (pc := 93) (lv' := [(4, gI (ior v29 (ishl 1 v30))), (0, .ref (a 0)), (1, gI x0), (2, gI x1), (5, gI v30)]) E dX8_origin_93 (by decide) rfl ?_
                refine k_lv (lv' := [(0, .ref (a 0)), (1, gI x0), (2, gI x1), (4, gI (ior v29 (ishl 1 v30))), (5, gI v30)]) [1, 2, 3, 0, 4] rfl ?_
                exact j40 (ior v29 (ishl 1 v30)) (by omega) hT
              · replace hT := hT.trans (if_neg h49)
                refine k_if_ge_t (pc := 83) (tgt := 95) E (by omega) dX8_origin_83 (by decide) h49 ?_
                exact j40 v29 (by omega) hT
          · replace hT := hT.trans (if_neg h35)
            refine k_icmp_ge_t (pc := 33) (tgt := 101) E (by omega) (by omega) dX8_origin_33 (by decide) h35 ?_
            refine k_lv (lv' := [(4, gI v29)]) [3] rfl ?_
            exact hk v29 v30 hT ⟨(by omega), (by omega), (by first | assumption | omega)⟩
      refine k_lv (lv' := [(0, .ref (a 0)), (1, gI x0), (2, gI x1), (4, gI 0), (5, gI 0)]) [3, 4, 5, 1, 0] rfl ?_
      refine L31 17 0 0 ⟨(by omega), (by omega), (by first | assumption | omega)⟩ (by omega) (fun v59 v60 hw hq => ?_)
      obtain ⟨hq61, hq62, hq63⟩ := hq
      replace hT := gl2y hT hw
      refine k_iload (pc := 101) E 0 dX8_origin_101 rfl ?_
      exact k_rho (congrArg (fun q => (q, s0)) hT) (k_iret (pc := 103) E dX8_origin_103 (by omega))
    · replace hT := hT.trans (if_neg h7)
      refine k_if_eq_f (pc := 17) (tgt := 23) E (by omega) dX8_origin_17 (by decide) h7 ?_
      refine k_bipush (pc := 20) E dX8_origin_20 (by decide) ?_
      exact k_rho (congrArg (fun q => (q, s0)) hT) (k_iret (pc := 22) E dX8_origin_22 (by omega))
  · replace hT := hT.trans (if_neg h4)
    refine k_if_eq_f (pc := 7) (tgt := 12) E (by omega) dX8_origin_7 (by decide) h4 ?_
    refine k_iloadn (pc := 10) E 0 dX8_origin_10 rfl rfl ?_
    exact k_rho (congrArg (fun q => (q, s0)) hT) (k_iret (pc := 11) E dX8_origin_11 (by omega))

def w_X8_how_56 (c1 : Int) (c2 : Int) (c3 : Int) (s0 : gMem) : Nat → Int → Int → Int × Int
  | 0, v17, v18 => (v17, v18)
  | n19 + 1, v17, v18 => (if v18 < 3 then (gl ((if c3 < 10 then (f_X4_pushed c2 v18 (s0 62 0) s0) else (f_X4_pushed c2 (c3 % 10) v18 s0))) (fun v23 => (gl ((if (f_X5_firstUnlike v23 c1.toNat s0) < 0 then (ior v17 (ishl 1 v18)) else v17)) (fun v28 => (w_X8_how_56 c1 c2 c3 s0 n19 v28 (v18 + 1)))))) else (v17, v18))
theorem w_X8_how_56_s (c1 : Int) (c2 : Int) (c3 : Int) (s0 : gMem) (n19 : Nat) (v17 : Int) (v18 : Int)  : w_X8_how_56 c1 c2 c3 s0 (n19 + 1) v17 v18 = (if v18 < 3 then (gl ((if c3 < 10 then (f_X4_pushed c2 v18 (s0 62 0) s0) else (f_X4_pushed c2 (c3 % 10) v18 s0))) (fun v23 => (gl ((if (f_X5_firstUnlike v23 c1.toNat s0) < 0 then (ior v17 (ishl 1 v18)) else v17)) (fun v28 => (w_X8_how_56 c1 c2 c3 s0 n19 v28 (v18 + 1)))))) else (v17, v18)) := rfl
def f_X8_how (x0 : Int) (x1 : Int) (x2 : Int) (s0 : gMem) : Int := gl (f_X8_refusedAsTold x0 s0) (fun v3 => (if v3 = 0 then (if (f_X8_outside x1 16) = 0 then (if x2 < 0 then (-7) else (if 1 < (x2 / 10) then (-7) else (if (x2 % 10) < 3 then (gl2 (w_X8_how_56 x0 x1 x2 s0 4 0 0) (fun v80 v81 => v80)) else (-7)))) else (-5)) else v3))
theorem f_X8_how_e (x0 : Int) (x1 : Int) (x2 : Int) (s0 : gMem) : f_X8_how x0 x1 x2 s0 = gl (f_X8_refusedAsTold x0 s0) (fun v3 => (if v3 = 0 then (if (f_X8_outside x1 16) = 0 then (if x2 < 0 then (-7) else (if 1 < (x2 / 10) then (-7) else (if (x2 % 10) < 3 then (gl2 (w_X8_how_56 x0 x1 x2 s0 4 0 0) (fun v80 v81 => v80)) else (-7)))) else (-5)) else v3)) := rfl
set_option maxRecDepth 100000 in
set_option maxHeartbeats 4000000 in
theorem f_X8_how_p (x0 : Int) (x1 : Int) (x2 : Int) (s0 : gMem) (hx0 : in32 x0) (hx1 : in32 x1) (hx2 : in32 x2) (hm_s0 : gMR lgX s0) (hpre0 : SSo s0) (hpre1 : SSi s0) : (in32 (f_X8_how x0 x1 x2 s0)) := by
  have hT := f_X8_how_e x0 x1 x2 s0
  have hp2 := f_X8_refusedAsTold_p x0 s0 (by omega) hm_s0 hpre0 hpre1
  obtain ⟨v3, hv3, hT⟩ := glx hT
  by_cases h4 : v3 = 0
  · replace hT := hT.trans (if_pos h4)
    have hp6 := f_X8_outside_p x1 16 (by omega) (by omega) 
    by_cases h7 : (f_X8_outside x1 16) = 0
    · replace hT := hT.trans (if_pos h7)
      by_cases h8 : x2 < 0
      · replace hT := hT.trans (if_pos h8)
        rw [hT]
        exact (by omega)
      · replace hT := hT.trans (if_neg h8)
        have hd9 : (0 : Int) ≤ x2 := (by omega)
        have hd10 : (0 : Int) < 10 := (by omega)
        have hb11 := dv_rg hd9 hd10
        by_cases h12 : 1 < (x2 / 10)
        · replace hT := hT.trans (if_pos h12)
          rw [hT]
          exact (by omega)
        · replace hT := hT.trans (if_neg h12)
          have hd13 : (0 : Int) ≤ x2 := (by omega)
          have hd14 : (0 : Int) < 10 := (by omega)
          have hb15 := rm_rg (x := x2) hd14
          by_cases h16 : (x2 % 10) < 3
          · replace hT := hT.trans (if_pos h16)
            have L46 : ∀ (n47 : Nat) (v44 : Int) (v45 : Int), ((in32 v44) ∧ (in32 v45) ∧ (0 ≤ v45 ∧ v45 ≤ 3)) → 3 - v45 < (n47 : Int) → (∀ (w48 : Int) (w49 : Int), (w_X8_how_56 x0 x1 x2 s0 n47 v44 v45) = (w48, w49) → ((in32 w48) ∧ (in32 w49) ∧ (0 ≤ w49 ∧ w49 ≤ 3)) → (in32 (f_X8_how x0 x1 x2 s0))) → (in32 (f_X8_how x0 x1 x2 s0)) := by
              intro n47; induction n47 with
              | zero =>
                intro v44 v45 hq hm hk
                exfalso
                obtain ⟨hq74, hq75, hq76⟩ := hq
                omega
              | succ n47 ih =>
                intro v44 v45 hq hm hk
                obtain ⟨hq77, hq78, hq79⟩ := hq
                have hT := w_X8_how_56_s x0 x1 x2 s0 n47 v44 v45
                by_cases h50 : v45 < 3
                · replace hT := hT.trans (if_pos h50)
                  obtain ⟨z65, hz65, hT⟩ := gl1x hT
                  have j52 : ∀ (v53 : Int), ((in32 v53)) → z65 = v53 → (in32 (f_X8_how x0 x1 x2 s0)) := by
                    intro v53 hq hz
                    have hq64 := hq
                    replace hT := gl1y hT hz
                    have hp55 := f_X5_firstUnlike_p v53 x0.toNat s0 (by omega) (by omega) hm_s0 
                    obtain ⟨z60, hz60, hT⟩ := gl1x hT
                    have j57 : ∀ (v58 : Int), ((in32 v58)) → z60 = v58 → (in32 (f_X8_how x0 x1 x2 s0)) := by
                      intro v58 hq hz
                      have hq59 := hq
                      replace hT := gl1y hT hz
                      exact ih v58 (v45 + 1) ⟨(by omega), (by omega), (by first | assumption | omega)⟩ (by omega) (fun w48 w49 hw hi => hk w48 w49 (hT.trans hw) hi)
                    replace hT := hz60
                    by_cases h56 : (f_X5_firstUnlike v53 x0.toNat s0) < 0
                    · replace hT := hT.trans (if_pos h56)
                      have hb61 := ishl_rg 1 v45
                      have hb62 : 0 ≤ v45 ∧ v45 ≤ 15 → _ := fun q => ishl_1 q.1 q.2
                      have hb63 := ior_rg v44 (ishl 1 v45)
                      exact j57 (ior v44 (ishl 1 v45)) (by omega) hT
                    · replace hT := hT.trans (if_neg h56)
                      exact j57 v44 (by omega) hT
                  replace hT := hz65
                  by_cases h51 : x2 < 10
                  · replace hT := hT.trans (if_pos h51)
                    have hr66 := (hm_s0 62 0).1 rfl
                    have hp68 := f_X4_pushed_p x1 v45 (s0 62 0) s0 (by omega) (by omega) (by omega) hm_s0 (by first | assumption | omega)
                    exact j52 (f_X4_pushed x1 v45 (s0 62 0) s0) (by omega) hT
                  · replace hT := hT.trans (if_neg h51)
                    have hd69 : (0 : Int) ≤ x2 := (by omega)
                    have hd70 : (0 : Int) < 10 := (by omega)
                    have hb71 := rm_rg (x := x2) hd70
                    have hp73 := f_X4_pushed_p x1 (x2 % 10) v45 s0 (by omega) (by omega) (by omega) hm_s0 (by first | assumption | omega)
                    exact j52 (f_X4_pushed x1 (x2 % 10) v45 s0) (by omega) hT
                · replace hT := hT.trans (if_neg h50)
                  exact hk v44 v45 hT ⟨(by omega), (by omega), (by first | assumption | omega)⟩
            refine L46 4 0 0 ⟨(by omega), (by omega), (by first | assumption | omega)⟩ (by omega) (fun v80 v81 hw hq => ?_)
            obtain ⟨hq82, hq83, hq84⟩ := hq
            replace hT := gl2y hT hw
            rw [hT]
            exact (by omega)
          · replace hT := hT.trans (if_neg h16)
            rw [hT]
            exact (by omega)
    · replace hT := hT.trans (if_neg h7)
      rw [hT]
      exact (by omega)
  · replace hT := hT.trans (if_neg h4)
    rw [hT]
    exact (by omega)
set_option maxRecDepth 100000 in
set_option maxHeartbeats 4000000 in
theorem c_X8_how (l : Launch) (D : va_G) (a : Nat → Nat) (cI cJ cS cT : ClassId) (s0 : gMem) (x0 : Int) (x1 : Int) (x2 : Int) (hx0 : in32 x0) (hx1 : in32 x1) (hx2 : in32 x2) (hpre0 : SSo s0) (hpre1 : SSi s0) : gC l yX8_how cX8_how 8 (some .int) 4 256 D vwCl (gT cI cJ cS cT) (wdX a cI cJ cS cT) lgX kI in32 [.ref (a 0), gI x0, gI x1, gI x2] s0 ((f_X8_how x0 x1 x2 s0), s0) := by
  refine gC_of (by decide +kernel) (hwdX a cI cJ cS cT) (Nat.le_of_ble_eq_true rfl) ?_
  intro A p e R s m args below meth c hR E
  subst hR
  have hT := f_X8_how_e x0 x1 x2 s0
  refine k_lv0 (lv' := [(0, .ref (a 0)), (1, gI x0), (2, gI x1), (3, gI x2)]) rfl ?_
  refine k_mr (fun hm_s0 => ?_)
  refine k_aloadn (pc := 0) E 0 dX8_how_0 rfl rfl ?_
  refine k_iloadn (pc := 1) E 1 dX8_how_1 rfl rfl ?_
  refine k_mr (fun hm_s0 => ?_)
  refine k_callV (pc := 2) (np := 1) (As := [gI x0]) (st := []) (q0 := 0) E (c_X8_refusedAsTold l D a cI cJ cS cT s0 x0 (by omega) hpre0 hpre1) wm_744 wm_1 wm_741 wm_743 wp_23 (by decide +kernel) rfl rfl ⟨by decide, by decide⟩ rfl (Nat.le_of_ble_eq_true rfl) dX8_how_2 (ro_kk (fun hr1 => ?_))
  have hp2 := f_X8_refusedAsTold_p x0 s0 (by omega) hm_s0 hpre0 hpre1
  refine k_st (st' := [gI (f_X8_refusedAsTold x0 s0)]) rfl ?_
  obtain ⟨v3, hv3, hT⟩ := glx hT
  refine k_st (st' := [gI v3]) (by rw [hv3]) ?_
  refine k_istore (pc := 5) (lv' := [(4, gI v3), (0, .ref (a 0)), (1, gI x0), (2, gI x1), (3, gI x2)]) E dX8_how_5 (by decide) rfl ?_
  refine k_iload (pc := 7) E 0 dX8_how_7 rfl ?_
  by_cases h4 : v3 = 0
  · replace hT := hT.trans (if_pos h4)
    refine k_if_eq_t (pc := 9) (tgt := 15) E (by omega) dX8_how_9 (by decide) h4 ?_
    refine k_iloadn (pc := 15) E 3 dX8_how_15 rfl rfl ?_
    refine k_bipush (pc := 16) E dX8_how_16 (by decide) ?_
    refine k_mr (fun hm_s0 => ?_)
    refine k_callS (pc := 18) (np := 2) (As := [gI x1, gI 16]) (st := []) E (c_X8_outside l D a cI cJ cS cT s0 x1 16 (by omega) (by omega)) wm_310 wm_1 wm_308 wm_309 (by decide +kernel) ⟨by decide, by decide⟩ rfl (Nat.le_of_ble_eq_true rfl) dX8_how_18 (ro_kk (fun hr5 => ?_))
    have hp6 := f_X8_outside_p x1 16 (by omega) (by omega) 
    refine k_st (st' := [gI (f_X8_outside x1 16)]) rfl ?_
    by_cases h7 : (f_X8_outside x1 16) = 0
    · replace hT := hT.trans (if_pos h7)
      refine k_if_eq_t (pc := 21) (tgt := 27) E (by omega) dX8_how_21 (by decide) h7 ?_
      refine k_iloadn (pc := 27) E 4 dX8_how_27 rfl rfl ?_
      by_cases h8 : x2 < 0
      · replace hT := hT.trans (if_pos h8)
        refine k_if_lt_t (pc := 28) (tgt := 47) E (by omega) dX8_how_28 (by decide) h8 ?_
        refine k_bipush (pc := 47) E dX8_how_47 (by decide) ?_
        exact k_rho (congrArg (fun q => (q, s0)) hT) (k_iret (pc := 49) E dX8_how_49 (by omega))
      · replace hT := hT.trans (if_neg h8)
        refine k_if_lt_f (pc := 28) (tgt := 47) E (by omega) dX8_how_28 (by decide) h8 ?_
        refine k_iloadn (pc := 31) E 4 dX8_how_31 rfl rfl ?_
        refine k_bipush (pc := 32) E dX8_how_32 (by decide) ?_
        have hd9 : (0 : Int) ≤ x2 := (by omega)
        have hd10 : (0 : Int) < 10 := (by omega)
        refine k_idivN (pc := 34) E (by omega) (by omega) hd9 hd10 dX8_how_34 ?_
        have hb11 := dv_rg hd9 hd10
        refine k_iconst (pc := 35) E dX8_how_35 ?_
        by_cases h12 : 1 < (x2 / 10)
        · replace hT := hT.trans (if_pos h12)
          refine k_icmp_gt_t (pc := 36) (tgt := 47) E (by omega) (by omega) dX8_how_36 (by decide) h12 ?_
          refine k_bipush (pc := 47) E dX8_how_47 (by decide) ?_
          exact k_rho (congrArg (fun q => (q, s0)) hT) (k_iret (pc := 49) E dX8_how_49 (by omega))
        · replace hT := hT.trans (if_neg h12)
          refine k_icmp_gt_f (pc := 36) (tgt := 47) E (by omega) (by omega) dX8_how_36 (by decide) h12 ?_
          refine k_iloadn (pc := 39) E 4 dX8_how_39 rfl rfl ?_
          refine k_bipush (pc := 40) E dX8_how_40 (by decide) ?_
          have hd13 : (0 : Int) ≤ x2 := (by omega)
          have hd14 : (0 : Int) < 10 := (by omega)
          refine k_iremN (pc := 42) E (by omega) (by omega) hd13 hd14 dX8_how_42 ?_
          have hb15 := rm_rg (x := x2) hd14
          refine k_iconst (pc := 43) E dX8_how_43 ?_
          by_cases h16 : (x2 % 10) < 3
          · replace hT := hT.trans (if_pos h16)
            refine k_icmp_lt_t (pc := 44) (tgt := 50) E (by omega) (by omega) dX8_how_44 (by decide) h16 ?_
            refine k_iconst (pc := 50) E dX8_how_50 ?_
            refine k_istore (pc := 51) (lv' := [(5, gI 0), (4, gI v3), (0, .ref (a 0)), (1, gI x0), (2, gI x1), (3, gI x2)]) E dX8_how_51 (by decide) rfl ?_
            refine k_iconst (pc := 53) E dX8_how_53 ?_
            refine k_istore (pc := 54) (lv' := [(6, gI 0), (5, gI 0), (4, gI v3), (0, .ref (a 0)), (1, gI x0), (2, gI x1), (3, gI x2)]) E dX8_how_54 (by decide) rfl ?_
            have L46 : ∀ (n47 : Nat) (v44 : Int) (v45 : Int), ((in32 v44) ∧ (in32 v45) ∧ (0 ≤ v45 ∧ v45 ≤ 3)) → 3 - v45 < (n47 : Int) → (∀ (w48 : Int) (w49 : Int), (w_X8_how_56 x0 x1 x2 s0 n47 v44 v45) = (w48, w49) → ((in32 w48) ∧ (in32 w49) ∧ (0 ≤ w49 ∧ w49 ≤ 3)) → gK D vwCl (wdX a cI cJ cS cT) lgX A p l e { frames := 4, cells := 0, slots := 0, locals := 256 } s m args below meth c 8 (gQQ D vwCl (wdX a cI cJ cS cT) lgX A kI in32 below args s) ((f_X8_how x0 x1 x2 s0), s0) s0 136 [(5, gI w48)] []) → gK D vwCl (wdX a cI cJ cS cT) lgX A p l e { frames := 4, cells := 0, slots := 0, locals := 256 } s m args below meth c 8 (gQQ D vwCl (wdX a cI cJ cS cT) lgX A kI in32 below args s) ((f_X8_how x0 x1 x2 s0), s0) s0 56 [(0, .ref (a 0)), (1, gI x0), (2, gI x1), (3, gI x2), (5, gI v44), (6, gI v45)] [] := by
              intro n47; induction n47 with
              | zero =>
                intro v44 v45 hq hm hk
                exfalso
                obtain ⟨hq74, hq75, hq76⟩ := hq
                omega
              | succ n47 ih =>
                intro v44 v45 hq hm hk
                obtain ⟨hq77, hq78, hq79⟩ := hq
                have hT := w_X8_how_56_s x0 x1 x2 s0 n47 v44 v45
                refine k_iload (pc := 56) E 5 dX8_how_56 rfl ?_
                refine k_iconst (pc := 58) E dX8_how_58 ?_
                by_cases h50 : v45 < 3
                · replace hT := hT.trans (if_pos h50)
                  refine k_icmp_ge_f (pc := 59) (tgt := 136) E (by omega) (by omega) dX8_how_59 (by decide) h50 ?_
                  refine k_iloadn (pc := 62) E 3 dX8_how_62 rfl rfl ?_
                  refine k_bipush (pc := 63) E dX8_how_63 (by decide) ?_
                  obtain ⟨z65, hz65, hT⟩ := gl1x hT
                  have j52 : ∀ (v53 : Int), ((in32 v53)) → z65 = v53 → gK D vwCl (wdX a cI cJ cS cT) lgX A p l e { frames := 4, cells := 0, slots := 0, locals := 256 } s m args below meth c 8 (gQQ D vwCl (wdX a cI cJ cS cT) lgX A kI in32 below args s) ((f_X8_how x0 x1 x2 s0), s0) s0 105 [(0, .ref (a 0)), (1, gI x0), (2, gI x1), (3, gI x2), (5, gI v44), (6, gI v45)] [gI v53] := by
                    intro v53 hq hz
                    have hq64 := hq
                    replace hT := gl1y hT hz
                    refine k_istore (pc := 105) (lv' := [(7, gI v53), (0, .ref (a 0)), (1, gI x0), (2, gI x1), (3, gI x2), (5, gI v44), (6, gI v45)]) E dX8_how_105 (by decide) rfl ?_
                    refine k_aloadn (pc := 107) E 1 dX8_how_107 rfl rfl ?_
                    refine k_getf (pc := 108) (q0 := 0) (f := 7) (v := .ref (a 9)) E inX8 rfl rfl (by decide) wm_279 rfl rfl dX8_how_108 ?_
                    refine k_iloadn (pc := 111) E 2 dX8_how_111 rfl rfl ?_
                    refine k_aaload (pc := 112) (q0 := 9) (t0 := 2) (b := 10) (n := 4) E rfl rfl (by decide) (by omega) (by omega) dX8_how_112 ?_
                    refine k_iload (pc := 113) E 0 dX8_how_113 rfl ?_
                    refine k_mr (fun hm_s0 => ?_)
                    refine k_callV (pc := 115) (np := 1) (As := [gI v53]) (st := []) (q0 := (10 + x0.toNat)) E (c_X5_firstUnlike l D a cI cJ cS cT x0.toNat (by omega) s0 v53 (by omega)) wm_752 wm_10 wm_749 wm_750 wm_751 (by decide +kernel) (shO a cI cJ cS cT s0 (by omega)) rfl ⟨by decide, by decide⟩ rfl (Nat.le_of_ble_eq_true rfl) dX8_how_115 (ro_kk (fun hr54 => ?_))
                    have hp55 := f_X5_firstUnlike_p v53 x0.toNat s0 (by omega) (by omega) hm_s0 
                    refine k_st (st' := [gI (f_X5_firstUnlike v53 x0.toNat s0)]) rfl ?_
                    obtain ⟨z60, hz60, hT⟩ := gl1x hT
                    have j57 : ∀ (v58 : Int), ((in32 v58)) → z60 = v58 → gK D vwCl (wdX a cI cJ cS cT) lgX A p l e { frames := 4, cells := 0, slots := 0, locals := 256 } s m args below meth c 8 (gQQ D vwCl (wdX a cI cJ cS cT) lgX A kI in32 below args s) ((f_X8_how x0 x1 x2 s0), s0) s0 130 [(0, .ref (a 0)), (1, gI x0), (2, gI x1), (3, gI x2), (5, gI v58), (6, gI v45)] [] := by
                      intro v58 hq hz
                      have hq59 := hq
                      replace hT := gl1y hT hz
                      refine k_iinc (pc := 130) (lv' := [(6, gI (v45 + 1)), (0, .ref (a 0)), (1, gI x0), (2, gI x1), (3, gI x2), (5, gI v58)]) E 5 dX8_how_130 rfl (by decide) rfl ?_
                      refine k_goto (pc := 133) (tgt := 56) E dX8_how_133 (by decide) ?_
                      refine k_lv (lv' := [(0, .ref (a 0)), (1, gI x0), (2, gI x1), (3, gI x2), (5, gI v58), (6, gI (v45 + 1))]) [1, 2, 3, 4, 5, 0] rfl ?_
                      exact ih v58 (v45 + 1) ⟨(by omega), (by omega), (by first | assumption | omega)⟩ (by omega) (fun w48 w49 hw hi => hk w48 w49 (hT.trans hw) hi)
                    replace hT := hz60
                    by_cases h56 : (f_X5_firstUnlike v53 x0.toNat s0) < 0
                    · replace hT := hT.trans (if_pos h56)
                      refine k_if_ge_f (pc := 118) (tgt := 130) E (by omega) dX8_how_118 (by decide) h56 ?_
                      refine k_iload (pc := 121) E 5 dX8_how_121 rfl ?_
                      refine k_iconst (pc := 123) E dX8_how_123 ?_
                      refine k_iload (pc := 124) E 6 dX8_how_124 rfl ?_
                      refine k_ishl (pc := 126) E dX8_how_126 ?_
                      have hb61 := ishl_rg 1 v45
                      have hb62 : 0 ≤ v45 ∧ v45 ≤ 15 → _ := fun q => ishl_1 q.1 q.2
                      refine k_ior (pc := 127) E dX8_how_127 ?_
                      have hb63 := ior_rg v44 (ishl 1 v45)
                      refine k_istore (pc := 128) (lv' := [(5, gI (ior v44 (ishl 1 v45))), (7, gI v53), (0, .ref (a 0)), (1, gI x0), (2, gI x1), (3, gI x2), (6, gI v45)]) E dX8_how_128 (by decide) rfl ?_
                      refine k_lv (lv' := [(0, .ref (a 0)), (1, gI x0), (2, gI x1), (3, gI x2), (5, gI (ior v44 (ishl 1 v45))), (6, gI v45)]) [2, 3, 4, 5, 0, 6] rfl ?_
                      exact j57 (ior v44 (ishl 1 v45)) (by omega) hT
                    · replace hT := hT.trans (if_neg h56)
                      refine k_if_ge_t (pc := 118) (tgt := 130) E (by omega) dX8_how_118 (by decide) h56 ?_
                      refine k_lv (lv' := [(0, .ref (a 0)), (1, gI x0), (2, gI x1), (3, gI x2), (5, gI v44), (6, gI v45)]) [1, 2, 3, 4, 5, 6] rfl ?_
                      exact j57 v44 (by omega) hT
                  replace hT := hz65
                  by_cases h51 : x2 < 10
                  · replace hT := hT.trans (if_pos h51)
                    refine k_icmp_ge_f (pc := 65) (tgt := 91) E (by omega) (by omega) dX8_how_65 (by decide) h51 ?_
                    refine k_aloadn (pc := 68) E 0 dX8_how_68 rfl rfl ?_
                    refine k_getf (pc := 69) (q0 := 0) (f := 2) (v := .ref (a 3)) E inX8 rfl rfl (by decide) wm_274 rfl rfl dX8_how_69 ?_
                    refine k_iloadn (pc := 72) E 2 dX8_how_72 rfl rfl ?_
                    refine k_iload (pc := 73) E 5 dX8_how_73 rfl ?_
                    refine k_aloadn (pc := 75) E 0 dX8_how_75 rfl rfl ?_
                    refine k_getf (pc := 76) (q0 := 0) (f := 2) (v := .ref (a 3)) E inX8 rfl rfl (by decide) wm_274 rfl rfl dX8_how_76 ?_
                    refine k_getf (pc := 79) (q0 := 3) (f := 0) (v := .ref (a 4)) E inX4 rfl rfl (by decide) wm_149 rfl rfl dX8_how_79 ?_
                    refine k_getfI (pc := 82) (q0 := 4) (f := 5) (k := 62) E inX6 rfl rfl (by decide) wm_119 rfl rfl rfl dX8_how_82 (fun hr66 => ?_)
                    refine k_callV (pc := 85) (np := 3) (As := [gI x1, gI v45, gI (s0 62 0)]) (st := []) (q0 := 3) E (c_X4_pushed l D a cI cJ cS cT s0 x1 v45 (s0 62 0) (by omega) (by omega) (by omega) (by first | assumption | omega)) wm_672 wm_4 wm_669 wm_670 wm_671 (by decide +kernel) rfl rfl ⟨by decide, by decide⟩ rfl (Nat.le_of_ble_eq_true rfl) dX8_how_85 (ro_kk (fun hr67 => ?_))
                    refine k_st (st' := [gI (f_X4_pushed x1 v45 (s0 62 0) s0)]) rfl ?_
                    refine k_goto (pc := 88) (tgt := 105) E dX8_how_88 (by decide) ?_
                    exact j52 (f_X4_pushed x1 v45 (s0 62 0) s0) (by omega) hT
                  · replace hT := hT.trans (if_neg h51)
                    refine k_icmp_ge_t (pc := 65) (tgt := 91) E (by omega) (by omega) dX8_how_65 (by decide) h51 ?_
                    refine k_aloadn (pc := 91) E 0 dX8_how_91 rfl rfl ?_
                    refine k_getf (pc := 92) (q0 := 0) (f := 2) (v := .ref (a 3)) E inX8 rfl rfl (by decide) wm_274 rfl rfl dX8_how_92 ?_
                    refine k_iloadn (pc := 95) E 2 dX8_how_95 rfl rfl ?_
                    refine k_iloadn (pc := 96) E 3 dX8_how_96 rfl rfl ?_
                    refine k_bipush (pc := 97) E dX8_how_97 (by decide) ?_
                    have hd69 : (0 : Int) ≤ x2 := (by omega)
                    have hd70 : (0 : Int) < 10 := (by omega)
                    refine k_iremN (pc := 99) E (by omega) (by omega) hd69 hd70 dX8_how_99 ?_
                    have hb71 := rm_rg (x := x2) hd70
                    refine k_iload (pc := 100) E 5 dX8_how_100 rfl ?_
                    refine k_callV (pc := 102) (np := 3) (As := [gI x1, gI (x2 % 10), gI v45]) (st := []) (q0 := 3) E (c_X4_pushed l D a cI cJ cS cT s0 x1 (x2 % 10) v45 (by omega) (by omega) (by omega) (by first | assumption | omega)) wm_672 wm_4 wm_669 wm_670 wm_671 (by decide +kernel) rfl rfl ⟨by decide, by decide⟩ rfl (Nat.le_of_ble_eq_true rfl) dX8_how_102 (ro_kk (fun hr72 => ?_))
                    refine k_st (st' := [gI (f_X4_pushed x1 (x2 % 10) v45 s0)]) rfl ?_
                    exact j52 (f_X4_pushed x1 (x2 % 10) v45 s0) (by omega) hT
                · replace hT := hT.trans (if_neg h50)
                  refine k_icmp_ge_t (pc := 59) (tgt := 136) E (by omega) (by omega) dX8_how_59 (by decide) h50 ?_
                  refine k_lv (lv' := [(5, gI v44)]) [4] rfl ?_
                  exact hk v44 v45 hT ⟨(by omega), (by omega), (by first | assumption | omega)⟩
            refine k_lv (lv' := [(0, .ref (a 0)), (1, gI x0), (2, gI x1), (3, gI x2), (5, gI 0), (6, gI 0)]) [3, 4, 5, 6, 1, 0] rfl ?_
            refine L46 4 0 0 ⟨(by omega), (by omega), (by first | assumption | omega)⟩ (by omega) (fun v80 v81 hw hq => ?_)
            obtain ⟨hq82, hq83, hq84⟩ := hq
            replace hT := gl2y hT hw
            refine k_iload (pc := 136) E 0 dX8_how_136 rfl ?_
            exact k_rho (congrArg (fun q => (q, s0)) hT) (k_iret (pc := 138) E dX8_how_138 (by omega))
          · replace hT := hT.trans (if_neg h16)
            refine k_icmp_lt_f (pc := 44) (tgt := 50) E (by omega) (by omega) dX8_how_44 (by decide) h16 ?_
            refine k_bipush (pc := 47) E dX8_how_47 (by decide) ?_
            exact k_rho (congrArg (fun q => (q, s0)) hT) (k_iret (pc := 49) E dX8_how_49 (by omega))
    · replace hT := hT.trans (if_neg h7)
      refine k_if_eq_f (pc := 21) (tgt := 27) E (by omega) dX8_how_21 (by decide) h7 ?_
      refine k_bipush (pc := 24) E dX8_how_24 (by decide) ?_
      exact k_rho (congrArg (fun q => (q, s0)) hT) (k_iret (pc := 26) E dX8_how_26 (by omega))
  · replace hT := hT.trans (if_neg h4)
    refine k_if_eq_f (pc := 9) (tgt := 15) E (by omega) dX8_how_9 (by decide) h4 ?_
    refine k_iload (pc := 12) E 0 dX8_how_12 rfl ?_
    exact k_rho (congrArg (fun q => (q, s0)) hT) (k_iret (pc := 14) E dX8_how_14 (by omega))

def t_X8_firstOtherChance_2 (c1 : Int) : Nat → Int → gMem → gRes
  | 0, v1, s2 => (0, s2)
  | n3 + 1, v1, s2 => (if v1 < 16 then gb (f_X4_falls v1 0 s2) (fun r7 s8 => (if (s2 (14 + c1.toNat) v1) = r7 then (t_X8_firstOtherChance_2 c1 n3 (v1 + 1) s8) else (v1, s8))) else ((-1), s2))
theorem t_X8_firstOtherChance_2_s (c1 : Int) (n3 : Nat) (v1 : Int) (s2 : gMem) : t_X8_firstOtherChance_2 c1 (n3 + 1) v1 s2 = (if v1 < 16 then gb (f_X4_falls v1 0 s2) (fun r7 s8 => (if (s2 (14 + c1.toNat) v1) = r7 then (t_X8_firstOtherChance_2 c1 n3 (v1 + 1) s8) else (v1, s8))) else ((-1), s2)) := rfl
def f_X8_firstOtherChance (x0 : Int) (s0 : gMem) : gRes := (t_X8_firstOtherChance_2 x0 17 0 s0)
theorem f_X8_firstOtherChance_e (x0 : Int) (s0 : gMem) : f_X8_firstOtherChance x0 s0 = (t_X8_firstOtherChance_2 x0 17 0 s0) := rfl
set_option maxRecDepth 100000 in
set_option maxHeartbeats 4000000 in
theorem f_X8_firstOtherChance_p (x0 : Int) (s0 : gMem) (hx0 : in32 x0) (hm_s0 : gMR lgX s0) (hpre0 : CD s0) (hpre1 : BG s0) (hpre2 : LA s0) (hpre3 : MOx s0) (hpre4 : KF s0) (hpre5 : 0 ≤ x0 ∧ x0 ≤ 3) (rZ : Int) (sZ : gMem) (hres : f_X8_firstOtherChance x0 s0 = (rZ, sZ)) : (fr [32, 36, 37] s0 sZ) ∧ (gMR lgX sZ) ∧ (in32 rZ) ∧ (KF sZ) := by
  have hT := f_X8_firstOtherChance_e x0 s0
  have hf_s0 : fr [32, 36, 37] s0 s0 := fr.rf _ _
  have hKF_s0 := hpre4
  have L15 : ∀ (n16 : Nat) (v13 : Int) (s14 : gMem), ((in32 v13) ∧ (fr [32, 36, 37] s0 s14) ∧ (gMR lgX s14) ∧ (KF s14) ∧ (0 ≤ v13 ∧ v13 ≤ 16)) → 16 - v13 < (n16 : Int) → (f_X8_firstOtherChance x0 s0) = (t_X8_firstOtherChance_2 x0 n16 v13 s14) → (fr [32, 36, 37] s0 sZ) ∧ (gMR lgX sZ) ∧ (in32 rZ) ∧ (KF sZ) := by
    intro n16; induction n16 with
    | zero =>
      intro v13 s14 hq hm hT
      exfalso
      obtain ⟨hq28, hf_s14, hm_s14, hKF_s14, hq29⟩ := hq
      omega
    | succ n16 ih =>
      intro v13 s14 hq hm hT
      obtain ⟨hq30, hf_s14, hm_s14, hKF_s14, hq31⟩ := hq
      replace hT := hT.trans (t_X8_firstOtherChance_2_s x0 n16 v13 s14)
      by_cases h19 : v13 < 16
      · replace hT := hT.trans (if_pos h19)
        have hr20 := (hm_s14 (14 + x0.toNat) v13).1 (scL (by omega))
        obtain ⟨r22, s23, hs23⟩ : ∃ rr ss, (f_X4_falls v13 0 s14) = (rr, ss) := ⟨_, _, rfl⟩
        replace hT := gby hT hs23
        have hp24 := f_X4_falls_p v13 0 s14 (by omega) (by omega) hm_s14 (CD_fr hpre0 (fun k hk => hf_s14 k (dj (by decide) k hk))) (BG_fr hpre1 (fun k hk => hf_s14 k (dj (by decide) k hk))) (LA_fr hpre2 (fun k hk => hf_s14 k (dj (by decide) k hk))) (MOx_fr hpre3 (fun k hk => hf_s14 k (dj (by decide) k hk))) hKF_s14 (by first | assumption | omega) (by first | assumption | omega) r22 s23 hs23
        obtain ⟨hfc_s23, hm_s23, hp25, hKF_s23, hp26⟩ := hp24
        have hf_s23 : fr [32, 36, 37] s0 s23 := hf_s14.call (by decide) hfc_s23
        by_cases h27 : (s14 (14 + x0.toNat) v13) = r22
        · replace hT := hT.trans (if_pos h27)
          exact ih (v13 + 1) s23 ⟨(by omega), hf_s23, hm_s23, hKF_s23, (by first | assumption | omega)⟩ (by omega) hT
        · replace hT := hT.trans (if_neg h27)
          obtain ⟨rfl, rfl⟩ := Prod.mk.inj (hT.symm.trans hres)
          exact ⟨hf_s23, hm_s23, (by omega), hKF_s23⟩
      · replace hT := hT.trans (if_neg h19)
        obtain ⟨rfl, rfl⟩ := Prod.mk.inj (hT.symm.trans hres)
        exact ⟨hf_s14, hm_s14, (by omega), hKF_s14⟩
  exact L15 17 0 s0 ⟨(by omega), hf_s0, hm_s0, hKF_s0, (by first | assumption | omega)⟩ (by omega) hT
set_option maxRecDepth 100000 in
set_option maxHeartbeats 4000000 in
theorem c_X8_firstOtherChance (l : Launch) (D : va_G) (a : Nat → Nat) (cI cJ cS cT : ClassId) (s0 : gMem) (x0 : Int) (hx0 : in32 x0) (hpre0 : CD s0) (hpre1 : BG s0) (hpre2 : LA s0) (hpre3 : MOx s0) (hpre4 : KF s0) (hpre5 : 0 ≤ x0 ∧ x0 ≤ 3) : gC l yX8_firstOtherChance cX8_firstOtherChance 3 (some .int) 4 256 D vwCl (gT cI cJ cS cT) (wdX a cI cJ cS cT) lgX kI in32 [.ref (a 0), gI x0] s0 (f_X8_firstOtherChance x0 s0) := by
  refine gC_of (by decide +kernel) (hwdX a cI cJ cS cT) (Nat.le_of_ble_eq_true rfl) ?_
  intro A p e R s m args below meth c hR E
  subst hR
  have hT := f_X8_firstOtherChance_e x0 s0
  have hf_s0 : fr [32, 36, 37] s0 s0 := fr.rf _ _
  refine k_lv0 (lv' := [(0, .ref (a 0)), (1, gI x0)]) rfl ?_
  refine k_mr (fun hm_s0 => ?_)
  have hKF_s0 := hpre4
  refine k_iconst (pc := 0) E dX8_firstOtherChance_0 ?_
  refine k_istoren (pc := 1) (lv' := [(2, gI 0), (0, .ref (a 0)), (1, gI x0)]) E dX8_firstOtherChance_1 rfl (by decide) rfl ?_
  have L15 : ∀ (n16 : Nat) (v13 : Int) (s14 : gMem), ((in32 v13) ∧ (fr [32, 36, 37] s0 s14) ∧ (KF s14) ∧ (0 ≤ v13 ∧ v13 ≤ 16)) → 16 - v13 < (n16 : Int) → (f_X8_firstOtherChance x0 s0) = (t_X8_firstOtherChance_2 x0 n16 v13 s14) → gK D vwCl (wdX a cI cJ cS cT) lgX A p l e { frames := 4, cells := 0, slots := 0, locals := 256 } s m args below meth c 3 (gQQ D vwCl (wdX a cI cJ cS cT) lgX A kI in32 below args s) (f_X8_firstOtherChance x0 s0) s14 2 [(0, .ref (a 0)), (1, gI x0), (2, gI v13)] [] := by
    intro n16; induction n16 with
    | zero =>
      intro v13 s14 hq hm hT
      exfalso
      obtain ⟨hq28, hf_s14, hKF_s14, hq29⟩ := hq
      omega
    | succ n16 ih =>
      intro v13 s14 hq hm hT
      obtain ⟨hq30, hf_s14, hKF_s14, hq31⟩ := hq
      replace hT := hT.trans (t_X8_firstOtherChance_2_s x0 n16 v13 s14)
      refine k_iloadn (pc := 2) E 2 dX8_firstOtherChance_2 rfl rfl ?_
      refine k_bipush (pc := 3) E dX8_firstOtherChance_3 (by decide) ?_
      by_cases h19 : v13 < 16
      · replace hT := hT.trans (if_pos h19)
        refine k_icmp_ge_f (pc := 5) (tgt := 39) E (by omega) (by omega) dX8_firstOtherChance_5 (by decide) h19 ?_
        refine k_aloadn (pc := 8) E 0 dX8_firstOtherChance_8 rfl rfl ?_
        refine k_getf (pc := 9) (q0 := 0) (f := 7) (v := .ref (a 9)) E inX8 rfl rfl (by decide) wm_279 rfl rfl dX8_firstOtherChance_9 ?_
        refine k_iloadn (pc := 12) E 1 dX8_firstOtherChance_12 rfl rfl ?_
        refine k_aaload (pc := 13) (q0 := 9) (t0 := 2) (b := 10) (n := 4) E rfl rfl (by decide) (by omega) (by omega) dX8_firstOtherChance_13 ?_
        refine k_getf (pc := 14) (q0 := (10 + x0.toNat)) (f := 0) (v := .ref (a (14 + x0.toNat))) E inX5 (shO a cI cJ cS cT s14 (by omega)) rfl (by decide) wm_260 rfl rfl dX8_firstOtherChance_14 ?_
        refine k_iloadn (pc := 17) E 2 dX8_firstOtherChance_17 rfl rfl ?_
        refine k_iaload (pc := 18) (q0 := (14 + x0.toNat)) (t0 := 0) (k := (14 + x0.toNat)) (n := 40) E (scA a cI cJ cS cT s14 (by omega)) rfl (scL (by omega)) (by decide) (by omega) (by omega) dX8_firstOtherChance_18 (fun hr20 => ?_)
        refine k_aloadn (pc := 19) E 0 dX8_firstOtherChance_19 rfl rfl ?_
        refine k_getf (pc := 20) (q0 := 0) (f := 2) (v := .ref (a 3)) E inX8 rfl rfl (by decide) wm_274 rfl rfl dX8_firstOtherChance_20 ?_
        refine k_iloadn (pc := 23) E 2 dX8_firstOtherChance_23 rfl rfl ?_
        refine k_iconst (pc := 24) E dX8_firstOtherChance_24 ?_
        refine k_mr (fun hm_s14 => ?_)
        refine k_callV (pc := 25) (np := 2) (As := [gI v13, gI 0]) (st := [gI (s14 (14 + x0.toNat) v13)]) (q0 := 3) E (c_X4_falls l D a cI cJ cS cT s14 v13 0 (by omega) (by omega) (CD_fr hpre0 (fun k hk => hf_s14 k (dj (by decide) k hk))) (BG_fr hpre1 (fun k hk => hf_s14 k (dj (by decide) k hk))) (LA_fr hpre2 (fun k hk => hf_s14 k (dj (by decide) k hk))) (MOx_fr hpre3 (fun k hk => hf_s14 k (dj (by decide) k hk))) hKF_s14 (by first | assumption | omega) (by first | assumption | omega)) wm_513 wm_4 wm_510 wm_511 wm_512 (by decide +kernel) rfl rfl ⟨by decide, by decide⟩ rfl (Nat.le_of_ble_eq_true rfl) dX8_firstOtherChance_25 (fun r22 s23 hs23 hr21 => ?_)
        replace hT := gby hT hs23
        have hp24 := f_X4_falls_p v13 0 s14 (by omega) (by omega) hm_s14 (CD_fr hpre0 (fun k hk => hf_s14 k (dj (by decide) k hk))) (BG_fr hpre1 (fun k hk => hf_s14 k (dj (by decide) k hk))) (LA_fr hpre2 (fun k hk => hf_s14 k (dj (by decide) k hk))) (MOx_fr hpre3 (fun k hk => hf_s14 k (dj (by decide) k hk))) hKF_s14 (by first | assumption | omega) (by first | assumption | omega) r22 s23 hs23
        obtain ⟨hfc_s23, hm_s23, hp25, hKF_s23, hp26⟩ := hp24
        have hf_s23 : fr [32, 36, 37] s0 s23 := hf_s14.call (by decide) hfc_s23
        refine k_st (st' := [gI r22, gI (s14 (14 + x0.toNat) v13)]) rfl ?_
        by_cases h27 : (s14 (14 + x0.toNat) v13) = r22
        · replace hT := hT.trans (if_pos h27)
          refine k_icmp_eq_t (pc := 28) (tgt := 33) E (by omega) (by omega) dX8_firstOtherChance_28 (by decide) h27 ?_
          refine k_iinc (pc := 33) (lv' := [(2, gI (v13 + 1)), (0, .ref (a 0)), (1, gI x0)]) E 2 dX8_firstOtherChance_33 rfl (by decide) rfl ?_
          refine k_goto (pc := 36) (tgt := 2) E dX8_firstOtherChance_36 (by decide) ?_
          refine k_lv (lv' := [(0, .ref (a 0)), (1, gI x0), (2, gI (v13 + 1))]) [1, 2, 0] rfl ?_
          exact ih (v13 + 1) s23 ⟨(by omega), hf_s23, hKF_s23, (by first | assumption | omega)⟩ (by omega) hT
        · replace hT := hT.trans (if_neg h27)
          refine k_icmp_eq_f (pc := 28) (tgt := 33) E (by omega) (by omega) dX8_firstOtherChance_28 (by decide) h27 ?_
          refine k_iloadn (pc := 31) E 2 dX8_firstOtherChance_31 rfl rfl ?_
          exact k_rho hT (k_iret (pc := 32) E dX8_firstOtherChance_32 (by omega))
      · replace hT := hT.trans (if_neg h19)
        refine k_icmp_ge_t (pc := 5) (tgt := 39) E (by omega) (by omega) dX8_firstOtherChance_5 (by decide) h19 ?_
        refine k_iconst (pc := 39) E dX8_firstOtherChance_39 ?_
        exact k_rho hT (k_iret (pc := 40) E dX8_firstOtherChance_40 (by omega))
  refine k_lv (lv' := [(0, .ref (a 0)), (1, gI x0), (2, gI 0)]) [1, 2, 0] rfl ?_
  exact L15 17 0 s0 ⟨(by omega), hf_s0, hKF_s0, (by first | assumption | omega)⟩ (by omega) hT

def f_X8_check (x0 : Int) (s0 : gMem) : gRes := gl (f_X8_refusedAsTold x0 s0) (fun v3 => (if v3 = 0 then gb (f_X8_firstOtherChance x0 s0) (fun r6 s7 => (r6, s7)) else (v3, s0)))
theorem f_X8_check_e (x0 : Int) (s0 : gMem) : f_X8_check x0 s0 = gl (f_X8_refusedAsTold x0 s0) (fun v3 => (if v3 = 0 then gb (f_X8_firstOtherChance x0 s0) (fun r6 s7 => (r6, s7)) else (v3, s0))) := rfl
set_option maxRecDepth 100000 in
set_option maxHeartbeats 4000000 in
theorem f_X8_check_p (x0 : Int) (s0 : gMem) (hx0 : in32 x0) (hm_s0 : gMR lgX s0) (hpre0 : CD s0) (hpre1 : BG s0) (hpre2 : LA s0) (hpre3 : MOx s0) (hpre4 : KF s0) (hpre5 : SSo s0) (hpre6 : SSi s0) (rZ : Int) (sZ : gMem) (hres : f_X8_check x0 s0 = (rZ, sZ)) : (fr [32, 36, 37] s0 sZ) ∧ (gMR lgX sZ) ∧ (in32 rZ) ∧ (KF sZ) := by
  have hT := f_X8_check_e x0 s0
  have hf_s0 : fr [32, 36, 37] s0 s0 := fr.rf _ _
  have hKF_s0 := hpre4
  have hp2 := f_X8_refusedAsTold_p x0 s0 (by omega) hm_s0 hpre5 hpre6
  obtain ⟨v3, hv3, hT⟩ := glx hT
  by_cases h4 : v3 = 0
  · replace hT := hT.trans (if_pos h4)
    obtain ⟨r6, s7, hs7⟩ : ∃ rr ss, (f_X8_firstOtherChance x0 s0) = (rr, ss) := ⟨_, _, rfl⟩
    replace hT := gby hT hs7
    have hp8 := f_X8_firstOtherChance_p x0 s0 (by omega) hm_s0 hpre0 hpre1 hpre2 hpre3 hKF_s0 (by first | assumption | omega) r6 s7 hs7
    obtain ⟨hfc_s7, hm_s7, hp9, hKF_s7⟩ := hp8
    have hf_s7 : fr [32, 36, 37] s0 s7 := hf_s0.call (by decide) hfc_s7
    obtain ⟨rfl, rfl⟩ := Prod.mk.inj (hT.symm.trans hres)
    exact ⟨hf_s7, hm_s7, (by omega), hKF_s7⟩
  · replace hT := hT.trans (if_neg h4)
    obtain ⟨rfl, rfl⟩ := Prod.mk.inj (hT.symm.trans hres)
    exact ⟨hf_s0, hm_s0, (by omega), hKF_s0⟩
set_option maxRecDepth 100000 in
set_option maxHeartbeats 4000000 in
theorem c_X8_check (l : Launch) (D : va_G) (a : Nat → Nat) (cI cJ cS cT : ClassId) (s0 : gMem) (x0 : Int) (hx0 : in32 x0) (hpre0 : CD s0) (hpre1 : BG s0) (hpre2 : LA s0) (hpre3 : MOx s0) (hpre4 : KF s0) (hpre5 : SSo s0) (hpre6 : SSi s0) : gC l yX8_check cX8_check 3 (some .int) 5 320 D vwCl (gT cI cJ cS cT) (wdX a cI cJ cS cT) lgX kI in32 [.ref (a 0), gI x0] s0 (f_X8_check x0 s0) := by
  refine gC_of (by decide +kernel) (hwdX a cI cJ cS cT) (Nat.le_of_ble_eq_true rfl) ?_
  intro A p e R s m args below meth c hR E
  subst hR
  have hT := f_X8_check_e x0 s0
  have hf_s0 : fr [32, 36, 37] s0 s0 := fr.rf _ _
  refine k_lv0 (lv' := [(0, .ref (a 0)), (1, gI x0)]) rfl ?_
  refine k_mr (fun hm_s0 => ?_)
  have hKF_s0 := hpre4
  refine k_aloadn (pc := 0) E 0 dX8_check_0 rfl rfl ?_
  refine k_iloadn (pc := 1) E 1 dX8_check_1 rfl rfl ?_
  refine k_mr (fun hm_s0 => ?_)
  refine k_callV (pc := 2) (np := 1) (As := [gI x0]) (st := []) (q0 := 0) E (c_X8_refusedAsTold l D a cI cJ cS cT s0 x0 (by omega) hpre5 hpre6) wm_744 wm_1 wm_741 wm_743 wp_23 (by decide +kernel) rfl rfl ⟨by decide, by decide⟩ rfl (Nat.le_of_ble_eq_true rfl) dX8_check_2 (ro_kk (fun hr1 => ?_))
  have hp2 := f_X8_refusedAsTold_p x0 s0 (by omega) hm_s0 hpre5 hpre6
  refine k_st (st' := [gI (f_X8_refusedAsTold x0 s0)]) rfl ?_
  obtain ⟨v3, hv3, hT⟩ := glx hT
  refine k_st (st' := [gI v3]) (by rw [hv3]) ?_
  refine k_istoren (pc := 5) (lv' := [(2, gI v3), (0, .ref (a 0)), (1, gI x0)]) E dX8_check_5 rfl (by decide) rfl ?_
  refine k_iloadn (pc := 6) E 0 dX8_check_6 rfl rfl ?_
  by_cases h4 : v3 = 0
  · replace hT := hT.trans (if_pos h4)
    refine k_if_eq_t (pc := 7) (tgt := 14) E (by omega) dX8_check_7 (by decide) h4 ?_
    refine k_aloadn (pc := 14) E 1 dX8_check_14 rfl rfl ?_
    refine k_iloadn (pc := 15) E 2 dX8_check_15 rfl rfl ?_
    refine k_mr (fun hm_s0 => ?_)
    refine k_callV (pc := 16) (np := 1) (As := [gI x0]) (st := []) (q0 := 0) E (c_X8_firstOtherChance l D a cI cJ cS cT s0 x0 (by omega) hpre0 hpre1 hpre2 hpre3 hKF_s0 (by first | assumption | omega)) wm_768 wm_1 wm_765 wm_767 wp_24 (by decide +kernel) rfl rfl ⟨by decide, by decide⟩ rfl (Nat.le_of_ble_eq_true rfl) dX8_check_16 (fun r6 s7 hs7 hr5 => ?_)
    replace hT := gby hT hs7
    have hp8 := f_X8_firstOtherChance_p x0 s0 (by omega) hm_s0 hpre0 hpre1 hpre2 hpre3 hKF_s0 (by first | assumption | omega) r6 s7 hs7
    obtain ⟨hfc_s7, hm_s7, hp9, hKF_s7⟩ := hp8
    have hf_s7 : fr [32, 36, 37] s0 s7 := hf_s0.call (by decide) hfc_s7
    refine k_st (st' := [gI r6]) rfl ?_
    exact k_rho hT (k_iret (pc := 19) E dX8_check_19 (by omega))
  · replace hT := hT.trans (if_neg h4)
    refine k_if_eq_f (pc := 7) (tgt := 14) E (by omega) dX8_check_7 (by decide) h4 ?_
    refine k_iloadn (pc := 10) E 0 dX8_check_10 rfl rfl ?_
    refine k_goto (pc := 11) (tgt := 19) E dX8_check_11 (by decide) ?_
    exact k_rho hT (k_iret (pc := 19) E dX8_check_19 (by omega))

def w_X8_kinds_72 (c1 : Int) (c2 : Int) (c3 : Int) (c5 : Int) (c6 : Int) : Nat → Int → Int → gMem → Int × Int × gMem
  | 0, v15, v16, s17 => (v15, v16, s17)
  | n18 + 1, v15, v16, s17 => (gl ((if c3 = 0 then 6 else 10)) (fun v21 => (if v16 < v21 then (gl ((if c3 = 0 then v16 else c5)) (fun v25 => (gl ((if c3 = 0 then c6 else v16)) (fun v28 => gb (f_X4_become c2 v25 v28 s17) (fun r30 s31 => gb (f_X4_falls c2 0 s31) (fun r36 s37 => (gl ((if (s31 (14 + c1.toNat) c2) = r36 then (ior v15 (ishl 1 v16)) else v15)) (fun v43 => (w_X8_kinds_72 c1 c2 c3 c5 c6 n18 v43 (v16 + 1) s37))))))))) else (v15, v16, s17))))
theorem w_X8_kinds_72_s (c1 : Int) (c2 : Int) (c3 : Int) (c5 : Int) (c6 : Int) (n18 : Nat) (v15 : Int) (v16 : Int) (s17 : gMem) : w_X8_kinds_72 c1 c2 c3 c5 c6 (n18 + 1) v15 v16 s17 = (gl ((if c3 = 0 then 6 else 10)) (fun v21 => (if v16 < v21 then (gl ((if c3 = 0 then v16 else c5)) (fun v25 => (gl ((if c3 = 0 then c6 else v16)) (fun v28 => gb (f_X4_become c2 v25 v28 s17) (fun r30 s31 => gb (f_X4_falls c2 0 s31) (fun r36 s37 => (gl ((if (s31 (14 + c1.toNat) c2) = r36 then (ior v15 (ishl 1 v16)) else v15)) (fun v43 => (w_X8_kinds_72 c1 c2 c3 c5 c6 n18 v43 (v16 + 1) s37))))))))) else (v15, v16, s17)))) := rfl
def f_X8_kinds (x0 : Int) (x1 : Int) (x2 : Int) (s0 : gMem) : gRes := gl (f_X8_refusedAsTold x0 s0) (fun v3 => (if v3 = 0 then (if (f_X8_outside x1 16) = 0 then (if (f_X8_outside x2 2) = 0 then (gl3 (w_X8_kinds_72 x0 x1 x2 (s0 40 x1) (s0 41 x1) 11 0 0 s0) (fun v105 v106 s107 => gb (f_X4_become x1 (s0 40 x1) (s0 41 x1) s107) (fun r112 s113 => (v105, s113)))) else ((-7), s0)) else ((-5), s0)) else (v3, s0)))
theorem f_X8_kinds_e (x0 : Int) (x1 : Int) (x2 : Int) (s0 : gMem) : f_X8_kinds x0 x1 x2 s0 = gl (f_X8_refusedAsTold x0 s0) (fun v3 => (if v3 = 0 then (if (f_X8_outside x1 16) = 0 then (if (f_X8_outside x2 2) = 0 then (gl3 (w_X8_kinds_72 x0 x1 x2 (s0 40 x1) (s0 41 x1) 11 0 0 s0) (fun v105 v106 s107 => gb (f_X4_become x1 (s0 40 x1) (s0 41 x1) s107) (fun r112 s113 => (v105, s113)))) else ((-7), s0)) else ((-5), s0)) else (v3, s0))) := rfl
set_option maxRecDepth 100000 in
set_option maxHeartbeats 4000000 in
theorem f_X8_kinds_p (x0 : Int) (x1 : Int) (x2 : Int) (s0 : gMem) (hx0 : in32 x0) (hx1 : in32 x1) (hx2 : in32 x2) (hm_s0 : gMR lgX s0) (hpre0 : CD s0) (hpre1 : BG s0) (hpre2 : LA s0) (hpre3 : KNx s0) (hpre4 : MOx s0) (hpre5 : KF s0) (hpre6 : KC s0) (hpre7 : KT s0) (hpre8 : SSo s0) (hpre9 : SSi s0) (rZ : Int) (sZ : gMem) (hres : f_X8_kinds x0 x1 x2 s0 = (rZ, sZ)) : (fr [32, 36, 37, 38, 39, 40, 41] s0 sZ) ∧ (gMR lgX sZ) ∧ (in32 rZ) ∧ (KNx sZ) ∧ (MOx sZ) ∧ (KF sZ) ∧ (KC sZ) ∧ (KT sZ) := by
  have hT := f_X8_kinds_e x0 x1 x2 s0
  have hf_s0 : fr [32, 36, 37, 38, 39, 40, 41] s0 s0 := fr.rf _ _
  have hKNx_s0 := hpre3
  have hMOx_s0 := hpre4
  have hKF_s0 := hpre5
  have hKC_s0 := hpre6
  have hKT_s0 := hpre7
  have hp2 := f_X8_refusedAsTold_p x0 s0 (by omega) hm_s0 hpre8 hpre9
  obtain ⟨v3, hv3, hT⟩ := glx hT
  by_cases h4 : v3 = 0
  · replace hT := hT.trans (if_pos h4)
    have hp6 := f_X8_outside_p x1 16 (by omega) (by omega) 
    by_cases h7 : (f_X8_outside x1 16) = 0
    · replace hT := hT.trans (if_pos h7)
      have hp9 := f_X8_outside_p x2 2 (by omega) (by omega) 
      by_cases h10 : (f_X8_outside x2 2) = 0
      · replace hT := hT.trans (if_pos h10)
        have hr11 := (hm_s0 40 x1).1 rfl
        have hi12 := hKNx_s0 x1
        have hr13 := (hm_s0 41 x1).1 rfl
        have hi14 := hMOx_s0 x1
        have L58 : ∀ (n59 : Nat) (v55 : Int) (v56 : Int) (s57 : gMem), ((in32 v55) ∧ (in32 v56) ∧ (fr [32, 36, 37, 38, 39, 40, 41] s0 s57) ∧ (gMR lgX s57) ∧ (KNx s57) ∧ (MOx s57) ∧ (KF s57) ∧ (KC s57) ∧ (KT s57) ∧ (0 ≤ v56 ∧ v56 ≤ 10)) → 10 - v56 < (n59 : Int) → (∀ (w60 : Int) (w61 : Int) (s62 : gMem), (w_X8_kinds_72 x0 x1 x2 (s0 40 x1) (s0 41 x1) n59 v55 v56 s57) = (w60, w61, s62) → ((in32 w60) ∧ (in32 w61) ∧ (fr [32, 36, 37, 38, 39, 40, 41] s0 s62) ∧ (gMR lgX s62) ∧ (KNx s62) ∧ (MOx s62) ∧ (KF s62) ∧ (KC s62) ∧ (KT s62) ∧ (0 ≤ w61 ∧ w61 ≤ 10)) → (fr [32, 36, 37, 38, 39, 40, 41] s0 sZ) ∧ (gMR lgX sZ) ∧ (in32 rZ) ∧ (KNx sZ) ∧ (MOx sZ) ∧ (KF sZ) ∧ (KC sZ) ∧ (KT sZ)) → (fr [32, 36, 37, 38, 39, 40, 41] s0 sZ) ∧ (gMR lgX sZ) ∧ (in32 rZ) ∧ (KNx sZ) ∧ (MOx sZ) ∧ (KF sZ) ∧ (KC sZ) ∧ (KT sZ) := by
          intro n59; induction n59 with
          | zero =>
            intro v55 v56 s57 hq hm hk
            exfalso
            obtain ⟨hq99, hq100, hf_s57, hm_s57, hKNx_s57, hMOx_s57, hKF_s57, hKC_s57, hKT_s57, hq101⟩ := hq
            omega
          | succ n59 ih =>
            intro v55 v56 s57 hq hm hk
            obtain ⟨hq102, hq103, hf_s57, hm_s57, hKNx_s57, hMOx_s57, hKF_s57, hKC_s57, hKT_s57, hq104⟩ := hq
            have hT := w_X8_kinds_72_s x0 x1 x2 (s0 40 x1) (s0 41 x1) n59 v55 v56 s57
            obtain ⟨z98, hz98, hT⟩ := gl1x hT
            have j64 : ∀ (v65 : Int), ((in32 v65)) → z98 = v65 → (fr [32, 36, 37, 38, 39, 40, 41] s0 sZ) ∧ (gMR lgX sZ) ∧ (in32 rZ) ∧ (KNx sZ) ∧ (MOx sZ) ∧ (KF sZ) ∧ (KC sZ) ∧ (KT sZ) := by
              intro v65 hq hz
              have hq97 := hq
              replace hT := gl1y hT hz
              by_cases h66 : v56 < v65
              · replace hT := hT.trans (if_pos h66)
                obtain ⟨z96, hz96, hT⟩ := gl1x hT
                have j68 : ∀ (v69 : Int), ((in32 v69)) → z96 = v69 → (fr [32, 36, 37, 38, 39, 40, 41] s0 sZ) ∧ (gMR lgX sZ) ∧ (in32 rZ) ∧ (KNx sZ) ∧ (MOx sZ) ∧ (KF sZ) ∧ (KC sZ) ∧ (KT sZ) := by
                  intro v69 hq hz
                  have hq95 := hq
                  replace hT := gl1y hT hz
                  obtain ⟨z94, hz94, hT⟩ := gl1x hT
                  have j71 : ∀ (v72 : Int), ((in32 v72)) → z94 = v72 → (fr [32, 36, 37, 38, 39, 40, 41] s0 sZ) ∧ (gMR lgX sZ) ∧ (in32 rZ) ∧ (KNx sZ) ∧ (MOx sZ) ∧ (KF sZ) ∧ (KC sZ) ∧ (KT sZ) := by
                    intro v72 hq hz
                    have hq93 := hq
                    replace hT := gl1y hT hz
                    obtain ⟨r74, s75, hs75⟩ : ∃ rr ss, (f_X4_become x1 v69 v72 s57) = (rr, ss) := ⟨_, _, rfl⟩
                    replace hT := gby hT hs75
                    have hp76 := f_X4_become_p x1 v69 v72 s57 (by omega) (by omega) (by omega) hm_s57 hKNx_s57 hMOx_s57 hKF_s57 hKC_s57 hKT_s57 (by first | assumption | omega) (by first | assumption | omega) (by first | assumption | omega) r74 s75 hs75
                    obtain ⟨hfc_s75, hm_s75, hp77, hKNx_s75, hMOx_s75, hKF_s75, hKC_s75, hKT_s75⟩ := hp76
                    have hf_s75 : fr [32, 36, 37, 38, 39, 40, 41] s0 s75 := hf_s57.call (by decide) hfc_s75
                    have hr78 := (hm_s75 (14 + x0.toNat) x1).1 (scL (by omega))
                    obtain ⟨r80, s81, hs81⟩ : ∃ rr ss, (f_X4_falls x1 0 s75) = (rr, ss) := ⟨_, _, rfl⟩
                    replace hT := gby hT hs81
                    have hp82 := f_X4_falls_p x1 0 s75 (by omega) (by omega) hm_s75 (CD_fr hpre0 (fun k hk => hf_s75 k (dj (by decide) k hk))) (BG_fr hpre1 (fun k hk => hf_s75 k (dj (by decide) k hk))) (LA_fr hpre2 (fun k hk => hf_s75 k (dj (by decide) k hk))) hMOx_s75 hKF_s75 (by first | assumption | omega) (by first | assumption | omega) r80 s81 hs81
                    obtain ⟨hfc_s81, hm_s81, hp83, hKF_s81, hp84⟩ := hp82
                    have hf_s81 : fr [32, 36, 37, 38, 39, 40, 41] s0 s81 := hf_s75.call (by decide) hfc_s81
                    have hKNx_s81 : KNx s81 := KNx_fr hKNx_s75 (fun k hk => hfc_s81 k (dj (by decide) k hk))
                    have hMOx_s81 : MOx s81 := MOx_fr hMOx_s75 (fun k hk => hfc_s81 k (dj (by decide) k hk))
                    have hKC_s81 : KC s81 := KC_fr hKC_s75 (fun k hk => hfc_s81 k (dj (by decide) k hk))
                    have hKT_s81 : KT s81 := KT_fr hKT_s75 (fun k hk => hfc_s81 k (dj (by decide) k hk))
                    obtain ⟨z89, hz89, hT⟩ := gl1x hT
                    have j86 : ∀ (v87 : Int), ((in32 v87)) → z89 = v87 → (fr [32, 36, 37, 38, 39, 40, 41] s0 sZ) ∧ (gMR lgX sZ) ∧ (in32 rZ) ∧ (KNx sZ) ∧ (MOx sZ) ∧ (KF sZ) ∧ (KC sZ) ∧ (KT sZ) := by
                      intro v87 hq hz
                      have hq88 := hq
                      replace hT := gl1y hT hz
                      exact ih v87 (v56 + 1) s81 ⟨(by omega), (by omega), hf_s81, hm_s81, hKNx_s81, hMOx_s81, hKF_s81, hKC_s81, hKT_s81, (by first | assumption | omega)⟩ (by omega) (fun w60 w61 s62 hw hi => hk w60 w61 s62 (hT.trans hw) hi)
                    replace hT := hz89
                    by_cases h85 : (s75 (14 + x0.toNat) x1) = r80
                    · replace hT := hT.trans (if_pos h85)
                      have hb90 := ishl_rg 1 v56
                      have hb91 : 0 ≤ v56 ∧ v56 ≤ 15 → _ := fun q => ishl_1 q.1 q.2
                      have hb92 := ior_rg v55 (ishl 1 v56)
                      exact j86 (ior v55 (ishl 1 v56)) (by omega) hT
                    · replace hT := hT.trans (if_neg h85)
                      exact j86 v55 (by omega) hT
                  replace hT := hz94
                  by_cases h70 : x2 = 0
                  · replace hT := hT.trans (if_pos h70)
                    exact j71 (s0 41 x1) (by omega) hT
                  · replace hT := hT.trans (if_neg h70)
                    exact j71 v56 (by omega) hT
                replace hT := hz96
                by_cases h67 : x2 = 0
                · replace hT := hT.trans (if_pos h67)
                  exact j68 v56 (by omega) hT
                · replace hT := hT.trans (if_neg h67)
                  exact j68 (s0 40 x1) (by omega) hT
              · replace hT := hT.trans (if_neg h66)
                exact hk v55 v56 s57 hT ⟨(by omega), (by omega), hf_s57, hm_s57, hKNx_s57, hMOx_s57, hKF_s57, hKC_s57, hKT_s57, (by first | assumption | omega)⟩
            replace hT := hz98
            by_cases h63 : x2 = 0
            · replace hT := hT.trans (if_pos h63)
              exact j64 6 (by omega) hT
            · replace hT := hT.trans (if_neg h63)
              exact j64 10 (by omega) hT
        refine L58 11 0 0 s0 ⟨(by omega), (by omega), hf_s0, hm_s0, hKNx_s0, hMOx_s0, hKF_s0, hKC_s0, hKT_s0, (by first | assumption | omega)⟩ (by omega) (fun v105 v106 s107 hw hq => ?_)
        obtain ⟨hq108, hq109, hf_s107, hm_s107, hKNx_s107, hMOx_s107, hKF_s107, hKC_s107, hKT_s107, hq110⟩ := hq
        replace hT := gl3y hT hw
        obtain ⟨r112, s113, hs113⟩ : ∃ rr ss, (f_X4_become x1 (s0 40 x1) (s0 41 x1) s107) = (rr, ss) := ⟨_, _, rfl⟩
        replace hT := gby hT hs113
        have hp114 := f_X4_become_p x1 (s0 40 x1) (s0 41 x1) s107 (by omega) (by omega) (by omega) hm_s107 hKNx_s107 hMOx_s107 hKF_s107 hKC_s107 hKT_s107 (by first | assumption | omega) (by first | assumption | omega) (by first | assumption | omega) r112 s113 hs113
        obtain ⟨hfc_s113, hm_s113, hp115, hKNx_s113, hMOx_s113, hKF_s113, hKC_s113, hKT_s113⟩ := hp114
        have hf_s113 : fr [32, 36, 37, 38, 39, 40, 41] s0 s113 := hf_s107.call (by decide) hfc_s113
        obtain ⟨rfl, rfl⟩ := Prod.mk.inj (hT.symm.trans hres)
        exact ⟨hf_s113, hm_s113, (by omega), hKNx_s113, hMOx_s113, hKF_s113, hKC_s113, hKT_s113⟩
      · replace hT := hT.trans (if_neg h10)
        obtain ⟨rfl, rfl⟩ := Prod.mk.inj (hT.symm.trans hres)
        exact ⟨hf_s0, hm_s0, (by omega), hKNx_s0, hMOx_s0, hKF_s0, hKC_s0, hKT_s0⟩
    · replace hT := hT.trans (if_neg h7)
      obtain ⟨rfl, rfl⟩ := Prod.mk.inj (hT.symm.trans hres)
      exact ⟨hf_s0, hm_s0, (by omega), hKNx_s0, hMOx_s0, hKF_s0, hKC_s0, hKT_s0⟩
  · replace hT := hT.trans (if_neg h4)
    obtain ⟨rfl, rfl⟩ := Prod.mk.inj (hT.symm.trans hres)
    exact ⟨hf_s0, hm_s0, (by omega), hKNx_s0, hMOx_s0, hKF_s0, hKC_s0, hKT_s0⟩
set_option maxRecDepth 100000 in
set_option maxHeartbeats 4000000 in
theorem c_X8_kinds (l : Launch) (D : va_G) (a : Nat → Nat) (cI cJ cS cT : ClassId) (s0 : gMem) (x0 : Int) (x1 : Int) (x2 : Int) (hx0 : in32 x0) (hx1 : in32 x1) (hx2 : in32 x2) (hpre0 : CD s0) (hpre1 : BG s0) (hpre2 : LA s0) (hpre3 : KNx s0) (hpre4 : MOx s0) (hpre5 : KF s0) (hpre6 : KC s0) (hpre7 : KT s0) (hpre8 : SSo s0) (hpre9 : SSi s0) : gC l yX8_kinds cX8_kinds 9 (some .int) 4 256 D vwCl (gT cI cJ cS cT) (wdX a cI cJ cS cT) lgX kI in32 [.ref (a 0), gI x0, gI x1, gI x2] s0 (f_X8_kinds x0 x1 x2 s0) := by
  refine gC_of (by decide +kernel) (hwdX a cI cJ cS cT) (Nat.le_of_ble_eq_true rfl) ?_
  intro A p e R s m args below meth c hR E
  subst hR
  have hT := f_X8_kinds_e x0 x1 x2 s0
  have hf_s0 : fr [32, 36, 37, 38, 39, 40, 41] s0 s0 := fr.rf _ _
  refine k_lv0 (lv' := [(0, .ref (a 0)), (1, gI x0), (2, gI x1), (3, gI x2)]) rfl ?_
  refine k_mr (fun hm_s0 => ?_)
  have hKNx_s0 := hpre3
  have hMOx_s0 := hpre4
  have hKF_s0 := hpre5
  have hKC_s0 := hpre6
  have hKT_s0 := hpre7
  refine k_aloadn (pc := 0) E 0 dX8_kinds_0 rfl rfl ?_
  refine k_iloadn (pc := 1) E 1 dX8_kinds_1 rfl rfl ?_
  refine k_mr (fun hm_s0 => ?_)
  refine k_callV (pc := 2) (np := 1) (As := [gI x0]) (st := []) (q0 := 0) E (c_X8_refusedAsTold l D a cI cJ cS cT s0 x0 (by omega) hpre8 hpre9) wm_744 wm_1 wm_741 wm_743 wp_23 (by decide +kernel) rfl rfl ⟨by decide, by decide⟩ rfl (Nat.le_of_ble_eq_true rfl) dX8_kinds_2 (ro_kk (fun hr1 => ?_))
  have hp2 := f_X8_refusedAsTold_p x0 s0 (by omega) hm_s0 hpre8 hpre9
  refine k_st (st' := [gI (f_X8_refusedAsTold x0 s0)]) rfl ?_
  obtain ⟨v3, hv3, hT⟩ := glx hT
  refine k_st (st' := [gI v3]) (by rw [hv3]) ?_
  refine k_istore (pc := 5) (lv' := [(4, gI v3), (0, .ref (a 0)), (1, gI x0), (2, gI x1), (3, gI x2)]) E dX8_kinds_5 (by decide) rfl ?_
  refine k_iload (pc := 7) E 0 dX8_kinds_7 rfl ?_
  by_cases h4 : v3 = 0
  · replace hT := hT.trans (if_pos h4)
    refine k_if_eq_t (pc := 9) (tgt := 15) E (by omega) dX8_kinds_9 (by decide) h4 ?_
    refine k_iloadn (pc := 15) E 3 dX8_kinds_15 rfl rfl ?_
    refine k_bipush (pc := 16) E dX8_kinds_16 (by decide) ?_
    refine k_mr (fun hm_s0 => ?_)
    refine k_callS (pc := 18) (np := 2) (As := [gI x1, gI 16]) (st := []) E (c_X8_outside l D a cI cJ cS cT s0 x1 16 (by omega) (by omega)) wm_310 wm_1 wm_308 wm_309 (by decide +kernel) ⟨by decide, by decide⟩ rfl (Nat.le_of_ble_eq_true rfl) dX8_kinds_18 (ro_kk (fun hr5 => ?_))
    have hp6 := f_X8_outside_p x1 16 (by omega) (by omega) 
    refine k_st (st' := [gI (f_X8_outside x1 16)]) rfl ?_
    by_cases h7 : (f_X8_outside x1 16) = 0
    · replace hT := hT.trans (if_pos h7)
      refine k_if_eq_t (pc := 21) (tgt := 27) E (by omega) dX8_kinds_21 (by decide) h7 ?_
      refine k_iloadn (pc := 27) E 4 dX8_kinds_27 rfl rfl ?_
      refine k_iconst (pc := 28) E dX8_kinds_28 ?_
      refine k_mr (fun hm_s0 => ?_)
      refine k_callS (pc := 29) (np := 2) (As := [gI x2, gI 2]) (st := []) E (c_X8_outside l D a cI cJ cS cT s0 x2 2 (by omega) (by omega)) wm_310 wm_1 wm_308 wm_309 (by decide +kernel) ⟨by decide, by decide⟩ rfl (Nat.le_of_ble_eq_true rfl) dX8_kinds_29 (ro_kk (fun hr8 => ?_))
      have hp9 := f_X8_outside_p x2 2 (by omega) (by omega) 
      refine k_st (st' := [gI (f_X8_outside x2 2)]) rfl ?_
      by_cases h10 : (f_X8_outside x2 2) = 0
      · replace hT := hT.trans (if_pos h10)
        refine k_if_eq_t (pc := 32) (tgt := 38) E (by omega) dX8_kinds_32 (by decide) h10 ?_
        refine k_aloadn (pc := 38) E 1 dX8_kinds_38 rfl rfl ?_
        refine k_getf (pc := 39) (q0 := 0) (f := 2) (v := .ref (a 3)) E inX8 rfl rfl (by decide) wm_274 rfl rfl dX8_kinds_39 ?_
        refine k_getf (pc := 42) (q0 := 3) (f := 0) (v := .ref (a 4)) E inX4 rfl rfl (by decide) wm_149 rfl rfl dX8_kinds_42 ?_
        refine k_getf (pc := 45) (q0 := 4) (f := 0) (v := .ref (a 40)) E inX6 rfl rfl (by decide) wm_104 rfl rfl dX8_kinds_45 ?_
        refine k_iloadn (pc := 48) E 3 dX8_kinds_48 rfl rfl ?_
        refine k_iaload (pc := 49) (q0 := 40) (t0 := 0) (k := 40) (n := 16) E rfl rfl rfl (by decide) (by omega) (by omega) dX8_kinds_49 (fun hr11 => ?_)
        have hi12 := hKNx_s0 x1
        refine k_istore (pc := 50) (lv' := [(5, gI (s0 40 x1)), (4, gI v3), (0, .ref (a 0)), (1, gI x0), (2, gI x1), (3, gI x2)]) E dX8_kinds_50 (by decide) rfl ?_
        refine k_aloadn (pc := 52) E 2 dX8_kinds_52 rfl rfl ?_
        refine k_getf (pc := 53) (q0 := 0) (f := 2) (v := .ref (a 3)) E inX8 rfl rfl (by decide) wm_274 rfl rfl dX8_kinds_53 ?_
        refine k_getf (pc := 56) (q0 := 3) (f := 0) (v := .ref (a 4)) E inX4 rfl rfl (by decide) wm_149 rfl rfl dX8_kinds_56 ?_
        refine k_getf (pc := 59) (q0 := 4) (f := 1) (v := .ref (a 41)) E inX6 rfl rfl (by decide) wm_107 rfl rfl dX8_kinds_59 ?_
        refine k_iloadn (pc := 62) E 4 dX8_kinds_62 rfl rfl ?_
        refine k_iaload (pc := 63) (q0 := 41) (t0 := 0) (k := 41) (n := 16) E rfl rfl rfl (by decide) (by omega) (by omega) dX8_kinds_63 (fun hr13 => ?_)
        have hi14 := hMOx_s0 x1
        refine k_istore (pc := 64) (lv' := [(6, gI (s0 41 x1)), (5, gI (s0 40 x1)), (4, gI v3), (0, .ref (a 0)), (1, gI x0), (2, gI x1), (3, gI x2)]) E dX8_kinds_64 (by decide) rfl ?_
        refine k_iconst (pc := 66) E dX8_kinds_66 ?_
        refine k_istore (pc := 67) (lv' := [(7, gI 0), (6, gI (s0 41 x1)), (5, gI (s0 40 x1)), (4, gI v3), (0, .ref (a 0)), (1, gI x0), (2, gI x1), (3, gI x2)]) E dX8_kinds_67 (by decide) rfl ?_
        refine k_iconst (pc := 69) E dX8_kinds_69 ?_
        refine k_istore (pc := 70) (lv' := [(8, gI 0), (7, gI 0), (6, gI (s0 41 x1)), (5, gI (s0 40 x1)), (4, gI v3), (0, .ref (a 0)), (1, gI x0), (2, gI x1), (3, gI x2)]) E dX8_kinds_70 (by decide) rfl ?_
        have L58 : ∀ (n59 : Nat) (v55 : Int) (v56 : Int) (s57 : gMem), ((in32 v55) ∧ (in32 v56) ∧ (fr [32, 36, 37, 38, 39, 40, 41] s0 s57) ∧ (KNx s57) ∧ (MOx s57) ∧ (KF s57) ∧ (KC s57) ∧ (KT s57) ∧ (0 ≤ v56 ∧ v56 ≤ 10)) → 10 - v56 < (n59 : Int) → (∀ (w60 : Int) (w61 : Int) (s62 : gMem), (w_X8_kinds_72 x0 x1 x2 (s0 40 x1) (s0 41 x1) n59 v55 v56 s57) = (w60, w61, s62) → ((in32 w60) ∧ (in32 w61) ∧ (fr [32, 36, 37, 38, 39, 40, 41] s0 s62) ∧ (KNx s62) ∧ (MOx s62) ∧ (KF s62) ∧ (KC s62) ∧ (KT s62) ∧ (0 ≤ w61 ∧ w61 ≤ 10)) → gK D vwCl (wdX a cI cJ cS cT) lgX A p l e { frames := 4, cells := 0, slots := 0, locals := 256 } s m args below meth c 9 (gQQ D vwCl (wdX a cI cJ cS cT) lgX A kI in32 below args s) (f_X8_kinds x0 x1 x2 s0) s62 156 [(0, .ref (a 0)), (2, gI x1), (5, gI (s0 40 x1)), (6, gI (s0 41 x1)), (7, gI w60)] []) → gK D vwCl (wdX a cI cJ cS cT) lgX A p l e { frames := 4, cells := 0, slots := 0, locals := 256 } s m args below meth c 9 (gQQ D vwCl (wdX a cI cJ cS cT) lgX A kI in32 below args s) (f_X8_kinds x0 x1 x2 s0) s57 72 [(0, .ref (a 0)), (1, gI x0), (2, gI x1), (3, gI x2), (5, gI (s0 40 x1)), (6, gI (s0 41 x1)), (7, gI v55), (8, gI v56)] [] := by
          intro n59; induction n59 with
          | zero =>
            intro v55 v56 s57 hq hm hk
            exfalso
            obtain ⟨hq99, hq100, hf_s57, hKNx_s57, hMOx_s57, hKF_s57, hKC_s57, hKT_s57, hq101⟩ := hq
            omega
          | succ n59 ih =>
            intro v55 v56 s57 hq hm hk
            obtain ⟨hq102, hq103, hf_s57, hKNx_s57, hMOx_s57, hKF_s57, hKC_s57, hKT_s57, hq104⟩ := hq
            have hT := w_X8_kinds_72_s x0 x1 x2 (s0 40 x1) (s0 41 x1) n59 v55 v56 s57
            refine k_iload (pc := 72) E 7 dX8_kinds_72 rfl ?_
            refine k_iloadn (pc := 74) E 3 dX8_kinds_74 rfl rfl ?_
            obtain ⟨z98, hz98, hT⟩ := gl1x hT
            have j64 : ∀ (v65 : Int), ((in32 v65)) → z98 = v65 → gK D vwCl (wdX a cI cJ cS cT) lgX A p l e { frames := 4, cells := 0, slots := 0, locals := 256 } s m args below meth c 9 (gQQ D vwCl (wdX a cI cJ cS cT) lgX A kI in32 below args s) (f_X8_kinds x0 x1 x2 s0) s57 85 [(0, .ref (a 0)), (1, gI x0), (2, gI x1), (3, gI x2), (5, gI (s0 40 x1)), (6, gI (s0 41 x1)), (7, gI v55), (8, gI v56)] [gI v65, gI v56] := by
              intro v65 hq hz
              have hq97 := hq
              replace hT := gl1y hT hz
              by_cases h66 : v56 < v65
              · replace hT := hT.trans (if_pos h66)
                refine k_icmp_ge_f (pc := 85) (tgt := 156) E (by omega) (by omega) dX8_kinds_85 (by decide) h66 ?_
                refine k_aloadn (pc := 88) E 0 dX8_kinds_88 rfl rfl ?_
                refine k_getf (pc := 89) (q0 := 0) (f := 2) (v := .ref (a 3)) E inX8 rfl rfl (by decide) wm_274 rfl rfl dX8_kinds_89 ?_
                refine k_iloadn (pc := 92) E 2 dX8_kinds_92 rfl rfl ?_
                refine k_iloadn (pc := 93) E 3 dX8_kinds_93 rfl rfl ?_
                obtain ⟨z96, hz96, hT⟩ := gl1x hT
                have j68 : ∀ (v69 : Int), ((in32 v69)) → z96 = v69 → gK D vwCl (wdX a cI cJ cS cT) lgX A p l e { frames := 4, cells := 0, slots := 0, locals := 256 } s m args below meth c 9 (gQQ D vwCl (wdX a cI cJ cS cT) lgX A kI in32 below args s) (f_X8_kinds x0 x1 x2 s0) s57 104 [(0, .ref (a 0)), (1, gI x0), (2, gI x1), (3, gI x2), (5, gI (s0 40 x1)), (6, gI (s0 41 x1)), (7, gI v55), (8, gI v56)] [gI v69, gI x1, .ref (a 3)] := by
                  intro v69 hq hz
                  have hq95 := hq
                  replace hT := gl1y hT hz
                  refine k_iloadn (pc := 104) E 3 dX8_kinds_104 rfl rfl ?_
                  obtain ⟨z94, hz94, hT⟩ := gl1x hT
                  have j71 : ∀ (v72 : Int), ((in32 v72)) → z94 = v72 → gK D vwCl (wdX a cI cJ cS cT) lgX A p l e { frames := 4, cells := 0, slots := 0, locals := 256 } s m args below meth c 9 (gQQ D vwCl (wdX a cI cJ cS cT) lgX A kI in32 below args s) (f_X8_kinds x0 x1 x2 s0) s57 115 [(0, .ref (a 0)), (1, gI x0), (2, gI x1), (3, gI x2), (5, gI (s0 40 x1)), (6, gI (s0 41 x1)), (7, gI v55), (8, gI v56)] [gI v72, gI v69, gI x1, .ref (a 3)] := by
                    intro v72 hq hz
                    have hq93 := hq
                    replace hT := gl1y hT hz
                    refine k_mr (fun hm_s57 => ?_)
                    refine k_callV (pc := 115) (np := 3) (As := [gI x1, gI v69, gI v72]) (st := []) (q0 := 3) E (c_X4_become l D a cI cJ cS cT s57 x1 v69 v72 (by omega) (by omega) (by omega) hKNx_s57 hMOx_s57 hKF_s57 hKC_s57 hKT_s57 (by first | assumption | omega) (by first | assumption | omega) (by first | assumption | omega)) wm_505 wm_4 wm_502 wm_503 wm_504 (by decide +kernel) rfl rfl ⟨by decide, by decide⟩ rfl (Nat.le_of_ble_eq_true rfl) dX8_kinds_115 (fun r74 s75 hs75 hr73 => ?_)
                    replace hT := gby hT hs75
                    have hp76 := f_X4_become_p x1 v69 v72 s57 (by omega) (by omega) (by omega) hm_s57 hKNx_s57 hMOx_s57 hKF_s57 hKC_s57 hKT_s57 (by first | assumption | omega) (by first | assumption | omega) (by first | assumption | omega) r74 s75 hs75
                    obtain ⟨hfc_s75, hm_s75, hp77, hKNx_s75, hMOx_s75, hKF_s75, hKC_s75, hKT_s75⟩ := hp76
                    have hf_s75 : fr [32, 36, 37, 38, 39, 40, 41] s0 s75 := hf_s57.call (by decide) hfc_s75
                    refine k_st (st' := []) rfl ?_
                    refine k_aloadn (pc := 118) E 0 dX8_kinds_118 rfl rfl ?_
                    refine k_getf (pc := 119) (q0 := 0) (f := 7) (v := .ref (a 9)) E inX8 rfl rfl (by decide) wm_279 rfl rfl dX8_kinds_119 ?_
                    refine k_iloadn (pc := 122) E 1 dX8_kinds_122 rfl rfl ?_
                    refine k_aaload (pc := 123) (q0 := 9) (t0 := 2) (b := 10) (n := 4) E rfl rfl (by decide) (by omega) (by omega) dX8_kinds_123 ?_
                    refine k_getf (pc := 124) (q0 := (10 + x0.toNat)) (f := 0) (v := .ref (a (14 + x0.toNat))) E inX5 (shO a cI cJ cS cT s75 (by omega)) rfl (by decide) wm_260 rfl rfl dX8_kinds_124 ?_
                    refine k_iloadn (pc := 127) E 2 dX8_kinds_127 rfl rfl ?_
                    refine k_iaload (pc := 128) (q0 := (14 + x0.toNat)) (t0 := 0) (k := (14 + x0.toNat)) (n := 40) E (scA a cI cJ cS cT s75 (by omega)) rfl (scL (by omega)) (by decide) (by omega) (by omega) dX8_kinds_128 (fun hr78 => ?_)
                    refine k_aloadn (pc := 129) E 0 dX8_kinds_129 rfl rfl ?_
                    refine k_getf (pc := 130) (q0 := 0) (f := 2) (v := .ref (a 3)) E inX8 rfl rfl (by decide) wm_274 rfl rfl dX8_kinds_130 ?_
                    refine k_iloadn (pc := 133) E 2 dX8_kinds_133 rfl rfl ?_
                    refine k_iconst (pc := 134) E dX8_kinds_134 ?_
                    refine k_mr (fun hm_s75 => ?_)
                    refine k_callV (pc := 135) (np := 2) (As := [gI x1, gI 0]) (st := [gI (s75 (14 + x0.toNat) x1)]) (q0 := 3) E (c_X4_falls l D a cI cJ cS cT s75 x1 0 (by omega) (by omega) (CD_fr hpre0 (fun k hk => hf_s75 k (dj (by decide) k hk))) (BG_fr hpre1 (fun k hk => hf_s75 k (dj (by decide) k hk))) (LA_fr hpre2 (fun k hk => hf_s75 k (dj (by decide) k hk))) hMOx_s75 hKF_s75 (by first | assumption | omega) (by first | assumption | omega)) wm_513 wm_4 wm_510 wm_511 wm_512 (by decide +kernel) rfl rfl ⟨by decide, by decide⟩ rfl (Nat.le_of_ble_eq_true rfl) dX8_kinds_135 (fun r80 s81 hs81 hr79 => ?_)
                    replace hT := gby hT hs81
                    have hp82 := f_X4_falls_p x1 0 s75 (by omega) (by omega) hm_s75 (CD_fr hpre0 (fun k hk => hf_s75 k (dj (by decide) k hk))) (BG_fr hpre1 (fun k hk => hf_s75 k (dj (by decide) k hk))) (LA_fr hpre2 (fun k hk => hf_s75 k (dj (by decide) k hk))) hMOx_s75 hKF_s75 (by first | assumption | omega) (by first | assumption | omega) r80 s81 hs81
                    obtain ⟨hfc_s81, hm_s81, hp83, hKF_s81, hp84⟩ := hp82
                    have hf_s81 : fr [32, 36, 37, 38, 39, 40, 41] s0 s81 := hf_s75.call (by decide) hfc_s81
                    have hKNx_s81 : KNx s81 := KNx_fr hKNx_s75 (fun k hk => hfc_s81 k (dj (by decide) k hk))
                    have hMOx_s81 : MOx s81 := MOx_fr hMOx_s75 (fun k hk => hfc_s81 k (dj (by decide) k hk))
                    have hKC_s81 : KC s81 := KC_fr hKC_s75 (fun k hk => hfc_s81 k (dj (by decide) k hk))
                    have hKT_s81 : KT s81 := KT_fr hKT_s75 (fun k hk => hfc_s81 k (dj (by decide) k hk))
                    refine k_st (st' := [gI r80, gI (s75 (14 + x0.toNat) x1)]) rfl ?_
                    obtain ⟨z89, hz89, hT⟩ := gl1x hT
                    have j86 : ∀ (v87 : Int), ((in32 v87)) → z89 = v87 → gK D vwCl (wdX a cI cJ cS cT) lgX A p l e { frames := 4, cells := 0, slots := 0, locals := 256 } s m args below meth c 9 (gQQ D vwCl (wdX a cI cJ cS cT) lgX A kI in32 below args s) (f_X8_kinds x0 x1 x2 s0) s81 150 [(0, .ref (a 0)), (1, gI x0), (2, gI x1), (3, gI x2), (5, gI (s0 40 x1)), (6, gI (s0 41 x1)), (7, gI v87), (8, gI v56)] [] := by
                      intro v87 hq hz
                      have hq88 := hq
                      replace hT := gl1y hT hz
                      refine k_iinc (pc := 150) (lv' := [(8, gI (v56 + 1)), (0, .ref (a 0)), (1, gI x0), (2, gI x1), (3, gI x2), (5, gI (s0 40 x1)), (6, gI (s0 41 x1)), (7, gI v87)]) E 7 dX8_kinds_150 rfl (by decide) rfl ?_
                      refine k_goto (pc := 153) (tgt := 72) E dX8_kinds_153 (by decide) ?_
                      refine k_lv (lv' := [(0, .ref (a 0)), (1, gI x0), (2, gI x1), (3, gI x2), (5, gI (s0 40 x1)), (6, gI (s0 41 x1)), (7, gI v87), (8, gI (v56 + 1))]) [1, 2, 3, 4, 5, 6, 7, 0] rfl ?_
                      exact ih v87 (v56 + 1) s81 ⟨(by omega), (by omega), hf_s81, hKNx_s81, hMOx_s81, hKF_s81, hKC_s81, hKT_s81, (by first | assumption | omega)⟩ (by omega) (fun w60 w61 s62 hw hi => hk w60 w61 s62 (hT.trans hw) hi)
                    replace hT := hz89
                    by_cases h85 : (s75 (14 + x0.toNat) x1) = r80
                    · replace hT := hT.trans (if_pos h85)
                      refine k_icmp_ne_f (pc := 138) (tgt := 150) E (by omega) (by omega) dX8_kinds_138 (by decide) h85 ?_
                      refine k_iload (pc := 141) E 6 dX8_kinds_141 rfl ?_
                      refine k_iconst (pc := 143) E dX8_kinds_143 ?_
                      refine k_iload (pc := 144) E 7 dX8_kinds_144 rfl ?_
                      refine k_ishl (pc := 146) E dX8_kinds_146 ?_
                      have hb90 := ishl_rg 1 v56
                      have hb91 : 0 ≤ v56 ∧ v56 ≤ 15 → _ := fun q => ishl_1 q.1 q.2
                      refine k_ior (pc := 147) E dX8_kinds_147 ?_
                      have hb92 := ior_rg v55 (ishl 1 v56)
                      refine k_istore (pc := 148) (lv' := [(7, gI (ior v55 (ishl 1 v56))), (0, .ref (a 0)), (1, gI x0), (2, gI x1), (3, gI x2), (5, gI (s0 40 x1)), (6, gI (s0 41 x1)), (8, gI v56)]) E dX8_kinds_148 (by decide) rfl ?_
                      refine k_lv (lv' := [(0, .ref (a 0)), (1, gI x0), (2, gI x1), (3, gI x2), (5, gI (s0 40 x1)), (6, gI (s0 41 x1)), (7, gI (ior v55 (ishl 1 v56))), (8, gI v56)]) [1, 2, 3, 4, 5, 6, 0, 7] rfl ?_
                      exact j86 (ior v55 (ishl 1 v56)) (by omega) hT
                    · replace hT := hT.trans (if_neg h85)
                      refine k_icmp_ne_t (pc := 138) (tgt := 150) E (by omega) (by omega) dX8_kinds_138 (by decide) h85 ?_
                      exact j86 v55 (by omega) hT
                  replace hT := hz94
                  by_cases h70 : x2 = 0
                  · replace hT := hT.trans (if_pos h70)
                    refine k_if_ne_f (pc := 105) (tgt := 113) E (by omega) dX8_kinds_105 (by decide) h70 ?_
                    refine k_iload (pc := 108) E 5 dX8_kinds_108 rfl ?_
                    refine k_goto (pc := 110) (tgt := 115) E dX8_kinds_110 (by decide) ?_
                    exact j71 (s0 41 x1) (by omega) hT
                  · replace hT := hT.trans (if_neg h70)
                    refine k_if_ne_t (pc := 105) (tgt := 113) E (by omega) dX8_kinds_105 (by decide) h70 ?_
                    refine k_iload (pc := 113) E 7 dX8_kinds_113 rfl ?_
                    exact j71 v56 (by omega) hT
                replace hT := hz96
                by_cases h67 : x2 = 0
                · replace hT := hT.trans (if_pos h67)
                  refine k_if_ne_f (pc := 94) (tgt := 102) E (by omega) dX8_kinds_94 (by decide) h67 ?_
                  refine k_iload (pc := 97) E 7 dX8_kinds_97 rfl ?_
                  refine k_goto (pc := 99) (tgt := 104) E dX8_kinds_99 (by decide) ?_
                  exact j68 v56 (by omega) hT
                · replace hT := hT.trans (if_neg h67)
                  refine k_if_ne_t (pc := 94) (tgt := 102) E (by omega) dX8_kinds_94 (by decide) h67 ?_
                  refine k_iload (pc := 102) E 4 dX8_kinds_102 rfl ?_
                  exact j68 (s0 40 x1) (by omega) hT
              · replace hT := hT.trans (if_neg h66)
                refine k_icmp_ge_t (pc := 85) (tgt := 156) E (by omega) (by omega) dX8_kinds_85 (by decide) h66 ?_
                refine k_lv (lv' := [(0, .ref (a 0)), (2, gI x1), (5, gI (s0 40 x1)), (6, gI (s0 41 x1)), (7, gI v55)]) [0, 2, 4, 5, 6] rfl ?_
                exact hk v55 v56 s57 hT ⟨(by omega), (by omega), hf_s57, hKNx_s57, hMOx_s57, hKF_s57, hKC_s57, hKT_s57, (by first | assumption | omega)⟩
            replace hT := hz98
            by_cases h63 : x2 = 0
            · replace hT := hT.trans (if_pos h63)
              refine k_if_ne_f (pc := 75) (tgt := 83) E (by omega) dX8_kinds_75 (by decide) h63 ?_
              refine k_bipush (pc := 78) E dX8_kinds_78 (by decide) ?_
              refine k_goto (pc := 80) (tgt := 85) E dX8_kinds_80 (by decide) ?_
              exact j64 6 (by omega) hT
            · replace hT := hT.trans (if_neg h63)
              refine k_if_ne_t (pc := 75) (tgt := 83) E (by omega) dX8_kinds_75 (by decide) h63 ?_
              refine k_bipush (pc := 83) E dX8_kinds_83 (by decide) ?_
              exact j64 10 (by omega) hT
        refine k_lv (lv' := [(0, .ref (a 0)), (1, gI x0), (2, gI x1), (3, gI x2), (5, gI (s0 40 x1)), (6, gI (s0 41 x1)), (7, gI 0), (8, gI 0)]) [5, 6, 7, 8, 3, 2, 1, 0] rfl ?_
        refine L58 11 0 0 s0 ⟨(by omega), (by omega), hf_s0, hKNx_s0, hMOx_s0, hKF_s0, hKC_s0, hKT_s0, (by first | assumption | omega)⟩ (by omega) (fun v105 v106 s107 hw hq => ?_)
        obtain ⟨hq108, hq109, hf_s107, hKNx_s107, hMOx_s107, hKF_s107, hKC_s107, hKT_s107, hq110⟩ := hq
        replace hT := gl3y hT hw
        refine k_aloadn (pc := 156) E 0 dX8_kinds_156 rfl rfl ?_
        refine k_getf (pc := 157) (q0 := 0) (f := 2) (v := .ref (a 3)) E inX8 rfl rfl (by decide) wm_274 rfl rfl dX8_kinds_157 ?_
        refine k_iloadn (pc := 160) E 1 dX8_kinds_160 rfl rfl ?_
        refine k_iload (pc := 161) E 2 dX8_kinds_161 rfl ?_
        refine k_iload (pc := 163) E 3 dX8_kinds_163 rfl ?_
        refine k_mr (fun hm_s107 => ?_)
        refine k_callV (pc := 165) (np := 3) (As := [gI x1, gI (s0 40 x1), gI (s0 41 x1)]) (st := []) (q0 := 3) E (c_X4_become l D a cI cJ cS cT s107 x1 (s0 40 x1) (s0 41 x1) (by omega) (by omega) (by omega) hKNx_s107 hMOx_s107 hKF_s107 hKC_s107 hKT_s107 (by first | assumption | omega) (by first | assumption | omega) (by first | assumption | omega)) wm_505 wm_4 wm_502 wm_503 wm_504 (by decide +kernel) rfl rfl ⟨by decide, by decide⟩ rfl (Nat.le_of_ble_eq_true rfl) dX8_kinds_165 (fun r112 s113 hs113 hr111 => ?_)
        replace hT := gby hT hs113
        have hp114 := f_X4_become_p x1 (s0 40 x1) (s0 41 x1) s107 (by omega) (by omega) (by omega) hm_s107 hKNx_s107 hMOx_s107 hKF_s107 hKC_s107 hKT_s107 (by first | assumption | omega) (by first | assumption | omega) (by first | assumption | omega) r112 s113 hs113
        obtain ⟨hfc_s113, hm_s113, hp115, hKNx_s113, hMOx_s113, hKF_s113, hKC_s113, hKT_s113⟩ := hp114
        have hf_s113 : fr [32, 36, 37, 38, 39, 40, 41] s0 s113 := hf_s107.call (by decide) hfc_s113
        refine k_st (st' := []) rfl ?_
        refine k_iload (pc := 168) E 4 dX8_kinds_168 rfl ?_
        exact k_rho hT (k_iret (pc := 170) E dX8_kinds_170 (by omega))
      · replace hT := hT.trans (if_neg h10)
        refine k_if_eq_f (pc := 32) (tgt := 38) E (by omega) dX8_kinds_32 (by decide) h10 ?_
        refine k_bipush (pc := 35) E dX8_kinds_35 (by decide) ?_
        exact k_rho hT (k_iret (pc := 37) E dX8_kinds_37 (by omega))
    · replace hT := hT.trans (if_neg h7)
      refine k_if_eq_f (pc := 21) (tgt := 27) E (by omega) dX8_kinds_21 (by decide) h7 ?_
      refine k_bipush (pc := 24) E dX8_kinds_24 (by decide) ?_
      exact k_rho hT (k_iret (pc := 26) E dX8_kinds_26 (by omega))
  · replace hT := hT.trans (if_neg h4)
    refine k_if_eq_f (pc := 9) (tgt := 15) E (by omega) dX8_kinds_9 (by decide) h4 ?_
    refine k_iload (pc := 12) E 0 dX8_kinds_12 rfl ?_
    exact k_rho hT (k_iret (pc := 14) E dX8_kinds_14 (by omega))

def w_X8_laws_29 (c1 : Int) (c3 : Int) : Nat → Int → Int → gMem → Int × Int × gMem
  | 0, v7, v8, s9 => (v7, v8, s9)
  | n10 + 1, v7, v8, s9 => (if v8 < (s9 51 0) then gb (f_X4_obey v8 s9) (fun r15 s16 => gb (f_X8_firstOtherChance c1 s16) (fun r20 s21 => (gl ((if r20 < 0 then (ior v7 (ishl 1 v8)) else v7)) (fun v26 => (w_X8_laws_29 c1 c3 n10 v26 (v8 + 1) s21))))) else (v7, v8, s9))
theorem w_X8_laws_29_s (c1 : Int) (c3 : Int) (n10 : Nat) (v7 : Int) (v8 : Int) (s9 : gMem) : w_X8_laws_29 c1 c3 (n10 + 1) v7 v8 s9 = (if v8 < (s9 51 0) then gb (f_X4_obey v8 s9) (fun r15 s16 => gb (f_X8_firstOtherChance c1 s16) (fun r20 s21 => (gl ((if r20 < 0 then (ior v7 (ishl 1 v8)) else v7)) (fun v26 => (w_X8_laws_29 c1 c3 n10 v26 (v8 + 1) s21))))) else (v7, v8, s9)) := rfl
def f_X8_laws (x0 : Int) (s0 : gMem) : gRes := gl (f_X8_refusedAsTold x0 s0) (fun v3 => (if v3 = 0 then (gl3 (w_X8_laws_29 x0 (s0 63 0) 7 0 0 s0) (fun v67 v68 s69 => gb (f_X4_obey (s0 63 0) s69) (fun r74 s75 => (v67, s75)))) else (v3, s0)))
theorem f_X8_laws_e (x0 : Int) (s0 : gMem) : f_X8_laws x0 s0 = gl (f_X8_refusedAsTold x0 s0) (fun v3 => (if v3 = 0 then (gl3 (w_X8_laws_29 x0 (s0 63 0) 7 0 0 s0) (fun v67 v68 s69 => gb (f_X4_obey (s0 63 0) s69) (fun r74 s75 => (v67, s75)))) else (v3, s0))) := rfl
set_option maxRecDepth 100000 in
set_option maxHeartbeats 4000000 in
theorem f_X8_laws_p (x0 : Int) (s0 : gMem) (hx0 : in32 x0) (hm_s0 : gMR lgX s0) (hpre0 : CD s0) (hpre1 : BG s0) (hpre2 : MOx s0) (hpre3 : MY s0) (hpre4 : LA s0) (hpre5 : KF s0) (hpre6 : KC s0) (hpre7 : KT s0) (hpre8 : SSo s0) (hpre9 : SSi s0) (rZ : Int) (sZ : gMem) (hres : f_X8_laws x0 s0 = (rZ, sZ)) : (fr [32, 36, 37, 38, 39, 63] s0 sZ) ∧ (gMR lgX sZ) ∧ (in32 rZ) ∧ (LA sZ) ∧ (KF sZ) ∧ (KC sZ) ∧ (KT sZ) := by
  have hT := f_X8_laws_e x0 s0
  have hf_s0 : fr [32, 36, 37, 38, 39, 63] s0 s0 := fr.rf _ _
  have hLA_s0 := hpre4
  have hKF_s0 := hpre5
  have hKC_s0 := hpre6
  have hKT_s0 := hpre7
  have hp2 := f_X8_refusedAsTold_p x0 s0 (by omega) hm_s0 hpre8 hpre9
  obtain ⟨v3, hv3, hT⟩ := glx hT
  by_cases h4 : v3 = 0
  · replace hT := hT.trans (if_pos h4)
    have hr5 := (hm_s0 63 0).1 rfl
    have hi6 := hLA_s0 0
    have L35 : ∀ (n36 : Nat) (v32 : Int) (v33 : Int) (s34 : gMem), ((in32 v32) ∧ (in32 v33) ∧ (fr [32, 36, 37, 38, 39, 63] s0 s34) ∧ (gMR lgX s34) ∧ (LA s34) ∧ (KF s34) ∧ (KC s34) ∧ (KT s34) ∧ (0 ≤ v33 ∧ v33 ≤ 6)) → 6 - v33 < (n36 : Int) → (∀ (w37 : Int) (w38 : Int) (s39 : gMem), (w_X8_laws_29 x0 (s0 63 0) n36 v32 v33 s34) = (w37, w38, s39) → ((in32 w37) ∧ (in32 w38) ∧ (fr [32, 36, 37, 38, 39, 63] s0 s39) ∧ (gMR lgX s39) ∧ (LA s39) ∧ (KF s39) ∧ (KC s39) ∧ (KT s39) ∧ (0 ≤ w38 ∧ w38 ≤ 6)) → (fr [32, 36, 37, 38, 39, 63] s0 sZ) ∧ (gMR lgX sZ) ∧ (in32 rZ) ∧ (LA sZ) ∧ (KF sZ) ∧ (KC sZ) ∧ (KT sZ)) → (fr [32, 36, 37, 38, 39, 63] s0 sZ) ∧ (gMR lgX sZ) ∧ (in32 rZ) ∧ (LA sZ) ∧ (KF sZ) ∧ (KC sZ) ∧ (KT sZ) := by
      intro n36; induction n36 with
      | zero =>
        intro v32 v33 s34 hq hm hk
        exfalso
        obtain ⟨hq61, hq62, hf_s34, hm_s34, hLA_s34, hKF_s34, hKC_s34, hKT_s34, hq63⟩ := hq
        omega
      | succ n36 ih =>
        intro v32 v33 s34 hq hm hk
        obtain ⟨hq64, hq65, hf_s34, hm_s34, hLA_s34, hKF_s34, hKC_s34, hKT_s34, hq66⟩ := hq
        have hT := w_X8_laws_29_s x0 (s0 63 0) n36 v32 v33 s34
        have hr40 := (hm_s34 51 0).1 rfl
        have hi41 := (MY_fr hpre3 (fun k hk => hf_s34 k (dj (by decide) k hk))) 0
        by_cases h42 : v33 < (s34 51 0)
        · replace hT := hT.trans (if_pos h42)
          obtain ⟨r44, s45, hs45⟩ : ∃ rr ss, (f_X4_obey v33 s34) = (rr, ss) := ⟨_, _, rfl⟩
          replace hT := gby hT hs45
          have hp46 := f_X4_obey_p v33 s34 (by omega) hm_s34 hLA_s34 hKF_s34 hKC_s34 hKT_s34 (by first | assumption | omega) r44 s45 hs45
          obtain ⟨hfc_s45, hm_s45, hp47, hLA_s45, hKF_s45, hKC_s45, hKT_s45⟩ := hp46
          have hf_s45 : fr [32, 36, 37, 38, 39, 63] s0 s45 := hf_s34.call (by decide) hfc_s45
          obtain ⟨r49, s50, hs50⟩ : ∃ rr ss, (f_X8_firstOtherChance x0 s45) = (rr, ss) := ⟨_, _, rfl⟩
          replace hT := gby hT hs50
          have hp51 := f_X8_firstOtherChance_p x0 s45 (by omega) hm_s45 (CD_fr hpre0 (fun k hk => hf_s45 k (dj (by decide) k hk))) (BG_fr hpre1 (fun k hk => hf_s45 k (dj (by decide) k hk))) hLA_s45 (MOx_fr hpre2 (fun k hk => hf_s45 k (dj (by decide) k hk))) hKF_s45 (by first | assumption | omega) r49 s50 hs50
          obtain ⟨hfc_s50, hm_s50, hp52, hKF_s50⟩ := hp51
          have hf_s50 : fr [32, 36, 37, 38, 39, 63] s0 s50 := hf_s45.call (by decide) hfc_s50
          have hLA_s50 : LA s50 := LA_fr hLA_s45 (fun k hk => hfc_s50 k (dj (by decide) k hk))
          have hKC_s50 : KC s50 := KC_fr hKC_s45 (fun k hk => hfc_s50 k (dj (by decide) k hk))
          have hKT_s50 : KT s50 := KT_fr hKT_s45 (fun k hk => hfc_s50 k (dj (by decide) k hk))
          obtain ⟨z57, hz57, hT⟩ := gl1x hT
          have j54 : ∀ (v55 : Int), ((in32 v55)) → z57 = v55 → (fr [32, 36, 37, 38, 39, 63] s0 sZ) ∧ (gMR lgX sZ) ∧ (in32 rZ) ∧ (LA sZ) ∧ (KF sZ) ∧ (KC sZ) ∧ (KT sZ) := by
            intro v55 hq hz
            have hq56 := hq
            replace hT := gl1y hT hz
            exact ih v55 (v33 + 1) s50 ⟨(by omega), (by omega), hf_s50, hm_s50, hLA_s50, hKF_s50, hKC_s50, hKT_s50, (by first | assumption | omega)⟩ (by omega) (fun w37 w38 s39 hw hi => hk w37 w38 s39 (hT.trans hw) hi)
          replace hT := hz57
          by_cases h53 : r49 < 0
          · replace hT := hT.trans (if_pos h53)
            have hb58 := ishl_rg 1 v33
            have hb59 : 0 ≤ v33 ∧ v33 ≤ 15 → _ := fun q => ishl_1 q.1 q.2
            have hb60 := ior_rg v32 (ishl 1 v33)
            exact j54 (ior v32 (ishl 1 v33)) (by omega) hT
          · replace hT := hT.trans (if_neg h53)
            exact j54 v32 (by omega) hT
        · replace hT := hT.trans (if_neg h42)
          exact hk v32 v33 s34 hT ⟨(by omega), (by omega), hf_s34, hm_s34, hLA_s34, hKF_s34, hKC_s34, hKT_s34, (by first | assumption | omega)⟩
    refine L35 7 0 0 s0 ⟨(by omega), (by omega), hf_s0, hm_s0, hLA_s0, hKF_s0, hKC_s0, hKT_s0, (by first | assumption | omega)⟩ (by omega) (fun v67 v68 s69 hw hq => ?_)
    obtain ⟨hq70, hq71, hf_s69, hm_s69, hLA_s69, hKF_s69, hKC_s69, hKT_s69, hq72⟩ := hq
    replace hT := gl3y hT hw
    obtain ⟨r74, s75, hs75⟩ : ∃ rr ss, (f_X4_obey (s0 63 0) s69) = (rr, ss) := ⟨_, _, rfl⟩
    replace hT := gby hT hs75
    have hp76 := f_X4_obey_p (s0 63 0) s69 (by omega) hm_s69 hLA_s69 hKF_s69 hKC_s69 hKT_s69 (by first | assumption | omega) r74 s75 hs75
    obtain ⟨hfc_s75, hm_s75, hp77, hLA_s75, hKF_s75, hKC_s75, hKT_s75⟩ := hp76
    have hf_s75 : fr [32, 36, 37, 38, 39, 63] s0 s75 := hf_s69.call (by decide) hfc_s75
    obtain ⟨rfl, rfl⟩ := Prod.mk.inj (hT.symm.trans hres)
    exact ⟨hf_s75, hm_s75, (by omega), hLA_s75, hKF_s75, hKC_s75, hKT_s75⟩
  · replace hT := hT.trans (if_neg h4)
    obtain ⟨rfl, rfl⟩ := Prod.mk.inj (hT.symm.trans hres)
    exact ⟨hf_s0, hm_s0, (by omega), hLA_s0, hKF_s0, hKC_s0, hKT_s0⟩
set_option maxRecDepth 100000 in
set_option maxHeartbeats 4000000 in
theorem c_X8_laws (l : Launch) (D : va_G) (a : Nat → Nat) (cI cJ cS cT : ClassId) (s0 : gMem) (x0 : Int) (hx0 : in32 x0) (hpre0 : CD s0) (hpre1 : BG s0) (hpre2 : MOx s0) (hpre3 : MY s0) (hpre4 : LA s0) (hpre5 : KF s0) (hpre6 : KC s0) (hpre7 : KT s0) (hpre8 : SSo s0) (hpre9 : SSi s0) : gC l yX8_laws cX8_laws 6 (some .int) 5 320 D vwCl (gT cI cJ cS cT) (wdX a cI cJ cS cT) lgX kI in32 [.ref (a 0), gI x0] s0 (f_X8_laws x0 s0) := by
  refine gC_of (by decide +kernel) (hwdX a cI cJ cS cT) (Nat.le_of_ble_eq_true rfl) ?_
  intro A p e R s m args below meth c hR E
  subst hR
  have hT := f_X8_laws_e x0 s0
  have hf_s0 : fr [32, 36, 37, 38, 39, 63] s0 s0 := fr.rf _ _
  refine k_lv0 (lv' := [(0, .ref (a 0)), (1, gI x0)]) rfl ?_
  refine k_mr (fun hm_s0 => ?_)
  have hLA_s0 := hpre4
  have hKF_s0 := hpre5
  have hKC_s0 := hpre6
  have hKT_s0 := hpre7
  refine k_aloadn (pc := 0) E 0 dX8_laws_0 rfl rfl ?_
  refine k_iloadn (pc := 1) E 1 dX8_laws_1 rfl rfl ?_
  refine k_mr (fun hm_s0 => ?_)
  refine k_callV (pc := 2) (np := 1) (As := [gI x0]) (st := []) (q0 := 0) E (c_X8_refusedAsTold l D a cI cJ cS cT s0 x0 (by omega) hpre8 hpre9) wm_744 wm_1 wm_741 wm_743 wp_23 (by decide +kernel) rfl rfl ⟨by decide, by decide⟩ rfl (Nat.le_of_ble_eq_true rfl) dX8_laws_2 (ro_kk (fun hr1 => ?_))
  have hp2 := f_X8_refusedAsTold_p x0 s0 (by omega) hm_s0 hpre8 hpre9
  refine k_st (st' := [gI (f_X8_refusedAsTold x0 s0)]) rfl ?_
  obtain ⟨v3, hv3, hT⟩ := glx hT
  refine k_st (st' := [gI v3]) (by rw [hv3]) ?_
  refine k_istoren (pc := 5) (lv' := [(2, gI v3), (0, .ref (a 0)), (1, gI x0)]) E dX8_laws_5 rfl (by decide) rfl ?_
  refine k_iloadn (pc := 6) E 0 dX8_laws_6 rfl rfl ?_
  by_cases h4 : v3 = 0
  · replace hT := hT.trans (if_pos h4)
    refine k_if_eq_t (pc := 7) (tgt := 12) E (by omega) dX8_laws_7 (by decide) h4 ?_
    refine k_aloadn (pc := 12) E 1 dX8_laws_12 rfl rfl ?_
    refine k_getf (pc := 13) (q0 := 0) (f := 2) (v := .ref (a 3)) E inX8 rfl rfl (by decide) wm_274 rfl rfl dX8_laws_13 ?_
    refine k_getf (pc := 16) (q0 := 3) (f := 0) (v := .ref (a 4)) E inX4 rfl rfl (by decide) wm_149 rfl rfl dX8_laws_16 ?_
    refine k_getfI (pc := 19) (q0 := 4) (f := 6) (k := 63) E inX6 rfl rfl (by decide) wm_123 rfl rfl rfl dX8_laws_19 (fun hr5 => ?_)
    have hi6 := hLA_s0 0
    refine k_istoren (pc := 22) (lv' := [(3, gI (s0 63 0)), (2, gI v3), (0, .ref (a 0)), (1, gI x0)]) E dX8_laws_22 rfl (by decide) rfl ?_
    refine k_iconst (pc := 23) E dX8_laws_23 ?_
    refine k_istore (pc := 24) (lv' := [(4, gI 0), (3, gI (s0 63 0)), (2, gI v3), (0, .ref (a 0)), (1, gI x0)]) E dX8_laws_24 (by decide) rfl ?_
    refine k_iconst (pc := 26) E dX8_laws_26 ?_
    refine k_istore (pc := 27) (lv' := [(5, gI 0), (4, gI 0), (3, gI (s0 63 0)), (2, gI v3), (0, .ref (a 0)), (1, gI x0)]) E dX8_laws_27 (by decide) rfl ?_
    have L35 : ∀ (n36 : Nat) (v32 : Int) (v33 : Int) (s34 : gMem), ((in32 v32) ∧ (in32 v33) ∧ (fr [32, 36, 37, 38, 39, 63] s0 s34) ∧ (LA s34) ∧ (KF s34) ∧ (KC s34) ∧ (KT s34) ∧ (0 ≤ v33 ∧ v33 ≤ 6)) → 6 - v33 < (n36 : Int) → (∀ (w37 : Int) (w38 : Int) (s39 : gMem), (w_X8_laws_29 x0 (s0 63 0) n36 v32 v33 s34) = (w37, w38, s39) → ((in32 w37) ∧ (in32 w38) ∧ (fr [32, 36, 37, 38, 39, 63] s0 s39) ∧ (LA s39) ∧ (KF s39) ∧ (KC s39) ∧ (KT s39) ∧ (0 ≤ w38 ∧ w38 ≤ 6)) → gK D vwCl (wdX a cI cJ cS cT) lgX A p l e { frames := 5, cells := 0, slots := 0, locals := 320 } s m args below meth c 6 (gQQ D vwCl (wdX a cI cJ cS cT) lgX A kI in32 below args s) (f_X8_laws x0 s0) s39 73 [(0, .ref (a 0)), (3, gI (s0 63 0)), (4, gI w37)] []) → gK D vwCl (wdX a cI cJ cS cT) lgX A p l e { frames := 5, cells := 0, slots := 0, locals := 320 } s m args below meth c 6 (gQQ D vwCl (wdX a cI cJ cS cT) lgX A kI in32 below args s) (f_X8_laws x0 s0) s34 29 [(0, .ref (a 0)), (1, gI x0), (3, gI (s0 63 0)), (4, gI v32), (5, gI v33)] [] := by
      intro n36; induction n36 with
      | zero =>
        intro v32 v33 s34 hq hm hk
        exfalso
        obtain ⟨hq61, hq62, hf_s34, hLA_s34, hKF_s34, hKC_s34, hKT_s34, hq63⟩ := hq
        omega
      | succ n36 ih =>
        intro v32 v33 s34 hq hm hk
        obtain ⟨hq64, hq65, hf_s34, hLA_s34, hKF_s34, hKC_s34, hKT_s34, hq66⟩ := hq
        have hT := w_X8_laws_29_s x0 (s0 63 0) n36 v32 v33 s34
        refine k_iload (pc := 29) E 4 dX8_laws_29 rfl ?_
        refine k_aloadn (pc := 31) E 0 dX8_laws_31 rfl rfl ?_
        refine k_getf (pc := 32) (q0 := 0) (f := 0) (v := .ref (a 1)) E inX8 rfl rfl (by decide) wm_272 rfl rfl dX8_laws_32 ?_
        refine k_getfI (pc := 35) (q0 := 1) (f := 3) (k := 51) E inX7 rfl rfl (by decide) wm_39 rfl rfl rfl dX8_laws_35 (fun hr40 => ?_)
        have hi41 := (MY_fr hpre3 (fun k hk => hf_s34 k (dj (by decide) k hk))) 0
        by_cases h42 : v33 < (s34 51 0)
        · replace hT := hT.trans (if_pos h42)
          refine k_icmp_ge_f (pc := 38) (tgt := 73) E (by omega) (by omega) dX8_laws_38 (by decide) h42 ?_
          refine k_aloadn (pc := 41) E 0 dX8_laws_41 rfl rfl ?_
          refine k_getf (pc := 42) (q0 := 0) (f := 2) (v := .ref (a 3)) E inX8 rfl rfl (by decide) wm_274 rfl rfl dX8_laws_42 ?_
          refine k_iload (pc := 45) E 4 dX8_laws_45 rfl ?_
          refine k_mr (fun hm_s34 => ?_)
          refine k_callV (pc := 47) (np := 1) (As := [gI v33]) (st := []) (q0 := 3) E (c_X4_obey l D a cI cJ cS cT s34 v33 (by omega) hLA_s34 hKF_s34 hKC_s34 hKT_s34 (by first | assumption | omega)) wm_476 wm_4 wm_473 wm_474 wm_475 (by decide +kernel) rfl rfl ⟨by decide, by decide⟩ rfl (Nat.le_of_ble_eq_true rfl) dX8_laws_47 (fun r44 s45 hs45 hr43 => ?_)
          replace hT := gby hT hs45
          have hp46 := f_X4_obey_p v33 s34 (by omega) hm_s34 hLA_s34 hKF_s34 hKC_s34 hKT_s34 (by first | assumption | omega) r44 s45 hs45
          obtain ⟨hfc_s45, hm_s45, hp47, hLA_s45, hKF_s45, hKC_s45, hKT_s45⟩ := hp46
          have hf_s45 : fr [32, 36, 37, 38, 39, 63] s0 s45 := hf_s34.call (by decide) hfc_s45
          refine k_st (st' := []) rfl ?_
          refine k_aloadn (pc := 50) E 0 dX8_laws_50 rfl rfl ?_
          refine k_iloadn (pc := 51) E 1 dX8_laws_51 rfl rfl ?_
          refine k_mr (fun hm_s45 => ?_)
          refine k_callV (pc := 52) (np := 1) (As := [gI x0]) (st := []) (q0 := 0) E (c_X8_firstOtherChance l D a cI cJ cS cT s45 x0 (by omega) (CD_fr hpre0 (fun k hk => hf_s45 k (dj (by decide) k hk))) (BG_fr hpre1 (fun k hk => hf_s45 k (dj (by decide) k hk))) hLA_s45 (MOx_fr hpre2 (fun k hk => hf_s45 k (dj (by decide) k hk))) hKF_s45 (by first | assumption | omega)) wm_768 wm_1 wm_765 wm_767 wp_24 (by decide +kernel) rfl rfl ⟨by decide, by decide⟩ rfl (Nat.le_of_ble_eq_true rfl) dX8_laws_52 (fun r49 s50 hs50 hr48 => ?_)
          replace hT := gby hT hs50
          have hp51 := f_X8_firstOtherChance_p x0 s45 (by omega) hm_s45 (CD_fr hpre0 (fun k hk => hf_s45 k (dj (by decide) k hk))) (BG_fr hpre1 (fun k hk => hf_s45 k (dj (by decide) k hk))) hLA_s45 (MOx_fr hpre2 (fun k hk => hf_s45 k (dj (by decide) k hk))) hKF_s45 (by first | assumption | omega) r49 s50 hs50
          obtain ⟨hfc_s50, hm_s50, hp52, hKF_s50⟩ := hp51
          have hf_s50 : fr [32, 36, 37, 38, 39, 63] s0 s50 := hf_s45.call (by decide) hfc_s50
          have hLA_s50 : LA s50 := LA_fr hLA_s45 (fun k hk => hfc_s50 k (dj (by decide) k hk))
          have hKC_s50 : KC s50 := KC_fr hKC_s45 (fun k hk => hfc_s50 k (dj (by decide) k hk))
          have hKT_s50 : KT s50 := KT_fr hKT_s45 (fun k hk => hfc_s50 k (dj (by decide) k hk))
          refine k_st (st' := [gI r49]) rfl ?_
          obtain ⟨z57, hz57, hT⟩ := gl1x hT
          have j54 : ∀ (v55 : Int), ((in32 v55)) → z57 = v55 → gK D vwCl (wdX a cI cJ cS cT) lgX A p l e { frames := 5, cells := 0, slots := 0, locals := 320 } s m args below meth c 6 (gQQ D vwCl (wdX a cI cJ cS cT) lgX A kI in32 below args s) (f_X8_laws x0 s0) s50 67 [(0, .ref (a 0)), (1, gI x0), (3, gI (s0 63 0)), (4, gI v55), (5, gI v33)] [] := by
            intro v55 hq hz
            have hq56 := hq
            replace hT := gl1y hT hz
            refine k_iinc (pc := 67) (lv' := [(5, gI (v33 + 1)), (0, .ref (a 0)), (1, gI x0), (3, gI (s0 63 0)), (4, gI v55)]) E 4 dX8_laws_67 rfl (by decide) rfl ?_
            refine k_goto (pc := 70) (tgt := 29) E dX8_laws_70 (by decide) ?_
            refine k_lv (lv' := [(0, .ref (a 0)), (1, gI x0), (3, gI (s0 63 0)), (4, gI v55), (5, gI (v33 + 1))]) [1, 2, 3, 4, 0] rfl ?_
            exact ih v55 (v33 + 1) s50 ⟨(by omega), (by omega), hf_s50, hLA_s50, hKF_s50, hKC_s50, hKT_s50, (by first | assumption | omega)⟩ (by omega) (fun w37 w38 s39 hw hi => hk w37 w38 s39 (hT.trans hw) hi)
          replace hT := hz57
          by_cases h53 : r49 < 0
          · replace hT := hT.trans (if_pos h53)
            refine k_if_ge_f (pc := 55) (tgt := 67) E (by omega) dX8_laws_55 (by decide) h53 ?_
            refine k_iload (pc := 58) E 3 dX8_laws_58 rfl ?_
            refine k_iconst (pc := 60) E dX8_laws_60 ?_
            refine k_iload (pc := 61) E 4 dX8_laws_61 rfl ?_
            refine k_ishl (pc := 63) E dX8_laws_63 ?_
            have hb58 := ishl_rg 1 v33
            have hb59 : 0 ≤ v33 ∧ v33 ≤ 15 → _ := fun q => ishl_1 q.1 q.2
            refine k_ior (pc := 64) E dX8_laws_64 ?_
            have hb60 := ior_rg v32 (ishl 1 v33)
            refine k_istore (pc := 65) (lv' := [(4, gI (ior v32 (ishl 1 v33))), (0, .ref (a 0)), (1, gI x0), (3, gI (s0 63 0)), (5, gI v33)]) E dX8_laws_65 (by decide) rfl ?_
            refine k_lv (lv' := [(0, .ref (a 0)), (1, gI x0), (3, gI (s0 63 0)), (4, gI (ior v32 (ishl 1 v33))), (5, gI v33)]) [1, 2, 3, 0, 4] rfl ?_
            exact j54 (ior v32 (ishl 1 v33)) (by omega) hT
          · replace hT := hT.trans (if_neg h53)
            refine k_if_ge_t (pc := 55) (tgt := 67) E (by omega) dX8_laws_55 (by decide) h53 ?_
            exact j54 v32 (by omega) hT
        · replace hT := hT.trans (if_neg h42)
          refine k_icmp_ge_t (pc := 38) (tgt := 73) E (by omega) (by omega) dX8_laws_38 (by decide) h42 ?_
          refine k_lv (lv' := [(0, .ref (a 0)), (3, gI (s0 63 0)), (4, gI v32)]) [0, 2, 3] rfl ?_
          exact hk v32 v33 s34 hT ⟨(by omega), (by omega), hf_s34, hLA_s34, hKF_s34, hKC_s34, hKT_s34, (by first | assumption | omega)⟩
    refine k_lv (lv' := [(0, .ref (a 0)), (1, gI x0), (3, gI (s0 63 0)), (4, gI 0), (5, gI 0)]) [4, 5, 2, 1, 0] rfl ?_
    refine L35 7 0 0 s0 ⟨(by omega), (by omega), hf_s0, hLA_s0, hKF_s0, hKC_s0, hKT_s0, (by first | assumption | omega)⟩ (by omega) (fun v67 v68 s69 hw hq => ?_)
    obtain ⟨hq70, hq71, hf_s69, hLA_s69, hKF_s69, hKC_s69, hKT_s69, hq72⟩ := hq
    replace hT := gl3y hT hw
    refine k_aloadn (pc := 73) E 0 dX8_laws_73 rfl rfl ?_
    refine k_getf (pc := 74) (q0 := 0) (f := 2) (v := .ref (a 3)) E inX8 rfl rfl (by decide) wm_274 rfl rfl dX8_laws_74 ?_
    refine k_iloadn (pc := 77) E 1 dX8_laws_77 rfl rfl ?_
    refine k_mr (fun hm_s69 => ?_)
    refine k_callV (pc := 78) (np := 1) (As := [gI (s0 63 0)]) (st := []) (q0 := 3) E (c_X4_obey l D a cI cJ cS cT s69 (s0 63 0) (by omega) hLA_s69 hKF_s69 hKC_s69 hKT_s69 (by first | assumption | omega)) wm_476 wm_4 wm_473 wm_474 wm_475 (by decide +kernel) rfl rfl ⟨by decide, by decide⟩ rfl (Nat.le_of_ble_eq_true rfl) dX8_laws_78 (fun r74 s75 hs75 hr73 => ?_)
    replace hT := gby hT hs75
    have hp76 := f_X4_obey_p (s0 63 0) s69 (by omega) hm_s69 hLA_s69 hKF_s69 hKC_s69 hKT_s69 (by first | assumption | omega) r74 s75 hs75
    obtain ⟨hfc_s75, hm_s75, hp77, hLA_s75, hKF_s75, hKC_s75, hKT_s75⟩ := hp76
    have hf_s75 : fr [32, 36, 37, 38, 39, 63] s0 s75 := hf_s69.call (by decide) hfc_s75
    refine k_st (st' := []) rfl ?_
    refine k_iload (pc := 81) E 2 dX8_laws_81 rfl ?_
    exact k_rho hT (k_iret (pc := 83) E dX8_laws_83 (by omega))
  · replace hT := hT.trans (if_neg h4)
    refine k_if_eq_f (pc := 7) (tgt := 12) E (by omega) dX8_laws_7 (by decide) h4 ?_
    refine k_iloadn (pc := 10) E 0 dX8_laws_10 rfl rfl ?_
    exact k_rho hT (k_iret (pc := 11) E dX8_laws_11 (by omega))

def w_X8_amiss_17 (c1 : Int) : Nat → Int → Int → gMem → Int × Int × gMem
  | 0, v4, v5, s6 => (v4, v5, s6)
  | n7 + 1, v4, v5, s6 => (if v5 < 16 then gb (f_X4_falls v5 0 s6) (fun r11 s12 => gl (v4 + (labs ((s6 (14 + c1.toNat) v5) - r11))) (fun v17 => (w_X8_amiss_17 c1 n7 v17 (v5 + 1) s12))) else (v4, v5, s6))
theorem w_X8_amiss_17_s (c1 : Int) (n7 : Nat) (v4 : Int) (v5 : Int) (s6 : gMem) : w_X8_amiss_17 c1 (n7 + 1) v4 v5 s6 = (if v5 < 16 then gb (f_X4_falls v5 0 s6) (fun r11 s12 => gl (v4 + (labs ((s6 (14 + c1.toNat) v5) - r11))) (fun v17 => (w_X8_amiss_17 c1 n7 v17 (v5 + 1) s12))) else (v4, v5, s6)) := rfl
def f_X8_amiss (x0 : Int) (s0 : gMem) : gRes := (if (f_X8_refusedAsTold x0 s0) = 0 then (gl3 (w_X8_amiss_17 x0 17 0 0 s0) (fun v44 v45 s46 => (v44, s46))) else ((-4611686018427387904), s0))
theorem f_X8_amiss_e (x0 : Int) (s0 : gMem) : f_X8_amiss x0 s0 = (if (f_X8_refusedAsTold x0 s0) = 0 then (gl3 (w_X8_amiss_17 x0 17 0 0 s0) (fun v44 v45 s46 => (v44, s46))) else ((-4611686018427387904), s0)) := rfl
set_option maxRecDepth 100000 in
set_option maxHeartbeats 4000000 in
theorem f_X8_amiss_p (x0 : Int) (s0 : gMem) (hx0 : in32 x0) (hm_s0 : gMR lgX s0) (hpre0 : CD s0) (hpre1 : BG s0) (hpre2 : LA s0) (hpre3 : MOx s0) (hpre4 : KF s0) (hpre5 : SSo s0) (hpre6 : SSi s0) (rZ : Int) (sZ : gMem) (hres : f_X8_amiss x0 s0 = (rZ, sZ)) : (fr [32, 36, 37] s0 sZ) ∧ (gMR lgX sZ) ∧ (in64 rZ) ∧ (KF sZ) := by
  have hT := f_X8_amiss_e x0 s0
  have hf_s0 : fr [32, 36, 37] s0 s0 := fr.rf _ _
  have hKF_s0 := hpre4
  have hp2 := f_X8_refusedAsTold_p x0 s0 (by omega) hm_s0 hpre5 hpre6
  by_cases h3 : (f_X8_refusedAsTold x0 s0) = 0
  · replace hT := hT.trans (if_pos h3)
    have L21 : ∀ (n22 : Nat) (v18 : Int) (v19 : Int) (s20 : gMem), ((in64 v18) ∧ (in32 v19) ∧ (fr [32, 36, 37] s0 s20) ∧ (gMR lgX s20) ∧ (KF s20) ∧ (0 ≤ v19 ∧ v19 ≤ 16) ∧ (0 ≤ v18 ∧ v18 ≤ 2147483747 * v19)) → 16 - v19 < (n22 : Int) → (∀ (w23 : Int) (w24 : Int) (s25 : gMem), (w_X8_amiss_17 x0 n22 v18 v19 s20) = (w23, w24, s25) → ((in64 w23) ∧ (in32 w24) ∧ (fr [32, 36, 37] s0 s25) ∧ (gMR lgX s25) ∧ (KF s25) ∧ (0 ≤ w24 ∧ w24 ≤ 16) ∧ (0 ≤ w23 ∧ w23 ≤ 2147483747 * w24)) → (fr [32, 36, 37] s0 sZ) ∧ (gMR lgX sZ) ∧ (in64 rZ) ∧ (KF sZ)) → (fr [32, 36, 37] s0 sZ) ∧ (gMR lgX sZ) ∧ (in64 rZ) ∧ (KF sZ) := by
      intro n22; induction n22 with
      | zero =>
        intro v18 v19 s20 hq hm hk
        exfalso
        obtain ⟨hq36, hq37, hf_s20, hm_s20, hKF_s20, hq38, hq39⟩ := hq
        omega
      | succ n22 ih =>
        intro v18 v19 s20 hq hm hk
        obtain ⟨hq40, hq41, hf_s20, hm_s20, hKF_s20, hq42, hq43⟩ := hq
        have hT := w_X8_amiss_17_s x0 n22 v18 v19 s20
        by_cases h26 : v19 < 16
        · replace hT := hT.trans (if_pos h26)
          have hr27 := (hm_s20 (14 + x0.toNat) v19).1 (scL (by omega))
          obtain ⟨r29, s30, hs30⟩ : ∃ rr ss, (f_X4_falls v19 0 s20) = (rr, ss) := ⟨_, _, rfl⟩
          replace hT := gby hT hs30
          have hp31 := f_X4_falls_p v19 0 s20 (by omega) (by omega) hm_s20 (CD_fr hpre0 (fun k hk => hf_s20 k (dj (by decide) k hk))) (BG_fr hpre1 (fun k hk => hf_s20 k (dj (by decide) k hk))) (LA_fr hpre2 (fun k hk => hf_s20 k (dj (by decide) k hk))) (MOx_fr hpre3 (fun k hk => hf_s20 k (dj (by decide) k hk))) hKF_s20 (by first | assumption | omega) (by first | assumption | omega) r29 s30 hs30
          obtain ⟨hfc_s30, hm_s30, hp32, hKF_s30, hp33⟩ := hp31
          have hf_s30 : fr [32, 36, 37] s0 s30 := hf_s20.call (by decide) hfc_s30
          have hp34 := labs_p ((s20 (14 + x0.toNat) v19) - r29)
          obtain ⟨v35, hv35, hT⟩ := glx hT
          exact ih v35 (v19 + 1) s30 ⟨(by omega), (by omega), hf_s30, hm_s30, hKF_s30, (by first | assumption | omega), (by first | assumption | omega)⟩ (by omega) (fun w23 w24 s25 hw hi => hk w23 w24 s25 (hT.trans hw) hi)
        · replace hT := hT.trans (if_neg h26)
          exact hk v18 v19 s20 hT ⟨(by omega), (by omega), hf_s20, hm_s20, hKF_s20, (by first | assumption | omega), (by first | assumption | omega)⟩
    refine L21 17 0 0 s0 ⟨(by omega), (by omega), hf_s0, hm_s0, hKF_s0, (by first | assumption | omega), (by first | assumption | omega)⟩ (by omega) (fun v44 v45 s46 hw hq => ?_)
    obtain ⟨hq47, hq48, hf_s46, hm_s46, hKF_s46, hq49, hq50⟩ := hq
    replace hT := gl3y hT hw
    obtain ⟨rfl, rfl⟩ := Prod.mk.inj (hT.symm.trans hres)
    exact ⟨hf_s46, hm_s46, (by omega), hKF_s46⟩
  · replace hT := hT.trans (if_neg h3)
    obtain ⟨rfl, rfl⟩ := Prod.mk.inj (hT.symm.trans hres)
    exact ⟨hf_s0, hm_s0, (by omega), hKF_s0⟩
set_option maxRecDepth 100000 in
set_option maxHeartbeats 4000000 in
theorem c_X8_amiss (l : Launch) (D : va_G) (a : Nat → Nat) (cI cJ cS cT : ClassId) (s0 : gMem) (x0 : Int) (hx0 : in32 x0) (hpre0 : CD s0) (hpre1 : BG s0) (hpre2 : LA s0) (hpre3 : MOx s0) (hpre4 : KF s0) (hpre5 : SSo s0) (hpre6 : SSi s0) : gC l yX8_amiss cX8_amiss 5 (some .long) 4 256 D vwCl (gT cI cJ cS cT) (wdX a cI cJ cS cT) lgX kJ in64 [.ref (a 0), gI x0] s0 (f_X8_amiss x0 s0) := by
  refine gC_of (by decide +kernel) (hwdX a cI cJ cS cT) (Nat.le_of_ble_eq_true rfl) ?_
  intro A p e R s m args below meth c hR E
  subst hR
  have hT := f_X8_amiss_e x0 s0
  have hf_s0 : fr [32, 36, 37] s0 s0 := fr.rf _ _
  refine k_lv0 (lv' := [(0, .ref (a 0)), (1, gI x0)]) rfl ?_
  refine k_mr (fun hm_s0 => ?_)
  have hKF_s0 := hpre4
  refine k_aloadn (pc := 0) E 0 dX8_amiss_0 rfl rfl ?_
  refine k_iloadn (pc := 1) E 1 dX8_amiss_1 rfl rfl ?_
  refine k_mr (fun hm_s0 => ?_)
  refine k_callV (pc := 2) (np := 1) (As := [gI x0]) (st := []) (q0 := 0) E (c_X8_refusedAsTold l D a cI cJ cS cT s0 x0 (by omega) hpre5 hpre6) wm_744 wm_1 wm_741 wm_743 wp_23 (by decide +kernel) rfl rfl ⟨by decide, by decide⟩ rfl (Nat.le_of_ble_eq_true rfl) dX8_amiss_2 (ro_kk (fun hr1 => ?_))
  have hp2 := f_X8_refusedAsTold_p x0 s0 (by omega) hm_s0 hpre5 hpre6
  refine k_st (st' := [gI (f_X8_refusedAsTold x0 s0)]) rfl ?_
  by_cases h3 : (f_X8_refusedAsTold x0 s0) = 0
  · replace hT := hT.trans (if_pos h3)
    refine k_if_eq_t (pc := 5) (tgt := 12) E (by omega) dX8_amiss_5 (by decide) h3 ?_
    refine k_lconst0 (pc := 12) E dX8_amiss_12 ?_
    refine k_lstoren (pc := 13) (lv' := [(2, gL 0), (0, .ref (a 0)), (1, gI x0)]) E dX8_amiss_13 rfl (by decide) rfl ?_
    refine k_iconst (pc := 14) E dX8_amiss_14 ?_
    refine k_istore (pc := 15) (lv' := [(4, gI 0), (2, gL 0), (0, .ref (a 0)), (1, gI x0)]) E dX8_amiss_15 (by decide) rfl ?_
    have L21 : ∀ (n22 : Nat) (v18 : Int) (v19 : Int) (s20 : gMem), ((in64 v18) ∧ (in32 v19) ∧ (fr [32, 36, 37] s0 s20) ∧ (KF s20) ∧ (0 ≤ v19 ∧ v19 ≤ 16) ∧ (0 ≤ v18 ∧ v18 ≤ 2147483747 * v19)) → 16 - v19 < (n22 : Int) → (∀ (w23 : Int) (w24 : Int) (s25 : gMem), (w_X8_amiss_17 x0 n22 v18 v19 s20) = (w23, w24, s25) → ((in64 w23) ∧ (in32 w24) ∧ (fr [32, 36, 37] s0 s25) ∧ (KF s25) ∧ (0 ≤ w24 ∧ w24 ≤ 16) ∧ (0 ≤ w23 ∧ w23 ≤ 2147483747 * w24)) → gK D vwCl (wdX a cI cJ cS cT) lgX A p l e { frames := 4, cells := 0, slots := 0, locals := 256 } s m args below meth c 5 (gQQ D vwCl (wdX a cI cJ cS cT) lgX A kJ in64 below args s) (f_X8_amiss x0 s0) s25 61 [(2, gL w23)] []) → gK D vwCl (wdX a cI cJ cS cT) lgX A p l e { frames := 4, cells := 0, slots := 0, locals := 256 } s m args below meth c 5 (gQQ D vwCl (wdX a cI cJ cS cT) lgX A kJ in64 below args s) (f_X8_amiss x0 s0) s20 17 [(0, .ref (a 0)), (1, gI x0), (2, gL v18), (4, gI v19)] [] := by
      intro n22; induction n22 with
      | zero =>
        intro v18 v19 s20 hq hm hk
        exfalso
        obtain ⟨hq36, hq37, hf_s20, hKF_s20, hq38, hq39⟩ := hq
        omega
      | succ n22 ih =>
        intro v18 v19 s20 hq hm hk
        obtain ⟨hq40, hq41, hf_s20, hKF_s20, hq42, hq43⟩ := hq
        have hT := w_X8_amiss_17_s x0 n22 v18 v19 s20
        refine k_iload (pc := 17) E 3 dX8_amiss_17 rfl ?_
        refine k_bipush (pc := 19) E dX8_amiss_19 (by decide) ?_
        by_cases h26 : v19 < 16
        · replace hT := hT.trans (if_pos h26)
          refine k_icmp_ge_f (pc := 21) (tgt := 61) E (by omega) (by omega) dX8_amiss_21 (by decide) h26 ?_
          refine k_lloadn (pc := 24) E 2 dX8_amiss_24 rfl rfl ?_
          refine k_aloadn (pc := 25) E 0 dX8_amiss_25 rfl rfl ?_
          refine k_getf (pc := 26) (q0 := 0) (f := 7) (v := .ref (a 9)) E inX8 rfl rfl (by decide) wm_279 rfl rfl dX8_amiss_26 ?_
          refine k_iloadn (pc := 29) E 1 dX8_amiss_29 rfl rfl ?_
          refine k_aaload (pc := 30) (q0 := 9) (t0 := 2) (b := 10) (n := 4) E rfl rfl (by decide) (by omega) (by omega) dX8_amiss_30 ?_
          refine k_getf (pc := 31) (q0 := (10 + x0.toNat)) (f := 0) (v := .ref (a (14 + x0.toNat))) E inX5 (shO a cI cJ cS cT s20 (by omega)) rfl (by decide) wm_260 rfl rfl dX8_amiss_31 ?_
          refine k_iload (pc := 34) E 3 dX8_amiss_34 rfl ?_
          refine k_iaload (pc := 36) (q0 := (14 + x0.toNat)) (t0 := 0) (k := (14 + x0.toNat)) (n := 40) E (scA a cI cJ cS cT s20 (by omega)) rfl (scL (by omega)) (by decide) (by omega) (by omega) dX8_amiss_36 (fun hr27 => ?_)
          refine k_i2l (pc := 37) E dX8_amiss_37 (by omega) ?_
          refine k_aloadn (pc := 38) E 0 dX8_amiss_38 rfl rfl ?_
          refine k_getf (pc := 39) (q0 := 0) (f := 2) (v := .ref (a 3)) E inX8 rfl rfl (by decide) wm_274 rfl rfl dX8_amiss_39 ?_
          refine k_iload (pc := 42) E 3 dX8_amiss_42 rfl ?_
          refine k_iconst (pc := 44) E dX8_amiss_44 ?_
          refine k_mr (fun hm_s20 => ?_)
          refine k_callV (pc := 45) (np := 2) (As := [gI v19, gI 0]) (st := [gL (s20 (14 + x0.toNat) v19), gL v18]) (q0 := 3) E (c_X4_falls l D a cI cJ cS cT s20 v19 0 (by omega) (by omega) (CD_fr hpre0 (fun k hk => hf_s20 k (dj (by decide) k hk))) (BG_fr hpre1 (fun k hk => hf_s20 k (dj (by decide) k hk))) (LA_fr hpre2 (fun k hk => hf_s20 k (dj (by decide) k hk))) (MOx_fr hpre3 (fun k hk => hf_s20 k (dj (by decide) k hk))) hKF_s20 (by first | assumption | omega) (by first | assumption | omega)) wm_513 wm_4 wm_510 wm_511 wm_512 (by decide +kernel) rfl rfl ⟨by decide, by decide⟩ rfl (Nat.le_of_ble_eq_true rfl) dX8_amiss_45 (fun r29 s30 hs30 hr28 => ?_)
          replace hT := gby hT hs30
          have hp31 := f_X4_falls_p v19 0 s20 (by omega) (by omega) hm_s20 (CD_fr hpre0 (fun k hk => hf_s20 k (dj (by decide) k hk))) (BG_fr hpre1 (fun k hk => hf_s20 k (dj (by decide) k hk))) (LA_fr hpre2 (fun k hk => hf_s20 k (dj (by decide) k hk))) (MOx_fr hpre3 (fun k hk => hf_s20 k (dj (by decide) k hk))) hKF_s20 (by first | assumption | omega) (by first | assumption | omega) r29 s30 hs30
          obtain ⟨hfc_s30, hm_s30, hp32, hKF_s30, hp33⟩ := hp31
          have hf_s30 : fr [32, 36, 37] s0 s30 := hf_s20.call (by decide) hfc_s30
          refine k_st (st' := [gI r29, gL (s20 (14 + x0.toNat) v19), gL v18]) rfl ?_
          refine k_i2l (pc := 48) E dX8_amiss_48 (by omega) ?_
          refine k_lsub (pc := 49) E dX8_amiss_49 ?_
          refine k_labs (pc := 50) (st := [gL v18]) E (by omega) wk_781 wk_782 wm_18 wk_783 (by decide) (Nat.le_of_ble_eq_true rfl) dX8_amiss_50 ?_
          have hp34 := labs_p ((s20 (14 + x0.toNat) v19) - r29)
          refine k_ladd (pc := 53) E dX8_amiss_53 ?_
          obtain ⟨v35, hv35, hT⟩ := glx hT
          refine k_st (st' := [gL v35]) (by rw [hv35]) ?_
          refine k_lstoren (pc := 54) (lv' := [(2, gL v35), (0, .ref (a 0)), (1, gI x0), (4, gI v19)]) E dX8_amiss_54 rfl (by decide) rfl ?_
          refine k_iinc (pc := 55) (lv' := [(4, gI (v19 + 1)), (2, gL v35), (0, .ref (a 0)), (1, gI x0)]) E 3 dX8_amiss_55 rfl (by decide) rfl ?_
          refine k_goto (pc := 58) (tgt := 17) E dX8_amiss_58 (by decide) ?_
          refine k_lv (lv' := [(0, .ref (a 0)), (1, gI x0), (2, gL v35), (4, gI (v19 + 1))]) [2, 3, 1, 0] rfl ?_
          exact ih v35 (v19 + 1) s30 ⟨(by omega), (by omega), hf_s30, hKF_s30, (by first | assumption | omega), (by first | assumption | omega)⟩ (by omega) (fun w23 w24 s25 hw hi => hk w23 w24 s25 (hT.trans hw) hi)
        · replace hT := hT.trans (if_neg h26)
          refine k_icmp_ge_t (pc := 21) (tgt := 61) E (by omega) (by omega) dX8_amiss_21 (by decide) h26 ?_
          refine k_lv (lv' := [(2, gL v18)]) [2] rfl ?_
          exact hk v18 v19 s20 hT ⟨(by omega), (by omega), hf_s20, hKF_s20, (by first | assumption | omega), (by first | assumption | omega)⟩
    refine k_lv (lv' := [(0, .ref (a 0)), (1, gI x0), (2, gL 0), (4, gI 0)]) [2, 3, 1, 0] rfl ?_
    refine L21 17 0 0 s0 ⟨(by omega), (by omega), hf_s0, hKF_s0, (by first | assumption | omega), (by first | assumption | omega)⟩ (by omega) (fun v44 v45 s46 hw hq => ?_)
    obtain ⟨hq47, hq48, hf_s46, hKF_s46, hq49, hq50⟩ := hq
    replace hT := gl3y hT hw
    refine k_lloadn (pc := 61) E 0 dX8_amiss_61 rfl rfl ?_
    exact k_rho hT (k_lret (pc := 62) E dX8_amiss_62 (by omega))
  · replace hT := hT.trans (if_neg h3)
    refine k_if_eq_f (pc := 5) (tgt := 12) E (by omega) dX8_amiss_5 (by decide) h3 ?_
    refine k_ldc2 (pc := 8) (n := (-4611686018427387904)) E dX8_amiss_8 wm_562 (by decide) ?_
    exact k_rho hT (k_lret (pc := 11) E dX8_amiss_11 (by omega))

def w_X8_film_80 (c1 : Int) (c2 : Int) (c4 : Int) : Nat → Int → gMem → Int × gMem
  | 0, v18, s19 => (v18, s19)
  | n20 + 1, v18, s19 => (if v18 < 16 then (gl2 ((if c2 = 16 then gb (f_X4_falls v18 0 s19) (fun r34 s35 => (r34, s35)) else ((iand (ishr c4 v18) 1), s19))) (fun v24 s25 => gb (f_X5_write v18 v24 c1.toNat s25) (fun r27 s28 => (w_X8_film_80 c1 c2 c4 n20 (v18 + 1) s28)))) else (v18, s19))
theorem w_X8_film_80_s (c1 : Int) (c2 : Int) (c4 : Int) (n20 : Nat) (v18 : Int) (s19 : gMem) : w_X8_film_80 c1 c2 c4 (n20 + 1) v18 s19 = (if v18 < 16 then (gl2 ((if c2 = 16 then gb (f_X4_falls v18 0 s19) (fun r34 s35 => (r34, s35)) else ((iand (ishr c4 v18) 1), s19))) (fun v24 s25 => gb (f_X5_write v18 v24 c1.toNat s25) (fun r27 s28 => (w_X8_film_80 c1 c2 c4 n20 (v18 + 1) s28)))) else (v18, s19)) := rfl
def f_X8_film (x0 : Int) (x1 : Int) (x2 : Int) (s0 : gMem) : gRes := (if (f_X8_outside x0 4) = 0 then (if (f_X8_outside x1 17) = 0 then (if (f_X8_outside x2 3) = 0 then (gl ((if x1 < 16 then (f_X4_pushed x1 x2 (s0 62 0) s0) else 0)) (fun v12 => gb (f_X5_renew 0 16 x0.toNat s0) (fun r14 s15 => (gl2 (w_X8_film_80 x0 x1 v12 17 0 s15) (fun v73 s74 => (16, s74)))))) else ((-7), s0)) else ((-5), s0)) else ((-2), s0))
theorem f_X8_film_e (x0 : Int) (x1 : Int) (x2 : Int) (s0 : gMem) : f_X8_film x0 x1 x2 s0 = (if (f_X8_outside x0 4) = 0 then (if (f_X8_outside x1 17) = 0 then (if (f_X8_outside x2 3) = 0 then (gl ((if x1 < 16 then (f_X4_pushed x1 x2 (s0 62 0) s0) else 0)) (fun v12 => gb (f_X5_renew 0 16 x0.toNat s0) (fun r14 s15 => (gl2 (w_X8_film_80 x0 x1 v12 17 0 s15) (fun v73 s74 => (16, s74)))))) else ((-7), s0)) else ((-5), s0)) else ((-2), s0)) := rfl
set_option maxRecDepth 100000 in
set_option maxHeartbeats 4000000 in
theorem f_X8_film_p (x0 : Int) (x1 : Int) (x2 : Int) (s0 : gMem) (hx0 : in32 x0) (hx1 : in32 x1) (hx2 : in32 x2) (hm_s0 : gMR lgX s0) (hpre0 : CD s0) (hpre1 : BG s0) (hpre2 : LA s0) (hpre3 : MOx s0) (hpre4 : KF s0) (hpre5 : SSo s0) (hpre6 : SSi s0) (rZ : Int) (sZ : gMem) (hres : f_X8_film x0 x1 x2 s0 = (rZ, sZ)) : (fr [14, 15, 16, 17, 32, 36, 37, 90, 91, 92, 93, 94, 95, 96, 97] s0 sZ) ∧ (gMR lgX sZ) ∧ (in32 rZ) ∧ (KF sZ) ∧ (SSo sZ) ∧ (SSi sZ) := by
  have hT := f_X8_film_e x0 x1 x2 s0
  have hf_s0 : fr [14, 15, 16, 17, 32, 36, 37, 90, 91, 92, 93, 94, 95, 96, 97] s0 s0 := fr.rf _ _
  have hKF_s0 := hpre4
  have hSSo_s0 := hpre5
  have hSSi_s0 := hpre6
  have hp2 := f_X8_outside_p x0 4 (by omega) (by omega) 
  by_cases h3 : (f_X8_outside x0 4) = 0
  · replace hT := hT.trans (if_pos h3)
    have hp5 := f_X8_outside_p x1 17 (by omega) (by omega) 
    by_cases h6 : (f_X8_outside x1 17) = 0
    · replace hT := hT.trans (if_pos h6)
      have hp8 := f_X8_outside_p x2 3 (by omega) (by omega) 
      by_cases h9 : (f_X8_outside x2 3) = 0
      · replace hT := hT.trans (if_pos h9)
        obtain ⟨z78, hz78, hT⟩ := gl1x hT
        have j11 : ∀ (v12 : Int), ((in32 v12)) → z78 = v12 → (fr [14, 15, 16, 17, 32, 36, 37, 90, 91, 92, 93, 94, 95, 96, 97] s0 sZ) ∧ (gMR lgX sZ) ∧ (in32 rZ) ∧ (KF sZ) ∧ (SSo sZ) ∧ (SSi sZ) := by
          intro v12 hq hz
          have hq77 := hq
          replace hT := gl1y hT hz
          obtain ⟨r14, s15, hs15⟩ : ∃ rr ss, (f_X5_renew 0 16 x0.toNat s0) = (rr, ss) := ⟨_, _, rfl⟩
          replace hT := gby hT hs15
          have hp16 := f_X5_renew_p 0 16 x0.toNat s0 (by omega) (by omega) (by omega) hm_s0 hSSo_s0 hSSi_s0 (by first | assumption | omega) (by first | assumption | omega) r14 s15 hs15
          obtain ⟨hfc_s15, hm_s15, hp17, hSSo_s15, hSSi_s15⟩ := hp16
          have hf_s15 : fr [14, 15, 16, 17, 32, 36, 37, 90, 91, 92, 93, 94, 95, 96, 97] s0 s15 := hf_s0.call (by decide) hfc_s15
          have hKF_s15 : KF s15 := KF_fr hKF_s0 (fun k hk => hfc_s15 k (dj (by decide) k hk))
          have L44 : ∀ (n45 : Nat) (v42 : Int) (s43 : gMem), ((in32 v42) ∧ (fr [14, 15, 16, 17, 32, 36, 37, 90, 91, 92, 93, 94, 95, 96, 97] s0 s43) ∧ (gMR lgX s43) ∧ (KF s43) ∧ (SSo s43) ∧ (SSi s43) ∧ (0 ≤ v42 ∧ v42 ≤ 16)) → 16 - v42 < (n45 : Int) → (∀ (w46 : Int) (s47 : gMem), (w_X8_film_80 x0 x1 v12 n45 v42 s43) = (w46, s47) → ((in32 w46) ∧ (fr [14, 15, 16, 17, 32, 36, 37, 90, 91, 92, 93, 94, 95, 96, 97] s0 s47) ∧ (gMR lgX s47) ∧ (KF s47) ∧ (SSo s47) ∧ (SSi s47) ∧ (0 ≤ w46 ∧ w46 ≤ 16)) → (fr [14, 15, 16, 17, 32, 36, 37, 90, 91, 92, 93, 94, 95, 96, 97] s0 sZ) ∧ (gMR lgX sZ) ∧ (in32 rZ) ∧ (KF sZ) ∧ (SSo sZ) ∧ (SSi sZ)) → (fr [14, 15, 16, 17, 32, 36, 37, 90, 91, 92, 93, 94, 95, 96, 97] s0 sZ) ∧ (gMR lgX sZ) ∧ (in32 rZ) ∧ (KF sZ) ∧ (SSo sZ) ∧ (SSi sZ) := by
            intro n45; induction n45 with
            | zero =>
              intro v42 s43 hq hm hk
              exfalso
              obtain ⟨hq69, hf_s43, hm_s43, hKF_s43, hSSo_s43, hSSi_s43, hq70⟩ := hq
              omega
            | succ n45 ih =>
              intro v42 s43 hq hm hk
              obtain ⟨hq71, hf_s43, hm_s43, hKF_s43, hSSo_s43, hSSi_s43, hq72⟩ := hq
              have hT := w_X8_film_80_s x0 x1 v12 n45 v42 s43
              by_cases h48 : v42 < 16
              · replace hT := hT.trans (if_pos h48)
                obtain ⟨z59, hz59, hT⟩ := gl2x hT
                have j50 : ∀ (v51 : Int) (s52 : gMem), ((in32 v51) ∧ (fr [14, 15, 16, 17, 32, 36, 37, 90, 91, 92, 93, 94, 95, 96, 97] s0 s52) ∧ (gMR lgX s52) ∧ (KF s52) ∧ (SSo s52) ∧ (SSi s52)) → z59 = (v51, s52) → (fr [14, 15, 16, 17, 32, 36, 37, 90, 91, 92, 93, 94, 95, 96, 97] s0 sZ) ∧ (gMR lgX sZ) ∧ (in32 rZ) ∧ (KF sZ) ∧ (SSo sZ) ∧ (SSi sZ) := by
                  intro v51 s52 hq hz
                  obtain ⟨hq58, hf_s52, hm_s52, hKF_s52, hSSo_s52, hSSi_s52⟩ := hq
                  replace hT := gl2y hT hz
                  obtain ⟨r54, s55, hs55⟩ : ∃ rr ss, (f_X5_write v42 v51 x0.toNat s52) = (rr, ss) := ⟨_, _, rfl⟩
                  replace hT := gby hT hs55
                  have hp56 := f_X5_write_p v42 v51 x0.toNat s52 (by omega) (by omega) (by omega) hm_s52 hSSi_s52 hSSo_s52 (by first | assumption | omega) r54 s55 hs55
                  obtain ⟨hfc_s55, hm_s55, hp57⟩ := hp56
                  have hf_s55 : fr [14, 15, 16, 17, 32, 36, 37, 90, 91, 92, 93, 94, 95, 96, 97] s0 s55 := hf_s52.call (by decide) hfc_s55
                  have hKF_s55 : KF s55 := KF_fr hKF_s52 (fun k hk => hfc_s55 k (dj (by decide) k hk))
                  have hSSo_s55 : SSo s55 := SSo_fr hSSo_s52 (fun k hk => hfc_s55 k (dj (by decide) k hk))
                  have hSSi_s55 : SSi s55 := SSi_fr hSSi_s52 (fun k hk => hfc_s55 k (dj (by decide) k hk))
                  exact ih (v42 + 1) s55 ⟨(by omega), hf_s55, hm_s55, hKF_s55, hSSo_s55, hSSi_s55, (by first | assumption | omega)⟩ (by omega) (fun w46 s47 hw hi => hk w46 s47 (hT.trans hw) hi)
                replace hT := hz59
                by_cases h49 : x1 = 16
                · replace hT := hT.trans (if_pos h49)
                  obtain ⟨r61, s62, hs62⟩ : ∃ rr ss, (f_X4_falls v42 0 s43) = (rr, ss) := ⟨_, _, rfl⟩
                  replace hT := gby hT hs62
                  have hp63 := f_X4_falls_p v42 0 s43 (by omega) (by omega) hm_s43 (CD_fr hpre0 (fun k hk => hf_s43 k (dj (by decide) k hk))) (BG_fr hpre1 (fun k hk => hf_s43 k (dj (by decide) k hk))) (LA_fr hpre2 (fun k hk => hf_s43 k (dj (by decide) k hk))) (MOx_fr hpre3 (fun k hk => hf_s43 k (dj (by decide) k hk))) hKF_s43 (by first | assumption | omega) (by first | assumption | omega) r61 s62 hs62
                  obtain ⟨hfc_s62, hm_s62, hp64, hKF_s62, hp65⟩ := hp63
                  have hf_s62 : fr [14, 15, 16, 17, 32, 36, 37, 90, 91, 92, 93, 94, 95, 96, 97] s0 s62 := hf_s43.call (by decide) hfc_s62
                  have hSSo_s62 : SSo s62 := SSo_fr hSSo_s43 (fun k hk => hfc_s62 k (dj (by decide) k hk))
                  have hSSi_s62 : SSi s62 := SSi_fr hSSi_s43 (fun k hk => hfc_s62 k (dj (by decide) k hk))
                  exact j50 r61 s62 ⟨(by omega), hf_s62, hm_s62, hKF_s62, hSSo_s62, hSSi_s62⟩ hT
                · replace hT := hT.trans (if_neg h49)
                  have hb66 := ishr_rg v12 v42
                  have hb67 := iand_rg (ishr v12 v42) 1
                  have hb68 := iand1 (ishr v12 v42)
                  exact j50 (iand (ishr v12 v42) 1) s43 ⟨(by omega), hf_s43, hm_s43, hKF_s43, hSSo_s43, hSSi_s43⟩ hT
              · replace hT := hT.trans (if_neg h48)
                exact hk v42 s43 hT ⟨(by omega), hf_s43, hm_s43, hKF_s43, hSSo_s43, hSSi_s43, (by first | assumption | omega)⟩
          refine L44 17 0 s15 ⟨(by omega), hf_s15, hm_s15, hKF_s15, hSSo_s15, hSSi_s15, (by first | assumption | omega)⟩ (by omega) (fun v73 s74 hw hq => ?_)
          obtain ⟨hq75, hf_s74, hm_s74, hKF_s74, hSSo_s74, hSSi_s74, hq76⟩ := hq
          replace hT := gl2y hT hw
          obtain ⟨rfl, rfl⟩ := Prod.mk.inj (hT.symm.trans hres)
          exact ⟨hf_s74, hm_s74, (by omega), hKF_s74, hSSo_s74, hSSi_s74⟩
        replace hT := hz78
        by_cases h10 : x1 < 16
        · replace hT := hT.trans (if_pos h10)
          have hr79 := (hm_s0 62 0).1 rfl
          have hp81 := f_X4_pushed_p x1 x2 (s0 62 0) s0 (by omega) (by omega) (by omega) hm_s0 (by first | assumption | omega)
          exact j11 (f_X4_pushed x1 x2 (s0 62 0) s0) (by omega) hT
        · replace hT := hT.trans (if_neg h10)
          exact j11 0 (by omega) hT
      · replace hT := hT.trans (if_neg h9)
        obtain ⟨rfl, rfl⟩ := Prod.mk.inj (hT.symm.trans hres)
        exact ⟨hf_s0, hm_s0, (by omega), hKF_s0, hSSo_s0, hSSi_s0⟩
    · replace hT := hT.trans (if_neg h6)
      obtain ⟨rfl, rfl⟩ := Prod.mk.inj (hT.symm.trans hres)
      exact ⟨hf_s0, hm_s0, (by omega), hKF_s0, hSSo_s0, hSSi_s0⟩
  · replace hT := hT.trans (if_neg h3)
    obtain ⟨rfl, rfl⟩ := Prod.mk.inj (hT.symm.trans hres)
    exact ⟨hf_s0, hm_s0, (by omega), hKF_s0, hSSo_s0, hSSi_s0⟩
set_option maxRecDepth 100000 in
set_option maxHeartbeats 4000000 in
theorem c_X8_film (l : Launch) (D : va_G) (a : Nat → Nat) (cI cJ cS cT : ClassId) (s0 : gMem) (x0 : Int) (x1 : Int) (x2 : Int) (hx0 : in32 x0) (hx1 : in32 x1) (hx2 : in32 x2) (hpre0 : CD s0) (hpre1 : BG s0) (hpre2 : LA s0) (hpre3 : MOx s0) (hpre4 : KF s0) (hpre5 : SSo s0) (hpre6 : SSi s0) : gC l yX8_film cX8_film 6 (some .int) 4 256 D vwCl (gT cI cJ cS cT) (wdX a cI cJ cS cT) lgX kI in32 [.ref (a 0), gI x0, gI x1, gI x2] s0 (f_X8_film x0 x1 x2 s0) := by
  refine gC_of (by decide +kernel) (hwdX a cI cJ cS cT) (Nat.le_of_ble_eq_true rfl) ?_
  intro A p e R s m args below meth c hR E
  subst hR
  have hT := f_X8_film_e x0 x1 x2 s0
  have hf_s0 : fr [14, 15, 16, 17, 32, 36, 37, 90, 91, 92, 93, 94, 95, 96, 97] s0 s0 := fr.rf _ _
  refine k_lv0 (lv' := [(0, .ref (a 0)), (1, gI x0), (2, gI x1), (3, gI x2)]) rfl ?_
  refine k_mr (fun hm_s0 => ?_)
  have hKF_s0 := hpre4
  have hSSo_s0 := hpre5
  have hSSi_s0 := hpre6
  refine k_iloadn (pc := 0) E 1 dX8_film_0 rfl rfl ?_
  refine k_iconst (pc := 1) E dX8_film_1 ?_
  refine k_mr (fun hm_s0 => ?_)
  refine k_callS (pc := 2) (np := 2) (As := [gI x0, gI 4]) (st := []) E (c_X8_outside l D a cI cJ cS cT s0 x0 4 (by omega) (by omega)) wm_310 wm_1 wm_308 wm_309 (by decide +kernel) ⟨by decide, by decide⟩ rfl (Nat.le_of_ble_eq_true rfl) dX8_film_2 (ro_kk (fun hr1 => ?_))
  have hp2 := f_X8_outside_p x0 4 (by omega) (by omega) 
  refine k_st (st' := [gI (f_X8_outside x0 4)]) rfl ?_
  by_cases h3 : (f_X8_outside x0 4) = 0
  · replace hT := hT.trans (if_pos h3)
    refine k_if_eq_t (pc := 5) (tgt := 11) E (by omega) dX8_film_5 (by decide) h3 ?_
    refine k_iloadn (pc := 11) E 2 dX8_film_11 rfl rfl ?_
    refine k_bipush (pc := 12) E dX8_film_12 (by decide) ?_
    refine k_mr (fun hm_s0 => ?_)
    refine k_callS (pc := 14) (np := 2) (As := [gI x1, gI 17]) (st := []) E (c_X8_outside l D a cI cJ cS cT s0 x1 17 (by omega) (by omega)) wm_310 wm_1 wm_308 wm_309 (by decide +kernel) ⟨by decide, by decide⟩ rfl (Nat.le_of_ble_eq_true rfl) dX8_film_14 (ro_kk (fun hr4 => ?_))
    have hp5 := f_X8_outside_p x1 17 (by omega) (by omega) 
    refine k_st (st' := [gI (f_X8_outside x1 17)]) rfl ?_
    by_cases h6 : (f_X8_outside x1 17) = 0
    · replace hT := hT.trans (if_pos h6)
      refine k_if_eq_t (pc := 17) (tgt := 23) E (by omega) dX8_film_17 (by decide) h6 ?_
      refine k_iloadn (pc := 23) E 3 dX8_film_23 rfl rfl ?_
      refine k_iconst (pc := 24) E dX8_film_24 ?_
      refine k_mr (fun hm_s0 => ?_)
      refine k_callS (pc := 25) (np := 2) (As := [gI x2, gI 3]) (st := []) E (c_X8_outside l D a cI cJ cS cT s0 x2 3 (by omega) (by omega)) wm_310 wm_1 wm_308 wm_309 (by decide +kernel) ⟨by decide, by decide⟩ rfl (Nat.le_of_ble_eq_true rfl) dX8_film_25 (ro_kk (fun hr7 => ?_))
      have hp8 := f_X8_outside_p x2 3 (by omega) (by omega) 
      refine k_st (st' := [gI (f_X8_outside x2 3)]) rfl ?_
      by_cases h9 : (f_X8_outside x2 3) = 0
      · replace hT := hT.trans (if_pos h9)
        refine k_if_eq_t (pc := 28) (tgt := 34) E (by omega) dX8_film_28 (by decide) h9 ?_
        refine k_iloadn (pc := 34) E 2 dX8_film_34 rfl rfl ?_
        refine k_bipush (pc := 35) E dX8_film_35 (by decide) ?_
        obtain ⟨z78, hz78, hT⟩ := gl1x hT
        have j11 : ∀ (v12 : Int), ((in32 v12)) → z78 = v12 → gK D vwCl (wdX a cI cJ cS cT) lgX A p l e { frames := 4, cells := 0, slots := 0, locals := 256 } s m args below meth c 6 (gQQ D vwCl (wdX a cI cJ cS cT) lgX A kI in32 below args s) (f_X8_film x0 x1 x2 s0) s0 63 [(0, .ref (a 0)), (1, gI x0), (2, gI x1)] [gI v12] := by
          intro v12 hq hz
          have hq77 := hq
          replace hT := gl1y hT hz
          refine k_istore (pc := 63) (lv' := [(4, gI v12), (0, .ref (a 0)), (1, gI x0), (2, gI x1)]) E dX8_film_63 (by decide) rfl ?_
          refine k_aloadn (pc := 65) E 1 dX8_film_65 rfl rfl ?_
          refine k_getf (pc := 66) (q0 := 0) (f := 7) (v := .ref (a 9)) E inX8 rfl rfl (by decide) wm_279 rfl rfl dX8_film_66 ?_
          refine k_iloadn (pc := 69) E 2 dX8_film_69 rfl rfl ?_
          refine k_aaload (pc := 70) (q0 := 9) (t0 := 2) (b := 10) (n := 4) E rfl rfl (by decide) (by omega) (by omega) dX8_film_70 ?_
          refine k_iconst (pc := 71) E dX8_film_71 ?_
          refine k_bipush (pc := 72) E dX8_film_72 (by decide) ?_
          refine k_mr (fun hm_s0 => ?_)
          refine k_callV (pc := 74) (np := 2) (As := [gI 0, gI 16]) (st := []) (q0 := (10 + x0.toNat)) E (c_X5_renew l D a cI cJ cS cT x0.toNat (by omega) s0 0 16 (by omega) (by omega) hSSo_s0 hSSi_s0 (by first | assumption | omega) (by first | assumption | omega)) wm_791 wm_10 wm_788 wm_789 wm_790 (by decide +kernel) (shO a cI cJ cS cT s0 (by omega)) rfl ⟨by decide, by decide⟩ rfl (Nat.le_of_ble_eq_true rfl) dX8_film_74 (fun r14 s15 hs15 hr13 => ?_)
          replace hT := gby hT hs15
          have hp16 := f_X5_renew_p 0 16 x0.toNat s0 (by omega) (by omega) (by omega) hm_s0 hSSo_s0 hSSi_s0 (by first | assumption | omega) (by first | assumption | omega) r14 s15 hs15
          obtain ⟨hfc_s15, hm_s15, hp17, hSSo_s15, hSSi_s15⟩ := hp16
          have hf_s15 : fr [14, 15, 16, 17, 32, 36, 37, 90, 91, 92, 93, 94, 95, 96, 97] s0 s15 := hf_s0.call (by decide) hfc_s15
          have hKF_s15 : KF s15 := KF_fr hKF_s0 (fun k hk => hfc_s15 k (dj (by decide) k hk))
          refine k_st (st' := []) rfl ?_
          refine k_iconst (pc := 77) E dX8_film_77 ?_
          refine k_istore (pc := 78) (lv' := [(5, gI 0), (4, gI v12), (0, .ref (a 0)), (1, gI x0), (2, gI x1)]) E dX8_film_78 (by decide) rfl ?_
          have L44 : ∀ (n45 : Nat) (v42 : Int) (s43 : gMem), ((in32 v42) ∧ (fr [14, 15, 16, 17, 32, 36, 37, 90, 91, 92, 93, 94, 95, 96, 97] s0 s43) ∧ (KF s43) ∧ (SSo s43) ∧ (SSi s43) ∧ (0 ≤ v42 ∧ v42 ≤ 16)) → 16 - v42 < (n45 : Int) → (∀ (w46 : Int) (s47 : gMem), (w_X8_film_80 x0 x1 v12 n45 v42 s43) = (w46, s47) → ((in32 w46) ∧ (fr [14, 15, 16, 17, 32, 36, 37, 90, 91, 92, 93, 94, 95, 96, 97] s0 s47) ∧ (KF s47) ∧ (SSo s47) ∧ (SSi s47) ∧ (0 ≤ w46 ∧ w46 ≤ 16)) → gK D vwCl (wdX a cI cJ cS cT) lgX A p l e { frames := 4, cells := 0, slots := 0, locals := 256 } s m args below meth c 6 (gQQ D vwCl (wdX a cI cJ cS cT) lgX A kI in32 below args s) (f_X8_film x0 x1 x2 s0) s47 130 [] []) → gK D vwCl (wdX a cI cJ cS cT) lgX A p l e { frames := 4, cells := 0, slots := 0, locals := 256 } s m args below meth c 6 (gQQ D vwCl (wdX a cI cJ cS cT) lgX A kI in32 below args s) (f_X8_film x0 x1 x2 s0) s43 80 [(0, .ref (a 0)), (1, gI x0), (2, gI x1), (4, gI v12), (5, gI v42)] [] := by
            intro n45; induction n45 with
            | zero =>
              intro v42 s43 hq hm hk
              exfalso
              obtain ⟨hq69, hf_s43, hKF_s43, hSSo_s43, hSSi_s43, hq70⟩ := hq
              omega
            | succ n45 ih =>
              intro v42 s43 hq hm hk
              obtain ⟨hq71, hf_s43, hKF_s43, hSSo_s43, hSSi_s43, hq72⟩ := hq
              have hT := w_X8_film_80_s x0 x1 v12 n45 v42 s43
              refine k_iload (pc := 80) E 4 dX8_film_80 rfl ?_
              refine k_bipush (pc := 82) E dX8_film_82 (by decide) ?_
              by_cases h48 : v42 < 16
              · replace hT := hT.trans (if_pos h48)
                refine k_icmp_ge_f (pc := 84) (tgt := 130) E (by omega) (by omega) dX8_film_84 (by decide) h48 ?_
                refine k_aloadn (pc := 87) E 0 dX8_film_87 rfl rfl ?_
                refine k_getf (pc := 88) (q0 := 0) (f := 7) (v := .ref (a 9)) E inX8 rfl rfl (by decide) wm_279 rfl rfl dX8_film_88 ?_
                refine k_iloadn (pc := 91) E 1 dX8_film_91 rfl rfl ?_
                refine k_aaload (pc := 92) (q0 := 9) (t0 := 2) (b := 10) (n := 4) E rfl rfl (by decide) (by omega) (by omega) dX8_film_92 ?_
                refine k_iload (pc := 93) E 4 dX8_film_93 rfl ?_
                refine k_iloadn (pc := 95) E 2 dX8_film_95 rfl rfl ?_
                refine k_bipush (pc := 96) E dX8_film_96 (by decide) ?_
                obtain ⟨z59, hz59, hT⟩ := gl2x hT
                have j50 : ∀ (v51 : Int) (s52 : gMem), ((in32 v51) ∧ (fr [14, 15, 16, 17, 32, 36, 37, 90, 91, 92, 93, 94, 95, 96, 97] s0 s52) ∧ (KF s52) ∧ (SSo s52) ∧ (SSi s52)) → z59 = (v51, s52) → gK D vwCl (wdX a cI cJ cS cT) lgX A p l e { frames := 4, cells := 0, slots := 0, locals := 256 } s m args below meth c 6 (gQQ D vwCl (wdX a cI cJ cS cT) lgX A kI in32 below args s) (f_X8_film x0 x1 x2 s0) s52 121 [(0, .ref (a 0)), (1, gI x0), (2, gI x1), (4, gI v12), (5, gI v42)] [gI v51, gI v42, .ref (a (10 + x0.toNat))] := by
                  intro v51 s52 hq hz
                  obtain ⟨hq58, hf_s52, hKF_s52, hSSo_s52, hSSi_s52⟩ := hq
                  replace hT := gl2y hT hz
                  refine k_mr (fun hm_s52 => ?_)
                  refine k_callV (pc := 121) (np := 2) (As := [gI v42, gI v51]) (st := []) (q0 := (10 + x0.toNat)) E (c_X5_write l D a cI cJ cS cT x0.toNat (by omega) s52 v42 v51 (by omega) (by omega) hSSi_s52 hSSo_s52 (by first | assumption | omega)) wm_796 wm_10 wm_793 wm_794 wm_795 (by decide +kernel) (shO a cI cJ cS cT s52 (by omega)) rfl ⟨by decide, by decide⟩ rfl (Nat.le_of_ble_eq_true rfl) dX8_film_121 (fun r54 s55 hs55 hr53 => ?_)
                  replace hT := gby hT hs55
                  have hp56 := f_X5_write_p v42 v51 x0.toNat s52 (by omega) (by omega) (by omega) hm_s52 hSSi_s52 hSSo_s52 (by first | assumption | omega) r54 s55 hs55
                  obtain ⟨hfc_s55, hm_s55, hp57⟩ := hp56
                  have hf_s55 : fr [14, 15, 16, 17, 32, 36, 37, 90, 91, 92, 93, 94, 95, 96, 97] s0 s55 := hf_s52.call (by decide) hfc_s55
                  have hKF_s55 : KF s55 := KF_fr hKF_s52 (fun k hk => hfc_s55 k (dj (by decide) k hk))
                  have hSSo_s55 : SSo s55 := SSo_fr hSSo_s52 (fun k hk => hfc_s55 k (dj (by decide) k hk))
                  have hSSi_s55 : SSi s55 := SSi_fr hSSi_s52 (fun k hk => hfc_s55 k (dj (by decide) k hk))
                  refine k_st (st' := []) rfl ?_
                  refine k_iinc (pc := 124) (lv' := [(5, gI (v42 + 1)), (0, .ref (a 0)), (1, gI x0), (2, gI x1), (4, gI v12)]) E 4 dX8_film_124 rfl (by decide) rfl ?_
                  refine k_goto (pc := 127) (tgt := 80) E dX8_film_127 (by decide) ?_
                  refine k_lv (lv' := [(0, .ref (a 0)), (1, gI x0), (2, gI x1), (4, gI v12), (5, gI (v42 + 1))]) [1, 2, 3, 4, 0] rfl ?_
                  exact ih (v42 + 1) s55 ⟨(by omega), hf_s55, hKF_s55, hSSo_s55, hSSi_s55, (by first | assumption | omega)⟩ (by omega) (fun w46 s47 hw hi => hk w46 s47 (hT.trans hw) hi)
                replace hT := hz59
                by_cases h49 : x1 = 16
                · replace hT := hT.trans (if_pos h49)
                  refine k_icmp_ne_f (pc := 98) (tgt := 114) E (by omega) (by omega) dX8_film_98 (by decide) h49 ?_
                  refine k_aloadn (pc := 101) E 0 dX8_film_101 rfl rfl ?_
                  refine k_getf (pc := 102) (q0 := 0) (f := 2) (v := .ref (a 3)) E inX8 rfl rfl (by decide) wm_274 rfl rfl dX8_film_102 ?_
                  refine k_iload (pc := 105) E 4 dX8_film_105 rfl ?_
                  refine k_iconst (pc := 107) E dX8_film_107 ?_
                  refine k_mr (fun hm_s43 => ?_)
                  refine k_callV (pc := 108) (np := 2) (As := [gI v42, gI 0]) (st := [gI v42, .ref (a (10 + x0.toNat))]) (q0 := 3) E (c_X4_falls l D a cI cJ cS cT s43 v42 0 (by omega) (by omega) (CD_fr hpre0 (fun k hk => hf_s43 k (dj (by decide) k hk))) (BG_fr hpre1 (fun k hk => hf_s43 k (dj (by decide) k hk))) (LA_fr hpre2 (fun k hk => hf_s43 k (dj (by decide) k hk))) (MOx_fr hpre3 (fun k hk => hf_s43 k (dj (by decide) k hk))) hKF_s43 (by first | assumption | omega) (by first | assumption | omega)) wm_513 wm_4 wm_510 wm_511 wm_512 (by decide +kernel) rfl rfl ⟨by decide, by decide⟩ rfl (Nat.le_of_ble_eq_true rfl) dX8_film_108 (fun r61 s62 hs62 hr60 => ?_)
                  replace hT := gby hT hs62
                  have hp63 := f_X4_falls_p v42 0 s43 (by omega) (by omega) hm_s43 (CD_fr hpre0 (fun k hk => hf_s43 k (dj (by decide) k hk))) (BG_fr hpre1 (fun k hk => hf_s43 k (dj (by decide) k hk))) (LA_fr hpre2 (fun k hk => hf_s43 k (dj (by decide) k hk))) (MOx_fr hpre3 (fun k hk => hf_s43 k (dj (by decide) k hk))) hKF_s43 (by first | assumption | omega) (by first | assumption | omega) r61 s62 hs62
                  obtain ⟨hfc_s62, hm_s62, hp64, hKF_s62, hp65⟩ := hp63
                  have hf_s62 : fr [14, 15, 16, 17, 32, 36, 37, 90, 91, 92, 93, 94, 95, 96, 97] s0 s62 := hf_s43.call (by decide) hfc_s62
                  have hSSo_s62 : SSo s62 := SSo_fr hSSo_s43 (fun k hk => hfc_s62 k (dj (by decide) k hk))
                  have hSSi_s62 : SSi s62 := SSi_fr hSSi_s43 (fun k hk => hfc_s62 k (dj (by decide) k hk))
                  refine k_st (st' := [gI r61, gI v42, .ref (a (10 + x0.toNat))]) rfl ?_
                  refine k_goto (pc := 111) (tgt := 121) E dX8_film_111 (by decide) ?_
                  exact j50 r61 s62 ⟨(by omega), hf_s62, hKF_s62, hSSo_s62, hSSi_s62⟩ hT
                · replace hT := hT.trans (if_neg h49)
                  refine k_icmp_ne_t (pc := 98) (tgt := 114) E (by omega) (by omega) dX8_film_98 (by decide) h49 ?_
                  refine k_iload (pc := 114) E 3 dX8_film_114 rfl ?_
                  refine k_iload (pc := 116) E 4 dX8_film_116 rfl ?_
                  refine k_ishr (pc := 118) E dX8_film_118 ?_
                  have hb66 := ishr_rg v12 v42
                  refine k_iconst (pc := 119) E dX8_film_119 ?_
                  refine k_iand (pc := 120) E dX8_film_120 ?_
                  have hb67 := iand_rg (ishr v12 v42) 1
                  have hb68 := iand1 (ishr v12 v42)
                  exact j50 (iand (ishr v12 v42) 1) s43 ⟨(by omega), hf_s43, hKF_s43, hSSo_s43, hSSi_s43⟩ hT
              · replace hT := hT.trans (if_neg h48)
                refine k_icmp_ge_t (pc := 84) (tgt := 130) E (by omega) (by omega) dX8_film_84 (by decide) h48 ?_
                refine k_lv (lv' := []) [] rfl ?_
                exact hk v42 s43 hT ⟨(by omega), hf_s43, hKF_s43, hSSo_s43, hSSi_s43, (by first | assumption | omega)⟩
          refine k_lv (lv' := [(0, .ref (a 0)), (1, gI x0), (2, gI x1), (4, gI v12), (5, gI 0)]) [2, 3, 4, 1, 0] rfl ?_
          refine L44 17 0 s15 ⟨(by omega), hf_s15, hKF_s15, hSSo_s15, hSSi_s15, (by first | assumption | omega)⟩ (by omega) (fun v73 s74 hw hq => ?_)
          obtain ⟨hq75, hf_s74, hKF_s74, hSSo_s74, hSSi_s74, hq76⟩ := hq
          replace hT := gl2y hT hw
          refine k_bipush (pc := 130) E dX8_film_130 (by decide) ?_
          exact k_rho hT (k_iret (pc := 132) E dX8_film_132 (by omega))
        replace hT := hz78
        by_cases h10 : x1 < 16
        · replace hT := hT.trans (if_pos h10)
          refine k_icmp_ge_f (pc := 37) (tgt := 62) E (by omega) (by omega) dX8_film_37 (by decide) h10 ?_
          refine k_aloadn (pc := 40) E 0 dX8_film_40 rfl rfl ?_
          refine k_getf (pc := 41) (q0 := 0) (f := 2) (v := .ref (a 3)) E inX8 rfl rfl (by decide) wm_274 rfl rfl dX8_film_41 ?_
          refine k_iloadn (pc := 44) E 2 dX8_film_44 rfl rfl ?_
          refine k_iloadn (pc := 45) E 3 dX8_film_45 rfl rfl ?_
          refine k_aloadn (pc := 46) E 0 dX8_film_46 rfl rfl ?_
          refine k_getf (pc := 47) (q0 := 0) (f := 2) (v := .ref (a 3)) E inX8 rfl rfl (by decide) wm_274 rfl rfl dX8_film_47 ?_
          refine k_getf (pc := 50) (q0 := 3) (f := 0) (v := .ref (a 4)) E inX4 rfl rfl (by decide) wm_149 rfl rfl dX8_film_50 ?_
          refine k_getfI (pc := 53) (q0 := 4) (f := 5) (k := 62) E inX6 rfl rfl (by decide) wm_119 rfl rfl rfl dX8_film_53 (fun hr79 => ?_)
          refine k_callV (pc := 56) (np := 3) (As := [gI x1, gI x2, gI (s0 62 0)]) (st := []) (q0 := 3) E (c_X4_pushed l D a cI cJ cS cT s0 x1 x2 (s0 62 0) (by omega) (by omega) (by omega) (by first | assumption | omega)) wm_672 wm_4 wm_669 wm_670 wm_671 (by decide +kernel) rfl rfl ⟨by decide, by decide⟩ rfl (Nat.le_of_ble_eq_true rfl) dX8_film_56 (ro_kk (fun hr80 => ?_))
          refine k_st (st' := [gI (f_X4_pushed x1 x2 (s0 62 0) s0)]) rfl ?_
          refine k_goto (pc := 59) (tgt := 63) E dX8_film_59 (by decide) ?_
          refine k_lv (lv' := [(0, .ref (a 0)), (1, gI x0), (2, gI x1)]) [0, 1, 2] rfl ?_
          exact j11 (f_X4_pushed x1 x2 (s0 62 0) s0) (by omega) hT
        · replace hT := hT.trans (if_neg h10)
          refine k_icmp_ge_t (pc := 37) (tgt := 62) E (by omega) (by omega) dX8_film_37 (by decide) h10 ?_
          refine k_iconst (pc := 62) E dX8_film_62 ?_
          refine k_lv (lv' := [(0, .ref (a 0)), (1, gI x0), (2, gI x1)]) [0, 1, 2] rfl ?_
          exact j11 0 (by omega) hT
      · replace hT := hT.trans (if_neg h9)
        refine k_if_eq_f (pc := 28) (tgt := 34) E (by omega) dX8_film_28 (by decide) h9 ?_
        refine k_bipush (pc := 31) E dX8_film_31 (by decide) ?_
        exact k_rho hT (k_iret (pc := 33) E dX8_film_33 (by omega))
    · replace hT := hT.trans (if_neg h6)
      refine k_if_eq_f (pc := 17) (tgt := 23) E (by omega) dX8_film_17 (by decide) h6 ?_
      refine k_bipush (pc := 20) E dX8_film_20 (by decide) ?_
      exact k_rho hT (k_iret (pc := 22) E dX8_film_22 (by omega))
  · replace hT := hT.trans (if_neg h3)
    refine k_if_eq_f (pc := 5) (tgt := 11) E (by omega) dX8_film_5 (by decide) h3 ?_
    refine k_bipush (pc := 8) E dX8_film_8 (by decide) ?_
    exact k_rho hT (k_iret (pc := 10) E dX8_film_10 (by omega))

def f_X8_image  (s0 : gMem) : gRes := gb (f_X6_become_kept  s0) (fun r2 s3 => gl (mset s3 50 0 1) (fun s6 => gl (f_J6_bitCount_0f7a4 (s6 60 0)) (fun v11 => (v11, s6))))
theorem f_X8_image_e  (s0 : gMem) : f_X8_image s0 = gb (f_X6_become_kept  s0) (fun r2 s3 => gl (mset s3 50 0 1) (fun s6 => gl (f_J6_bitCount_0f7a4 (s6 60 0)) (fun v11 => (v11, s6)))) := rfl
set_option maxRecDepth 100000 in
set_option maxHeartbeats 4000000 in
theorem f_X8_image_p  (s0 : gMem)  (hm_s0 : gMR lgX s0) (hpre0 : KNx s0) (hpre1 : MOx s0) (hpre2 : GP s0) (hpre3 : ST s0) (hpre4 : EN s0) (hpre5 : RE s0) (hpre6 : LA s0) (hpre7 : kKN s0) (hpre8 : kMO s0) (hpre9 : kGP s0) (hpre10 : kST s0) (hpre11 : kEN s0) (hpre12 : kRE s0) (hpre13 : kLA s0) (rZ : Int) (sZ : gMem) (hres : f_X8_image s0 = (rZ, sZ)) : (fr [40, 41, 45, 46, 50, 59, 60, 61, 62, 63, 75, 76, 77, 78, 79] s0 sZ) ∧ (gMR lgX sZ) ∧ (in32 rZ) ∧ (KNx sZ) ∧ (MOx sZ) ∧ (GP sZ) ∧ (ST sZ) ∧ (EN sZ) ∧ (RE sZ) ∧ (LA sZ) ∧ (kKN sZ) ∧ (kMO sZ) ∧ (kGP sZ) ∧ (kST sZ) ∧ (kEN sZ) ∧ (kRE sZ) ∧ (kLA sZ) := by
  have hT := f_X8_image_e  s0
  have hf_s0 : fr [40, 41, 45, 46, 50, 59, 60, 61, 62, 63, 75, 76, 77, 78, 79] s0 s0 := fr.rf _ _
  have hKNx_s0 := hpre0
  have hMOx_s0 := hpre1
  have hGP_s0 := hpre2
  have hST_s0 := hpre3
  have hEN_s0 := hpre4
  have hRE_s0 := hpre5
  have hLA_s0 := hpre6
  have hkKN_s0 := hpre7
  have hkMO_s0 := hpre8
  have hkGP_s0 := hpre9
  have hkST_s0 := hpre10
  have hkEN_s0 := hpre11
  have hkRE_s0 := hpre12
  have hkLA_s0 := hpre13
  obtain ⟨r2, s3, hs3⟩ : ∃ rr ss, (f_X6_become_kept  s0) = (rr, ss) := ⟨_, _, rfl⟩
  replace hT := gby hT hs3
  have hp4 := f_X6_become_kept_p  s0  hm_s0 hKNx_s0 hMOx_s0 hGP_s0 hST_s0 hEN_s0 hRE_s0 hLA_s0 hkKN_s0 hkMO_s0 hkGP_s0 hkST_s0 hkEN_s0 hkRE_s0 hkLA_s0 r2 s3 hs3
  obtain ⟨hfc_s3, hm_s3, hp5, hKNx_s3, hMOx_s3, hGP_s3, hST_s3, hEN_s3, hRE_s3, hLA_s3, hkKN_s3, hkMO_s3, hkGP_s3, hkST_s3, hkEN_s3, hkRE_s3, hkLA_s3⟩ := hp4
  have hf_s3 : fr [40, 41, 45, 46, 50, 59, 60, 61, 62, 63, 75, 76, 77, 78, 79] s0 s3 := hf_s0.call (by decide) hfc_s3
  have hKNx_s3 : KNx s3 := KNx_fr hKNx_s0 (fun k hk => hfc_s3 k (dj (by decide) k hk))
  have hMOx_s3 : MOx s3 := MOx_fr hMOx_s0 (fun k hk => hfc_s3 k (dj (by decide) k hk))
  have hGP_s3 : GP s3 := GP_fr hGP_s0 (fun k hk => hfc_s3 k (dj (by decide) k hk))
  have hST_s3 : ST s3 := ST_fr hST_s0 (fun k hk => hfc_s3 k (dj (by decide) k hk))
  have hEN_s3 : EN s3 := EN_fr hEN_s0 (fun k hk => hfc_s3 k (dj (by decide) k hk))
  have hRE_s3 : RE s3 := RE_fr hRE_s0 (fun k hk => hfc_s3 k (dj (by decide) k hk))
  have hLA_s3 : LA s3 := LA_fr hLA_s0 (fun k hk => hfc_s3 k (dj (by decide) k hk))
  obtain ⟨s6, hs6, hT⟩ := glx hT
  have hf_s6 : fr [40, 41, 45, 46, 50, 59, 60, 61, 62, 63, 75, 76, 77, 78, 79] s0 s6 := hs6 ▸ hf_s3.set (by decide)
  have hm_s6 : gMR lgX s6 := hs6 ▸ hm_s3.set32 rfl (by omega)
  have hg_s6 : fr [50] s3 s6 := hs6 ▸ (fr.rf _ _).set (by decide)
  have hKNx_s6 : KNx s6 := KNx_fr hKNx_s3 (fun k hk => hg_s6 k (dj (by decide) k hk))
  have hMOx_s6 : MOx s6 := MOx_fr hMOx_s3 (fun k hk => hg_s6 k (dj (by decide) k hk))
  have hGP_s6 : GP s6 := GP_fr hGP_s3 (fun k hk => hg_s6 k (dj (by decide) k hk))
  have hST_s6 : ST s6 := ST_fr hST_s3 (fun k hk => hg_s6 k (dj (by decide) k hk))
  have hEN_s6 : EN s6 := EN_fr hEN_s3 (fun k hk => hg_s6 k (dj (by decide) k hk))
  have hRE_s6 : RE s6 := RE_fr hRE_s3 (fun k hk => hg_s6 k (dj (by decide) k hk))
  have hLA_s6 : LA s6 := LA_fr hLA_s3 (fun k hk => hg_s6 k (dj (by decide) k hk))
  have hkKN_s6 : kKN s6 := kKN_fr hkKN_s3 (fun k hk => hg_s6 k (dj (by decide) k hk))
  have hkMO_s6 : kMO s6 := kMO_fr hkMO_s3 (fun k hk => hg_s6 k (dj (by decide) k hk))
  have hkGP_s6 : kGP s6 := kGP_fr hkGP_s3 (fun k hk => hg_s6 k (dj (by decide) k hk))
  have hkST_s6 : kST s6 := kST_fr hkST_s3 (fun k hk => hg_s6 k (dj (by decide) k hk))
  have hkEN_s6 : kEN s6 := kEN_fr hkEN_s3 (fun k hk => hg_s6 k (dj (by decide) k hk))
  have hkRE_s6 : kRE s6 := kRE_fr hkRE_s3 (fun k hk => hg_s6 k (dj (by decide) k hk))
  have hkLA_s6 : kLA s6 := kLA_fr hkLA_s3 (fun k hk => hg_s6 k (dj (by decide) k hk))
  have hr7 := (hm_s6 60 0).1 rfl
  have hi8 := hST_s6 0
  have hp10 := f_J6_bitCount_0f7a4_p (s6 60 0) (by omega) 
  obtain ⟨v11, hv11, hT⟩ := glx hT
  rw [← hv11] at hp10
  clear hv11
  obtain ⟨rfl, rfl⟩ := Prod.mk.inj (hT.symm.trans hres)
  exact ⟨hf_s6, hm_s6, (by omega), hKNx_s6, hMOx_s6, hGP_s6, hST_s6, hEN_s6, hRE_s6, hLA_s6, hkKN_s6, hkMO_s6, hkGP_s6, hkST_s6, hkEN_s6, hkRE_s6, hkLA_s6⟩
set_option maxRecDepth 100000 in
set_option maxHeartbeats 4000000 in
theorem c_X8_image (l : Launch) (D : va_G) (a : Nat → Nat) (cI cJ cS cT : ClassId) (s0 : gMem)   (hpre0 : KNx s0) (hpre1 : MOx s0) (hpre2 : GP s0) (hpre3 : ST s0) (hpre4 : EN s0) (hpre5 : RE s0) (hpre6 : LA s0) (hpre7 : kKN s0) (hpre8 : kMO s0) (hpre9 : kGP s0) (hpre10 : kST s0) (hpre11 : kEN s0) (hpre12 : kRE s0) (hpre13 : kLA s0) : gC l yX8_image cX8_image 1 (some .int) 3 192 D vwCl (gT cI cJ cS cT) (wdX a cI cJ cS cT) lgX kI in32 [.ref (a 0)] s0 (f_X8_image s0) := by
  refine gC_of (by decide +kernel) (hwdX a cI cJ cS cT) (Nat.le_of_ble_eq_true rfl) ?_
  intro A p e R s m args below meth c hR E
  subst hR
  have hT := f_X8_image_e  s0
  have hf_s0 : fr [40, 41, 45, 46, 50, 59, 60, 61, 62, 63, 75, 76, 77, 78, 79] s0 s0 := fr.rf _ _
  refine k_lv0 (lv' := [(0, .ref (a 0))]) rfl ?_
  refine k_mr (fun hm_s0 => ?_)
  have hKNx_s0 := hpre0
  have hMOx_s0 := hpre1
  have hGP_s0 := hpre2
  have hST_s0 := hpre3
  have hEN_s0 := hpre4
  have hRE_s0 := hpre5
  have hLA_s0 := hpre6
  have hkKN_s0 := hpre7
  have hkMO_s0 := hpre8
  have hkGP_s0 := hpre9
  have hkST_s0 := hpre10
  have hkEN_s0 := hpre11
  have hkRE_s0 := hpre12
  have hkLA_s0 := hpre13
  refine k_aloadn (pc := 0) E 0 dX8_image_0 rfl rfl ?_
  refine k_getf (pc := 1) (q0 := 0) (f := 6) (v := .ref (a 8)) E inX8 rfl rfl (by decide) wm_278 rfl rfl dX8_image_1 ?_
  refine k_aloadn (pc := 4) E 0 dX8_image_4 rfl rfl ?_
  refine k_getf (pc := 5) (q0 := 0) (f := 2) (v := .ref (a 3)) E inX8 rfl rfl (by decide) wm_274 rfl rfl dX8_image_5 ?_
  refine k_getf (pc := 8) (q0 := 3) (f := 0) (v := .ref (a 4)) E inX4 rfl rfl (by decide) wm_149 rfl rfl dX8_image_8 ?_
  refine k_mr (fun hm_s0 => ?_)
  refine k_callV (pc := 11) (np := 1) (As := [.ref (a 4)]) (st := []) (q0 := 8) E (c_X6_become_kept l D a cI cJ cS cT s0  hKNx_s0 hMOx_s0 hGP_s0 hST_s0 hEN_s0 hRE_s0 hLA_s0 hkKN_s0 hkMO_s0 hkGP_s0 hkST_s0 hkEN_s0 hkRE_s0 hkLA_s0) wm_804 wm_5 wm_801 wm_802 wm_803 (by decide +kernel) rfl rfl ⟨by decide, by decide⟩ rfl (Nat.le_of_ble_eq_true rfl) dX8_image_11 (fun r2 s3 hs3 hr1 => ?_)
  replace hT := gby hT hs3
  have hp4 := f_X6_become_kept_p  s0  hm_s0 hKNx_s0 hMOx_s0 hGP_s0 hST_s0 hEN_s0 hRE_s0 hLA_s0 hkKN_s0 hkMO_s0 hkGP_s0 hkST_s0 hkEN_s0 hkRE_s0 hkLA_s0 r2 s3 hs3
  obtain ⟨hfc_s3, hm_s3, hp5, hKNx_s3, hMOx_s3, hGP_s3, hST_s3, hEN_s3, hRE_s3, hLA_s3, hkKN_s3, hkMO_s3, hkGP_s3, hkST_s3, hkEN_s3, hkRE_s3, hkLA_s3⟩ := hp4
  have hf_s3 : fr [40, 41, 45, 46, 50, 59, 60, 61, 62, 63, 75, 76, 77, 78, 79] s0 s3 := hf_s0.call (by decide) hfc_s3
  have hKNx_s3 : KNx s3 := KNx_fr hKNx_s0 (fun k hk => hfc_s3 k (dj (by decide) k hk))
  have hMOx_s3 : MOx s3 := MOx_fr hMOx_s0 (fun k hk => hfc_s3 k (dj (by decide) k hk))
  have hGP_s3 : GP s3 := GP_fr hGP_s0 (fun k hk => hfc_s3 k (dj (by decide) k hk))
  have hST_s3 : ST s3 := ST_fr hST_s0 (fun k hk => hfc_s3 k (dj (by decide) k hk))
  have hEN_s3 : EN s3 := EN_fr hEN_s0 (fun k hk => hfc_s3 k (dj (by decide) k hk))
  have hRE_s3 : RE s3 := RE_fr hRE_s0 (fun k hk => hfc_s3 k (dj (by decide) k hk))
  have hLA_s3 : LA s3 := LA_fr hLA_s0 (fun k hk => hfc_s3 k (dj (by decide) k hk))
  refine k_st (st' := []) rfl ?_
  refine k_aloadn (pc := 14) E 0 dX8_image_14 rfl rfl ?_
  refine k_iconst (pc := 15) E dX8_image_15 ?_
  refine k_putfZ (pc := 16) (q0 := 0) (f := 8) (k := 50) E tyX8 tyX8_ok nmX8 inX8 rfl rfl (by decide) wm_280 rfl rfl rfl (Nat.le_of_ble_eq_true rfl) rfl rfl (by first | exact Or.inl rfl | exact Or.inr rfl | omega) dX8_image_16 ?_
  obtain ⟨s6, hs6, hT⟩ := glx hT
  refine k_sg hs6.symm ?_
  have hf_s6 : fr [40, 41, 45, 46, 50, 59, 60, 61, 62, 63, 75, 76, 77, 78, 79] s0 s6 := hs6 ▸ hf_s3.set (by decide)
  have hg_s6 : fr [50] s3 s6 := hs6 ▸ (fr.rf _ _).set (by decide)
  have hKNx_s6 : KNx s6 := KNx_fr hKNx_s3 (fun k hk => hg_s6 k (dj (by decide) k hk))
  have hMOx_s6 : MOx s6 := MOx_fr hMOx_s3 (fun k hk => hg_s6 k (dj (by decide) k hk))
  have hGP_s6 : GP s6 := GP_fr hGP_s3 (fun k hk => hg_s6 k (dj (by decide) k hk))
  have hST_s6 : ST s6 := ST_fr hST_s3 (fun k hk => hg_s6 k (dj (by decide) k hk))
  have hEN_s6 : EN s6 := EN_fr hEN_s3 (fun k hk => hg_s6 k (dj (by decide) k hk))
  have hRE_s6 : RE s6 := RE_fr hRE_s3 (fun k hk => hg_s6 k (dj (by decide) k hk))
  have hLA_s6 : LA s6 := LA_fr hLA_s3 (fun k hk => hg_s6 k (dj (by decide) k hk))
  have hkKN_s6 : kKN s6 := kKN_fr hkKN_s3 (fun k hk => hg_s6 k (dj (by decide) k hk))
  have hkMO_s6 : kMO s6 := kMO_fr hkMO_s3 (fun k hk => hg_s6 k (dj (by decide) k hk))
  have hkGP_s6 : kGP s6 := kGP_fr hkGP_s3 (fun k hk => hg_s6 k (dj (by decide) k hk))
  have hkST_s6 : kST s6 := kST_fr hkST_s3 (fun k hk => hg_s6 k (dj (by decide) k hk))
  have hkEN_s6 : kEN s6 := kEN_fr hkEN_s3 (fun k hk => hg_s6 k (dj (by decide) k hk))
  have hkRE_s6 : kRE s6 := kRE_fr hkRE_s3 (fun k hk => hg_s6 k (dj (by decide) k hk))
  have hkLA_s6 : kLA s6 := kLA_fr hkLA_s3 (fun k hk => hg_s6 k (dj (by decide) k hk))
  refine k_aloadn (pc := 19) E 0 dX8_image_19 rfl rfl ?_
  refine k_getf (pc := 20) (q0 := 0) (f := 2) (v := .ref (a 3)) E inX8 rfl rfl (by decide) wm_274 rfl rfl dX8_image_20 ?_
  refine k_getf (pc := 23) (q0 := 3) (f := 0) (v := .ref (a 4)) E inX4 rfl rfl (by decide) wm_149 rfl rfl dX8_image_23 ?_
  refine k_getfI (pc := 26) (q0 := 4) (f := 3) (k := 60) E inX6 rfl rfl (by decide) wm_113 rfl rfl rfl dX8_image_26 (fun hr7 => ?_)
  have hi8 := hST_s6 0
  refine k_callS (pc := 29) (np := 1) (As := [gI (s6 60 0)]) (st := []) E (c_J6_bitCount_0f7a4 l D a cI cJ cS cT s6 (s6 60 0) (by omega)) wm_487 wm_17 wm_686 wm_486 (by decide +kernel) ⟨by decide, by decide⟩ rfl (Nat.le_of_ble_eq_true rfl) dX8_image_29 (ro_kk (fun hr9 => ?_))
  have hp10 := f_J6_bitCount_0f7a4_p (s6 60 0) (by omega) 
  obtain ⟨v11, hv11, hT⟩ := glx hT
  refine k_st (st' := [gI v11]) (by rw [hv11]; rfl) ?_
  rw [← hv11] at hr9 hp10
  clear hv11
  exact k_rho hT (k_iret (pc := 32) E dX8_image_32 (by omega))

def f_X8_back  (s0 : gMem) : gRes := (if (s0 50 0) = 0 then ((-3), s0) else gb (f_X6_become_now  s0) (fun r4 s5 => gb (f_X4_forget  s5) (fun r9 s10 => gl (f_J6_bitCount_0f7a4 (s10 60 0)) (fun v17 => (v17, s10)))))
theorem f_X8_back_e  (s0 : gMem) : f_X8_back s0 = (if (s0 50 0) = 0 then ((-3), s0) else gb (f_X6_become_now  s0) (fun r4 s5 => gb (f_X4_forget  s5) (fun r9 s10 => gl (f_J6_bitCount_0f7a4 (s10 60 0)) (fun v17 => (v17, s10))))) := rfl
set_option maxRecDepth 100000 in
set_option maxHeartbeats 4000000 in
theorem f_X8_back_p  (s0 : gMem)  (hm_s0 : gMR lgX s0) (hpre0 : KNx s0) (hpre1 : MOx s0) (hpre2 : GP s0) (hpre3 : ST s0) (hpre4 : EN s0) (hpre5 : RE s0) (hpre6 : LA s0) (hpre7 : kKN s0) (hpre8 : kMO s0) (hpre9 : kGP s0) (hpre10 : kST s0) (hpre11 : kEN s0) (hpre12 : kRE s0) (hpre13 : kLA s0) (hpre14 : KF s0) (hpre15 : KC s0) (hpre16 : KT s0) (rZ : Int) (sZ : gMem) (hres : f_X8_back s0 = (rZ, sZ)) : (fr [37, 38, 39, 40, 41, 45, 46, 59, 60, 61, 62, 63, 75, 76, 77, 78, 79] s0 sZ) ∧ (gMR lgX sZ) ∧ (in32 rZ) ∧ (KNx sZ) ∧ (MOx sZ) ∧ (GP sZ) ∧ (ST sZ) ∧ (EN sZ) ∧ (RE sZ) ∧ (LA sZ) ∧ (kKN sZ) ∧ (kMO sZ) ∧ (kGP sZ) ∧ (kST sZ) ∧ (kEN sZ) ∧ (kRE sZ) ∧ (kLA sZ) ∧ (KF sZ) ∧ (KC sZ) ∧ (KT sZ) := by
  have hT := f_X8_back_e  s0
  have hf_s0 : fr [37, 38, 39, 40, 41, 45, 46, 59, 60, 61, 62, 63, 75, 76, 77, 78, 79] s0 s0 := fr.rf _ _
  have hKNx_s0 := hpre0
  have hMOx_s0 := hpre1
  have hGP_s0 := hpre2
  have hST_s0 := hpre3
  have hEN_s0 := hpre4
  have hRE_s0 := hpre5
  have hLA_s0 := hpre6
  have hkKN_s0 := hpre7
  have hkMO_s0 := hpre8
  have hkGP_s0 := hpre9
  have hkST_s0 := hpre10
  have hkEN_s0 := hpre11
  have hkRE_s0 := hpre12
  have hkLA_s0 := hpre13
  have hKF_s0 := hpre14
  have hKC_s0 := hpre15
  have hKT_s0 := hpre16
  have hr1 := (hm_s0 50 0).1 rfl
  by_cases h2 : (s0 50 0) = 0
  · replace hT := hT.trans (if_pos h2)
    obtain ⟨rfl, rfl⟩ := Prod.mk.inj (hT.symm.trans hres)
    exact ⟨hf_s0, hm_s0, (by omega), hKNx_s0, hMOx_s0, hGP_s0, hST_s0, hEN_s0, hRE_s0, hLA_s0, hkKN_s0, hkMO_s0, hkGP_s0, hkST_s0, hkEN_s0, hkRE_s0, hkLA_s0, hKF_s0, hKC_s0, hKT_s0⟩
  · replace hT := hT.trans (if_neg h2)
    obtain ⟨r4, s5, hs5⟩ : ∃ rr ss, (f_X6_become_now  s0) = (rr, ss) := ⟨_, _, rfl⟩
    replace hT := gby hT hs5
    have hp6 := f_X6_become_now_p  s0  hm_s0 hKNx_s0 hMOx_s0 hGP_s0 hST_s0 hEN_s0 hRE_s0 hLA_s0 hkKN_s0 hkMO_s0 hkGP_s0 hkST_s0 hkEN_s0 hkRE_s0 hkLA_s0 r4 s5 hs5
    obtain ⟨hfc_s5, hm_s5, hp7, hKNx_s5, hMOx_s5, hGP_s5, hST_s5, hEN_s5, hRE_s5, hLA_s5, hkKN_s5, hkMO_s5, hkGP_s5, hkST_s5, hkEN_s5, hkRE_s5, hkLA_s5⟩ := hp6
    have hf_s5 : fr [37, 38, 39, 40, 41, 45, 46, 59, 60, 61, 62, 63, 75, 76, 77, 78, 79] s0 s5 := hf_s0.call (by decide) hfc_s5
    have hkKN_s5 : kKN s5 := kKN_fr hkKN_s0 (fun k hk => hfc_s5 k (dj (by decide) k hk))
    have hkMO_s5 : kMO s5 := kMO_fr hkMO_s0 (fun k hk => hfc_s5 k (dj (by decide) k hk))
    have hkGP_s5 : kGP s5 := kGP_fr hkGP_s0 (fun k hk => hfc_s5 k (dj (by decide) k hk))
    have hkST_s5 : kST s5 := kST_fr hkST_s0 (fun k hk => hfc_s5 k (dj (by decide) k hk))
    have hkEN_s5 : kEN s5 := kEN_fr hkEN_s0 (fun k hk => hfc_s5 k (dj (by decide) k hk))
    have hkRE_s5 : kRE s5 := kRE_fr hkRE_s0 (fun k hk => hfc_s5 k (dj (by decide) k hk))
    have hkLA_s5 : kLA s5 := kLA_fr hkLA_s0 (fun k hk => hfc_s5 k (dj (by decide) k hk))
    have hKF_s5 : KF s5 := KF_fr hKF_s0 (fun k hk => hfc_s5 k (dj (by decide) k hk))
    have hKC_s5 : KC s5 := KC_fr hKC_s0 (fun k hk => hfc_s5 k (dj (by decide) k hk))
    have hKT_s5 : KT s5 := KT_fr hKT_s0 (fun k hk => hfc_s5 k (dj (by decide) k hk))
    obtain ⟨r9, s10, hs10⟩ : ∃ rr ss, (f_X4_forget  s5) = (rr, ss) := ⟨_, _, rfl⟩
    replace hT := gby hT hs10
    have hp11 := f_X4_forget_p  s5  hm_s5 hKF_s5 hKC_s5 hKT_s5 r9 s10 hs10
    obtain ⟨hfc_s10, hm_s10, hp12, hKF_s10, hKC_s10, hKT_s10⟩ := hp11
    have hf_s10 : fr [37, 38, 39, 40, 41, 45, 46, 59, 60, 61, 62, 63, 75, 76, 77, 78, 79] s0 s10 := hf_s5.call (by decide) hfc_s10
    have hKNx_s10 : KNx s10 := KNx_fr hKNx_s5 (fun k hk => hfc_s10 k (dj (by decide) k hk))
    have hMOx_s10 : MOx s10 := MOx_fr hMOx_s5 (fun k hk => hfc_s10 k (dj (by decide) k hk))
    have hGP_s10 : GP s10 := GP_fr hGP_s5 (fun k hk => hfc_s10 k (dj (by decide) k hk))
    have hST_s10 : ST s10 := ST_fr hST_s5 (fun k hk => hfc_s10 k (dj (by decide) k hk))
    have hEN_s10 : EN s10 := EN_fr hEN_s5 (fun k hk => hfc_s10 k (dj (by decide) k hk))
    have hRE_s10 : RE s10 := RE_fr hRE_s5 (fun k hk => hfc_s10 k (dj (by decide) k hk))
    have hLA_s10 : LA s10 := LA_fr hLA_s5 (fun k hk => hfc_s10 k (dj (by decide) k hk))
    have hkKN_s10 : kKN s10 := kKN_fr hkKN_s5 (fun k hk => hfc_s10 k (dj (by decide) k hk))
    have hkMO_s10 : kMO s10 := kMO_fr hkMO_s5 (fun k hk => hfc_s10 k (dj (by decide) k hk))
    have hkGP_s10 : kGP s10 := kGP_fr hkGP_s5 (fun k hk => hfc_s10 k (dj (by decide) k hk))
    have hkST_s10 : kST s10 := kST_fr hkST_s5 (fun k hk => hfc_s10 k (dj (by decide) k hk))
    have hkEN_s10 : kEN s10 := kEN_fr hkEN_s5 (fun k hk => hfc_s10 k (dj (by decide) k hk))
    have hkRE_s10 : kRE s10 := kRE_fr hkRE_s5 (fun k hk => hfc_s10 k (dj (by decide) k hk))
    have hkLA_s10 : kLA s10 := kLA_fr hkLA_s5 (fun k hk => hfc_s10 k (dj (by decide) k hk))
    have hr13 := (hm_s10 60 0).1 rfl
    have hi14 := hST_s10 0
    have hp16 := f_J6_bitCount_0f7a4_p (s10 60 0) (by omega) 
    obtain ⟨v17, hv17, hT⟩ := glx hT
    rw [← hv17] at hp16
    clear hv17
    obtain ⟨rfl, rfl⟩ := Prod.mk.inj (hT.symm.trans hres)
    exact ⟨hf_s10, hm_s10, (by omega), hKNx_s10, hMOx_s10, hGP_s10, hST_s10, hEN_s10, hRE_s10, hLA_s10, hkKN_s10, hkMO_s10, hkGP_s10, hkST_s10, hkEN_s10, hkRE_s10, hkLA_s10, hKF_s10, hKC_s10, hKT_s10⟩
set_option maxRecDepth 100000 in
set_option maxHeartbeats 4000000 in
theorem c_X8_back (l : Launch) (D : va_G) (a : Nat → Nat) (cI cJ cS cT : ClassId) (s0 : gMem)   (hpre0 : KNx s0) (hpre1 : MOx s0) (hpre2 : GP s0) (hpre3 : ST s0) (hpre4 : EN s0) (hpre5 : RE s0) (hpre6 : LA s0) (hpre7 : kKN s0) (hpre8 : kMO s0) (hpre9 : kGP s0) (hpre10 : kST s0) (hpre11 : kEN s0) (hpre12 : kRE s0) (hpre13 : kLA s0) (hpre14 : KF s0) (hpre15 : KC s0) (hpre16 : KT s0) : gC l yX8_back cX8_back 1 (some .int) 3 192 D vwCl (gT cI cJ cS cT) (wdX a cI cJ cS cT) lgX kI in32 [.ref (a 0)] s0 (f_X8_back s0) := by
  refine gC_of (by decide +kernel) (hwdX a cI cJ cS cT) (Nat.le_of_ble_eq_true rfl) ?_
  intro A p e R s m args below meth c hR E
  subst hR
  have hT := f_X8_back_e  s0
  have hf_s0 : fr [37, 38, 39, 40, 41, 45, 46, 59, 60, 61, 62, 63, 75, 76, 77, 78, 79] s0 s0 := fr.rf _ _
  refine k_lv0 (lv' := [(0, .ref (a 0))]) rfl ?_
  refine k_mr (fun hm_s0 => ?_)
  have hKNx_s0 := hpre0
  have hMOx_s0 := hpre1
  have hGP_s0 := hpre2
  have hST_s0 := hpre3
  have hEN_s0 := hpre4
  have hRE_s0 := hpre5
  have hLA_s0 := hpre6
  have hkKN_s0 := hpre7
  have hkMO_s0 := hpre8
  have hkGP_s0 := hpre9
  have hkST_s0 := hpre10
  have hkEN_s0 := hpre11
  have hkRE_s0 := hpre12
  have hkLA_s0 := hpre13
  have hKF_s0 := hpre14
  have hKC_s0 := hpre15
  have hKT_s0 := hpre16
  refine k_aloadn (pc := 0) E 0 dX8_back_0 rfl rfl ?_
  refine k_getfI (pc := 1) (q0 := 0) (f := 8) (k := 50) E inX8 rfl rfl (by decide) wm_280 rfl rfl rfl dX8_back_1 (fun hr1 => ?_)
  by_cases h2 : (s0 50 0) = 0
  · replace hT := hT.trans (if_pos h2)
    refine k_if_ne_f (pc := 4) (tgt := 10) E (by omega) dX8_back_4 (by decide) h2 ?_
    refine k_bipush (pc := 7) E dX8_back_7 (by decide) ?_
    exact k_rho hT (k_iret (pc := 9) E dX8_back_9 (by omega))
  · replace hT := hT.trans (if_neg h2)
    refine k_if_ne_t (pc := 4) (tgt := 10) E (by omega) dX8_back_4 (by decide) h2 ?_
    refine k_aloadn (pc := 10) E 0 dX8_back_10 rfl rfl ?_
    refine k_getf (pc := 11) (q0 := 0) (f := 2) (v := .ref (a 3)) E inX8 rfl rfl (by decide) wm_274 rfl rfl dX8_back_11 ?_
    refine k_getf (pc := 14) (q0 := 3) (f := 0) (v := .ref (a 4)) E inX4 rfl rfl (by decide) wm_149 rfl rfl dX8_back_14 ?_
    refine k_aloadn (pc := 17) E 0 dX8_back_17 rfl rfl ?_
    refine k_getf (pc := 18) (q0 := 0) (f := 6) (v := .ref (a 8)) E inX8 rfl rfl (by decide) wm_278 rfl rfl dX8_back_18 ?_
    refine k_mr (fun hm_s0 => ?_)
    refine k_callV (pc := 21) (np := 1) (As := [.ref (a 8)]) (st := []) (q0 := 4) E (c_X6_become_now l D a cI cJ cS cT s0  hKNx_s0 hMOx_s0 hGP_s0 hST_s0 hEN_s0 hRE_s0 hLA_s0 hkKN_s0 hkMO_s0 hkGP_s0 hkST_s0 hkEN_s0 hkRE_s0 hkLA_s0) wm_804 wm_5 wm_801 wm_802 wm_803 (by decide +kernel) rfl rfl ⟨by decide, by decide⟩ rfl (Nat.le_of_ble_eq_true rfl) dX8_back_21 (fun r4 s5 hs5 hr3 => ?_)
    replace hT := gby hT hs5
    have hp6 := f_X6_become_now_p  s0  hm_s0 hKNx_s0 hMOx_s0 hGP_s0 hST_s0 hEN_s0 hRE_s0 hLA_s0 hkKN_s0 hkMO_s0 hkGP_s0 hkST_s0 hkEN_s0 hkRE_s0 hkLA_s0 r4 s5 hs5
    obtain ⟨hfc_s5, hm_s5, hp7, hKNx_s5, hMOx_s5, hGP_s5, hST_s5, hEN_s5, hRE_s5, hLA_s5, hkKN_s5, hkMO_s5, hkGP_s5, hkST_s5, hkEN_s5, hkRE_s5, hkLA_s5⟩ := hp6
    have hf_s5 : fr [37, 38, 39, 40, 41, 45, 46, 59, 60, 61, 62, 63, 75, 76, 77, 78, 79] s0 s5 := hf_s0.call (by decide) hfc_s5
    have hkKN_s5 : kKN s5 := kKN_fr hkKN_s0 (fun k hk => hfc_s5 k (dj (by decide) k hk))
    have hkMO_s5 : kMO s5 := kMO_fr hkMO_s0 (fun k hk => hfc_s5 k (dj (by decide) k hk))
    have hkGP_s5 : kGP s5 := kGP_fr hkGP_s0 (fun k hk => hfc_s5 k (dj (by decide) k hk))
    have hkST_s5 : kST s5 := kST_fr hkST_s0 (fun k hk => hfc_s5 k (dj (by decide) k hk))
    have hkEN_s5 : kEN s5 := kEN_fr hkEN_s0 (fun k hk => hfc_s5 k (dj (by decide) k hk))
    have hkRE_s5 : kRE s5 := kRE_fr hkRE_s0 (fun k hk => hfc_s5 k (dj (by decide) k hk))
    have hkLA_s5 : kLA s5 := kLA_fr hkLA_s0 (fun k hk => hfc_s5 k (dj (by decide) k hk))
    have hKF_s5 : KF s5 := KF_fr hKF_s0 (fun k hk => hfc_s5 k (dj (by decide) k hk))
    have hKC_s5 : KC s5 := KC_fr hKC_s0 (fun k hk => hfc_s5 k (dj (by decide) k hk))
    have hKT_s5 : KT s5 := KT_fr hKT_s0 (fun k hk => hfc_s5 k (dj (by decide) k hk))
    refine k_st (st' := []) rfl ?_
    refine k_aloadn (pc := 24) E 0 dX8_back_24 rfl rfl ?_
    refine k_getf (pc := 25) (q0 := 0) (f := 2) (v := .ref (a 3)) E inX8 rfl rfl (by decide) wm_274 rfl rfl dX8_back_25 ?_
    refine k_mr (fun hm_s5 => ?_)
    refine k_callV (pc := 28) (np := 0) (As := []) (st := []) (q0 := 3) E (c_X4_forget l D a cI cJ cS cT s5  hKF_s5 hKC_s5 hKT_s5) wm_143 wm_4 wm_313 wm_141 wm_142 (by decide +kernel) rfl rfl ⟨by decide, by decide⟩ rfl (Nat.le_of_ble_eq_true rfl) dX8_back_28 (fun r9 s10 hs10 hr8 => ?_)
    replace hT := gby hT hs10
    have hp11 := f_X4_forget_p  s5  hm_s5 hKF_s5 hKC_s5 hKT_s5 r9 s10 hs10
    obtain ⟨hfc_s10, hm_s10, hp12, hKF_s10, hKC_s10, hKT_s10⟩ := hp11
    have hf_s10 : fr [37, 38, 39, 40, 41, 45, 46, 59, 60, 61, 62, 63, 75, 76, 77, 78, 79] s0 s10 := hf_s5.call (by decide) hfc_s10
    have hKNx_s10 : KNx s10 := KNx_fr hKNx_s5 (fun k hk => hfc_s10 k (dj (by decide) k hk))
    have hMOx_s10 : MOx s10 := MOx_fr hMOx_s5 (fun k hk => hfc_s10 k (dj (by decide) k hk))
    have hGP_s10 : GP s10 := GP_fr hGP_s5 (fun k hk => hfc_s10 k (dj (by decide) k hk))
    have hST_s10 : ST s10 := ST_fr hST_s5 (fun k hk => hfc_s10 k (dj (by decide) k hk))
    have hEN_s10 : EN s10 := EN_fr hEN_s5 (fun k hk => hfc_s10 k (dj (by decide) k hk))
    have hRE_s10 : RE s10 := RE_fr hRE_s5 (fun k hk => hfc_s10 k (dj (by decide) k hk))
    have hLA_s10 : LA s10 := LA_fr hLA_s5 (fun k hk => hfc_s10 k (dj (by decide) k hk))
    have hkKN_s10 : kKN s10 := kKN_fr hkKN_s5 (fun k hk => hfc_s10 k (dj (by decide) k hk))
    have hkMO_s10 : kMO s10 := kMO_fr hkMO_s5 (fun k hk => hfc_s10 k (dj (by decide) k hk))
    have hkGP_s10 : kGP s10 := kGP_fr hkGP_s5 (fun k hk => hfc_s10 k (dj (by decide) k hk))
    have hkST_s10 : kST s10 := kST_fr hkST_s5 (fun k hk => hfc_s10 k (dj (by decide) k hk))
    have hkEN_s10 : kEN s10 := kEN_fr hkEN_s5 (fun k hk => hfc_s10 k (dj (by decide) k hk))
    have hkRE_s10 : kRE s10 := kRE_fr hkRE_s5 (fun k hk => hfc_s10 k (dj (by decide) k hk))
    have hkLA_s10 : kLA s10 := kLA_fr hkLA_s5 (fun k hk => hfc_s10 k (dj (by decide) k hk))
    refine k_st (st' := []) rfl ?_
    refine k_aloadn (pc := 31) E 0 dX8_back_31 rfl rfl ?_
    refine k_getf (pc := 32) (q0 := 0) (f := 2) (v := .ref (a 3)) E inX8 rfl rfl (by decide) wm_274 rfl rfl dX8_back_32 ?_
    refine k_getf (pc := 35) (q0 := 3) (f := 0) (v := .ref (a 4)) E inX4 rfl rfl (by decide) wm_149 rfl rfl dX8_back_35 ?_
    refine k_getfI (pc := 38) (q0 := 4) (f := 3) (k := 60) E inX6 rfl rfl (by decide) wm_113 rfl rfl rfl dX8_back_38 (fun hr13 => ?_)
    have hi14 := hST_s10 0
    refine k_callS (pc := 41) (np := 1) (As := [gI (s10 60 0)]) (st := []) E (c_J6_bitCount_0f7a4 l D a cI cJ cS cT s10 (s10 60 0) (by omega)) wm_487 wm_17 wm_686 wm_486 (by decide +kernel) ⟨by decide, by decide⟩ rfl (Nat.le_of_ble_eq_true rfl) dX8_back_41 (ro_kk (fun hr15 => ?_))
    have hp16 := f_J6_bitCount_0f7a4_p (s10 60 0) (by omega) 
    obtain ⟨v17, hv17, hT⟩ := glx hT
    refine k_st (st' := [gI v17]) (by rw [hv17]; rfl) ?_
    rw [← hv17] at hr15 hp16
    clear hv17
    exact k_rho hT (k_iret (pc := 44) E dX8_back_44 (by omega))

def f_X8_sheet (x0 : Int) (x1 : Int) (x2 : Int) (s0 : gMem) : gRes := (if (f_X8_outside x0 4) = 0 then (if x1 < (-1) then ((-2), s0) else (if x1 < 3 then (if x1 = (-1) then gb (f_X5_renew (-1) 0 x0.toNat s0) (fun r8 s9 => (1, s9)) else (if 40 < x2 then ((-2), s0) else (if x2 < 0 then ((-14), s0) else gb (f_X5_renew x1 x2 x0.toNat s0) (fun r15 s16 => (1, s16))))) else ((-2), s0))) else ((-2), s0))
theorem f_X8_sheet_e (x0 : Int) (x1 : Int) (x2 : Int) (s0 : gMem) : f_X8_sheet x0 x1 x2 s0 = (if (f_X8_outside x0 4) = 0 then (if x1 < (-1) then ((-2), s0) else (if x1 < 3 then (if x1 = (-1) then gb (f_X5_renew (-1) 0 x0.toNat s0) (fun r8 s9 => (1, s9)) else (if 40 < x2 then ((-2), s0) else (if x2 < 0 then ((-14), s0) else gb (f_X5_renew x1 x2 x0.toNat s0) (fun r15 s16 => (1, s16))))) else ((-2), s0))) else ((-2), s0)) := rfl
set_option maxRecDepth 100000 in
set_option maxHeartbeats 4000000 in
theorem f_X8_sheet_p (x0 : Int) (x1 : Int) (x2 : Int) (s0 : gMem) (hx0 : in32 x0) (hx1 : in32 x1) (hx2 : in32 x2) (hm_s0 : gMR lgX s0) (hpre0 : SSo s0) (hpre1 : SSi s0) (rZ : Int) (sZ : gMem) (hres : f_X8_sheet x0 x1 x2 s0 = (rZ, sZ)) : (fr [14, 15, 16, 17, 90, 91, 92, 93, 94, 95, 96, 97] s0 sZ) ∧ (gMR lgX sZ) ∧ (in32 rZ) ∧ (SSo sZ) ∧ (SSi sZ) := by
  have hT := f_X8_sheet_e x0 x1 x2 s0
  have hf_s0 : fr [14, 15, 16, 17, 90, 91, 92, 93, 94, 95, 96, 97] s0 s0 := fr.rf _ _
  have hSSo_s0 := hpre0
  have hSSi_s0 := hpre1
  have hp2 := f_X8_outside_p x0 4 (by omega) (by omega) 
  by_cases h3 : (f_X8_outside x0 4) = 0
  · replace hT := hT.trans (if_pos h3)
    by_cases h4 : x1 < (-1)
    · replace hT := hT.trans (if_pos h4)
      obtain ⟨rfl, rfl⟩ := Prod.mk.inj (hT.symm.trans hres)
      exact ⟨hf_s0, hm_s0, (by omega), hSSo_s0, hSSi_s0⟩
    · replace hT := hT.trans (if_neg h4)
      by_cases h5 : x1 < 3
      · replace hT := hT.trans (if_pos h5)
        by_cases h6 : x1 = (-1)
        · replace hT := hT.trans (if_pos h6)
          obtain ⟨r8, s9, hs9⟩ : ∃ rr ss, (f_X5_renew (-1) 0 x0.toNat s0) = (rr, ss) := ⟨_, _, rfl⟩
          replace hT := gby hT hs9
          have hp10 := f_X5_renew_p (-1) 0 x0.toNat s0 (by omega) (by omega) (by omega) hm_s0 hSSo_s0 hSSi_s0 (by first | assumption | omega) (by first | assumption | omega) r8 s9 hs9
          obtain ⟨hfc_s9, hm_s9, hp11, hSSo_s9, hSSi_s9⟩ := hp10
          have hf_s9 : fr [14, 15, 16, 17, 90, 91, 92, 93, 94, 95, 96, 97] s0 s9 := hf_s0.call (by decide) hfc_s9
          obtain ⟨rfl, rfl⟩ := Prod.mk.inj (hT.symm.trans hres)
          exact ⟨hf_s9, hm_s9, (by omega), hSSo_s9, hSSi_s9⟩
        · replace hT := hT.trans (if_neg h6)
          by_cases h12 : 40 < x2
          · replace hT := hT.trans (if_pos h12)
            obtain ⟨rfl, rfl⟩ := Prod.mk.inj (hT.symm.trans hres)
            exact ⟨hf_s0, hm_s0, (by omega), hSSo_s0, hSSi_s0⟩
          · replace hT := hT.trans (if_neg h12)
            by_cases h13 : x2 < 0
            · replace hT := hT.trans (if_pos h13)
              obtain ⟨rfl, rfl⟩ := Prod.mk.inj (hT.symm.trans hres)
              exact ⟨hf_s0, hm_s0, (by omega), hSSo_s0, hSSi_s0⟩
            · replace hT := hT.trans (if_neg h13)
              obtain ⟨r15, s16, hs16⟩ : ∃ rr ss, (f_X5_renew x1 x2 x0.toNat s0) = (rr, ss) := ⟨_, _, rfl⟩
              replace hT := gby hT hs16
              have hp17 := f_X5_renew_p x1 x2 x0.toNat s0 (by omega) (by omega) (by omega) hm_s0 hSSo_s0 hSSi_s0 (by first | assumption | omega) (by first | assumption | omega) r15 s16 hs16
              obtain ⟨hfc_s16, hm_s16, hp18, hSSo_s16, hSSi_s16⟩ := hp17
              have hf_s16 : fr [14, 15, 16, 17, 90, 91, 92, 93, 94, 95, 96, 97] s0 s16 := hf_s0.call (by decide) hfc_s16
              obtain ⟨rfl, rfl⟩ := Prod.mk.inj (hT.symm.trans hres)
              exact ⟨hf_s16, hm_s16, (by omega), hSSo_s16, hSSi_s16⟩
      · replace hT := hT.trans (if_neg h5)
        obtain ⟨rfl, rfl⟩ := Prod.mk.inj (hT.symm.trans hres)
        exact ⟨hf_s0, hm_s0, (by omega), hSSo_s0, hSSi_s0⟩
  · replace hT := hT.trans (if_neg h3)
    obtain ⟨rfl, rfl⟩ := Prod.mk.inj (hT.symm.trans hres)
    exact ⟨hf_s0, hm_s0, (by omega), hSSo_s0, hSSi_s0⟩
set_option maxRecDepth 100000 in
set_option maxHeartbeats 4000000 in
theorem c_X8_sheet (l : Launch) (D : va_G) (a : Nat → Nat) (cI cJ cS cT : ClassId) (s0 : gMem) (x0 : Int) (x1 : Int) (x2 : Int) (hx0 : in32 x0) (hx1 : in32 x1) (hx2 : in32 x2) (hpre0 : SSo s0) (hpre1 : SSi s0) : gC l yX8_sheet cX8_sheet 4 (some .int) 3 192 D vwCl (gT cI cJ cS cT) (wdX a cI cJ cS cT) lgX kI in32 [.ref (a 0), gI x0, gI x1, gI x2] s0 (f_X8_sheet x0 x1 x2 s0) := by
  refine gC_of (by decide +kernel) (hwdX a cI cJ cS cT) (Nat.le_of_ble_eq_true rfl) ?_
  intro A p e R s m args below meth c hR E
  subst hR
  have hT := f_X8_sheet_e x0 x1 x2 s0
  have hf_s0 : fr [14, 15, 16, 17, 90, 91, 92, 93, 94, 95, 96, 97] s0 s0 := fr.rf _ _
  refine k_lv0 (lv' := [(0, .ref (a 0)), (1, gI x0), (2, gI x1), (3, gI x2)]) rfl ?_
  refine k_mr (fun hm_s0 => ?_)
  have hSSo_s0 := hpre0
  have hSSi_s0 := hpre1
  refine k_iloadn (pc := 0) E 1 dX8_sheet_0 rfl rfl ?_
  refine k_iconst (pc := 1) E dX8_sheet_1 ?_
  refine k_mr (fun hm_s0 => ?_)
  refine k_callS (pc := 2) (np := 2) (As := [gI x0, gI 4]) (st := []) E (c_X8_outside l D a cI cJ cS cT s0 x0 4 (by omega) (by omega)) wm_310 wm_1 wm_308 wm_309 (by decide +kernel) ⟨by decide, by decide⟩ rfl (Nat.le_of_ble_eq_true rfl) dX8_sheet_2 (ro_kk (fun hr1 => ?_))
  have hp2 := f_X8_outside_p x0 4 (by omega) (by omega) 
  refine k_st (st' := [gI (f_X8_outside x0 4)]) rfl ?_
  by_cases h3 : (f_X8_outside x0 4) = 0
  · replace hT := hT.trans (if_pos h3)
    refine k_if_ne_f (pc := 5) (tgt := 18) E (by omega) dX8_sheet_5 (by decide) h3 ?_
    refine k_iloadn (pc := 8) E 2 dX8_sheet_8 rfl rfl ?_
    refine k_iconst (pc := 9) E dX8_sheet_9 ?_
    by_cases h4 : x1 < (-1)
    · replace hT := hT.trans (if_pos h4)
      refine k_icmp_lt_t (pc := 10) (tgt := 18) E (by omega) (by omega) dX8_sheet_10 (by decide) h4 ?_
      refine k_bipush (pc := 18) E dX8_sheet_18 (by decide) ?_
      exact k_rho hT (k_iret (pc := 20) E dX8_sheet_20 (by omega))
    · replace hT := hT.trans (if_neg h4)
      refine k_icmp_lt_f (pc := 10) (tgt := 18) E (by omega) (by omega) dX8_sheet_10 (by decide) h4 ?_
      refine k_iloadn (pc := 13) E 2 dX8_sheet_13 rfl rfl ?_
      refine k_iconst (pc := 14) E dX8_sheet_14 ?_
      by_cases h5 : x1 < 3
      · replace hT := hT.trans (if_pos h5)
        refine k_icmp_lt_t (pc := 15) (tgt := 21) E (by omega) (by omega) dX8_sheet_15 (by decide) h5 ?_
        refine k_iloadn (pc := 21) E 2 dX8_sheet_21 rfl rfl ?_
        refine k_iconst (pc := 22) E dX8_sheet_22 ?_
        by_cases h6 : x1 = (-1)
        · replace hT := hT.trans (if_pos h6)
          refine k_icmp_ne_f (pc := 23) (tgt := 39) E (by omega) (by omega) dX8_sheet_23 (by decide) h6 ?_
          refine k_aloadn (pc := 26) E 0 dX8_sheet_26 rfl rfl ?_
          refine k_getf (pc := 27) (q0 := 0) (f := 7) (v := .ref (a 9)) E inX8 rfl rfl (by decide) wm_279 rfl rfl dX8_sheet_27 ?_
          refine k_iloadn (pc := 30) E 1 dX8_sheet_30 rfl rfl ?_
          refine k_aaload (pc := 31) (q0 := 9) (t0 := 2) (b := 10) (n := 4) E rfl rfl (by decide) (by omega) (by omega) dX8_sheet_31 ?_
          refine k_iconst (pc := 32) E dX8_sheet_32 ?_
          refine k_iconst (pc := 33) E dX8_sheet_33 ?_
          refine k_mr (fun hm_s0 => ?_)
          refine k_callV (pc := 34) (np := 2) (As := [gI (-1), gI 0]) (st := []) (q0 := (10 + x0.toNat)) E (c_X5_renew l D a cI cJ cS cT x0.toNat (by omega) s0 (-1) 0 (by omega) (by omega) hSSo_s0 hSSi_s0 (by first | assumption | omega) (by first | assumption | omega)) wm_791 wm_10 wm_788 wm_789 wm_790 (by decide +kernel) (shO a cI cJ cS cT s0 (by omega)) rfl ⟨by decide, by decide⟩ rfl (Nat.le_of_ble_eq_true rfl) dX8_sheet_34 (fun r8 s9 hs9 hr7 => ?_)
          replace hT := gby hT hs9
          have hp10 := f_X5_renew_p (-1) 0 x0.toNat s0 (by omega) (by omega) (by omega) hm_s0 hSSo_s0 hSSi_s0 (by first | assumption | omega) (by first | assumption | omega) r8 s9 hs9
          obtain ⟨hfc_s9, hm_s9, hp11, hSSo_s9, hSSi_s9⟩ := hp10
          have hf_s9 : fr [14, 15, 16, 17, 90, 91, 92, 93, 94, 95, 96, 97] s0 s9 := hf_s0.call (by decide) hfc_s9
          refine k_st (st' := []) rfl ?_
          refine k_iconst (pc := 37) E dX8_sheet_37 ?_
          exact k_rho hT (k_iret (pc := 38) E dX8_sheet_38 (by omega))
        · replace hT := hT.trans (if_neg h6)
          refine k_icmp_ne_t (pc := 23) (tgt := 39) E (by omega) (by omega) dX8_sheet_23 (by decide) h6 ?_
          refine k_iloadn (pc := 39) E 3 dX8_sheet_39 rfl rfl ?_
          refine k_bipush (pc := 40) E dX8_sheet_40 (by decide) ?_
          by_cases h12 : 40 < x2
          · replace hT := hT.trans (if_pos h12)
            refine k_icmp_le_f (pc := 42) (tgt := 48) E (by omega) (by omega) dX8_sheet_42 (by decide) h12 ?_
            refine k_bipush (pc := 45) E dX8_sheet_45 (by decide) ?_
            exact k_rho hT (k_iret (pc := 47) E dX8_sheet_47 (by omega))
          · replace hT := hT.trans (if_neg h12)
            refine k_icmp_le_t (pc := 42) (tgt := 48) E (by omega) (by omega) dX8_sheet_42 (by decide) h12 ?_
            refine k_iloadn (pc := 48) E 3 dX8_sheet_48 rfl rfl ?_
            by_cases h13 : x2 < 0
            · replace hT := hT.trans (if_pos h13)
              refine k_if_ge_f (pc := 49) (tgt := 55) E (by omega) dX8_sheet_49 (by decide) h13 ?_
              refine k_bipush (pc := 52) E dX8_sheet_52 (by decide) ?_
              exact k_rho hT (k_iret (pc := 54) E dX8_sheet_54 (by omega))
            · replace hT := hT.trans (if_neg h13)
              refine k_if_ge_t (pc := 49) (tgt := 55) E (by omega) dX8_sheet_49 (by decide) h13 ?_
              refine k_aloadn (pc := 55) E 0 dX8_sheet_55 rfl rfl ?_
              refine k_getf (pc := 56) (q0 := 0) (f := 7) (v := .ref (a 9)) E inX8 rfl rfl (by decide) wm_279 rfl rfl dX8_sheet_56 ?_
              refine k_iloadn (pc := 59) E 1 dX8_sheet_59 rfl rfl ?_
              refine k_aaload (pc := 60) (q0 := 9) (t0 := 2) (b := 10) (n := 4) E rfl rfl (by decide) (by omega) (by omega) dX8_sheet_60 ?_
              refine k_iloadn (pc := 61) E 2 dX8_sheet_61 rfl rfl ?_
              refine k_iloadn (pc := 62) E 3 dX8_sheet_62 rfl rfl ?_
              refine k_mr (fun hm_s0 => ?_)
              refine k_callV (pc := 63) (np := 2) (As := [gI x1, gI x2]) (st := []) (q0 := (10 + x0.toNat)) E (c_X5_renew l D a cI cJ cS cT x0.toNat (by omega) s0 x1 x2 (by omega) (by omega) hSSo_s0 hSSi_s0 (by first | assumption | omega) (by first | assumption | omega)) wm_791 wm_10 wm_788 wm_789 wm_790 (by decide +kernel) (shO a cI cJ cS cT s0 (by omega)) rfl ⟨by decide, by decide⟩ rfl (Nat.le_of_ble_eq_true rfl) dX8_sheet_63 (fun r15 s16 hs16 hr14 => ?_)
              replace hT := gby hT hs16
              have hp17 := f_X5_renew_p x1 x2 x0.toNat s0 (by omega) (by omega) (by omega) hm_s0 hSSo_s0 hSSi_s0 (by first | assumption | omega) (by first | assumption | omega) r15 s16 hs16
              obtain ⟨hfc_s16, hm_s16, hp18, hSSo_s16, hSSi_s16⟩ := hp17
              have hf_s16 : fr [14, 15, 16, 17, 90, 91, 92, 93, 94, 95, 96, 97] s0 s16 := hf_s0.call (by decide) hfc_s16
              refine k_st (st' := []) rfl ?_
              refine k_iconst (pc := 66) E dX8_sheet_66 ?_
              exact k_rho hT (k_iret (pc := 67) E dX8_sheet_67 (by omega))
      · replace hT := hT.trans (if_neg h5)
        refine k_icmp_lt_f (pc := 15) (tgt := 21) E (by omega) (by omega) dX8_sheet_15 (by decide) h5 ?_
        refine k_bipush (pc := 18) E dX8_sheet_18 (by decide) ?_
        exact k_rho hT (k_iret (pc := 20) E dX8_sheet_20 (by omega))
  · replace hT := hT.trans (if_neg h3)
    refine k_if_ne_t (pc := 5) (tgt := 18) E (by omega) dX8_sheet_5 (by decide) h3 ?_
    refine k_bipush (pc := 18) E dX8_sheet_18 (by decide) ?_
    exact k_rho hT (k_iret (pc := 20) E dX8_sheet_20 (by omega))

def f_X8_cell (x0 : Int) (x1 : Int) (x2 : Int) (s0 : gMem) : gRes := (if (f_X8_outside x0 4) = 0 then (if (f_X5_isMissing  x0.toNat s0) = 0 then (if (f_X8_outside x1 (s0 (94 + x0.toNat) 0)) = 0 then gb (f_X5_write x1 x2 x0.toNat s0) (fun r13 s14 => (1, s14)) else ((-12), s0)) else ((-11), s0)) else ((-2), s0))
theorem f_X8_cell_e (x0 : Int) (x1 : Int) (x2 : Int) (s0 : gMem) : f_X8_cell x0 x1 x2 s0 = (if (f_X8_outside x0 4) = 0 then (if (f_X5_isMissing  x0.toNat s0) = 0 then (if (f_X8_outside x1 (s0 (94 + x0.toNat) 0)) = 0 then gb (f_X5_write x1 x2 x0.toNat s0) (fun r13 s14 => (1, s14)) else ((-12), s0)) else ((-11), s0)) else ((-2), s0)) := rfl
set_option maxRecDepth 100000 in
set_option maxHeartbeats 4000000 in
theorem f_X8_cell_p (x0 : Int) (x1 : Int) (x2 : Int) (s0 : gMem) (hx0 : in32 x0) (hx1 : in32 x1) (hx2 : in32 x2) (hm_s0 : gMR lgX s0) (hpre0 : SSo s0) (hpre1 : SSi s0) (rZ : Int) (sZ : gMem) (hres : f_X8_cell x0 x1 x2 s0 = (rZ, sZ)) : (fr [14, 15, 16, 17] s0 sZ) ∧ (gMR lgX sZ) ∧ (in32 rZ) := by
  have hT := f_X8_cell_e x0 x1 x2 s0
  have hf_s0 : fr [14, 15, 16, 17] s0 s0 := fr.rf _ _
  have hp2 := f_X8_outside_p x0 4 (by omega) (by omega) 
  by_cases h3 : (f_X8_outside x0 4) = 0
  · replace hT := hT.trans (if_pos h3)
    have hp5 := f_X5_isMissing_p  x0.toNat s0  (by omega) hm_s0 
    by_cases h6 : (f_X5_isMissing  x0.toNat s0) = 0
    · replace hT := hT.trans (if_pos h6)
      have hr7 := (hm_s0 (94 + x0.toNat) 0).1 (shL2 (by omega))
      have hi8 := hpre1 x0.toNat (by omega) 0
      have hp10 := f_X8_outside_p x1 (s0 (94 + x0.toNat) 0) (by omega) (by omega) 
      by_cases h11 : (f_X8_outside x1 (s0 (94 + x0.toNat) 0)) = 0
      · replace hT := hT.trans (if_pos h11)
        obtain ⟨r13, s14, hs14⟩ : ∃ rr ss, (f_X5_write x1 x2 x0.toNat s0) = (rr, ss) := ⟨_, _, rfl⟩
        replace hT := gby hT hs14
        have hp15 := f_X5_write_p x1 x2 x0.toNat s0 (by omega) (by omega) (by omega) hm_s0 hpre1 hpre0 (by first | assumption | omega) r13 s14 hs14
        obtain ⟨hfc_s14, hm_s14, hp16⟩ := hp15
        have hf_s14 : fr [14, 15, 16, 17] s0 s14 := hf_s0.call (by decide) hfc_s14
        obtain ⟨rfl, rfl⟩ := Prod.mk.inj (hT.symm.trans hres)
        exact ⟨hf_s14, hm_s14, (by omega)⟩
      · replace hT := hT.trans (if_neg h11)
        obtain ⟨rfl, rfl⟩ := Prod.mk.inj (hT.symm.trans hres)
        exact ⟨hf_s0, hm_s0, (by omega)⟩
    · replace hT := hT.trans (if_neg h6)
      obtain ⟨rfl, rfl⟩ := Prod.mk.inj (hT.symm.trans hres)
      exact ⟨hf_s0, hm_s0, (by omega)⟩
  · replace hT := hT.trans (if_neg h3)
    obtain ⟨rfl, rfl⟩ := Prod.mk.inj (hT.symm.trans hres)
    exact ⟨hf_s0, hm_s0, (by omega)⟩
set_option maxRecDepth 100000 in
set_option maxHeartbeats 4000000 in
theorem c_X8_cell (l : Launch) (D : va_G) (a : Nat → Nat) (cI cJ cS cT : ClassId) (s0 : gMem) (x0 : Int) (x1 : Int) (x2 : Int) (hx0 : in32 x0) (hx1 : in32 x1) (hx2 : in32 x2) (hpre0 : SSo s0) (hpre1 : SSi s0) : gC l yX8_cell cX8_cell 4 (some .int) 2 128 D vwCl (gT cI cJ cS cT) (wdX a cI cJ cS cT) lgX kI in32 [.ref (a 0), gI x0, gI x1, gI x2] s0 (f_X8_cell x0 x1 x2 s0) := by
  refine gC_of (by decide +kernel) (hwdX a cI cJ cS cT) (Nat.le_of_ble_eq_true rfl) ?_
  intro A p e R s m args below meth c hR E
  subst hR
  have hT := f_X8_cell_e x0 x1 x2 s0
  have hf_s0 : fr [14, 15, 16, 17] s0 s0 := fr.rf _ _
  refine k_lv0 (lv' := [(0, .ref (a 0)), (1, gI x0), (2, gI x1), (3, gI x2)]) rfl ?_
  refine k_mr (fun hm_s0 => ?_)
  refine k_iloadn (pc := 0) E 1 dX8_cell_0 rfl rfl ?_
  refine k_iconst (pc := 1) E dX8_cell_1 ?_
  refine k_mr (fun hm_s0 => ?_)
  refine k_callS (pc := 2) (np := 2) (As := [gI x0, gI 4]) (st := []) E (c_X8_outside l D a cI cJ cS cT s0 x0 4 (by omega) (by omega)) wm_310 wm_1 wm_308 wm_309 (by decide +kernel) ⟨by decide, by decide⟩ rfl (Nat.le_of_ble_eq_true rfl) dX8_cell_2 (ro_kk (fun hr1 => ?_))
  have hp2 := f_X8_outside_p x0 4 (by omega) (by omega) 
  refine k_st (st' := [gI (f_X8_outside x0 4)]) rfl ?_
  by_cases h3 : (f_X8_outside x0 4) = 0
  · replace hT := hT.trans (if_pos h3)
    refine k_if_eq_t (pc := 5) (tgt := 11) E (by omega) dX8_cell_5 (by decide) h3 ?_
    refine k_aloadn (pc := 11) E 0 dX8_cell_11 rfl rfl ?_
    refine k_getf (pc := 12) (q0 := 0) (f := 7) (v := .ref (a 9)) E inX8 rfl rfl (by decide) wm_279 rfl rfl dX8_cell_12 ?_
    refine k_iloadn (pc := 15) E 1 dX8_cell_15 rfl rfl ?_
    refine k_aaload (pc := 16) (q0 := 9) (t0 := 2) (b := 10) (n := 4) E rfl rfl (by decide) (by omega) (by omega) dX8_cell_16 ?_
    refine k_mr (fun hm_s0 => ?_)
    refine k_callV (pc := 17) (np := 0) (As := []) (st := []) (q0 := (10 + x0.toNat)) E (c_X5_isMissing l D a cI cJ cS cT x0.toNat (by omega) s0  ) wm_748 wm_10 wm_745 wm_746 wm_747 (by decide +kernel) (shO a cI cJ cS cT s0 (by omega)) rfl ⟨by decide, by decide⟩ rfl (Nat.le_of_ble_eq_true rfl) dX8_cell_17 (ro_kk (fun hr4 => ?_))
    have hp5 := f_X5_isMissing_p  x0.toNat s0  (by omega) hm_s0 
    refine k_st (st' := [gI (f_X5_isMissing  x0.toNat s0)]) rfl ?_
    by_cases h6 : (f_X5_isMissing  x0.toNat s0) = 0
    · replace hT := hT.trans (if_pos h6)
      refine k_if_eq_t (pc := 20) (tgt := 26) E (by omega) dX8_cell_20 (by decide) h6 ?_
      refine k_iloadn (pc := 26) E 2 dX8_cell_26 rfl rfl ?_
      refine k_aloadn (pc := 27) E 0 dX8_cell_27 rfl rfl ?_
      refine k_getf (pc := 28) (q0 := 0) (f := 7) (v := .ref (a 9)) E inX8 rfl rfl (by decide) wm_279 rfl rfl dX8_cell_28 ?_
      refine k_iloadn (pc := 31) E 1 dX8_cell_31 rfl rfl ?_
      refine k_aaload (pc := 32) (q0 := 9) (t0 := 2) (b := 10) (n := 4) E rfl rfl (by decide) (by omega) (by omega) dX8_cell_32 ?_
      refine k_getfI (pc := 33) (q0 := (10 + x0.toNat)) (f := 2) (k := (94 + x0.toNat)) E inX5 (shO a cI cJ cS cT s0 (by omega)) rfl (by decide) wm_264 rfl rfl (shL2 (by omega)) dX8_cell_33 (fun hr7 => ?_)
      have hi8 := hpre1 x0.toNat (by omega) 0
      refine k_mr (fun hm_s0 => ?_)
      refine k_callS (pc := 36) (np := 2) (As := [gI x1, gI (s0 (94 + x0.toNat) 0)]) (st := []) E (c_X8_outside l D a cI cJ cS cT s0 x1 (s0 (94 + x0.toNat) 0) (by omega) (by omega)) wm_310 wm_1 wm_308 wm_309 (by decide +kernel) ⟨by decide, by decide⟩ rfl (Nat.le_of_ble_eq_true rfl) dX8_cell_36 (ro_kk (fun hr9 => ?_))
      have hp10 := f_X8_outside_p x1 (s0 (94 + x0.toNat) 0) (by omega) (by omega) 
      refine k_st (st' := [gI (f_X8_outside x1 (s0 (94 + x0.toNat) 0))]) rfl ?_
      by_cases h11 : (f_X8_outside x1 (s0 (94 + x0.toNat) 0)) = 0
      · replace hT := hT.trans (if_pos h11)
        refine k_if_eq_t (pc := 39) (tgt := 45) E (by omega) dX8_cell_39 (by decide) h11 ?_
        refine k_aloadn (pc := 45) E 0 dX8_cell_45 rfl rfl ?_
        refine k_getf (pc := 46) (q0 := 0) (f := 7) (v := .ref (a 9)) E inX8 rfl rfl (by decide) wm_279 rfl rfl dX8_cell_46 ?_
        refine k_iloadn (pc := 49) E 1 dX8_cell_49 rfl rfl ?_
        refine k_aaload (pc := 50) (q0 := 9) (t0 := 2) (b := 10) (n := 4) E rfl rfl (by decide) (by omega) (by omega) dX8_cell_50 ?_
        refine k_iloadn (pc := 51) E 2 dX8_cell_51 rfl rfl ?_
        refine k_iloadn (pc := 52) E 3 dX8_cell_52 rfl rfl ?_
        refine k_mr (fun hm_s0 => ?_)
        refine k_callV (pc := 53) (np := 2) (As := [gI x1, gI x2]) (st := []) (q0 := (10 + x0.toNat)) E (c_X5_write l D a cI cJ cS cT x0.toNat (by omega) s0 x1 x2 (by omega) (by omega) hpre1 hpre0 (by first | assumption | omega)) wm_796 wm_10 wm_793 wm_794 wm_795 (by decide +kernel) (shO a cI cJ cS cT s0 (by omega)) rfl ⟨by decide, by decide⟩ rfl (Nat.le_of_ble_eq_true rfl) dX8_cell_53 (fun r13 s14 hs14 hr12 => ?_)
        replace hT := gby hT hs14
        have hp15 := f_X5_write_p x1 x2 x0.toNat s0 (by omega) (by omega) (by omega) hm_s0 hpre1 hpre0 (by first | assumption | omega) r13 s14 hs14
        obtain ⟨hfc_s14, hm_s14, hp16⟩ := hp15
        have hf_s14 : fr [14, 15, 16, 17] s0 s14 := hf_s0.call (by decide) hfc_s14
        refine k_st (st' := []) rfl ?_
        refine k_iconst (pc := 56) E dX8_cell_56 ?_
        exact k_rho hT (k_iret (pc := 57) E dX8_cell_57 (by omega))
      · replace hT := hT.trans (if_neg h11)
        refine k_if_eq_f (pc := 39) (tgt := 45) E (by omega) dX8_cell_39 (by decide) h11 ?_
        refine k_bipush (pc := 42) E dX8_cell_42 (by decide) ?_
        exact k_rho hT (k_iret (pc := 44) E dX8_cell_44 (by omega))
    · replace hT := hT.trans (if_neg h6)
      refine k_if_eq_f (pc := 20) (tgt := 26) E (by omega) dX8_cell_20 (by decide) h6 ?_
      refine k_bipush (pc := 23) E dX8_cell_23 (by decide) ?_
      exact k_rho hT (k_iret (pc := 25) E dX8_cell_25 (by omega))
  · replace hT := hT.trans (if_neg h3)
    refine k_if_eq_f (pc := 5) (tgt := 11) E (by omega) dX8_cell_5 (by decide) h3 ?_
    refine k_bipush (pc := 8) E dX8_cell_8 (by decide) ?_
    exact k_rho hT (k_iret (pc := 10) E dX8_cell_10 (by omega))

def f_X8_copy (x0 : Int) (x1 : Int) (x2 : Int) (x3 : Int) (x4 : Int) (s0 : gMem) : gRes := (if (f_X8_outside x0 4) = 0 then (if (f_X8_outside x2 4) = 0 then (if (f_X5_isMissing  x0.toNat s0) = 0 then (if (f_X5_isMissing  x2.toNat s0) = 0 then (if (s0 (90 + x0.toNat) 0) = (s0 (90 + x2.toNat) 0) then (if (f_X5_holds x1 x4 x0.toNat s0) = 0 then ((-12), s0) else (if (f_X5_holds x3 x4 x2.toNat s0) = 0 then ((-12), s0) else gl (mcpy s0 (14 + x0.toNat) x1 (14 + x2.toNat) x3 x4) (fun s24 => (x4, s24)))) else ((-13), s0)) else ((-11), s0)) else ((-11), s0)) else ((-2), s0)) else ((-2), s0))
theorem f_X8_copy_e (x0 : Int) (x1 : Int) (x2 : Int) (x3 : Int) (x4 : Int) (s0 : gMem) : f_X8_copy x0 x1 x2 x3 x4 s0 = (if (f_X8_outside x0 4) = 0 then (if (f_X8_outside x2 4) = 0 then (if (f_X5_isMissing  x0.toNat s0) = 0 then (if (f_X5_isMissing  x2.toNat s0) = 0 then (if (s0 (90 + x0.toNat) 0) = (s0 (90 + x2.toNat) 0) then (if (f_X5_holds x1 x4 x0.toNat s0) = 0 then ((-12), s0) else (if (f_X5_holds x3 x4 x2.toNat s0) = 0 then ((-12), s0) else gl (mcpy s0 (14 + x0.toNat) x1 (14 + x2.toNat) x3 x4) (fun s24 => (x4, s24)))) else ((-13), s0)) else ((-11), s0)) else ((-11), s0)) else ((-2), s0)) else ((-2), s0)) := rfl
set_option maxRecDepth 100000 in
set_option maxHeartbeats 4000000 in
theorem f_X8_copy_p (x0 : Int) (x1 : Int) (x2 : Int) (x3 : Int) (x4 : Int) (s0 : gMem) (hx0 : in32 x0) (hx1 : in32 x1) (hx2 : in32 x2) (hx3 : in32 x3) (hx4 : in32 x4) (hm_s0 : gMR lgX s0) (hpre0 : SSo s0) (hpre1 : SSi s0) (rZ : Int) (sZ : gMem) (hres : f_X8_copy x0 x1 x2 x3 x4 s0 = (rZ, sZ)) : (fr [14, 15, 16, 17] s0 sZ) ∧ (gMR lgX sZ) ∧ (in32 rZ) := by
  have hT := f_X8_copy_e x0 x1 x2 x3 x4 s0
  have hf_s0 : fr [14, 15, 16, 17] s0 s0 := fr.rf _ _
  have hp2 := f_X8_outside_p x0 4 (by omega) (by omega) 
  by_cases h3 : (f_X8_outside x0 4) = 0
  · replace hT := hT.trans (if_pos h3)
    have hp5 := f_X8_outside_p x2 4 (by omega) (by omega) 
    by_cases h6 : (f_X8_outside x2 4) = 0
    · replace hT := hT.trans (if_pos h6)
      have hp8 := f_X5_isMissing_p  x0.toNat s0  (by omega) hm_s0 
      by_cases h9 : (f_X5_isMissing  x0.toNat s0) = 0
      · replace hT := hT.trans (if_pos h9)
        have hp11 := f_X5_isMissing_p  x2.toNat s0  (by omega) hm_s0 
        by_cases h12 : (f_X5_isMissing  x2.toNat s0) = 0
        · replace hT := hT.trans (if_pos h12)
          have hr13 := (hm_s0 (90 + x0.toNat) 0).1 (shL1 (by omega))
          have hi14 := hpre0 x0.toNat (by omega) 0
          have hr15 := (hm_s0 (90 + x2.toNat) 0).1 (shL1 (by omega))
          have hi16 := hpre0 x2.toNat (by omega) 0
          by_cases h17 : (s0 (90 + x0.toNat) 0) = (s0 (90 + x2.toNat) 0)
          · replace hT := hT.trans (if_pos h17)
            have hp19 := f_X5_holds_p x1 x4 x0.toNat s0 (by omega) (by omega) (by omega) hm_s0 hpre1
            by_cases h20 : (f_X5_holds x1 x4 x0.toNat s0) = 0
            · replace hT := hT.trans (if_pos h20)
              obtain ⟨rfl, rfl⟩ := Prod.mk.inj (hT.symm.trans hres)
              exact ⟨hf_s0, hm_s0, (by omega)⟩
            · replace hT := hT.trans (if_neg h20)
              have hp22 := f_X5_holds_p x3 x4 x2.toNat s0 (by omega) (by omega) (by omega) hm_s0 hpre1
              by_cases h23 : (f_X5_holds x3 x4 x2.toNat s0) = 0
              · replace hT := hT.trans (if_pos h23)
                obtain ⟨rfl, rfl⟩ := Prod.mk.inj (hT.symm.trans hres)
                exact ⟨hf_s0, hm_s0, (by omega)⟩
              · replace hT := hT.trans (if_neg h23)
                obtain ⟨s24, hs24, hT⟩ := glx hT
                have hf_s24 : fr [14, 15, 16, 17] s0 s24 := hs24 ▸ hf_s0.cpy (memb 14 4 (by omega) (by decide))
                have hm_s24 : gMR lgX s24 := hs24 ▸ hm_s0.cpy32 (scL (by omega)) (scL (by omega))
                obtain ⟨rfl, rfl⟩ := Prod.mk.inj (hT.symm.trans hres)
                exact ⟨hf_s24, hm_s24, (by omega)⟩
          · replace hT := hT.trans (if_neg h17)
            obtain ⟨rfl, rfl⟩ := Prod.mk.inj (hT.symm.trans hres)
            exact ⟨hf_s0, hm_s0, (by omega)⟩
        · replace hT := hT.trans (if_neg h12)
          obtain ⟨rfl, rfl⟩ := Prod.mk.inj (hT.symm.trans hres)
          exact ⟨hf_s0, hm_s0, (by omega)⟩
      · replace hT := hT.trans (if_neg h9)
        obtain ⟨rfl, rfl⟩ := Prod.mk.inj (hT.symm.trans hres)
        exact ⟨hf_s0, hm_s0, (by omega)⟩
    · replace hT := hT.trans (if_neg h6)
      obtain ⟨rfl, rfl⟩ := Prod.mk.inj (hT.symm.trans hres)
      exact ⟨hf_s0, hm_s0, (by omega)⟩
  · replace hT := hT.trans (if_neg h3)
    obtain ⟨rfl, rfl⟩ := Prod.mk.inj (hT.symm.trans hres)
    exact ⟨hf_s0, hm_s0, (by omega)⟩
set_option maxRecDepth 100000 in
set_option maxHeartbeats 4000000 in
theorem c_X8_copy (l : Launch) (D : va_G) (a : Nat → Nat) (cI cJ cS cT : ClassId) (s0 : gMem) (x0 : Int) (x1 : Int) (x2 : Int) (x3 : Int) (x4 : Int) (hx0 : in32 x0) (hx1 : in32 x1) (hx2 : in32 x2) (hx3 : in32 x3) (hx4 : in32 x4) (hpre0 : SSo s0) (hpre1 : SSi s0) : gC l yX8_copy cX8_copy 8 (some .int) 2 128 D vwCl (gT cI cJ cS cT) (wdX a cI cJ cS cT) lgX kI in32 [.ref (a 0), gI x0, gI x1, gI x2, gI x3, gI x4] s0 (f_X8_copy x0 x1 x2 x3 x4 s0) := by
  refine gC_of (by decide +kernel) (hwdX a cI cJ cS cT) (Nat.le_of_ble_eq_true rfl) ?_
  intro A p e R s m args below meth c hR E
  subst hR
  have hT := f_X8_copy_e x0 x1 x2 x3 x4 s0
  have hf_s0 : fr [14, 15, 16, 17] s0 s0 := fr.rf _ _
  refine k_lv0 (lv' := [(0, .ref (a 0)), (1, gI x0), (2, gI x1), (3, gI x2), (4, gI x3), (5, gI x4)]) rfl ?_
  refine k_mr (fun hm_s0 => ?_)
  refine k_iloadn (pc := 0) E 1 dX8_copy_0 rfl rfl ?_
  refine k_iconst (pc := 1) E dX8_copy_1 ?_
  refine k_mr (fun hm_s0 => ?_)
  refine k_callS (pc := 2) (np := 2) (As := [gI x0, gI 4]) (st := []) E (c_X8_outside l D a cI cJ cS cT s0 x0 4 (by omega) (by omega)) wm_310 wm_1 wm_308 wm_309 (by decide +kernel) ⟨by decide, by decide⟩ rfl (Nat.le_of_ble_eq_true rfl) dX8_copy_2 (ro_kk (fun hr1 => ?_))
  have hp2 := f_X8_outside_p x0 4 (by omega) (by omega) 
  refine k_st (st' := [gI (f_X8_outside x0 4)]) rfl ?_
  by_cases h3 : (f_X8_outside x0 4) = 0
  · replace hT := hT.trans (if_pos h3)
    refine k_if_ne_f (pc := 5) (tgt := 16) E (by omega) dX8_copy_5 (by decide) h3 ?_
    refine k_iloadn (pc := 8) E 3 dX8_copy_8 rfl rfl ?_
    refine k_iconst (pc := 9) E dX8_copy_9 ?_
    refine k_mr (fun hm_s0 => ?_)
    refine k_callS (pc := 10) (np := 2) (As := [gI x2, gI 4]) (st := []) E (c_X8_outside l D a cI cJ cS cT s0 x2 4 (by omega) (by omega)) wm_310 wm_1 wm_308 wm_309 (by decide +kernel) ⟨by decide, by decide⟩ rfl (Nat.le_of_ble_eq_true rfl) dX8_copy_10 (ro_kk (fun hr4 => ?_))
    have hp5 := f_X8_outside_p x2 4 (by omega) (by omega) 
    refine k_st (st' := [gI (f_X8_outside x2 4)]) rfl ?_
    by_cases h6 : (f_X8_outside x2 4) = 0
    · replace hT := hT.trans (if_pos h6)
      refine k_if_eq_t (pc := 13) (tgt := 19) E (by omega) dX8_copy_13 (by decide) h6 ?_
      refine k_aloadn (pc := 19) E 0 dX8_copy_19 rfl rfl ?_
      refine k_getf (pc := 20) (q0 := 0) (f := 7) (v := .ref (a 9)) E inX8 rfl rfl (by decide) wm_279 rfl rfl dX8_copy_20 ?_
      refine k_iloadn (pc := 23) E 1 dX8_copy_23 rfl rfl ?_
      refine k_aaload (pc := 24) (q0 := 9) (t0 := 2) (b := 10) (n := 4) E rfl rfl (by decide) (by omega) (by omega) dX8_copy_24 ?_
      refine k_astore (pc := 25) (lv' := [(6, .ref (a (10 + x0.toNat))), (0, .ref (a 0)), (1, gI x0), (2, gI x1), (3, gI x2), (4, gI x3), (5, gI x4)]) E dX8_copy_25 (by decide) rfl ?_
      refine k_aloadn (pc := 27) E 1 dX8_copy_27 rfl rfl ?_
      refine k_getf (pc := 28) (q0 := 0) (f := 7) (v := .ref (a 9)) E inX8 rfl rfl (by decide) wm_279 rfl rfl dX8_copy_28 ?_
      refine k_iloadn (pc := 31) E 4 dX8_copy_31 rfl rfl ?_
      refine k_aaload (pc := 32) (q0 := 9) (t0 := 2) (b := 10) (n := 4) E rfl rfl (by decide) (by omega) (by omega) dX8_copy_32 ?_
      refine k_astore (pc := 33) (lv' := [(7, .ref (a (10 + x2.toNat))), (6, .ref (a (10 + x0.toNat))), (0, .ref (a 0)), (1, gI x0), (2, gI x1), (3, gI x2), (4, gI x3), (5, gI x4)]) E dX8_copy_33 (by decide) rfl ?_
      refine k_aload (pc := 35) E 1 dX8_copy_35 rfl ?_
      refine k_mr (fun hm_s0 => ?_)
      refine k_callV (pc := 37) (np := 0) (As := []) (st := []) (q0 := (10 + x0.toNat)) E (c_X5_isMissing l D a cI cJ cS cT x0.toNat (by omega) s0  ) wm_748 wm_10 wm_745 wm_746 wm_747 (by decide +kernel) (shO a cI cJ cS cT s0 (by omega)) rfl ⟨by decide, by decide⟩ rfl (Nat.le_of_ble_eq_true rfl) dX8_copy_37 (ro_kk (fun hr7 => ?_))
      have hp8 := f_X5_isMissing_p  x0.toNat s0  (by omega) hm_s0 
      refine k_st (st' := [gI (f_X5_isMissing  x0.toNat s0)]) rfl ?_
      by_cases h9 : (f_X5_isMissing  x0.toNat s0) = 0
      · replace hT := hT.trans (if_pos h9)
        refine k_if_ne_f (pc := 40) (tgt := 51) E (by omega) dX8_copy_40 (by decide) h9 ?_
        refine k_aload (pc := 43) E 0 dX8_copy_43 rfl ?_
        refine k_mr (fun hm_s0 => ?_)
        refine k_callV (pc := 45) (np := 0) (As := []) (st := []) (q0 := (10 + x2.toNat)) E (c_X5_isMissing l D a cI cJ cS cT x2.toNat (by omega) s0  ) wm_748 wm_10 wm_745 wm_746 wm_747 (by decide +kernel) (shO a cI cJ cS cT s0 (by omega)) rfl ⟨by decide, by decide⟩ rfl (Nat.le_of_ble_eq_true rfl) dX8_copy_45 (ro_kk (fun hr10 => ?_))
        have hp11 := f_X5_isMissing_p  x2.toNat s0  (by omega) hm_s0 
        refine k_st (st' := [gI (f_X5_isMissing  x2.toNat s0)]) rfl ?_
        by_cases h12 : (f_X5_isMissing  x2.toNat s0) = 0
        · replace hT := hT.trans (if_pos h12)
          refine k_if_eq_t (pc := 48) (tgt := 54) E (by omega) dX8_copy_48 (by decide) h12 ?_
          refine k_aload (pc := 54) E 1 dX8_copy_54 rfl ?_
          refine k_getfI (pc := 56) (q0 := (10 + x0.toNat)) (f := 1) (k := (90 + x0.toNat)) E inX5 (shO a cI cJ cS cT s0 (by omega)) rfl (by decide) wm_262 rfl rfl (shL1 (by omega)) dX8_copy_56 (fun hr13 => ?_)
          have hi14 := hpre0 x0.toNat (by omega) 0
          refine k_aload (pc := 59) E 0 dX8_copy_59 rfl ?_
          refine k_getfI (pc := 61) (q0 := (10 + x2.toNat)) (f := 1) (k := (90 + x2.toNat)) E inX5 (shO a cI cJ cS cT s0 (by omega)) rfl (by decide) wm_262 rfl rfl (shL1 (by omega)) dX8_copy_61 (fun hr15 => ?_)
          have hi16 := hpre0 x2.toNat (by omega) 0
          by_cases h17 : (s0 (90 + x0.toNat) 0) = (s0 (90 + x2.toNat) 0)
          · replace hT := hT.trans (if_pos h17)
            refine k_icmp_eq_t (pc := 64) (tgt := 70) E (by omega) (by omega) dX8_copy_64 (by decide) h17 ?_
            refine k_aload (pc := 70) E 1 dX8_copy_70 rfl ?_
            refine k_iloadn (pc := 72) E 4 dX8_copy_72 rfl rfl ?_
            refine k_iload (pc := 73) E 7 dX8_copy_73 rfl ?_
            refine k_mr (fun hm_s0 => ?_)
            refine k_callV (pc := 75) (np := 2) (As := [gI x1, gI x4]) (st := []) (q0 := (10 + x0.toNat)) E (c_X5_holds l D a cI cJ cS cT x0.toNat (by omega) s0 x1 x4 (by omega) (by omega) hpre1) wm_825 wm_10 wm_822 wm_823 wm_824 (by decide +kernel) (shO a cI cJ cS cT s0 (by omega)) rfl ⟨by decide, by decide⟩ rfl (Nat.le_of_ble_eq_true rfl) dX8_copy_75 (ro_kk (fun hr18 => ?_))
            have hp19 := f_X5_holds_p x1 x4 x0.toNat s0 (by omega) (by omega) (by omega) hm_s0 hpre1
            refine k_st (st' := [gI (f_X5_holds x1 x4 x0.toNat s0)]) rfl ?_
            by_cases h20 : (f_X5_holds x1 x4 x0.toNat s0) = 0
            · replace hT := hT.trans (if_pos h20)
              refine k_if_eq_t (pc := 78) (tgt := 93) E (by omega) dX8_copy_78 (by decide) h20 ?_
              refine k_bipush (pc := 93) E dX8_copy_93 (by decide) ?_
              exact k_rho hT (k_iret (pc := 95) E dX8_copy_95 (by omega))
            · replace hT := hT.trans (if_neg h20)
              refine k_if_eq_f (pc := 78) (tgt := 93) E (by omega) dX8_copy_78 (by decide) h20 ?_
              refine k_aload (pc := 81) E 0 dX8_copy_81 rfl ?_
              refine k_iload (pc := 83) E 6 dX8_copy_83 rfl ?_
              refine k_iload (pc := 85) E 7 dX8_copy_85 rfl ?_
              refine k_mr (fun hm_s0 => ?_)
              refine k_callV (pc := 87) (np := 2) (As := [gI x3, gI x4]) (st := []) (q0 := (10 + x2.toNat)) E (c_X5_holds l D a cI cJ cS cT x2.toNat (by omega) s0 x3 x4 (by omega) (by omega) hpre1) wm_825 wm_10 wm_822 wm_823 wm_824 (by decide +kernel) (shO a cI cJ cS cT s0 (by omega)) rfl ⟨by decide, by decide⟩ rfl (Nat.le_of_ble_eq_true rfl) dX8_copy_87 (ro_kk (fun hr21 => ?_))
              have hp22 := f_X5_holds_p x3 x4 x2.toNat s0 (by omega) (by omega) (by omega) hm_s0 hpre1
              refine k_st (st' := [gI (f_X5_holds x3 x4 x2.toNat s0)]) rfl ?_
              by_cases h23 : (f_X5_holds x3 x4 x2.toNat s0) = 0
              · replace hT := hT.trans (if_pos h23)
                refine k_if_ne_f (pc := 90) (tgt := 96) E (by omega) dX8_copy_90 (by decide) h23 ?_
                refine k_bipush (pc := 93) E dX8_copy_93 (by decide) ?_
                exact k_rho hT (k_iret (pc := 95) E dX8_copy_95 (by omega))
              · replace hT := hT.trans (if_neg h23)
                refine k_if_ne_t (pc := 90) (tgt := 96) E (by omega) dX8_copy_90 (by decide) h23 ?_
                refine k_aload (pc := 96) E 1 dX8_copy_96 rfl ?_
                refine k_getf (pc := 98) (q0 := (10 + x0.toNat)) (f := 0) (v := .ref (a (14 + x0.toNat))) E inX5 (shO a cI cJ cS cT s0 (by omega)) rfl (by decide) wm_260 rfl rfl dX8_copy_98 ?_
                refine k_iloadn (pc := 101) E 4 dX8_copy_101 rfl rfl ?_
                refine k_aload (pc := 102) E 0 dX8_copy_102 rfl ?_
                refine k_getf (pc := 104) (q0 := (10 + x2.toNat)) (f := 0) (v := .ref (a (14 + x2.toNat))) E inX5 (shO a cI cJ cS cT s0 (by omega)) rfl (by decide) wm_260 rfl rfl dX8_copy_104 ?_
                refine k_iload (pc := 107) E 6 dX8_copy_107 rfl ?_
                refine k_iload (pc := 109) E 7 dX8_copy_109 rfl ?_
                refine k_copyi (pc := 111) (q0 := (14 + x0.toNat)) (q1 := (14 + x2.toNat)) (k0 := (14 + x0.toNat)) (k1 := (14 + x2.toNat)) (n0 := 40) (n1 := 40) E wm_826 wm_467 wm_466 wm_16 (scA a cI cJ cS cT s0 (by omega)) (scA a cI cJ cS cT s0 (by omega)) (scC a cI cJ cS cT s0 (14 + x0.toNat) x1 x3 x4 (by omega)) rfl (scL (by omega)) (scL (by omega)) (by decide) (by decide) (by omega) (by omega) (by omega) (by omega) (by omega) (by decide) (Nat.le_of_ble_eq_true rfl) dX8_copy_111 ?_
                obtain ⟨s24, hs24, hT⟩ := glx hT
                refine k_sg hs24.symm ?_
                have hf_s24 : fr [14, 15, 16, 17] s0 s24 := hs24 ▸ hf_s0.cpy (memb 14 4 (by omega) (by decide))
                refine k_iload (pc := 114) E 7 dX8_copy_114 rfl ?_
                exact k_rho hT (k_iret (pc := 116) E dX8_copy_116 (by omega))
          · replace hT := hT.trans (if_neg h17)
            refine k_icmp_eq_f (pc := 64) (tgt := 70) E (by omega) (by omega) dX8_copy_64 (by decide) h17 ?_
            refine k_bipush (pc := 67) E dX8_copy_67 (by decide) ?_
            exact k_rho hT (k_iret (pc := 69) E dX8_copy_69 (by omega))
        · replace hT := hT.trans (if_neg h12)
          refine k_if_eq_f (pc := 48) (tgt := 54) E (by omega) dX8_copy_48 (by decide) h12 ?_
          refine k_bipush (pc := 51) E dX8_copy_51 (by decide) ?_
          exact k_rho hT (k_iret (pc := 53) E dX8_copy_53 (by omega))
      · replace hT := hT.trans (if_neg h9)
        refine k_if_ne_t (pc := 40) (tgt := 51) E (by omega) dX8_copy_40 (by decide) h9 ?_
        refine k_bipush (pc := 51) E dX8_copy_51 (by decide) ?_
        exact k_rho hT (k_iret (pc := 53) E dX8_copy_53 (by omega))
    · replace hT := hT.trans (if_neg h6)
      refine k_if_eq_f (pc := 13) (tgt := 19) E (by omega) dX8_copy_13 (by decide) h6 ?_
      refine k_bipush (pc := 16) E dX8_copy_16 (by decide) ?_
      exact k_rho hT (k_iret (pc := 18) E dX8_copy_18 (by omega))
  · replace hT := hT.trans (if_neg h3)
    refine k_if_ne_t (pc := 5) (tgt := 16) E (by omega) dX8_copy_5 (by decide) h3 ?_
    refine k_bipush (pc := 16) E dX8_copy_16 (by decide) ?_
    exact k_rho hT (k_iret (pc := 18) E dX8_copy_18 (by omega))

def t_X8_layBy_66 (x0 : Int) (c3 : Int) (c4 : Int) : Nat → Int → Int → gMem → gRes
  | 0, v16, v17, s18 => (0, s18)
  | n19 + 1, v16, v17, s18 => (if v17 < c4 then (if (f_X5_holds (iwr (c3 + (3 * v17))) 3 x0.toNat s18) = 0 then ((-12), s18) else gb (f_X8_lay (s18 (14 + x0.toNat) (iwr (c3 + (3 * v17)))) (s18 (14 + x0.toNat) ((iwr (c3 + (3 * v17))) + 1)) (s18 (14 + x0.toNat) ((iwr (c3 + (3 * v17))) + 2)) s18) (fun r29 s30 => (gl ((if r29 < 0 then v16 else (v16 + 1))) (fun v35 => (t_X8_layBy_66 x0 c3 c4 n19 v35 (v17 + 1) s30))))) else (v16, s18))
theorem t_X8_layBy_66_s (x0 : Int) (c3 : Int) (c4 : Int) (n19 : Nat) (v16 : Int) (v17 : Int) (s18 : gMem) : t_X8_layBy_66 x0 c3 c4 (n19 + 1) v16 v17 s18 = (if v17 < c4 then (if (f_X5_holds (iwr (c3 + (3 * v17))) 3 x0.toNat s18) = 0 then ((-12), s18) else gb (f_X8_lay (s18 (14 + x0.toNat) (iwr (c3 + (3 * v17)))) (s18 (14 + x0.toNat) ((iwr (c3 + (3 * v17))) + 1)) (s18 (14 + x0.toNat) ((iwr (c3 + (3 * v17))) + 2)) s18) (fun r29 s30 => (gl ((if r29 < 0 then v16 else (v16 + 1))) (fun v35 => (t_X8_layBy_66 x0 c3 c4 n19 v35 (v17 + 1) s30))))) else (v16, s18)) := rfl
def f_X8_layBy (x0 : Int) (x1 : Int) (x2 : Int) (x3 : Int) (s0 : gMem) : gRes := (if (f_X8_outside x0 4) = 0 then (if (f_X8_outside x1 3) = 0 then (if (f_X8_outside x3 14) = 0 then (if (f_X5_isMissing  x0.toNat s0) = 0 then (if (s0 (90 + x0.toNat) 0) = x1 then (t_X8_layBy_66 x0 x2 x3 14 0 0 s0) else ((-13), s0)) else ((-11), s0)) else ((-2), s0)) else ((-2), s0)) else ((-2), s0))
theorem f_X8_layBy_e (x0 : Int) (x1 : Int) (x2 : Int) (x3 : Int) (s0 : gMem) : f_X8_layBy x0 x1 x2 x3 s0 = (if (f_X8_outside x0 4) = 0 then (if (f_X8_outside x1 3) = 0 then (if (f_X8_outside x3 14) = 0 then (if (f_X5_isMissing  x0.toNat s0) = 0 then (if (s0 (90 + x0.toNat) 0) = x1 then (t_X8_layBy_66 x0 x2 x3 14 0 0 s0) else ((-13), s0)) else ((-11), s0)) else ((-2), s0)) else ((-2), s0)) else ((-2), s0)) := rfl
set_option maxRecDepth 100000 in
set_option maxHeartbeats 4000000 in
theorem f_X8_layBy_p (x0 : Int) (x1 : Int) (x2 : Int) (x3 : Int) (s0 : gMem) (hx0 : in32 x0) (hx1 : in32 x1) (hx2 : in32 x2) (hx3 : in32 x3) (hm_s0 : gMR lgX s0) (hpre0 : KNx s0) (hpre1 : MOx s0) (hpre2 : KF s0) (hpre3 : KC s0) (hpre4 : KT s0) (hpre5 : SSo s0) (hpre6 : SSi s0) (rZ : Int) (sZ : gMem) (hres : f_X8_layBy x0 x1 x2 x3 s0 = (rZ, sZ)) : (fr [37, 38, 39, 40, 41] s0 sZ) ∧ (gMR lgX sZ) ∧ (in32 rZ) ∧ (KNx sZ) ∧ (MOx sZ) ∧ (KF sZ) ∧ (KC sZ) ∧ (KT sZ) := by
  have hT := f_X8_layBy_e x0 x1 x2 x3 s0
  have hf_s0 : fr [37, 38, 39, 40, 41] s0 s0 := fr.rf _ _
  have hKNx_s0 := hpre0
  have hMOx_s0 := hpre1
  have hKF_s0 := hpre2
  have hKC_s0 := hpre3
  have hKT_s0 := hpre4
  have hp2 := f_X8_outside_p x0 4 (by omega) (by omega) 
  by_cases h3 : (f_X8_outside x0 4) = 0
  · replace hT := hT.trans (if_pos h3)
    have hp5 := f_X8_outside_p x1 3 (by omega) (by omega) 
    by_cases h6 : (f_X8_outside x1 3) = 0
    · replace hT := hT.trans (if_pos h6)
      have hp8 := f_X8_outside_p x3 14 (by omega) (by omega) 
      by_cases h9 : (f_X8_outside x3 14) = 0
      · replace hT := hT.trans (if_pos h9)
        have hp11 := f_X5_isMissing_p  x0.toNat s0  (by omega) hm_s0 
        by_cases h12 : (f_X5_isMissing  x0.toNat s0) = 0
        · replace hT := hT.trans (if_pos h12)
          have hr13 := (hm_s0 (90 + x0.toNat) 0).1 (shL1 (by omega))
          have hi14 := hpre5 x0.toNat (by omega) 0
          by_cases h15 : (s0 (90 + x0.toNat) 0) = x1
          · replace hT := hT.trans (if_pos h15)
            have L41 : ∀ (n42 : Nat) (v38 : Int) (v39 : Int) (s40 : gMem), ((in32 v38) ∧ (in32 v39) ∧ (fr [37, 38, 39, 40, 41] s0 s40) ∧ (gMR lgX s40) ∧ (KNx s40) ∧ (MOx s40) ∧ (KF s40) ∧ (KC s40) ∧ (KT s40) ∧ (0 ≤ v39 ∧ v39 ≤ 13) ∧ (0 ≤ v38 ∧ v38 ≤ v39)) → 13 - v39 < (n42 : Int) → (f_X8_layBy x0 x1 x2 x3 s0) = (t_X8_layBy_66 x0 x2 x3 n42 v38 v39 s40) → (fr [37, 38, 39, 40, 41] s0 sZ) ∧ (gMR lgX sZ) ∧ (in32 rZ) ∧ (KNx sZ) ∧ (MOx sZ) ∧ (KF sZ) ∧ (KC sZ) ∧ (KT sZ) := by
              intro n42; induction n42 with
              | zero =>
                intro v38 v39 s40 hq hm hT
                exfalso
                obtain ⟨hq64, hq65, hf_s40, hm_s40, hKNx_s40, hMOx_s40, hKF_s40, hKC_s40, hKT_s40, hq66, hq67⟩ := hq
                omega
              | succ n42 ih =>
                intro v38 v39 s40 hq hm hT
                obtain ⟨hq68, hq69, hf_s40, hm_s40, hKNx_s40, hMOx_s40, hKF_s40, hKC_s40, hKT_s40, hq70, hq71⟩ := hq
                replace hT := hT.trans (t_X8_layBy_66_s x0 x2 x3 n42 v38 v39 s40)
                by_cases h46 : v39 < x3
                · replace hT := hT.trans (if_pos h46)
                  have hb47 := iwr_rg (x2 + (3 * v39))
                  have hp49 := f_X5_holds_p (iwr (x2 + (3 * v39))) 3 x0.toNat s40 (by omega) (by omega) (by omega) hm_s40 (SSi_fr hpre6 (fun k hk => hf_s40 k (dj (by decide) k hk)))
                  by_cases h50 : (f_X5_holds (iwr (x2 + (3 * v39))) 3 x0.toNat s40) = 0
                  · replace hT := hT.trans (if_pos h50)
                    obtain ⟨rfl, rfl⟩ := Prod.mk.inj (hT.symm.trans hres)
                    exact ⟨hf_s40, hm_s40, (by omega), hKNx_s40, hMOx_s40, hKF_s40, hKC_s40, hKT_s40⟩
                  · replace hT := hT.trans (if_neg h50)
                    have hr51 := (hm_s40 (14 + x0.toNat) (iwr (x2 + (3 * v39)))).1 (scL (by omega))
                    have hr52 := (hm_s40 (14 + x0.toNat) ((iwr (x2 + (3 * v39))) + 1)).1 (scL (by omega))
                    have hr53 := (hm_s40 (14 + x0.toNat) ((iwr (x2 + (3 * v39))) + 2)).1 (scL (by omega))
                    obtain ⟨r55, s56, hs56⟩ : ∃ rr ss, (f_X8_lay (s40 (14 + x0.toNat) (iwr (x2 + (3 * v39)))) (s40 (14 + x0.toNat) ((iwr (x2 + (3 * v39))) + 1)) (s40 (14 + x0.toNat) ((iwr (x2 + (3 * v39))) + 2)) s40) = (rr, ss) := ⟨_, _, rfl⟩
                    replace hT := gby hT hs56
                    have hp57 := f_X8_lay_p (s40 (14 + x0.toNat) (iwr (x2 + (3 * v39)))) (s40 (14 + x0.toNat) ((iwr (x2 + (3 * v39))) + 1)) (s40 (14 + x0.toNat) ((iwr (x2 + (3 * v39))) + 2)) s40 (by omega) (by omega) (by omega) hm_s40 hKNx_s40 hMOx_s40 hKF_s40 hKC_s40 hKT_s40 r55 s56 hs56
                    obtain ⟨hfc_s56, hm_s56, hp58, hKNx_s56, hMOx_s56, hKF_s56, hKC_s56, hKT_s56⟩ := hp57
                    have hf_s56 : fr [37, 38, 39, 40, 41] s0 s56 := hf_s40.call (by decide) hfc_s56
                    obtain ⟨z63, hz63, hT⟩ := gl1x hT
                    have j60 : ∀ (v61 : Int), ((in32 v61)) → z63 = v61 → (fr [37, 38, 39, 40, 41] s0 sZ) ∧ (gMR lgX sZ) ∧ (in32 rZ) ∧ (KNx sZ) ∧ (MOx sZ) ∧ (KF sZ) ∧ (KC sZ) ∧ (KT sZ) := by
                      intro v61 hq hz
                      have hq62 := hq
                      replace hT := gl1y hT hz
                      exact ih v61 (v39 + 1) s56 ⟨(by omega), (by omega), hf_s56, hm_s56, hKNx_s56, hMOx_s56, hKF_s56, hKC_s56, hKT_s56, (by first | assumption | omega), (by first | assumption | omega)⟩ (by omega) hT
                    replace hT := hz63
                    by_cases h59 : r55 < 0
                    · replace hT := hT.trans (if_pos h59)
                      exact j60 v38 (by omega) hT
                    · replace hT := hT.trans (if_neg h59)
                      exact j60 (v38 + 1) (by omega) hT
                · replace hT := hT.trans (if_neg h46)
                  obtain ⟨rfl, rfl⟩ := Prod.mk.inj (hT.symm.trans hres)
                  exact ⟨hf_s40, hm_s40, (by omega), hKNx_s40, hMOx_s40, hKF_s40, hKC_s40, hKT_s40⟩
            exact L41 14 0 0 s0 ⟨(by omega), (by omega), hf_s0, hm_s0, hKNx_s0, hMOx_s0, hKF_s0, hKC_s0, hKT_s0, (by first | assumption | omega), (by first | assumption | omega)⟩ (by omega) hT
          · replace hT := hT.trans (if_neg h15)
            obtain ⟨rfl, rfl⟩ := Prod.mk.inj (hT.symm.trans hres)
            exact ⟨hf_s0, hm_s0, (by omega), hKNx_s0, hMOx_s0, hKF_s0, hKC_s0, hKT_s0⟩
        · replace hT := hT.trans (if_neg h12)
          obtain ⟨rfl, rfl⟩ := Prod.mk.inj (hT.symm.trans hres)
          exact ⟨hf_s0, hm_s0, (by omega), hKNx_s0, hMOx_s0, hKF_s0, hKC_s0, hKT_s0⟩
      · replace hT := hT.trans (if_neg h9)
        obtain ⟨rfl, rfl⟩ := Prod.mk.inj (hT.symm.trans hres)
        exact ⟨hf_s0, hm_s0, (by omega), hKNx_s0, hMOx_s0, hKF_s0, hKC_s0, hKT_s0⟩
    · replace hT := hT.trans (if_neg h6)
      obtain ⟨rfl, rfl⟩ := Prod.mk.inj (hT.symm.trans hres)
      exact ⟨hf_s0, hm_s0, (by omega), hKNx_s0, hMOx_s0, hKF_s0, hKC_s0, hKT_s0⟩
  · replace hT := hT.trans (if_neg h3)
    obtain ⟨rfl, rfl⟩ := Prod.mk.inj (hT.symm.trans hres)
    exact ⟨hf_s0, hm_s0, (by omega), hKNx_s0, hMOx_s0, hKF_s0, hKC_s0, hKT_s0⟩
set_option maxRecDepth 100000 in
set_option maxHeartbeats 4000000 in
theorem c_X8_layBy (l : Launch) (D : va_G) (a : Nat → Nat) (cI cJ cS cT : ClassId) (s0 : gMem) (x0 : Int) (x1 : Int) (x2 : Int) (x3 : Int) (hx0 : in32 x0) (hx1 : in32 x1) (hx2 : in32 x2) (hx3 : in32 x3) (hpre0 : KNx s0) (hpre1 : MOx s0) (hpre2 : KF s0) (hpre3 : KC s0) (hpre4 : KT s0) (hpre5 : SSo s0) (hpre6 : SSi s0) : gC l yX8_layBy cX8_layBy 9 (some .int) 5 320 D vwCl (gT cI cJ cS cT) (wdX a cI cJ cS cT) lgX kI in32 [.ref (a 0), gI x0, gI x1, gI x2, gI x3] s0 (f_X8_layBy x0 x1 x2 x3 s0) := by
  refine gC_of (by decide +kernel) (hwdX a cI cJ cS cT) (Nat.le_of_ble_eq_true rfl) ?_
  intro A p e R s m args below meth c hR E
  subst hR
  have hT := f_X8_layBy_e x0 x1 x2 x3 s0
  have hf_s0 : fr [37, 38, 39, 40, 41] s0 s0 := fr.rf _ _
  refine k_lv0 (lv' := [(0, .ref (a 0)), (1, gI x0), (2, gI x1), (3, gI x2), (4, gI x3)]) rfl ?_
  refine k_mr (fun hm_s0 => ?_)
  have hKNx_s0 := hpre0
  have hMOx_s0 := hpre1
  have hKF_s0 := hpre2
  have hKC_s0 := hpre3
  have hKT_s0 := hpre4
  refine k_iloadn (pc := 0) E 1 dX8_layBy_0 rfl rfl ?_
  refine k_iconst (pc := 1) E dX8_layBy_1 ?_
  refine k_mr (fun hm_s0 => ?_)
  refine k_callS (pc := 2) (np := 2) (As := [gI x0, gI 4]) (st := []) E (c_X8_outside l D a cI cJ cS cT s0 x0 4 (by omega) (by omega)) wm_310 wm_1 wm_308 wm_309 (by decide +kernel) ⟨by decide, by decide⟩ rfl (Nat.le_of_ble_eq_true rfl) dX8_layBy_2 (ro_kk (fun hr1 => ?_))
  have hp2 := f_X8_outside_p x0 4 (by omega) (by omega) 
  refine k_st (st' := [gI (f_X8_outside x0 4)]) rfl ?_
  by_cases h3 : (f_X8_outside x0 4) = 0
  · replace hT := hT.trans (if_pos h3)
    refine k_if_ne_f (pc := 5) (tgt := 26) E (by omega) dX8_layBy_5 (by decide) h3 ?_
    refine k_iloadn (pc := 8) E 2 dX8_layBy_8 rfl rfl ?_
    refine k_iconst (pc := 9) E dX8_layBy_9 ?_
    refine k_mr (fun hm_s0 => ?_)
    refine k_callS (pc := 10) (np := 2) (As := [gI x1, gI 3]) (st := []) E (c_X8_outside l D a cI cJ cS cT s0 x1 3 (by omega) (by omega)) wm_310 wm_1 wm_308 wm_309 (by decide +kernel) ⟨by decide, by decide⟩ rfl (Nat.le_of_ble_eq_true rfl) dX8_layBy_10 (ro_kk (fun hr4 => ?_))
    have hp5 := f_X8_outside_p x1 3 (by omega) (by omega) 
    refine k_st (st' := [gI (f_X8_outside x1 3)]) rfl ?_
    by_cases h6 : (f_X8_outside x1 3) = 0
    · replace hT := hT.trans (if_pos h6)
      refine k_if_ne_f (pc := 13) (tgt := 26) E (by omega) dX8_layBy_13 (by decide) h6 ?_
      refine k_iload (pc := 16) E 4 dX8_layBy_16 rfl ?_
      refine k_bipush (pc := 18) E dX8_layBy_18 (by decide) ?_
      refine k_mr (fun hm_s0 => ?_)
      refine k_callS (pc := 20) (np := 2) (As := [gI x3, gI 14]) (st := []) E (c_X8_outside l D a cI cJ cS cT s0 x3 14 (by omega) (by omega)) wm_310 wm_1 wm_308 wm_309 (by decide +kernel) ⟨by decide, by decide⟩ rfl (Nat.le_of_ble_eq_true rfl) dX8_layBy_20 (ro_kk (fun hr7 => ?_))
      have hp8 := f_X8_outside_p x3 14 (by omega) (by omega) 
      refine k_st (st' := [gI (f_X8_outside x3 14)]) rfl ?_
      by_cases h9 : (f_X8_outside x3 14) = 0
      · replace hT := hT.trans (if_pos h9)
        refine k_if_eq_t (pc := 23) (tgt := 29) E (by omega) dX8_layBy_23 (by decide) h9 ?_
        refine k_aloadn (pc := 29) E 0 dX8_layBy_29 rfl rfl ?_
        refine k_getf (pc := 30) (q0 := 0) (f := 7) (v := .ref (a 9)) E inX8 rfl rfl (by decide) wm_279 rfl rfl dX8_layBy_30 ?_
        refine k_iloadn (pc := 33) E 1 dX8_layBy_33 rfl rfl ?_
        refine k_aaload (pc := 34) (q0 := 9) (t0 := 2) (b := 10) (n := 4) E rfl rfl (by decide) (by omega) (by omega) dX8_layBy_34 ?_
        refine k_astore (pc := 35) (lv' := [(5, .ref (a (10 + x0.toNat))), (0, .ref (a 0)), (1, gI x0), (2, gI x1), (3, gI x2), (4, gI x3)]) E dX8_layBy_35 (by decide) rfl ?_
        refine k_aload (pc := 37) E 0 dX8_layBy_37 rfl ?_
        refine k_mr (fun hm_s0 => ?_)
        refine k_callV (pc := 39) (np := 0) (As := []) (st := []) (q0 := (10 + x0.toNat)) E (c_X5_isMissing l D a cI cJ cS cT x0.toNat (by omega) s0  ) wm_748 wm_10 wm_745 wm_746 wm_747 (by decide +kernel) (shO a cI cJ cS cT s0 (by omega)) rfl ⟨by decide, by decide⟩ rfl (Nat.le_of_ble_eq_true rfl) dX8_layBy_39 (ro_kk (fun hr10 => ?_))
        have hp11 := f_X5_isMissing_p  x0.toNat s0  (by omega) hm_s0 
        refine k_st (st' := [gI (f_X5_isMissing  x0.toNat s0)]) rfl ?_
        by_cases h12 : (f_X5_isMissing  x0.toNat s0) = 0
        · replace hT := hT.trans (if_pos h12)
          refine k_if_eq_t (pc := 42) (tgt := 48) E (by omega) dX8_layBy_42 (by decide) h12 ?_
          refine k_aload (pc := 48) E 0 dX8_layBy_48 rfl ?_
          refine k_getfI (pc := 50) (q0 := (10 + x0.toNat)) (f := 1) (k := (90 + x0.toNat)) E inX5 (shO a cI cJ cS cT s0 (by omega)) rfl (by decide) wm_262 rfl rfl (shL1 (by omega)) dX8_layBy_50 (fun hr13 => ?_)
          have hi14 := hpre5 x0.toNat (by omega) 0
          refine k_iloadn (pc := 53) E 3 dX8_layBy_53 rfl rfl ?_
          by_cases h15 : (s0 (90 + x0.toNat) 0) = x1
          · replace hT := hT.trans (if_pos h15)
            refine k_icmp_eq_t (pc := 54) (tgt := 60) E (by omega) (by omega) dX8_layBy_54 (by decide) h15 ?_
            refine k_iconst (pc := 60) E dX8_layBy_60 ?_
            refine k_istore (pc := 61) (lv' := [(6, gI 0), (5, .ref (a (10 + x0.toNat))), (0, .ref (a 0)), (1, gI x0), (2, gI x1), (3, gI x2), (4, gI x3)]) E dX8_layBy_61 (by decide) rfl ?_
            refine k_iconst (pc := 63) E dX8_layBy_63 ?_
            refine k_istore (pc := 64) (lv' := [(7, gI 0), (6, gI 0), (5, .ref (a (10 + x0.toNat))), (0, .ref (a 0)), (1, gI x0), (2, gI x1), (3, gI x2), (4, gI x3)]) E dX8_layBy_64 (by decide) rfl ?_
            have L41 : ∀ (n42 : Nat) (v38 : Int) (v39 : Int) (s40 : gMem), ((in32 v38) ∧ (in32 v39) ∧ (fr [37, 38, 39, 40, 41] s0 s40) ∧ (KNx s40) ∧ (MOx s40) ∧ (KF s40) ∧ (KC s40) ∧ (KT s40) ∧ (0 ≤ v39 ∧ v39 ≤ 13) ∧ (0 ≤ v38 ∧ v38 ≤ v39)) → 13 - v39 < (n42 : Int) → (f_X8_layBy x0 x1 x2 x3 s0) = (t_X8_layBy_66 x0 x2 x3 n42 v38 v39 s40) → gK D vwCl (wdX a cI cJ cS cT) lgX A p l e { frames := 5, cells := 0, slots := 0, locals := 320 } s m args below meth c 9 (gQQ D vwCl (wdX a cI cJ cS cT) lgX A kI in32 below args s) (f_X8_layBy x0 x1 x2 x3 s0) s40 66 [(0, .ref (a 0)), (3, gI x2), (4, gI x3), (5, .ref (a (10 + x0.toNat))), (6, gI v38), (7, gI v39)] [] := by
              intro n42; induction n42 with
              | zero =>
                intro v38 v39 s40 hq hm hT
                exfalso
                obtain ⟨hq64, hq65, hf_s40, hKNx_s40, hMOx_s40, hKF_s40, hKC_s40, hKT_s40, hq66, hq67⟩ := hq
                omega
              | succ n42 ih =>
                intro v38 v39 s40 hq hm hT
                obtain ⟨hq68, hq69, hf_s40, hKNx_s40, hMOx_s40, hKF_s40, hKC_s40, hKT_s40, hq70, hq71⟩ := hq
                replace hT := hT.trans (t_X8_layBy_66_s x0 x2 x3 n42 v38 v39 s40)
                refine k_iload (pc := 66) E 5 dX8_layBy_66 rfl ?_
                refine k_iload (pc := 68) E 2 dX8_layBy_68 rfl ?_
                by_cases h46 : v39 < x3
                · replace hT := hT.trans (if_pos h46)
                  refine k_icmp_ge_f (pc := 70) (tgt := 139) E (by omega) (by omega) dX8_layBy_70 (by decide) h46 ?_
                  refine k_iloadn (pc := 73) E 1 dX8_layBy_73 rfl rfl ?_
                  refine k_iconst (pc := 74) E dX8_layBy_74 ?_
                  refine k_iload (pc := 75) E 5 dX8_layBy_75 rfl ?_
                  refine k_imul (pc := 77) E dX8_layBy_77 ?_
                  refine k_iadd (pc := 78) E dX8_layBy_78 ?_
                  refine k_st (st' := [gI (iwr (x2 + (3 * v39)))]) (congrArg (fun q => q :: []) (gIw (x2 + (3 * v39)))) ?_
                  have hb47 := iwr_rg (x2 + (3 * v39))
                  refine k_istore (pc := 79) (lv' := [(8, gI (iwr (x2 + (3 * v39)))), (0, .ref (a 0)), (3, gI x2), (4, gI x3), (5, .ref (a (10 + x0.toNat))), (6, gI v38), (7, gI v39)]) E dX8_layBy_79 (by decide) rfl ?_
                  refine k_aload (pc := 81) E 4 dX8_layBy_81 rfl ?_
                  refine k_iload (pc := 83) E 0 dX8_layBy_83 rfl ?_
                  refine k_iconst (pc := 85) E dX8_layBy_85 ?_
                  refine k_mr (fun hm_s40 => ?_)
                  refine k_callV (pc := 86) (np := 2) (As := [gI (iwr (x2 + (3 * v39))), gI 3]) (st := []) (q0 := (10 + x0.toNat)) E (c_X5_holds l D a cI cJ cS cT x0.toNat (by omega) s40 (iwr (x2 + (3 * v39))) 3 (by omega) (by omega) (SSi_fr hpre6 (fun k hk => hf_s40 k (dj (by decide) k hk)))) wm_825 wm_10 wm_822 wm_823 wm_824 (by decide +kernel) (shO a cI cJ cS cT s40 (by omega)) rfl ⟨by decide, by decide⟩ rfl (Nat.le_of_ble_eq_true rfl) dX8_layBy_86 (ro_kk (fun hr48 => ?_))
                  have hp49 := f_X5_holds_p (iwr (x2 + (3 * v39))) 3 x0.toNat s40 (by omega) (by omega) (by omega) hm_s40 (SSi_fr hpre6 (fun k hk => hf_s40 k (dj (by decide) k hk)))
                  refine k_st (st' := [gI (f_X5_holds (iwr (x2 + (3 * v39))) 3 x0.toNat s40)]) rfl ?_
                  by_cases h50 : (f_X5_holds (iwr (x2 + (3 * v39))) 3 x0.toNat s40) = 0
                  · replace hT := hT.trans (if_pos h50)
                    refine k_if_ne_f (pc := 89) (tgt := 95) E (by omega) dX8_layBy_89 (by decide) h50 ?_
                    refine k_bipush (pc := 92) E dX8_layBy_92 (by decide) ?_
                    exact k_rho hT (k_iret (pc := 94) E dX8_layBy_94 (by omega))
                  · replace hT := hT.trans (if_neg h50)
                    refine k_if_ne_t (pc := 89) (tgt := 95) E (by omega) dX8_layBy_89 (by decide) h50 ?_
                    refine k_aloadn (pc := 95) E 1 dX8_layBy_95 rfl rfl ?_
                    refine k_aload (pc := 96) E 4 dX8_layBy_96 rfl ?_
                    refine k_getf (pc := 98) (q0 := (10 + x0.toNat)) (f := 0) (v := .ref (a (14 + x0.toNat))) E inX5 (shO a cI cJ cS cT s40 (by omega)) rfl (by decide) wm_260 rfl rfl dX8_layBy_98 ?_
                    refine k_iload (pc := 101) E 0 dX8_layBy_101 rfl ?_
                    refine k_iaload (pc := 103) (q0 := (14 + x0.toNat)) (t0 := 0) (k := (14 + x0.toNat)) (n := 40) E (scA a cI cJ cS cT s40 (by omega)) rfl (scL (by omega)) (by decide) (by omega) (by omega) dX8_layBy_103 (fun hr51 => ?_)
                    refine k_aload (pc := 104) E 4 dX8_layBy_104 rfl ?_
                    refine k_getf (pc := 106) (q0 := (10 + x0.toNat)) (f := 0) (v := .ref (a (14 + x0.toNat))) E inX5 (shO a cI cJ cS cT s40 (by omega)) rfl (by decide) wm_260 rfl rfl dX8_layBy_106 ?_
                    refine k_iload (pc := 109) E 0 dX8_layBy_109 rfl ?_
                    refine k_iconst (pc := 111) E dX8_layBy_111 ?_
                    refine k_iadd (pc := 112) E dX8_layBy_112 ?_
                    refine k_iaload (pc := 113) (q0 := (14 + x0.toNat)) (t0 := 0) (k := (14 + x0.toNat)) (n := 40) E (scA a cI cJ cS cT s40 (by omega)) rfl (scL (by omega)) (by decide) (by omega) (by omega) dX8_layBy_113 (fun hr52 => ?_)
                    refine k_aload (pc := 114) E 4 dX8_layBy_114 rfl ?_
                    refine k_getf (pc := 116) (q0 := (10 + x0.toNat)) (f := 0) (v := .ref (a (14 + x0.toNat))) E inX5 (shO a cI cJ cS cT s40 (by omega)) rfl (by decide) wm_260 rfl rfl dX8_layBy_116 ?_
                    refine k_iload (pc := 119) E 0 dX8_layBy_119 rfl ?_
                    refine k_iconst (pc := 121) E dX8_layBy_121 ?_
                    refine k_iadd (pc := 122) E dX8_layBy_122 ?_
                    refine k_iaload (pc := 123) (q0 := (14 + x0.toNat)) (t0 := 0) (k := (14 + x0.toNat)) (n := 40) E (scA a cI cJ cS cT s40 (by omega)) rfl (scL (by omega)) (by decide) (by omega) (by omega) dX8_layBy_123 (fun hr53 => ?_)
                    refine k_mr (fun hm_s40 => ?_)
                    refine k_callV (pc := 124) (np := 3) (As := [gI (s40 (14 + x0.toNat) (iwr (x2 + (3 * v39)))), gI (s40 (14 + x0.toNat) ((iwr (x2 + (3 * v39))) + 1)), gI (s40 (14 + x0.toNat) ((iwr (x2 + (3 * v39))) + 2))]) (st := []) (q0 := 0) E (c_X8_lay l D a cI cJ cS cT s40 (s40 (14 + x0.toNat) (iwr (x2 + (3 * v39)))) (s40 (14 + x0.toNat) ((iwr (x2 + (3 * v39))) + 1)) (s40 (14 + x0.toNat) ((iwr (x2 + (3 * v39))) + 2)) (by omega) (by omega) (by omega) hKNx_s40 hMOx_s40 hKF_s40 hKC_s40 hKT_s40) wm_501 wm_1 wm_831 wm_499 wm_500 (by decide +kernel) rfl rfl ⟨by decide, by decide⟩ rfl (Nat.le_of_ble_eq_true rfl) dX8_layBy_124 (fun r55 s56 hs56 hr54 => ?_)
                    replace hT := gby hT hs56
                    have hp57 := f_X8_lay_p (s40 (14 + x0.toNat) (iwr (x2 + (3 * v39)))) (s40 (14 + x0.toNat) ((iwr (x2 + (3 * v39))) + 1)) (s40 (14 + x0.toNat) ((iwr (x2 + (3 * v39))) + 2)) s40 (by omega) (by omega) (by omega) hm_s40 hKNx_s40 hMOx_s40 hKF_s40 hKC_s40 hKT_s40 r55 s56 hs56
                    obtain ⟨hfc_s56, hm_s56, hp58, hKNx_s56, hMOx_s56, hKF_s56, hKC_s56, hKT_s56⟩ := hp57
                    have hf_s56 : fr [37, 38, 39, 40, 41] s0 s56 := hf_s40.call (by decide) hfc_s56
                    refine k_st (st' := [gI r55]) rfl ?_
                    obtain ⟨z63, hz63, hT⟩ := gl1x hT
                    have j60 : ∀ (v61 : Int), ((in32 v61)) → z63 = v61 → gK D vwCl (wdX a cI cJ cS cT) lgX A p l e { frames := 5, cells := 0, slots := 0, locals := 320 } s m args below meth c 9 (gQQ D vwCl (wdX a cI cJ cS cT) lgX A kI in32 below args s) (f_X8_layBy x0 x1 x2 x3 s0) s56 133 [(0, .ref (a 0)), (3, gI x2), (4, gI x3), (5, .ref (a (10 + x0.toNat))), (6, gI v61), (7, gI v39)] [] := by
                      intro v61 hq hz
                      have hq62 := hq
                      replace hT := gl1y hT hz
                      refine k_iinc (pc := 133) (lv' := [(7, gI (v39 + 1)), (0, .ref (a 0)), (3, gI x2), (4, gI x3), (5, .ref (a (10 + x0.toNat))), (6, gI v61)]) E 5 dX8_layBy_133 rfl (by decide) rfl ?_
                      refine k_goto (pc := 136) (tgt := 66) E dX8_layBy_136 (by decide) ?_
                      refine k_lv (lv' := [(0, .ref (a 0)), (3, gI x2), (4, gI x3), (5, .ref (a (10 + x0.toNat))), (6, gI v61), (7, gI (v39 + 1))]) [1, 2, 3, 4, 5, 0] rfl ?_
                      exact ih v61 (v39 + 1) s56 ⟨(by omega), (by omega), hf_s56, hKNx_s56, hMOx_s56, hKF_s56, hKC_s56, hKT_s56, (by first | assumption | omega), (by first | assumption | omega)⟩ (by omega) hT
                    replace hT := hz63
                    by_cases h59 : r55 < 0
                    · replace hT := hT.trans (if_pos h59)
                      refine k_if_lt_t (pc := 127) (tgt := 133) E (by omega) dX8_layBy_127 (by decide) h59 ?_
                      refine k_lv (lv' := [(0, .ref (a 0)), (3, gI x2), (4, gI x3), (5, .ref (a (10 + x0.toNat))), (6, gI v38), (7, gI v39)]) [1, 2, 3, 4, 5, 6] rfl ?_
                      exact j60 v38 (by omega) hT
                    · replace hT := hT.trans (if_neg h59)
                      refine k_if_lt_f (pc := 127) (tgt := 133) E (by omega) dX8_layBy_127 (by decide) h59 ?_
                      refine k_iinc (pc := 130) (lv' := [(6, gI (v38 + 1)), (8, gI (iwr (x2 + (3 * v39)))), (0, .ref (a 0)), (3, gI x2), (4, gI x3), (5, .ref (a (10 + x0.toNat))), (7, gI v39)]) E 5 dX8_layBy_130 rfl (by decide) rfl ?_
                      refine k_lv (lv' := [(0, .ref (a 0)), (3, gI x2), (4, gI x3), (5, .ref (a (10 + x0.toNat))), (6, gI (v38 + 1)), (7, gI v39)]) [2, 3, 4, 5, 0, 6] rfl ?_
                      exact j60 (v38 + 1) (by omega) hT
                · replace hT := hT.trans (if_neg h46)
                  refine k_icmp_ge_t (pc := 70) (tgt := 139) E (by omega) (by omega) dX8_layBy_70 (by decide) h46 ?_
                  refine k_iload (pc := 139) E 4 dX8_layBy_139 rfl ?_
                  exact k_rho hT (k_iret (pc := 141) E dX8_layBy_141 (by omega))
            refine k_lv (lv' := [(0, .ref (a 0)), (3, gI x2), (4, gI x3), (5, .ref (a (10 + x0.toNat))), (6, gI 0), (7, gI 0)]) [3, 6, 7, 2, 1, 0] rfl ?_
            exact L41 14 0 0 s0 ⟨(by omega), (by omega), hf_s0, hKNx_s0, hMOx_s0, hKF_s0, hKC_s0, hKT_s0, (by first | assumption | omega), (by first | assumption | omega)⟩ (by omega) hT
          · replace hT := hT.trans (if_neg h15)
            refine k_icmp_eq_f (pc := 54) (tgt := 60) E (by omega) (by omega) dX8_layBy_54 (by decide) h15 ?_
            refine k_bipush (pc := 57) E dX8_layBy_57 (by decide) ?_
            exact k_rho hT (k_iret (pc := 59) E dX8_layBy_59 (by omega))
        · replace hT := hT.trans (if_neg h12)
          refine k_if_eq_f (pc := 42) (tgt := 48) E (by omega) dX8_layBy_42 (by decide) h12 ?_
          refine k_bipush (pc := 45) E dX8_layBy_45 (by decide) ?_
          exact k_rho hT (k_iret (pc := 47) E dX8_layBy_47 (by omega))
      · replace hT := hT.trans (if_neg h9)
        refine k_if_eq_f (pc := 23) (tgt := 29) E (by omega) dX8_layBy_23 (by decide) h9 ?_
        refine k_bipush (pc := 26) E dX8_layBy_26 (by decide) ?_
        exact k_rho hT (k_iret (pc := 28) E dX8_layBy_28 (by omega))
    · replace hT := hT.trans (if_neg h6)
      refine k_if_ne_t (pc := 13) (tgt := 26) E (by omega) dX8_layBy_13 (by decide) h6 ?_
      refine k_bipush (pc := 26) E dX8_layBy_26 (by decide) ?_
      exact k_rho hT (k_iret (pc := 28) E dX8_layBy_28 (by omega))
  · replace hT := hT.trans (if_neg h3)
    refine k_if_ne_t (pc := 5) (tgt := 26) E (by omega) dX8_layBy_5 (by decide) h3 ?_
    refine k_bipush (pc := 26) E dX8_layBy_26 (by decide) ?_
    exact k_rho hT (k_iret (pc := 28) E dX8_layBy_28 (by omega))
