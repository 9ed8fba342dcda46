def f_X9_two (x0 : Int) (x1 : Int) (x2 : Int) : Int := (if x0 = 11 then (gj (fun j9c => (if x1 = 0 then (if x2 = 0 then 0 else j9c) else j9c)) (1)) else (if x0 = 12 then (if x1 = 0 then 0 else (if x2 = 0 then 0 else 1)) else (if x0 = 13 then (iwr (x1 * x2)) else (if x0 = 14 then (if x1 < x2 then 1 else 0) else (if x0 = 15 then (if x1 = x2 then 1 else 0) else (if x0 = 16 then (iwr (x1 + x2)) else (if x0 = 17 then (iwr (x1 - x2)) else (iwr (x1 * x2)))))))))
theorem f_X9_two_e (x0 : Int) (x1 : Int) (x2 : Int) : f_X9_two x0 x1 x2 = (if x0 = 11 then (gj (fun j9c => (if x1 = 0 then (if x2 = 0 then 0 else j9c) else j9c)) (1)) else (if x0 = 12 then (if x1 = 0 then 0 else (if x2 = 0 then 0 else 1)) else (if x0 = 13 then (iwr (x1 * x2)) else (if x0 = 14 then (if x1 < x2 then 1 else 0) else (if x0 = 15 then (if x1 = x2 then 1 else 0) else (if x0 = 16 then (iwr (x1 + x2)) else (if x0 = 17 then (iwr (x1 - x2)) else (iwr (x1 * x2))))))))) := rfl
set_option maxRecDepth 100000 in
set_option maxHeartbeats 4000000 in
theorem f_X9_two_p (x0 : Int) (x1 : Int) (x2 : Int) (hx0 : in32 x0) (hx1 : in32 x1) (hx2 : in32 x2)  : (in32 (f_X9_two x0 x1 x2)) := by
  have hT := f_X9_two_e x0 x1 x2
  by_cases h1 : x0 = 11
  · replace hT := hT.trans (if_pos h1)
    obtain ⟨j9c, hj9c, hT⟩ := gjx hT
    have j9 : (True) → (f_X9_two x0 x1 x2) = j9c  → (in32 (f_X9_two x0 x1 x2)) := by
      intro  hq hT
      rw [hj9c] at hT
      rw [hT]
      exact (by omega)
    by_cases h8 : x1 = 0
    · replace hT := hT.trans (if_pos h8)
      by_cases h10 : x2 = 0
      · replace hT := hT.trans (if_pos h10)
        rw [hT]
        exact (by omega)
      · replace hT := hT.trans (if_neg h10)
        exact j9  trivial hT
    · replace hT := hT.trans (if_neg h8)
      exact j9  trivial hT
  · replace hT := hT.trans (if_neg h1)
    by_cases h2 : x0 = 12
    · replace hT := hT.trans (if_pos h2)
      by_cases h11 : x1 = 0
      · replace hT := hT.trans (if_pos h11)
        rw [hT]
        exact (by omega)
      · replace hT := hT.trans (if_neg h11)
        by_cases h12 : x2 = 0
        · replace hT := hT.trans (if_pos h12)
          rw [hT]
          exact (by omega)
        · replace hT := hT.trans (if_neg h12)
          rw [hT]
          exact (by omega)
    · replace hT := hT.trans (if_neg h2)
      by_cases h3 : x0 = 13
      · replace hT := hT.trans (if_pos h3)
        have hb13 := iwr_rg (x1 * x2)
        rw [hT]
        exact (by omega)
      · replace hT := hT.trans (if_neg h3)
        by_cases h4 : x0 = 14
        · replace hT := hT.trans (if_pos h4)
          by_cases h14 : x1 < x2
          · replace hT := hT.trans (if_pos h14)
            rw [hT]
            exact (by omega)
          · replace hT := hT.trans (if_neg h14)
            rw [hT]
            exact (by omega)
        · replace hT := hT.trans (if_neg h4)
          by_cases h5 : x0 = 15
          · replace hT := hT.trans (if_pos h5)
            by_cases h15 : x1 = x2
            · replace hT := hT.trans (if_pos h15)
              rw [hT]
              exact (by omega)
            · replace hT := hT.trans (if_neg h15)
              rw [hT]
              exact (by omega)
          · replace hT := hT.trans (if_neg h5)
            by_cases h6 : x0 = 16
            · replace hT := hT.trans (if_pos h6)
              have hb16 := iwr_rg (x1 + x2)
              rw [hT]
              exact (by omega)
            · replace hT := hT.trans (if_neg h6)
              by_cases h7 : x0 = 17
              · replace hT := hT.trans (if_pos h7)
                have hb17 := iwr_rg (x1 - x2)
                rw [hT]
                exact (by omega)
              · replace hT := hT.trans (if_neg h7)
                have hb18 := iwr_rg (x1 * x2)
                rw [hT]
                exact (by omega)
set_option maxRecDepth 100000 in
set_option maxHeartbeats 4000000 in
theorem c_X9_two (l : Launch) (D : va_G) (a : Nat → Nat) (cI cJ cS cT : ClassId) (s0 : gMem) (x0 : Int) (x1 : Int) (x2 : Int) (hx0 : in32 x0) (hx1 : in32 x1) (hx2 : in32 x2)  : gC l yX9_two cX9_two 3 (some .int) 1 64 D vwCl (gT cI cJ cS cT) (wdM a cI cJ) lgM kI in32 [gI x0, gI x1, gI x2] s0 ((f_X9_two x0 x1 x2), s0) := by
  refine gC_of (by decide +kernel) (hwdM a cI cJ) (Nat.le_of_ble_eq_true rfl) ?_
  intro A p e R s m args below meth c hR E
  subst hR
  have hT := f_X9_two_e x0 x1 x2
  refine k_lv0 (lv' := [(0, gI x0), (1, gI x1), (2, gI x2)]) rfl ?_
  refine k_iloadn (pc := 0) E 0 dX9_two_0 rfl rfl ?_
  by_cases h1 : x0 = 11
  · replace hT := hT.trans (if_pos h1)
    refine k_tabIn (pc := 1) (tgt := 44) E dX9_two_1 (by omega) (by omega) (by omega) (by rw [h1]; rfl) (by decide) ?_
    refine k_iloadn (pc := 44) E 1 dX9_two_44 rfl rfl ?_
    obtain ⟨j9c, hj9c, hT⟩ := gjx hT
    have j9 : (True) → (f_X9_two x0 x1 x2) = j9c  → gK D vwCl (wdM a cI cJ) lgM A p l e { frames := 1, cells := 0, slots := 0, locals := 64 } s m args below meth c 3 (gQQ D vwCl (wdM a cI cJ) lgM A kI in32 below args s) ((f_X9_two x0 x1 x2), s0) s0 52 [] [] := by
      intro  hq hT
      rw [hj9c] at hT
      refine k_iconst (pc := 52) E dX9_two_52 ?_
      refine k_goto (pc := 53) (tgt := 57) E dX9_two_53 (by decide) ?_
      exact k_rho (congrArg (fun q => (q, s0)) hT) (k_iret (pc := 57) E dX9_two_57 (by omega))
    by_cases h8 : x1 = 0
    · replace hT := hT.trans (if_pos h8)
      refine k_if_ne_f (pc := 45) (tgt := 52) E (by omega) dX9_two_45 (by decide) h8 ?_
      refine k_iloadn (pc := 48) E 2 dX9_two_48 rfl rfl ?_
      by_cases h10 : x2 = 0
      · replace hT := hT.trans (if_pos h10)
        refine k_if_eq_t (pc := 49) (tgt := 56) E (by omega) dX9_two_49 (by decide) h10 ?_
        refine k_iconst (pc := 56) E dX9_two_56 ?_
        exact k_rho (congrArg (fun q => (q, s0)) hT) (k_iret (pc := 57) E dX9_two_57 (by omega))
      · replace hT := hT.trans (if_neg h10)
        refine k_if_eq_f (pc := 49) (tgt := 56) E (by omega) dX9_two_49 (by decide) h10 ?_
        refine k_lv (lv' := []) [] rfl ?_
        exact j9  trivial hT
    · replace hT := hT.trans (if_neg h8)
      refine k_if_ne_t (pc := 45) (tgt := 52) E (by omega) dX9_two_45 (by decide) h8 ?_
      refine k_lv (lv' := []) [] rfl ?_
      exact j9  trivial hT
  · replace hT := hT.trans (if_neg h1)
    by_cases h2 : x0 = 12
    · replace hT := hT.trans (if_pos h2)
      refine k_tabIn (pc := 1) (tgt := 58) E dX9_two_1 (by omega) (by omega) (by omega) (by rw [h2]; rfl) (by decide) ?_
      refine k_iloadn (pc := 58) E 1 dX9_two_58 rfl rfl ?_
      by_cases h11 : x1 = 0
      · replace hT := hT.trans (if_pos h11)
        refine k_if_eq_t (pc := 59) (tgt := 70) E (by omega) dX9_two_59 (by decide) h11 ?_
        refine k_iconst (pc := 70) E dX9_two_70 ?_
        exact k_rho (congrArg (fun q => (q, s0)) hT) (k_iret (pc := 71) E dX9_two_71 (by omega))
      · replace hT := hT.trans (if_neg h11)
        refine k_if_eq_f (pc := 59) (tgt := 70) E (by omega) dX9_two_59 (by decide) h11 ?_
        refine k_iloadn (pc := 62) E 2 dX9_two_62 rfl rfl ?_
        by_cases h12 : x2 = 0
        · replace hT := hT.trans (if_pos h12)
          refine k_if_eq_t (pc := 63) (tgt := 70) E (by omega) dX9_two_63 (by decide) h12 ?_
          refine k_iconst (pc := 70) E dX9_two_70 ?_
          exact k_rho (congrArg (fun q => (q, s0)) hT) (k_iret (pc := 71) E dX9_two_71 (by omega))
        · replace hT := hT.trans (if_neg h12)
          refine k_if_eq_f (pc := 63) (tgt := 70) E (by omega) dX9_two_63 (by decide) h12 ?_
          refine k_iconst (pc := 66) E dX9_two_66 ?_
          refine k_goto (pc := 67) (tgt := 71) E dX9_two_67 (by decide) ?_
          exact k_rho (congrArg (fun q => (q, s0)) hT) (k_iret (pc := 71) E dX9_two_71 (by omega))
    · replace hT := hT.trans (if_neg h2)
      by_cases h3 : x0 = 13
      · replace hT := hT.trans (if_pos h3)
        refine k_tabIn (pc := 1) (tgt := 102) E dX9_two_1 (by omega) (by omega) (by omega) (by rw [h3]; rfl) (by decide) ?_
        refine k_iloadn (pc := 102) E 1 dX9_two_102 rfl rfl ?_
        refine k_iloadn (pc := 103) E 2 dX9_two_103 rfl rfl ?_
        refine k_imul (pc := 104) E dX9_two_104 ?_
        refine k_st (st' := [gI (iwr (x1 * x2))]) (congrArg (fun q => q :: []) (gIw (x1 * x2))) ?_
        have hb13 := iwr_rg (x1 * x2)
        exact k_rho (congrArg (fun q => (q, s0)) hT) (k_iret (pc := 105) E dX9_two_105 (by omega))
      · replace hT := hT.trans (if_neg h3)
        by_cases h4 : x0 = 14
        · replace hT := hT.trans (if_pos h4)
          refine k_tabIn (pc := 1) (tgt := 72) E dX9_two_1 (by omega) (by omega) (by omega) (by rw [h4]; rfl) (by decide) ?_
          refine k_iloadn (pc := 72) E 1 dX9_two_72 rfl rfl ?_
          refine k_iloadn (pc := 73) E 2 dX9_two_73 rfl rfl ?_
          by_cases h14 : x1 < x2
          · replace hT := hT.trans (if_pos h14)
            refine k_icmp_ge_f (pc := 74) (tgt := 81) E (by omega) (by omega) dX9_two_74 (by decide) h14 ?_
            refine k_iconst (pc := 77) E dX9_two_77 ?_
            refine k_goto (pc := 78) (tgt := 82) E dX9_two_78 (by decide) ?_
            exact k_rho (congrArg (fun q => (q, s0)) hT) (k_iret (pc := 82) E dX9_two_82 (by omega))
          · replace hT := hT.trans (if_neg h14)
            refine k_icmp_ge_t (pc := 74) (tgt := 81) E (by omega) (by omega) dX9_two_74 (by decide) h14 ?_
            refine k_iconst (pc := 81) E dX9_two_81 ?_
            exact k_rho (congrArg (fun q => (q, s0)) hT) (k_iret (pc := 82) E dX9_two_82 (by omega))
        · replace hT := hT.trans (if_neg h4)
          by_cases h5 : x0 = 15
          · replace hT := hT.trans (if_pos h5)
            refine k_tabIn (pc := 1) (tgt := 83) E dX9_two_1 (by omega) (by omega) (by omega) (by rw [h5]; rfl) (by decide) ?_
            refine k_iloadn (pc := 83) E 1 dX9_two_83 rfl rfl ?_
            refine k_iloadn (pc := 84) E 2 dX9_two_84 rfl rfl ?_
            by_cases h15 : x1 = x2
            · replace hT := hT.trans (if_pos h15)
              refine k_icmp_ne_f (pc := 85) (tgt := 92) E (by omega) (by omega) dX9_two_85 (by decide) h15 ?_
              refine k_iconst (pc := 88) E dX9_two_88 ?_
              refine k_goto (pc := 89) (tgt := 93) E dX9_two_89 (by decide) ?_
              exact k_rho (congrArg (fun q => (q, s0)) hT) (k_iret (pc := 93) E dX9_two_93 (by omega))
            · replace hT := hT.trans (if_neg h15)
              refine k_icmp_ne_t (pc := 85) (tgt := 92) E (by omega) (by omega) dX9_two_85 (by decide) h15 ?_
              refine k_iconst (pc := 92) E dX9_two_92 ?_
              exact k_rho (congrArg (fun q => (q, s0)) hT) (k_iret (pc := 93) E dX9_two_93 (by omega))
          · replace hT := hT.trans (if_neg h5)
            by_cases h6 : x0 = 16
            · replace hT := hT.trans (if_pos h6)
              refine k_tabIn (pc := 1) (tgt := 94) E dX9_two_1 (by omega) (by omega) (by omega) (by rw [h6]; rfl) (by decide) ?_
              refine k_iloadn (pc := 94) E 1 dX9_two_94 rfl rfl ?_
              refine k_iloadn (pc := 95) E 2 dX9_two_95 rfl rfl ?_
              refine k_iadd (pc := 96) E dX9_two_96 ?_
              refine k_st (st' := [gI (iwr (x1 + x2))]) (congrArg (fun q => q :: []) (gIw (x1 + x2))) ?_
              have hb16 := iwr_rg (x1 + x2)
              exact k_rho (congrArg (fun q => (q, s0)) hT) (k_iret (pc := 97) E dX9_two_97 (by omega))
            · replace hT := hT.trans (if_neg h6)
              by_cases h7 : x0 = 17
              · replace hT := hT.trans (if_pos h7)
                refine k_tabIn (pc := 1) (tgt := 98) E dX9_two_1 (by omega) (by omega) (by omega) (by rw [h7]; rfl) (by decide) ?_
                refine k_iloadn (pc := 98) E 1 dX9_two_98 rfl rfl ?_
                refine k_iloadn (pc := 99) E 2 dX9_two_99 rfl rfl ?_
                refine k_isub (pc := 100) E dX9_two_100 ?_
                refine k_st (st' := [gI (iwr (x1 - x2))]) (congrArg (fun q => q :: []) (gIw (x1 - x2))) ?_
                have hb17 := iwr_rg (x1 - x2)
                exact k_rho (congrArg (fun q => (q, s0)) hT) (k_iret (pc := 101) E dX9_two_101 (by omega))
              · replace hT := hT.trans (if_neg h7)
                refine k_tabOut (pc := 1) (tgt := 102) E dX9_two_1 (by omega) (by omega) (by decide) ?_
                refine k_iloadn (pc := 102) E 1 dX9_two_102 rfl rfl ?_
                refine k_iloadn (pc := 103) E 2 dX9_two_103 rfl rfl ?_
                refine k_imul (pc := 104) E dX9_two_104 ?_
                refine k_st (st' := [gI (iwr (x1 * x2))]) (congrArg (fun q => q :: []) (gIw (x1 * x2))) ?_
                have hb18 := iwr_rg (x1 * x2)
                exact k_rho (congrArg (fun q => (q, s0)) hT) (k_iret (pc := 105) E dX9_two_105 (by omega))

def f_X9_force (x0 : Int) (s0 : gMem) : gRes := (if (f_X9_in x0 0 ((s0 7 0) - 1)) = 0 then ((-2), s0) else gl (mset s0 8 0 x0) (fun s6 => ((s0 8 0), s6)))
theorem f_X9_force_e (x0 : Int) (s0 : gMem) : f_X9_force x0 s0 = (if (f_X9_in x0 0 ((s0 7 0) - 1)) = 0 then ((-2), s0) else gl (mset s0 8 0 x0) (fun s6 => ((s0 8 0), s6))) := rfl
set_option maxRecDepth 100000 in
set_option maxHeartbeats 4000000 in
theorem f_X9_force_p (x0 : Int) (s0 : gMem) (hx0 : in32 x0) (hm_s0 : gMR lgM s0) (hpre0 : VS s0) (rZ : Int) (sZ : gMem) (hres : f_X9_force x0 s0 = (rZ, sZ)) : (fr [8] s0 sZ) ∧ (gMR lgM sZ) ∧ (in32 rZ) := by
  have hT := f_X9_force_e x0 s0
  have hf_s0 : fr [8] s0 s0 := fr.rf _ _
  obtain ⟨kv1, kv2, kv3, kv4, kv5⟩ := hpre0
  have hr1 := (hm_s0 7 0).1 rfl
  have hp3 := f_X9_in_p x0 0 ((s0 7 0) - 1) (by omega) (by omega) (by omega) 
  by_cases h4 : (f_X9_in x0 0 ((s0 7 0) - 1)) = 0
  · replace hT := hT.trans (if_pos h4)
    obtain ⟨rfl, rfl⟩ := Prod.mk.inj (hT.symm.trans hres)
    exact ⟨hf_s0, hm_s0, (by omega)⟩
  · replace hT := hT.trans (if_neg h4)
    have hr5 := (hm_s0 8 0).1 rfl
    obtain ⟨s6, hs6, hT⟩ := glx hT
    have hf_s6 : fr [8] s0 s6 := hs6 ▸ hf_s0.set (by decide)
    have hm_s6 : gMR lgM s6 := hs6 ▸ hm_s0.set32 rfl (by omega)
    obtain ⟨rfl, rfl⟩ := Prod.mk.inj (hT.symm.trans hres)
    exact ⟨hf_s6, hm_s6, (by omega)⟩
set_option maxRecDepth 100000 in
set_option maxHeartbeats 4000000 in
theorem c_X9_force (l : Launch) (D : va_G) (a : Nat → Nat) (cI cJ cS cT : ClassId) (s0 : gMem) (x0 : Int) (hx0 : in32 x0) (hpre0 : VS s0) : gC l yX9_force cX9_force 3 (some .int) 2 128 D vwCl (gT cI cJ cS cT) (wdM a cI cJ) lgM kI in32 [.ref (a 0), gI x0] s0 (f_X9_force x0 s0) := by
  refine gC_of (by decide +kernel) (hwdM a cI cJ) (Nat.le_of_ble_eq_true rfl) ?_
  intro A p e R s m args below meth c hR E
  subst hR
  have hT := f_X9_force_e x0 s0
  have hf_s0 : fr [8] s0 s0 := fr.rf _ _
  refine k_lv0 (lv' := [(0, .ref (a 0)), (1, gI x0)]) rfl ?_
  refine k_mr (fun hm_s0 => ?_)
  obtain ⟨kv1, kv2, kv3, kv4, kv5⟩ := hpre0
  refine k_iloadn (pc := 0) E 1 dX9_force_0 rfl rfl ?_
  refine k_iconst (pc := 1) E dX9_force_1 ?_
  refine k_aloadn (pc := 2) E 0 dX9_force_2 rfl rfl ?_
  refine k_getfI (pc := 3) (q0 := 0) (f := 7) (k := 7) E inX9 rfl rfl (by decide) wm_905 rfl rfl rfl dX9_force_3 (fun hr1 => ?_)
  refine k_iconst (pc := 6) E dX9_force_6 ?_
  refine k_isub (pc := 7) E dX9_force_7 ?_
  refine k_mr (fun hm_s0 => ?_)
  refine k_callS (pc := 8) (np := 3) (As := [gI x0, gI 0, gI ((s0 7 0) - 1)]) (st := []) E (c_X9_in l D a cI cJ cS cT s0 x0 0 ((s0 7 0) - 1) (by omega) (by omega) (by omega)) wm_861 wm_11 wm_859 wm_860 (by decide +kernel) ⟨by decide, by decide⟩ rfl (Nat.le_of_ble_eq_true rfl) dX9_force_8 (ro_kk (fun hr2 => ?_))
  have hp3 := f_X9_in_p x0 0 ((s0 7 0) - 1) (by omega) (by omega) (by omega) 
  refine k_st (st' := [gI (f_X9_in x0 0 ((s0 7 0) - 1))]) rfl ?_
  by_cases h4 : (f_X9_in x0 0 ((s0 7 0) - 1)) = 0
  · replace hT := hT.trans (if_pos h4)
    refine k_if_ne_f (pc := 11) (tgt := 17) E (by omega) dX9_force_11 (by decide) h4 ?_
    refine k_bipush (pc := 14) E dX9_force_14 (by decide) ?_
    exact k_rho hT (k_iret (pc := 16) E dX9_force_16 (by omega))
  · replace hT := hT.trans (if_neg h4)
    refine k_if_ne_t (pc := 11) (tgt := 17) E (by omega) dX9_force_11 (by decide) h4 ?_
    refine k_aloadn (pc := 17) E 0 dX9_force_17 rfl rfl ?_
    refine k_getfI (pc := 18) (q0 := 0) (f := 8) (k := 8) E inX9 rfl rfl (by decide) wm_906 rfl rfl rfl dX9_force_18 (fun hr5 => ?_)
    refine k_istoren (pc := 21) (lv' := [(2, gI (s0 8 0)), (0, .ref (a 0)), (1, gI x0)]) E dX9_force_21 rfl (by decide) rfl ?_
    refine k_aloadn (pc := 22) E 1 dX9_force_22 rfl rfl ?_
    refine k_iloadn (pc := 23) E 2 dX9_force_23 rfl rfl ?_
    refine k_putfI (pc := 24) (q0 := 0) (f := 8) (k := 8) E tyX9 tyX9_ok nmX9 inX9 rfl rfl (by decide) wm_906 rfl rfl rfl (Nat.le_of_ble_eq_true rfl) rfl rfl (by omega) dX9_force_24 ?_
    obtain ⟨s6, hs6, hT⟩ := glx hT
    refine k_sg hs6.symm ?_
    have hf_s6 : fr [8] s0 s6 := hs6 ▸ hf_s0.set (by decide)
    refine k_iloadn (pc := 27) E 0 dX9_force_27 rfl rfl ?_
    exact k_rho hT (k_iret (pc := 28) E dX9_force_28 (by omega))

def w_X9_says_16 (c1 : Int) : Nat → Int → Int → gMem → Int × Int × gMem
  | 0, v3, v4, s5 => (v3, v4, s5)
  | n6 + 1, v3, v4, s5 => (if v4 < (s5 6 (((4 * (s5 8 0)) + c1) + 1)) then gl (s5 5 ((200 * (s5 8 0)) + v4)) (fun v12 => (gj (fun j14c => (if v12 < 100000 then (if v12 < 11 then j14c else (if v12 = 13 then (gl ((if (s5 25 (v3 - 1)) = 0 then 1 else 0)) (fun v29 => gl (mset s5 25 (v3 - 1) v29) (fun s30 => (w_X9_says_16 c1 n6 v3 (v4 + 1) s30)))) else (if v12 = 19 then gl (mset s5 25 (v3 - 1) (iwr (-(s5 25 (v3 - 1))))) (fun s37 => (w_X9_says_16 c1 n6 v3 (v4 + 1) s37)) else gl (mset s5 25 ((v3 + (-1)) - 1) (f_X9_two v12 (s5 25 ((v3 + (-1)) - 1)) (s5 25 (v3 + (-1))))) (fun s43 => (w_X9_says_16 c1 n6 (v3 + (-1)) (v4 + 1) s43))))) else j14c)) ((gl ((if v12 < 11 then (s5 26 v12) else (v12 - 100000))) (fun v17 => gl (mset s5 25 v3 v17) (fun s18 => (w_X9_says_16 c1 n6 (v3 + 1) (v4 + 1) s18))))))) else (v3, v4, s5))
theorem w_X9_says_16_s (c1 : Int) (n6 : Nat) (v3 : Int) (v4 : Int) (s5 : gMem) : w_X9_says_16 c1 (n6 + 1) v3 v4 s5 = (if v4 < (s5 6 (((4 * (s5 8 0)) + c1) + 1)) then gl (s5 5 ((200 * (s5 8 0)) + v4)) (fun v12 => (gj (fun j14c => (if v12 < 100000 then (if v12 < 11 then j14c else (if v12 = 13 then (gl ((if (s5 25 (v3 - 1)) = 0 then 1 else 0)) (fun v29 => gl (mset s5 25 (v3 - 1) v29) (fun s30 => (w_X9_says_16 c1 n6 v3 (v4 + 1) s30)))) else (if v12 = 19 then gl (mset s5 25 (v3 - 1) (iwr (-(s5 25 (v3 - 1))))) (fun s37 => (w_X9_says_16 c1 n6 v3 (v4 + 1) s37)) else gl (mset s5 25 ((v3 + (-1)) - 1) (f_X9_two v12 (s5 25 ((v3 + (-1)) - 1)) (s5 25 (v3 + (-1))))) (fun s43 => (w_X9_says_16 c1 n6 (v3 + (-1)) (v4 + 1) s43))))) else j14c)) ((gl ((if v12 < 11 then (s5 26 v12) else (v12 - 100000))) (fun v17 => gl (mset s5 25 v3 v17) (fun s18 => (w_X9_says_16 c1 n6 (v3 + 1) (v4 + 1) s18))))))) else (v3, v4, s5)) := rfl
def f_X9_says (x0 : Int) (s0 : gMem) : gRes := (gl3 (w_X9_says_16 x0 201 0 (s0 6 ((4 * (s0 8 0)) + x0)) s0) (fun v105 v106 s107 => ((s107 25 0), s107)))
theorem f_X9_says_e (x0 : Int) (s0 : gMem) : f_X9_says x0 s0 = (gl3 (w_X9_says_16 x0 201 0 (s0 6 ((4 * (s0 8 0)) + x0)) s0) (fun v105 v106 s107 => ((s107 25 0), s107))) := rfl
set_option maxRecDepth 100000 in
set_option maxHeartbeats 4000000 in
theorem f_X9_says_p (x0 : Int) (s0 : gMem) (hx0 : in32 x0) (hm_s0 : gMR lgM s0) (hpre0 : VS s0) (hpre1 : 0 ≤ x0 ∧ x0 ≤ 2) (rZ : Int) (sZ : gMem) (hres : f_X9_says x0 s0 = (rZ, sZ)) : (fr [25] s0 sZ) ∧ (gMR lgM sZ) ∧ (in32 rZ) := by
  have hT := f_X9_says_e x0 s0
  have hf_s0 : fr [25] s0 s0 := fr.rf _ _
  obtain ⟨kv1, kv2, kv3, kv4, kv5⟩ := hpre0
  have kVT := kv5 (s0 8 0) x0 kv3 kv4 hpre1.1 hpre1.2
  obtain ⟨kw1, kw2, kw3, kw4⟩ := id kVT
  have kd0 : dep (s0 5) (200 * s0 8 0 + s0 6 (4 * s0 8 0 + x0)) (s0 6 (4 * s0 8 0 + x0) - s0 6 (4 * s0 8 0 + x0)).toNat = 0 := by rw [Int.sub_self]; rfl
  have hr1 := (hm_s0 8 0).1 rfl
  have hr2 := (hm_s0 6 ((4 * (s0 8 0)) + x0)).1 rfl
  have L48 : ∀ (n49 : Nat) (v45 : Int) (v46 : Int) (s47 : gMem), ((in32 v45) ∧ (in32 v46) ∧ (fr [25] s0 s47) ∧ (gMR lgM s47) ∧ (s47 8 0 = s0 8 0) ∧ (s0 6 (4 * s0 8 0 + x0) ≤ v46 ∧ v46 ≤ s0 6 (4 * s0 8 0 + x0 + 1)) ∧ (v45 = dep (s0 5) (200 * s0 8 0 + s0 6 (4 * s0 8 0 + x0)) (v46 - s0 6 (4 * s0 8 0 + x0)).toNat) ∧ (0 ≤ v45 ∧ v45 ≤ v46 - s0 6 (4 * s0 8 0 + x0)) ∧ (v46 = s0 6 (4 * s0 8 0 + x0) ∨ 1 ≤ v45)) → s0 6 (4 * s0 8 0 + x0 + 1) - v46 < (n49 : Int) → (∀ (w50 : Int) (w51 : Int) (s52 : gMem), (w_X9_says_16 x0 n49 v45 v46 s47) = (w50, w51, s52) → ((in32 w50) ∧ (in32 w51) ∧ (fr [25] s0 s52) ∧ (gMR lgM s52) ∧ (s52 8 0 = s0 8 0) ∧ (s0 6 (4 * s0 8 0 + x0) ≤ w51 ∧ w51 ≤ s0 6 (4 * s0 8 0 + x0 + 1)) ∧ (w50 = dep (s0 5) (200 * s0 8 0 + s0 6 (4 * s0 8 0 + x0)) (w51 - s0 6 (4 * s0 8 0 + x0)).toNat) ∧ (0 ≤ w50 ∧ w50 ≤ w51 - s0 6 (4 * s0 8 0 + x0)) ∧ (w51 = s0 6 (4 * s0 8 0 + x0) ∨ 1 ≤ w50)) → (fr [25] s0 sZ) ∧ (gMR lgM sZ) ∧ (in32 rZ)) → (fr [25] s0 sZ) ∧ (gMR lgM sZ) ∧ (in32 rZ) := by
    intro n49; induction n49 with
    | zero =>
      intro v45 v46 s47 hq hm hk
      exfalso
      obtain ⟨hq91, hq92, hf_s47, hm_s47, hq93, hq94, hq95, hq96, hq97⟩ := hq
      omega
    | succ n49 ih =>
      intro v45 v46 s47 hq hm hk
      obtain ⟨hq98, hq99, hf_s47, hm_s47, hq100, hq101, hq102, hq103, hq104⟩ := hq
      have hT := w_X9_says_16_s x0 n49 v45 v46 s47
      skip
      have hr53 := (hm_s47 8 0).1 rfl
      have hr54 := (hm_s47 6 (((4 * (s47 8 0)) + x0) + 1)).1 rfl
      have ke1 : (s47 6 (((4 * (s47 8 0)) + x0) + 1)) = s0 6 (4 * s0 8 0 + x0 + 1) := by rw [hf_s47 6 (by decide), hf_s47 8 (by decide)]
      by_cases h55 : v46 < (s47 6 (((4 * (s47 8 0)) + x0) + 1))
      · replace hT := hT.trans (if_pos h55)
        have hr56 := (hm_s47 8 0).1 rfl
        have hr57 := (hm_s47 5 ((200 * (s47 8 0)) + v46)).1 rfl
        obtain ⟨v58, hv58, hT⟩ := glx hT
        have kc := VT_at kVT (k := v46) (by omega) (by omega)
        have kcv : v58 = s0 5 (200 * s0 8 0 + v46) := by rw [hv58, hf_s47 5 (by decide), hf_s47 8 (by decide)]
        rw [← kcv] at kc
        have kcd := cdep_c v58
        obtain ⟨ko, kc1, kc2⟩ := kc
        unfold okc at ko
        obtain ⟨j60c, hj60c, hT⟩ := gjx hT
        have j60 : ((100000 ≤ v58 ∨ v58 < 11)) → (w_X9_says_16 x0 (n49 + 1) v45 v46 s47) = j60c  → (fr [25] s0 sZ) ∧ (gMR lgM sZ) ∧ (in32 rZ) := by
          intro  hq hT
          have hq69 := hq
          rw [hj60c] at hT
          obtain ⟨z67, hz67, hT⟩ := gl1x hT
          have j62 : ∀ (v63 : Int), ((in32 v63)) → z67 = v63 → (fr [25] s0 sZ) ∧ (gMR lgM sZ) ∧ (in32 rZ) := by
            intro v63 hq hz
            have hq66 := hq
            replace hT := gl1y hT hz
            obtain ⟨s64, hs64, hT⟩ := glx hT
            have hf_s64 : fr [25] s0 s64 := hs64 ▸ hf_s47.set (by decide)
            have hm_s64 : gMR lgM s64 := hs64 ▸ hm_s47.set32 rfl (by omega)
            have ht65 : s64 8 0 = s47 8 0 := by rw [hs64]; exact mset_ne _ _ _ _ _ (by decide)
            exact ih (v45 + 1) (v46 + 1) s64 ⟨(by omega), (by omega), hf_s64, hm_s64, (by first | assumption | omega), (by first | assumption | omega), (by first | assumption | omega), (by first | assumption | omega), (by first | assumption | omega)⟩ (by omega) (fun w50 w51 s52 hw hi => hk w50 w51 s52 (hT.trans hw) hi)
          replace hT := hz67
          by_cases h61 : v58 < 11
          · replace hT := hT.trans (if_pos h61)
            have hr68 := (hm_s47 26 v58).1 rfl
            exact j62 (s47 26 v58) (by omega) hT
          · replace hT := hT.trans (if_neg h61)
            exact j62 (v58 - 100000) (by omega) hT
        by_cases h59 : v58 < 100000
        · replace hT := hT.trans (if_pos h59)
          by_cases h70 : v58 < 11
          · replace hT := hT.trans (if_pos h70)
            exact j60  (by first | assumption | omega) hT
          · replace hT := hT.trans (if_neg h70)
            by_cases h71 : v58 = 13
            · replace hT := hT.trans (if_pos h71)
              have hr72 := (hm_s47 25 (v45 - 1)).1 rfl
              obtain ⟨z79, hz79, hT⟩ := gl1x hT
              have j74 : ∀ (v75 : Int), ((in32 v75)) → z79 = v75 → (fr [25] s0 sZ) ∧ (gMR lgM sZ) ∧ (in32 rZ) := by
                intro v75 hq hz
                have hq78 := hq
                replace hT := gl1y hT hz
                obtain ⟨s76, hs76, hT⟩ := glx hT
                have hf_s76 : fr [25] s0 s76 := hs76 ▸ hf_s47.set (by decide)
                have hm_s76 : gMR lgM s76 := hs76 ▸ hm_s47.set32 rfl (by omega)
                have ht77 : s76 8 0 = s47 8 0 := by rw [hs76]; exact mset_ne _ _ _ _ _ (by decide)
                exact ih v45 (v46 + 1) s76 ⟨(by omega), (by omega), hf_s76, hm_s76, (by first | assumption | omega), (by first | assumption | omega), (by first | assumption | omega), (by first | assumption | omega), (by first | assumption | omega)⟩ (by omega) (fun w50 w51 s52 hw hi => hk w50 w51 s52 (hT.trans hw) hi)
              replace hT := hz79
              by_cases h73 : (s47 25 (v45 - 1)) = 0
              · replace hT := hT.trans (if_pos h73)
                exact j74 1 (by omega) hT
              · replace hT := hT.trans (if_neg h73)
                exact j74 0 (by omega) hT
            · replace hT := hT.trans (if_neg h71)
              by_cases h80 : v58 = 19
              · replace hT := hT.trans (if_pos h80)
                have hr81 := (hm_s47 25 (v45 - 1)).1 rfl
                have hb82 := iwr_rg (-(s47 25 (v45 - 1)))
                obtain ⟨s83, hs83, hT⟩ := glx hT
                have hf_s83 : fr [25] s0 s83 := hs83 ▸ hf_s47.set (by decide)
                have hm_s83 : gMR lgM s83 := hs83 ▸ hm_s47.set32 rfl (by omega)
                have ht84 : s83 8 0 = s47 8 0 := by rw [hs83]; exact mset_ne _ _ _ _ _ (by decide)
                exact ih v45 (v46 + 1) s83 ⟨(by omega), (by omega), hf_s83, hm_s83, (by first | assumption | omega), (by first | assumption | omega), (by first | assumption | omega), (by first | assumption | omega), (by first | assumption | omega)⟩ (by omega) (fun w50 w51 s52 hw hi => hk w50 w51 s52 (hT.trans hw) hi)
              · replace hT := hT.trans (if_neg h80)
                have hr85 := (hm_s47 25 ((v45 + (-1)) - 1)).1 rfl
                have hr86 := (hm_s47 25 (v45 + (-1))).1 rfl
                have hp88 := f_X9_two_p v58 (s47 25 ((v45 + (-1)) - 1)) (s47 25 (v45 + (-1))) (by omega) (by omega) (by omega) 
                obtain ⟨s89, hs89, hT⟩ := glx hT
                have hf_s89 : fr [25] s0 s89 := hs89 ▸ hf_s47.set (by decide)
                have hm_s89 : gMR lgM s89 := hs89 ▸ hm_s47.set32 rfl (by omega)
                have ht90 : s89 8 0 = s47 8 0 := by rw [hs89]; exact mset_ne _ _ _ _ _ (by decide)
                exact ih (v45 + (-1)) (v46 + 1) s89 ⟨(by omega), (by omega), hf_s89, hm_s89, (by first | assumption | omega), (by first | assumption | omega), (by first | assumption | omega), (by first | assumption | omega), (by first | assumption | omega)⟩ (by omega) (fun w50 w51 s52 hw hi => hk w50 w51 s52 (hT.trans hw) hi)
        · replace hT := hT.trans (if_neg h59)
          exact j60  (by first | assumption | omega) hT
      · replace hT := hT.trans (if_neg h55)
        exact hk v45 v46 s47 hT ⟨(by omega), (by omega), hf_s47, hm_s47, (by first | assumption | omega), (by first | assumption | omega), (by first | assumption | omega), (by first | assumption | omega), (by first | assumption | omega)⟩
  refine L48 201 0 (s0 6 ((4 * (s0 8 0)) + x0)) s0 ⟨(by omega), (by omega), hf_s0, hm_s0, (by first | assumption | omega), (by first | assumption | omega), (by first | assumption | omega), (by first | assumption | omega), (by first | assumption | omega)⟩ (by omega) (fun v105 v106 s107 hw hq => ?_)
  obtain ⟨hq108, hq109, hf_s107, hm_s107, hq110, hq111, hq112, hq113, hq114⟩ := hq
  replace hT := gl3y hT hw
  have hr115 := (hm_s107 25 0).1 rfl
  obtain ⟨rfl, rfl⟩ := Prod.mk.inj (hT.symm.trans hres)
  exact ⟨hf_s107, hm_s107, (by omega)⟩
set_option maxRecDepth 100000 in
set_option maxHeartbeats 4000000 in
theorem c_X9_says (l : Launch) (D : va_G) (a : Nat → Nat) (cI cJ cS cT : ClassId) (s0 : gMem) (x0 : Int) (hx0 : in32 x0) (hpre0 : VS s0) (hpre1 : 0 ≤ x0 ∧ x0 ≤ 2) : gC l yX9_says cX9_says 5 (some .int) 2 128 D vwCl (gT cI cJ cS cT) (wdM a cI cJ) lgM kI in32 [.ref (a 0), gI x0] s0 (f_X9_says x0 s0) := by
  refine gC_of (by decide +kernel) (hwdM a cI cJ) (Nat.le_of_ble_eq_true rfl) ?_
  intro A p e R s m args below meth c hR E
  subst hR
  have hT := f_X9_says_e x0 s0
  have hf_s0 : fr [25] s0 s0 := fr.rf _ _
  refine k_lv0 (lv' := [(0, .ref (a 0)), (1, gI x0)]) rfl ?_
  refine k_mr (fun hm_s0 => ?_)
  obtain ⟨kv1, kv2, kv3, kv4, kv5⟩ := hpre0
  have kVT := kv5 (s0 8 0) x0 kv3 kv4 hpre1.1 hpre1.2
  obtain ⟨kw1, kw2, kw3, kw4⟩ := id kVT
  have kd0 : dep (s0 5) (200 * s0 8 0 + s0 6 (4 * s0 8 0 + x0)) (s0 6 (4 * s0 8 0 + x0) - s0 6 (4 * s0 8 0 + x0)).toNat = 0 := by rw [Int.sub_self]; rfl
  refine k_iconst (pc := 0) E dX9_says_0 ?_
  refine k_istoren (pc := 1) (lv' := [(2, gI 0), (0, .ref (a 0)), (1, gI x0)]) E dX9_says_1 rfl (by decide) rfl ?_
  refine k_aloadn (pc := 2) E 1 dX9_says_2 rfl rfl ?_
  refine k_getf (pc := 3) (q0 := 0) (f := 6) (v := .ref (a 6)) E inX9 rfl rfl (by decide) wm_904 rfl rfl dX9_says_3 ?_
  refine k_iconst (pc := 6) E dX9_says_6 ?_
  refine k_aloadn (pc := 7) E 1 dX9_says_7 rfl rfl ?_
  refine k_getfI (pc := 8) (q0 := 0) (f := 8) (k := 8) E inX9 rfl rfl (by decide) wm_906 rfl rfl rfl dX9_says_8 (fun hr1 => ?_)
  refine k_imul (pc := 11) E dX9_says_11 ?_
  refine k_iloadn (pc := 12) E 2 dX9_says_12 rfl rfl ?_
  refine k_iadd (pc := 13) E dX9_says_13 ?_
  refine k_iaload (pc := 14) (q0 := 6) (t0 := 0) (k := 6) (n := 24) E rfl rfl rfl (by decide) (by omega) (by omega) dX9_says_14 (fun hr2 => ?_)
  refine k_istoren (pc := 15) (lv' := [(3, gI (s0 6 ((4 * (s0 8 0)) + x0))), (2, gI 0), (0, .ref (a 0)), (1, gI x0)]) E dX9_says_15 rfl (by decide) rfl ?_
  have L48 : ∀ (n49 : Nat) (v45 : Int) (v46 : Int) (s47 : gMem), ((in32 v45) ∧ (in32 v46) ∧ (fr [25] s0 s47) ∧ (s47 8 0 = s0 8 0) ∧ (s0 6 (4 * s0 8 0 + x0) ≤ v46 ∧ v46 ≤ s0 6 (4 * s0 8 0 + x0 + 1)) ∧ (v45 = dep (s0 5) (200 * s0 8 0 + s0 6 (4 * s0 8 0 + x0)) (v46 - s0 6 (4 * s0 8 0 + x0)).toNat) ∧ (0 ≤ v45 ∧ v45 ≤ v46 - s0 6 (4 * s0 8 0 + x0)) ∧ (v46 = s0 6 (4 * s0 8 0 + x0) ∨ 1 ≤ v45)) → s0 6 (4 * s0 8 0 + x0 + 1) - v46 < (n49 : Int) → (∀ (w50 : Int) (w51 : Int) (s52 : gMem), (w_X9_says_16 x0 n49 v45 v46 s47) = (w50, w51, s52) → ((in32 w50) ∧ (in32 w51) ∧ (fr [25] s0 s52) ∧ (s52 8 0 = s0 8 0) ∧ (s0 6 (4 * s0 8 0 + x0) ≤ w51 ∧ w51 ≤ s0 6 (4 * s0 8 0 + x0 + 1)) ∧ (w50 = dep (s0 5) (200 * s0 8 0 + s0 6 (4 * s0 8 0 + x0)) (w51 - s0 6 (4 * s0 8 0 + x0)).toNat) ∧ (0 ≤ w50 ∧ w50 ≤ w51 - s0 6 (4 * s0 8 0 + x0)) ∧ (w51 = s0 6 (4 * s0 8 0 + x0) ∨ 1 ≤ w50)) → gK D vwCl (wdM a cI cJ) lgM A p l e { frames := 2, cells := 0, slots := 0, locals := 128 } s m args below meth c 5 (gQQ D vwCl (wdM a cI cJ) lgM A kI in32 below args s) (f_X9_says x0 s0) s52 197 [(0, .ref (a 0))] []) → gK D vwCl (wdM a cI cJ) lgM A p l e { frames := 2, cells := 0, slots := 0, locals := 128 } s m args below meth c 5 (gQQ D vwCl (wdM a cI cJ) lgM A kI in32 below args s) (f_X9_says x0 s0) s47 16 [(0, .ref (a 0)), (1, gI x0), (2, gI v45), (3, gI v46)] [] := by
    intro n49; induction n49 with
    | zero =>
      intro v45 v46 s47 hq hm hk
      exfalso
      obtain ⟨hq91, hq92, hf_s47, hq93, hq94, hq95, hq96, hq97⟩ := hq
      omega
    | succ n49 ih =>
      intro v45 v46 s47 hq hm hk
      obtain ⟨hq98, hq99, hf_s47, hq100, hq101, hq102, hq103, hq104⟩ := hq
      have hT := w_X9_says_16_s x0 n49 v45 v46 s47
      skip
      refine k_iloadn (pc := 16) E 3 dX9_says_16 rfl rfl ?_
      refine k_aloadn (pc := 17) E 0 dX9_says_17 rfl rfl ?_
      refine k_getf (pc := 18) (q0 := 0) (f := 6) (v := .ref (a 6)) E inX9 rfl rfl (by decide) wm_904 rfl rfl dX9_says_18 ?_
      refine k_iconst (pc := 21) E dX9_says_21 ?_
      refine k_aloadn (pc := 22) E 0 dX9_says_22 rfl rfl ?_
      refine k_getfI (pc := 23) (q0 := 0) (f := 8) (k := 8) E inX9 rfl rfl (by decide) wm_906 rfl rfl rfl dX9_says_23 (fun hr53 => ?_)
      refine k_imul (pc := 26) E dX9_says_26 ?_
      refine k_iloadn (pc := 27) E 1 dX9_says_27 rfl rfl ?_
      refine k_iadd (pc := 28) E dX9_says_28 ?_
      refine k_iconst (pc := 29) E dX9_says_29 ?_
      refine k_iadd (pc := 30) E dX9_says_30 ?_
      refine k_iaload (pc := 31) (q0 := 6) (t0 := 0) (k := 6) (n := 24) E rfl rfl rfl (by decide) (by omega) (by omega) dX9_says_31 (fun hr54 => ?_)
      have ke1 : (s47 6 (((4 * (s47 8 0)) + x0) + 1)) = s0 6 (4 * s0 8 0 + x0 + 1) := by rw [hf_s47 6 (by decide), hf_s47 8 (by decide)]
      by_cases h55 : v46 < (s47 6 (((4 * (s47 8 0)) + x0) + 1))
      · replace hT := hT.trans (if_pos h55)
        refine k_icmp_ge_f (pc := 32) (tgt := 197) E (by omega) (by omega) dX9_says_32 (by decide) h55 ?_
        refine k_aloadn (pc := 35) E 0 dX9_says_35 rfl rfl ?_
        refine k_getf (pc := 36) (q0 := 0) (f := 5) (v := .ref (a 5)) E inX9 rfl rfl (by decide) wm_903 rfl rfl dX9_says_36 ?_
        refine k_sipush (pc := 39) E dX9_says_39 (by decide) ?_
        refine k_aloadn (pc := 42) E 0 dX9_says_42 rfl rfl ?_
        refine k_getfI (pc := 43) (q0 := 0) (f := 8) (k := 8) E inX9 rfl rfl (by decide) wm_906 rfl rfl rfl dX9_says_43 (fun hr56 => ?_)
        refine k_imul (pc := 46) E dX9_says_46 ?_
        refine k_iloadn (pc := 47) E 3 dX9_says_47 rfl rfl ?_
        refine k_iadd (pc := 48) E dX9_says_48 ?_
        refine k_iaload (pc := 49) (q0 := 5) (t0 := 0) (k := 5) (n := 1200) E rfl rfl rfl (by decide) (by omega) (by omega) dX9_says_49 (fun hr57 => ?_)
        obtain ⟨v58, hv58, hT⟩ := glx hT
        refine k_st (st' := [gI v58]) (by rw [hv58]) ?_
        refine k_istore (pc := 50) (lv' := [(4, gI v58), (0, .ref (a 0)), (1, gI x0), (2, gI v45), (3, gI v46)]) E dX9_says_50 (by decide) rfl ?_
        have kc := VT_at kVT (k := v46) (by omega) (by omega)
        have kcv : v58 = s0 5 (200 * s0 8 0 + v46) := by rw [hv58, hf_s47 5 (by decide), hf_s47 8 (by decide)]
        rw [← kcv] at kc
        have kcd := cdep_c v58
        obtain ⟨ko, kc1, kc2⟩ := kc
        unfold okc at ko
        refine k_iload (pc := 52) E 0 dX9_says_52 rfl ?_
        refine k_ldc (pc := 54) (n := 100000) E dX9_says_54 wm_870 (by decide) ?_
        obtain ⟨j60c, hj60c, hT⟩ := gjx hT
        have j60 : ((100000 ≤ v58 ∨ v58 < 11)) → (w_X9_says_16 x0 (n49 + 1) v45 v46 s47) = j60c  → gK D vwCl (wdM a cI cJ) lgM A p l e { frames := 2, cells := 0, slots := 0, locals := 128 } s m args below meth c 5 (gQQ D vwCl (wdM a cI cJ) lgM A kI in32 below args s) (f_X9_says x0 s0) s47 66 [(0, .ref (a 0)), (1, gI x0), (2, gI v45), (3, gI v46), (4, gI v58)] [] := by
          intro  hq hT
          have hq69 := hq
          rw [hj60c] at hT
          refine k_aloadn (pc := 66) E 0 dX9_says_66 rfl rfl ?_
          refine k_getf (pc := 67) (q0 := 0) (f := 25) (v := .ref (a 14)) E inX9 rfl rfl (by decide) wm_923 rfl rfl dX9_says_67 ?_
          refine k_iloadn (pc := 70) E 2 dX9_says_70 rfl rfl ?_
          refine k_iload (pc := 71) E 4 dX9_says_71 rfl ?_
          refine k_bipush (pc := 73) E dX9_says_73 (by decide) ?_
          obtain ⟨z67, hz67, hT⟩ := gl1x hT
          have j62 : ∀ (v63 : Int), ((in32 v63)) → z67 = v63 → gK D vwCl (wdM a cI cJ) lgM A p l e { frames := 2, cells := 0, slots := 0, locals := 128 } s m args below meth c 5 (gQQ D vwCl (wdM a cI cJ) lgM A kI in32 below args s) (f_X9_says x0 s0) s47 93 [(0, .ref (a 0)), (1, gI x0), (2, gI v45), (3, gI v46)] [gI v63, gI v45, .ref (a 14)] := by
            intro v63 hq hz
            have hq66 := hq
            replace hT := gl1y hT hz
            refine k_iastore (pc := 93) (q0 := 14) (t0 := 0) (k := 25) (n := 200) E rfl rfl rfl rfl (by decide) (by omega) (by omega) (by omega) dX9_says_93 ?_
            obtain ⟨s64, hs64, hT⟩ := glx hT
            refine k_sg hs64.symm ?_
            have hf_s64 : fr [25] s0 s64 := hs64 ▸ hf_s47.set (by decide)
            have ht65 : s64 8 0 = s47 8 0 := by rw [hs64]; exact mset_ne _ _ _ _ _ (by decide)
            refine k_iinc (pc := 94) (lv' := [(2, gI (v45 + 1)), (0, .ref (a 0)), (1, gI x0), (3, gI v46)]) E 2 dX9_says_94 rfl (by decide) rfl ?_
            refine k_goto (pc := 97) (tgt := 191) E dX9_says_97 (by decide) ?_
            refine k_iinc (pc := 191) (lv' := [(3, gI (v46 + 1)), (2, gI (v45 + 1)), (0, .ref (a 0)), (1, gI x0)]) E 3 dX9_says_191 rfl (by decide) rfl ?_
            refine k_goto (pc := 194) (tgt := 16) E dX9_says_194 (by decide) ?_
            refine k_lv (lv' := [(0, .ref (a 0)), (1, gI x0), (2, gI (v45 + 1)), (3, gI (v46 + 1))]) [2, 3, 1, 0] rfl ?_
            exact ih (v45 + 1) (v46 + 1) s64 ⟨(by omega), (by omega), hf_s64, (by first | assumption | omega), (by first | assumption | omega), (by first | assumption | omega), (by first | assumption | omega), (by first | assumption | omega)⟩ (by omega) (fun w50 w51 s52 hw hi => hk w50 w51 s52 (hT.trans hw) hi)
          replace hT := hz67
          by_cases h61 : v58 < 11
          · replace hT := hT.trans (if_pos h61)
            refine k_icmp_ge_f (pc := 75) (tgt := 88) E (by omega) (by omega) dX9_says_75 (by decide) h61 ?_
            refine k_aloadn (pc := 78) E 0 dX9_says_78 rfl rfl ?_
            refine k_getf (pc := 79) (q0 := 0) (f := 26) (v := .ref (a 15)) E inX9 rfl rfl (by decide) wm_924 rfl rfl dX9_says_79 ?_
            refine k_iload (pc := 82) E 4 dX9_says_82 rfl ?_
            refine k_iaload (pc := 84) (q0 := 15) (t0 := 0) (k := 26) (n := 6) E rfl rfl rfl (by decide) (by omega) (by omega) dX9_says_84 (fun hr68 => ?_)
            refine k_goto (pc := 85) (tgt := 93) E dX9_says_85 (by decide) ?_
            refine k_lv (lv' := [(0, .ref (a 0)), (1, gI x0), (2, gI v45), (3, gI v46)]) [0, 1, 2, 3] rfl ?_
            exact j62 (s47 26 v58) (by omega) hT
          · replace hT := hT.trans (if_neg h61)
            refine k_icmp_ge_t (pc := 75) (tgt := 88) E (by omega) (by omega) dX9_says_75 (by decide) h61 ?_
            refine k_iload (pc := 88) E 4 dX9_says_88 rfl ?_
            refine k_ldc (pc := 90) (n := 100000) E dX9_says_90 wm_870 (by decide) ?_
            refine k_isub (pc := 92) E dX9_says_92 ?_
            refine k_lv (lv' := [(0, .ref (a 0)), (1, gI x0), (2, gI v45), (3, gI v46)]) [0, 1, 2, 3] rfl ?_
            exact j62 (v58 - 100000) (by omega) hT
        by_cases h59 : v58 < 100000
        · replace hT := hT.trans (if_pos h59)
          refine k_icmp_ge_f (pc := 56) (tgt := 66) E (by omega) (by omega) dX9_says_56 (by decide) h59 ?_
          refine k_iload (pc := 59) E 0 dX9_says_59 rfl ?_
          refine k_bipush (pc := 61) E dX9_says_61 (by decide) ?_
          by_cases h70 : v58 < 11
          · replace hT := hT.trans (if_pos h70)
            refine k_icmp_ge_f (pc := 63) (tgt := 100) E (by omega) (by omega) dX9_says_63 (by decide) h70 ?_
            refine k_lv (lv' := [(0, .ref (a 0)), (1, gI x0), (2, gI v45), (3, gI v46), (4, gI v58)]) [1, 2, 3, 4, 0] rfl ?_
            exact j60  (by first | assumption | omega) hT
          · replace hT := hT.trans (if_neg h70)
            refine k_icmp_ge_t (pc := 63) (tgt := 100) E (by omega) (by omega) dX9_says_63 (by decide) h70 ?_
            refine k_iload (pc := 100) E 0 dX9_says_100 rfl ?_
            refine k_bipush (pc := 102) E dX9_says_102 (by decide) ?_
            by_cases h71 : v58 = 13
            · replace hT := hT.trans (if_pos h71)
              refine k_icmp_ne_f (pc := 104) (tgt := 134) E (by omega) (by omega) dX9_says_104 (by decide) h71 ?_
              refine k_aloadn (pc := 107) E 1 dX9_says_107 rfl rfl ?_
              refine k_getf (pc := 108) (q0 := 0) (f := 25) (v := .ref (a 14)) E inX9 rfl rfl (by decide) wm_923 rfl rfl dX9_says_108 ?_
              refine k_iloadn (pc := 111) E 3 dX9_says_111 rfl rfl ?_
              refine k_iconst (pc := 112) E dX9_says_112 ?_
              refine k_isub (pc := 113) E dX9_says_113 ?_
              refine k_aloadn (pc := 114) E 1 dX9_says_114 rfl rfl ?_
              refine k_getf (pc := 115) (q0 := 0) (f := 25) (v := .ref (a 14)) E inX9 rfl rfl (by decide) wm_923 rfl rfl dX9_says_115 ?_
              refine k_iloadn (pc := 118) E 3 dX9_says_118 rfl rfl ?_
              refine k_iconst (pc := 119) E dX9_says_119 ?_
              refine k_isub (pc := 120) E dX9_says_120 ?_
              refine k_iaload (pc := 121) (q0 := 14) (t0 := 0) (k := 25) (n := 200) E rfl rfl rfl (by decide) (by omega) (by omega) dX9_says_121 (fun hr72 => ?_)
              obtain ⟨z79, hz79, hT⟩ := gl1x hT
              have j74 : ∀ (v75 : Int), ((in32 v75)) → z79 = v75 → gK D vwCl (wdM a cI cJ) lgM A p l e { frames := 2, cells := 0, slots := 0, locals := 128 } s m args below meth c 5 (gQQ D vwCl (wdM a cI cJ) lgM A kI in32 below args s) (f_X9_says x0 s0) s47 130 [(0, .ref (a 0)), (1, gI x0), (2, gI v45), (3, gI v46)] [gI v75, gI (v45 - 1), .ref (a 14)] := by
                intro v75 hq hz
                have hq78 := hq
                replace hT := gl1y hT hz
                refine k_iastore (pc := 130) (q0 := 14) (t0 := 0) (k := 25) (n := 200) E rfl rfl rfl rfl (by decide) (by omega) (by omega) (by omega) dX9_says_130 ?_
                obtain ⟨s76, hs76, hT⟩ := glx hT
                refine k_sg hs76.symm ?_
                have hf_s76 : fr [25] s0 s76 := hs76 ▸ hf_s47.set (by decide)
                have ht77 : s76 8 0 = s47 8 0 := by rw [hs76]; exact mset_ne _ _ _ _ _ (by decide)
                refine k_goto (pc := 131) (tgt := 191) E dX9_says_131 (by decide) ?_
                refine k_iinc (pc := 191) (lv' := [(3, gI (v46 + 1)), (0, .ref (a 0)), (1, gI x0), (2, gI v45)]) E 3 dX9_says_191 rfl (by decide) rfl ?_
                refine k_goto (pc := 194) (tgt := 16) E dX9_says_194 (by decide) ?_
                refine k_lv (lv' := [(0, .ref (a 0)), (1, gI x0), (2, gI v45), (3, gI (v46 + 1))]) [1, 2, 3, 0] rfl ?_
                exact ih v45 (v46 + 1) s76 ⟨(by omega), (by omega), hf_s76, (by first | assumption | omega), (by first | assumption | omega), (by first | assumption | omega), (by first | assumption | omega), (by first | assumption | omega)⟩ (by omega) (fun w50 w51 s52 hw hi => hk w50 w51 s52 (hT.trans hw) hi)
              replace hT := hz79
              by_cases h73 : (s47 25 (v45 - 1)) = 0
              · replace hT := hT.trans (if_pos h73)
                refine k_if_ne_f (pc := 122) (tgt := 129) E (by omega) dX9_says_122 (by decide) h73 ?_
                refine k_iconst (pc := 125) E dX9_says_125 ?_
                refine k_goto (pc := 126) (tgt := 130) E dX9_says_126 (by decide) ?_
                refine k_lv (lv' := [(0, .ref (a 0)), (1, gI x0), (2, gI v45), (3, gI v46)]) [1, 2, 3, 4] rfl ?_
                exact j74 1 (by omega) hT
              · replace hT := hT.trans (if_neg h73)
                refine k_if_ne_t (pc := 122) (tgt := 129) E (by omega) dX9_says_122 (by decide) h73 ?_
                refine k_iconst (pc := 129) E dX9_says_129 ?_
                refine k_lv (lv' := [(0, .ref (a 0)), (1, gI x0), (2, gI v45), (3, gI v46)]) [1, 2, 3, 4] rfl ?_
                exact j74 0 (by omega) hT
            · replace hT := hT.trans (if_neg h71)
              refine k_icmp_ne_t (pc := 104) (tgt := 134) E (by omega) (by omega) dX9_says_104 (by decide) h71 ?_
              refine k_iload (pc := 134) E 0 dX9_says_134 rfl ?_
              refine k_bipush (pc := 136) E dX9_says_136 (by decide) ?_
              by_cases h80 : v58 = 19
              · replace hT := hT.trans (if_pos h80)
                refine k_icmp_ne_f (pc := 138) (tgt := 161) E (by omega) (by omega) dX9_says_138 (by decide) h80 ?_
                refine k_aloadn (pc := 141) E 1 dX9_says_141 rfl rfl ?_
                refine k_getf (pc := 142) (q0 := 0) (f := 25) (v := .ref (a 14)) E inX9 rfl rfl (by decide) wm_923 rfl rfl dX9_says_142 ?_
                refine k_iloadn (pc := 145) E 3 dX9_says_145 rfl rfl ?_
                refine k_iconst (pc := 146) E dX9_says_146 ?_
                refine k_isub (pc := 147) E dX9_says_147 ?_
                refine k_aloadn (pc := 148) E 1 dX9_says_148 rfl rfl ?_
                refine k_getf (pc := 149) (q0 := 0) (f := 25) (v := .ref (a 14)) E inX9 rfl rfl (by decide) wm_923 rfl rfl dX9_says_149 ?_
                refine k_iloadn (pc := 152) E 3 dX9_says_152 rfl rfl ?_
                refine k_iconst (pc := 153) E dX9_says_153 ?_
                refine k_isub (pc := 154) E dX9_says_154 ?_
                refine k_iaload (pc := 155) (q0 := 14) (t0 := 0) (k := 25) (n := 200) E rfl rfl rfl (by decide) (by omega) (by omega) dX9_says_155 (fun hr81 => ?_)
                refine k_ineg (pc := 156) E dX9_says_156 ?_
                refine k_st (st' := [gI (iwr (-(s47 25 (v45 - 1)))), gI (v45 - 1), .ref (a 14)]) (congrArg (fun q => q :: [gI (v45 - 1), .ref (a 14)]) (gIw (-(s47 25 (v45 - 1))))) ?_
                have hb82 := iwr_rg (-(s47 25 (v45 - 1)))
                refine k_iastore (pc := 157) (q0 := 14) (t0 := 0) (k := 25) (n := 200) E rfl rfl rfl rfl (by decide) (by omega) (by omega) (by omega) dX9_says_157 ?_
                obtain ⟨s83, hs83, hT⟩ := glx hT
                refine k_sg hs83.symm ?_
                have hf_s83 : fr [25] s0 s83 := hs83 ▸ hf_s47.set (by decide)
                have ht84 : s83 8 0 = s47 8 0 := by rw [hs83]; exact mset_ne _ _ _ _ _ (by decide)
                refine k_goto (pc := 158) (tgt := 191) E dX9_says_158 (by decide) ?_
                refine k_iinc (pc := 191) (lv' := [(3, gI (v46 + 1)), (4, gI v58), (0, .ref (a 0)), (1, gI x0), (2, gI v45)]) E 4 dX9_says_191 rfl (by decide) rfl ?_
                refine k_goto (pc := 194) (tgt := 16) E dX9_says_194 (by decide) ?_
                refine k_lv (lv' := [(0, .ref (a 0)), (1, gI x0), (2, gI v45), (3, gI (v46 + 1))]) [2, 3, 4, 0] rfl ?_
                exact ih v45 (v46 + 1) s83 ⟨(by omega), (by omega), hf_s83, (by first | assumption | omega), (by first | assumption | omega), (by first | assumption | omega), (by first | assumption | omega), (by first | assumption | omega)⟩ (by omega) (fun w50 w51 s52 hw hi => hk w50 w51 s52 (hT.trans hw) hi)
              · replace hT := hT.trans (if_neg h80)
                refine k_icmp_ne_t (pc := 138) (tgt := 161) E (by omega) (by omega) dX9_says_138 (by decide) h80 ?_
                refine k_iinc (pc := 161) (lv' := [(2, gI (v45 + (-1))), (4, gI v58), (0, .ref (a 0)), (1, gI x0), (3, gI v46)]) E 3 dX9_says_161 rfl (by decide) rfl ?_
                refine k_aloadn (pc := 164) E 2 dX9_says_164 rfl rfl ?_
                refine k_getf (pc := 165) (q0 := 0) (f := 25) (v := .ref (a 14)) E inX9 rfl rfl (by decide) wm_923 rfl rfl dX9_says_165 ?_
                refine k_iloadn (pc := 168) E 0 dX9_says_168 rfl rfl ?_
                refine k_iconst (pc := 169) E dX9_says_169 ?_
                refine k_isub (pc := 170) E dX9_says_170 ?_
                refine k_iload (pc := 171) E 1 dX9_says_171 rfl ?_
                refine k_aloadn (pc := 173) E 2 dX9_says_173 rfl rfl ?_
                refine k_getf (pc := 174) (q0 := 0) (f := 25) (v := .ref (a 14)) E inX9 rfl rfl (by decide) wm_923 rfl rfl dX9_says_174 ?_
                refine k_iloadn (pc := 177) E 0 dX9_says_177 rfl rfl ?_
                refine k_iconst (pc := 178) E dX9_says_178 ?_
                refine k_isub (pc := 179) E dX9_says_179 ?_
                refine k_iaload (pc := 180) (q0 := 14) (t0 := 0) (k := 25) (n := 200) E rfl rfl rfl (by decide) (by omega) (by omega) dX9_says_180 (fun hr85 => ?_)
                refine k_aloadn (pc := 181) E 2 dX9_says_181 rfl rfl ?_
                refine k_getf (pc := 182) (q0 := 0) (f := 25) (v := .ref (a 14)) E inX9 rfl rfl (by decide) wm_923 rfl rfl dX9_says_182 ?_
                refine k_iloadn (pc := 185) E 0 dX9_says_185 rfl rfl ?_
                refine k_iaload (pc := 186) (q0 := 14) (t0 := 0) (k := 25) (n := 200) E rfl rfl rfl (by decide) (by omega) (by omega) dX9_says_186 (fun hr86 => ?_)
                refine k_callS (pc := 187) (np := 3) (As := [gI v58, gI (s47 25 ((v45 + (-1)) - 1)), gI (s47 25 (v45 + (-1)))]) (st := [gI ((v45 + (-1)) - 1), .ref (a 14)]) E (c_X9_two l D a cI cJ cS cT s47 v58 (s47 25 ((v45 + (-1)) - 1)) (s47 25 (v45 + (-1))) (by omega) (by omega) (by omega)) wm_1054 wm_11 wm_1052 wm_1053 (by decide +kernel) ⟨by decide, by decide⟩ rfl (Nat.le_of_ble_eq_true rfl) dX9_says_187 (ro_kk (fun hr87 => ?_))
                refine k_st (st' := [gI (f_X9_two v58 (s47 25 ((v45 + (-1)) - 1)) (s47 25 (v45 + (-1)))), gI ((v45 + (-1)) - 1), .ref (a 14)]) rfl ?_
                refine k_iastore (pc := 190) (q0 := 14) (t0 := 0) (k := 25) (n := 200) E rfl rfl rfl rfl (by decide) (by omega) (by omega) (by omega) dX9_says_190 ?_
                obtain ⟨s89, hs89, hT⟩ := glx hT
                refine k_sg hs89.symm ?_
                have hf_s89 : fr [25] s0 s89 := hs89 ▸ hf_s47.set (by decide)
                have ht90 : s89 8 0 = s47 8 0 := by rw [hs89]; exact mset_ne _ _ _ _ _ (by decide)
                refine k_iinc (pc := 191) (lv' := [(3, gI (v46 + 1)), (2, gI (v45 + (-1))), (4, gI v58), (0, .ref (a 0)), (1, gI x0)]) E 4 dX9_says_191 rfl (by decide) rfl ?_
                refine k_goto (pc := 194) (tgt := 16) E dX9_says_194 (by decide) ?_
                refine k_lv (lv' := [(0, .ref (a 0)), (1, gI x0), (2, gI (v45 + (-1))), (3, gI (v46 + 1))]) [3, 4, 1, 0] rfl ?_
                exact ih (v45 + (-1)) (v46 + 1) s89 ⟨(by omega), (by omega), hf_s89, (by first | assumption | omega), (by first | assumption | omega), (by first | assumption | omega), (by first | assumption | omega), (by first | assumption | omega)⟩ (by omega) (fun w50 w51 s52 hw hi => hk w50 w51 s52 (hT.trans hw) hi)
        · replace hT := hT.trans (if_neg h59)
          refine k_icmp_ge_t (pc := 56) (tgt := 66) E (by omega) (by omega) dX9_says_56 (by decide) h59 ?_
          refine k_lv (lv' := [(0, .ref (a 0)), (1, gI x0), (2, gI v45), (3, gI v46), (4, gI v58)]) [1, 2, 3, 4, 0] rfl ?_
          exact j60  (by first | assumption | omega) hT
      · replace hT := hT.trans (if_neg h55)
        refine k_icmp_ge_t (pc := 32) (tgt := 197) E (by omega) (by omega) dX9_says_32 (by decide) h55 ?_
        refine k_lv (lv' := [(0, .ref (a 0))]) [0] rfl ?_
        exact hk v45 v46 s47 hT ⟨(by omega), (by omega), hf_s47, (by first | assumption | omega), (by first | assumption | omega), (by first | assumption | omega), (by first | assumption | omega), (by first | assumption | omega)⟩
  refine k_lv (lv' := [(0, .ref (a 0)), (1, gI x0), (2, gI 0), (3, gI (s0 6 ((4 * (s0 8 0)) + x0)))]) [2, 3, 1, 0] rfl ?_
  refine L48 201 0 (s0 6 ((4 * (s0 8 0)) + x0)) s0 ⟨(by omega), (by omega), hf_s0, (by first | assumption | omega), (by first | assumption | omega), (by first | assumption | omega), (by first | assumption | omega), (by first | assumption | omega)⟩ (by omega) (fun v105 v106 s107 hw hq => ?_)
  obtain ⟨hq108, hq109, hf_s107, hq110, hq111, hq112, hq113, hq114⟩ := hq
  replace hT := gl3y hT hw
  refine k_aloadn (pc := 197) E 0 dX9_says_197 rfl rfl ?_
  refine k_getf (pc := 198) (q0 := 0) (f := 25) (v := .ref (a 14)) E inX9 rfl rfl (by decide) wm_923 rfl rfl dX9_says_198 ?_
  refine k_iconst (pc := 201) E dX9_says_201 ?_
  refine k_iaload (pc := 202) (q0 := 14) (t0 := 0) (k := 25) (n := 200) E rfl rfl rfl (by decide) (by omega) (by omega) dX9_says_202 (fun hr115 => ?_)
  exact k_rho hT (k_iret (pc := 203) E dX9_says_203 (by omega))

def f_X9_asksOf (x0 : Int) (x1 : Int) (x2 : Int) (s0 : gMem) : gRes := gl (mset s0 26 0 x1) (fun s1 => gl (mset s1 26 1 (s1 1 x1)) (fun s3 => gl (mset s3 26 2 x2) (fun s4 => gl (mset s4 26 3 (f_X9_ones (s4 2 0))) (fun s8 => gl (mset s8 26 4 (s8 2 2)) (fun s10 => gl (mset s10 26 5 (s10 2 3)) (fun s12 => gb (f_X9_says x0 s12) (fun r14 s15 => (gl ((if x0 = 0 then 0 else 1)) (fun v20 => ((f_X9_within r14 v20 99), s15))))))))))
theorem f_X9_asksOf_e (x0 : Int) (x1 : Int) (x2 : Int) (s0 : gMem) : f_X9_asksOf x0 x1 x2 s0 = gl (mset s0 26 0 x1) (fun s1 => gl (mset s1 26 1 (s1 1 x1)) (fun s3 => gl (mset s3 26 2 x2) (fun s4 => gl (mset s4 26 3 (f_X9_ones (s4 2 0))) (fun s8 => gl (mset s8 26 4 (s8 2 2)) (fun s10 => gl (mset s10 26 5 (s10 2 3)) (fun s12 => gb (f_X9_says x0 s12) (fun r14 s15 => (gl ((if x0 = 0 then 0 else 1)) (fun v20 => ((f_X9_within r14 v20 99), s15)))))))))) := rfl
set_option maxRecDepth 100000 in
set_option maxHeartbeats 4000000 in
theorem f_X9_asksOf_p (x0 : Int) (x1 : Int) (x2 : Int) (s0 : gMem) (hx0 : in32 x0) (hx1 : in32 x1) (hx2 : in32 x2) (hm_s0 : gMR lgM s0) (hpre0 : VS s0) (hpre1 : 0 ≤ x0 ∧ x0 ≤ 2) (hpre2 : 0 ≤ x1 ∧ x1 ≤ 15) (rZ : Int) (sZ : gMem) (hres : f_X9_asksOf x0 x1 x2 s0 = (rZ, sZ)) : (fr [25, 26] s0 sZ) ∧ (gMR lgM sZ) ∧ (in32 rZ) ∧ (0 ≤ rZ ∧ rZ ≤ 99) := by
  have hT := f_X9_asksOf_e x0 x1 x2 s0
  have hf_s0 : fr [25, 26] s0 s0 := fr.rf _ _
  obtain ⟨s1, hs1, hT⟩ := glx hT
  have hf_s1 : fr [25, 26] s0 s1 := hs1 ▸ hf_s0.set (by decide)
  have hm_s1 : gMR lgM s1 := hs1 ▸ hm_s0.set32 rfl (by omega)
  have hr2 := (hm_s1 1 x1).1 rfl
  obtain ⟨s3, hs3, hT⟩ := glx hT
  have hf_s3 : fr [25, 26] s0 s3 := hs3 ▸ hf_s1.set (by decide)
  have hm_s3 : gMR lgM s3 := hs3 ▸ hm_s1.set32 rfl (by omega)
  obtain ⟨s4, hs4, hT⟩ := glx hT
  have hf_s4 : fr [25, 26] s0 s4 := hs4 ▸ hf_s3.set (by decide)
  have hm_s4 : gMR lgM s4 := hs4 ▸ hm_s3.set32 rfl (by omega)
  have hr5 := (hm_s4 2 0).1 rfl
  have hp7 := f_X9_ones_p (s4 2 0) (by omega) 
  obtain ⟨s8, hs8, hT⟩ := glx hT
  have hf_s8 : fr [25, 26] s0 s8 := hs8 ▸ hf_s4.set (by decide)
  have hm_s8 : gMR lgM s8 := hs8 ▸ hm_s4.set32 rfl (by omega)
  have hr9 := (hm_s8 2 2).1 rfl
  obtain ⟨s10, hs10, hT⟩ := glx hT
  have hf_s10 : fr [25, 26] s0 s10 := hs10 ▸ hf_s8.set (by decide)
  have hm_s10 : gMR lgM s10 := hs10 ▸ hm_s8.set32 rfl (by omega)
  have hr11 := (hm_s10 2 3).1 rfl
  obtain ⟨s12, hs12, hT⟩ := glx hT
  have hf_s12 : fr [25, 26] s0 s12 := hs12 ▸ hf_s10.set (by decide)
  have hm_s12 : gMR lgM s12 := hs12 ▸ hm_s10.set32 rfl (by omega)
  obtain ⟨r14, s15, hs15⟩ : ∃ rr ss, (f_X9_says x0 s12) = (rr, ss) := ⟨_, _, rfl⟩
  replace hT := gby hT hs15
  have hp16 := f_X9_says_p x0 s12 (by omega) hm_s12 (by unfold VS; rw [hf_s12 5 (by decide), hf_s12 6 (by decide), hf_s12 7 (by decide), hf_s12 8 (by decide)]; exact hpre0) (by first | assumption | omega) r14 s15 hs15
  obtain ⟨hfc_s15, hm_s15, hp17⟩ := hp16
  have hf_s15 : fr [25, 26] s0 s15 := hf_s12.call (by decide) hfc_s15
  obtain ⟨z24, hz24, hT⟩ := gl1x hT
  have j19 : ∀ (v20 : Int), ((in32 v20)) → z24 = v20 → (fr [25, 26] s0 sZ) ∧ (gMR lgM sZ) ∧ (in32 rZ) ∧ (0 ≤ rZ ∧ rZ ≤ 99) := by
    intro v20 hq hz
    have hq23 := hq
    replace hT := gl1y hT hz
    have hp22 := f_X9_within_p r14 v20 99 (by omega) (by omega) (by omega) 
    obtain ⟨rfl, rfl⟩ := Prod.mk.inj (hT.symm.trans hres)
    exact ⟨hf_s15, hm_s15, (by omega), (by first | assumption | omega)⟩
  replace hT := hz24
  by_cases h18 : x0 = 0
  · replace hT := hT.trans (if_pos h18)
    exact j19 0 (by omega) hT
  · replace hT := hT.trans (if_neg h18)
    exact j19 1 (by omega) hT
set_option maxRecDepth 100000 in
set_option maxHeartbeats 4000000 in
theorem c_X9_asksOf (l : Launch) (D : va_G) (a : Nat → Nat) (cI cJ cS cT : ClassId) (s0 : gMem) (x0 : Int) (x1 : Int) (x2 : Int) (hx0 : in32 x0) (hx1 : in32 x1) (hx2 : in32 x2) (hpre0 : VS s0) (hpre1 : 0 ≤ x0 ∧ x0 ≤ 2) (hpre2 : 0 ≤ x1 ∧ x1 ≤ 15) : gC l yX9_asksOf cX9_asksOf 4 (some .int) 3 192 D vwCl (gT cI cJ cS cT) (wdM a cI cJ) lgM kI in32 [.ref (a 0), gI x0, gI x1, gI x2] s0 (f_X9_asksOf x0 x1 x2 s0) := by
  refine gC_of (by decide +kernel) (hwdM a cI cJ) (Nat.le_of_ble_eq_true rfl) ?_
  intro A p e R s m args below meth c hR E
  subst hR
  have hT := f_X9_asksOf_e x0 x1 x2 s0
  have hf_s0 : fr [25, 26] s0 s0 := fr.rf _ _
  refine k_lv0 (lv' := [(0, .ref (a 0)), (1, gI x0), (2, gI x1), (3, gI x2)]) rfl ?_
  refine k_mr (fun hm_s0 => ?_)
  refine k_aloadn (pc := 0) E 0 dX9_asksOf_0 rfl rfl ?_
  refine k_getf (pc := 1) (q0 := 0) (f := 26) (v := .ref (a 15)) E inX9 rfl rfl (by decide) wm_924 rfl rfl dX9_asksOf_1 ?_
  refine k_iconst (pc := 4) E dX9_asksOf_4 ?_
  refine k_iloadn (pc := 5) E 2 dX9_asksOf_5 rfl rfl ?_
  refine k_iastore (pc := 6) (q0 := 15) (t0 := 0) (k := 26) (n := 6) E rfl rfl rfl rfl (by decide) (by omega) (by omega) (by omega) dX9_asksOf_6 ?_
  obtain ⟨s1, hs1, hT⟩ := glx hT
  refine k_sg hs1.symm ?_
  have hf_s1 : fr [25, 26] s0 s1 := hs1 ▸ hf_s0.set (by decide)
  refine k_aloadn (pc := 7) E 0 dX9_asksOf_7 rfl rfl ?_
  refine k_getf (pc := 8) (q0 := 0) (f := 26) (v := .ref (a 15)) E inX9 rfl rfl (by decide) wm_924 rfl rfl dX9_asksOf_8 ?_
  refine k_iconst (pc := 11) E dX9_asksOf_11 ?_
  refine k_aloadn (pc := 12) E 0 dX9_asksOf_12 rfl rfl ?_
  refine k_getf (pc := 13) (q0 := 0) (f := 1) (v := .ref (a 2)) E inX9 rfl rfl (by decide) wm_899 rfl rfl dX9_asksOf_13 ?_
  refine k_iloadn (pc := 16) E 2 dX9_asksOf_16 rfl rfl ?_
  refine k_iaload (pc := 17) (q0 := 2) (t0 := 0) (k := 1) (n := 16) E rfl rfl rfl (by decide) (by omega) (by omega) dX9_asksOf_17 (fun hr2 => ?_)
  refine k_iastore (pc := 18) (q0 := 15) (t0 := 0) (k := 26) (n := 6) E rfl rfl rfl rfl (by decide) (by omega) (by omega) (by omega) dX9_asksOf_18 ?_
  obtain ⟨s3, hs3, hT⟩ := glx hT
  refine k_sg hs3.symm ?_
  have hf_s3 : fr [25, 26] s0 s3 := hs3 ▸ hf_s1.set (by decide)
  refine k_aloadn (pc := 19) E 0 dX9_asksOf_19 rfl rfl ?_
  refine k_getf (pc := 20) (q0 := 0) (f := 26) (v := .ref (a 15)) E inX9 rfl rfl (by decide) wm_924 rfl rfl dX9_asksOf_20 ?_
  refine k_iconst (pc := 23) E dX9_asksOf_23 ?_
  refine k_iloadn (pc := 24) E 3 dX9_asksOf_24 rfl rfl ?_
  refine k_iastore (pc := 25) (q0 := 15) (t0 := 0) (k := 26) (n := 6) E rfl rfl rfl rfl (by decide) (by omega) (by omega) (by omega) dX9_asksOf_25 ?_
  obtain ⟨s4, hs4, hT⟩ := glx hT
  refine k_sg hs4.symm ?_
  have hf_s4 : fr [25, 26] s0 s4 := hs4 ▸ hf_s3.set (by decide)
  refine k_aloadn (pc := 26) E 0 dX9_asksOf_26 rfl rfl ?_
  refine k_getf (pc := 27) (q0 := 0) (f := 26) (v := .ref (a 15)) E inX9 rfl rfl (by decide) wm_924 rfl rfl dX9_asksOf_27 ?_
  refine k_iconst (pc := 30) E dX9_asksOf_30 ?_
  refine k_aloadn (pc := 31) E 0 dX9_asksOf_31 rfl rfl ?_
  refine k_getf (pc := 32) (q0 := 0) (f := 2) (v := .ref (a 3)) E inX9 rfl rfl (by decide) wm_900 rfl rfl dX9_asksOf_32 ?_
  refine k_iconst (pc := 35) E dX9_asksOf_35 ?_
  refine k_iaload (pc := 36) (q0 := 3) (t0 := 0) (k := 2) (n := 4) E rfl rfl rfl (by decide) (by omega) (by omega) dX9_asksOf_36 (fun hr5 => ?_)
  refine k_mr (fun hm_s4 => ?_)
  refine k_callS (pc := 37) (np := 1) (As := [gI (s4 2 0)]) (st := [gI 3, .ref (a 15)]) E (c_X9_ones l D a cI cJ cS cT s4 (s4 2 0) (by omega)) wm_1047 wm_11 wm_1045 wm_1046 (by decide +kernel) ⟨by decide, by decide⟩ rfl (Nat.le_of_ble_eq_true rfl) dX9_asksOf_37 (ro_kk (fun hr6 => ?_))
  have hp7 := f_X9_ones_p (s4 2 0) (by omega) 
  refine k_st (st' := [gI (f_X9_ones (s4 2 0)), gI 3, .ref (a 15)]) rfl ?_
  refine k_iastore (pc := 40) (q0 := 15) (t0 := 0) (k := 26) (n := 6) E rfl rfl rfl rfl (by decide) (by omega) (by omega) (by omega) dX9_asksOf_40 ?_
  obtain ⟨s8, hs8, hT⟩ := glx hT
  refine k_sg hs8.symm ?_
  have hf_s8 : fr [25, 26] s0 s8 := hs8 ▸ hf_s4.set (by decide)
  refine k_aloadn (pc := 41) E 0 dX9_asksOf_41 rfl rfl ?_
  refine k_getf (pc := 42) (q0 := 0) (f := 26) (v := .ref (a 15)) E inX9 rfl rfl (by decide) wm_924 rfl rfl dX9_asksOf_42 ?_
  refine k_iconst (pc := 45) E dX9_asksOf_45 ?_
  refine k_aloadn (pc := 46) E 0 dX9_asksOf_46 rfl rfl ?_
  refine k_getf (pc := 47) (q0 := 0) (f := 2) (v := .ref (a 3)) E inX9 rfl rfl (by decide) wm_900 rfl rfl dX9_asksOf_47 ?_
  refine k_iconst (pc := 50) E dX9_asksOf_50 ?_
  refine k_iaload (pc := 51) (q0 := 3) (t0 := 0) (k := 2) (n := 4) E rfl rfl rfl (by decide) (by omega) (by omega) dX9_asksOf_51 (fun hr9 => ?_)
  refine k_iastore (pc := 52) (q0 := 15) (t0 := 0) (k := 26) (n := 6) E rfl rfl rfl rfl (by decide) (by omega) (by omega) (by omega) dX9_asksOf_52 ?_
  obtain ⟨s10, hs10, hT⟩ := glx hT
  refine k_sg hs10.symm ?_
  have hf_s10 : fr [25, 26] s0 s10 := hs10 ▸ hf_s8.set (by decide)
  refine k_aloadn (pc := 53) E 0 dX9_asksOf_53 rfl rfl ?_
  refine k_getf (pc := 54) (q0 := 0) (f := 26) (v := .ref (a 15)) E inX9 rfl rfl (by decide) wm_924 rfl rfl dX9_asksOf_54 ?_
  refine k_iconst (pc := 57) E dX9_asksOf_57 ?_
  refine k_aloadn (pc := 58) E 0 dX9_asksOf_58 rfl rfl ?_
  refine k_getf (pc := 59) (q0 := 0) (f := 2) (v := .ref (a 3)) E inX9 rfl rfl (by decide) wm_900 rfl rfl dX9_asksOf_59 ?_
  refine k_iconst (pc := 62) E dX9_asksOf_62 ?_
  refine k_iaload (pc := 63) (q0 := 3) (t0 := 0) (k := 2) (n := 4) E rfl rfl rfl (by decide) (by omega) (by omega) dX9_asksOf_63 (fun hr11 => ?_)
  refine k_iastore (pc := 64) (q0 := 15) (t0 := 0) (k := 26) (n := 6) E rfl rfl rfl rfl (by decide) (by omega) (by omega) (by omega) dX9_asksOf_64 ?_
  obtain ⟨s12, hs12, hT⟩ := glx hT
  refine k_sg hs12.symm ?_
  have hf_s12 : fr [25, 26] s0 s12 := hs12 ▸ hf_s10.set (by decide)
  refine k_aloadn (pc := 65) E 0 dX9_asksOf_65 rfl rfl ?_
  refine k_iloadn (pc := 66) E 1 dX9_asksOf_66 rfl rfl ?_
  refine k_mr (fun hm_s12 => ?_)
  refine k_callV (pc := 67) (np := 1) (As := [gI x0]) (st := []) (q0 := 0) E (c_X9_says l D a cI cJ cS cT s12 x0 (by omega) (by unfold VS; rw [hf_s12 5 (by decide), hf_s12 6 (by decide), hf_s12 7 (by decide), hf_s12 8 (by decide)]; exact hpre0) (by first | assumption | omega)) wm_1051 wm_11 wm_1048 wm_1050 wp_35 (by decide +kernel) rfl rfl ⟨by decide, by decide⟩ rfl (Nat.le_of_ble_eq_true rfl) dX9_asksOf_67 (fun r14 s15 hs15 hr13 => ?_)
  replace hT := gby hT hs15
  have hp16 := f_X9_says_p x0 s12 (by omega) hm_s12 (by unfold VS; rw [hf_s12 5 (by decide), hf_s12 6 (by decide), hf_s12 7 (by decide), hf_s12 8 (by decide)]; exact hpre0) (by first | assumption | omega) r14 s15 hs15
  obtain ⟨hfc_s15, hm_s15, hp17⟩ := hp16
  have hf_s15 : fr [25, 26] s0 s15 := hf_s12.call (by decide) hfc_s15
  refine k_st (st' := [gI r14]) rfl ?_
  refine k_iloadn (pc := 70) E 1 dX9_asksOf_70 rfl rfl ?_
  obtain ⟨z24, hz24, hT⟩ := gl1x hT
  have j19 : ∀ (v20 : Int), ((in32 v20)) → z24 = v20 → gK D vwCl (wdM a cI cJ) lgM A p l e { frames := 3, cells := 0, slots := 0, locals := 192 } s m args below meth c 4 (gQQ D vwCl (wdM a cI cJ) lgM A kI in32 below args s) (f_X9_asksOf x0 x1 x2 s0) s15 79 [] [gI v20, gI r14] := by
    intro v20 hq hz
    have hq23 := hq
    replace hT := gl1y hT hz
    refine k_bipush (pc := 79) E dX9_asksOf_79 (by decide) ?_
    refine k_mr (fun hm_s15 => ?_)
    refine k_callS (pc := 81) (np := 3) (As := [gI r14, gI v20, gI 99]) (st := []) E (c_X9_within l D a cI cJ cS cT s15 r14 v20 99 (by omega) (by omega) (by omega)) wm_1057 wm_11 wm_1055 wm_1056 (by decide +kernel) ⟨by decide, by decide⟩ rfl (Nat.le_of_ble_eq_true rfl) dX9_asksOf_81 (ro_kk (fun hr21 => ?_))
    have hp22 := f_X9_within_p r14 v20 99 (by omega) (by omega) (by omega) 
    refine k_st (st' := [gI (f_X9_within r14 v20 99)]) rfl ?_
    exact k_rho hT (k_iret (pc := 84) E dX9_asksOf_84 (by omega))
  replace hT := hz24
  by_cases h18 : x0 = 0
  · replace hT := hT.trans (if_pos h18)
    refine k_if_ne_f (pc := 71) (tgt := 78) E (by omega) dX9_asksOf_71 (by decide) h18 ?_
    refine k_iconst (pc := 74) E dX9_asksOf_74 ?_
    refine k_goto (pc := 75) (tgt := 79) E dX9_asksOf_75 (by decide) ?_
    refine k_lv (lv' := []) [] rfl ?_
    exact j19 0 (by omega) hT
  · replace hT := hT.trans (if_neg h18)
    refine k_if_ne_t (pc := 71) (tgt := 78) E (by omega) dX9_asksOf_71 (by decide) h18 ?_
    refine k_iconst (pc := 78) E dX9_asksOf_78 ?_
    refine k_lv (lv' := []) [] rfl ?_
    exact j19 1 (by omega) hT

def f_X9_asks (x0 : Int) (x1 : Int) (x2 : Int) (s0 : gMem) : gRes := (if (f_X9_in x0 0 2) = 0 then ((-2), s0) else (if (f_X9_isPlace x1) = 0 then ((-2), s0) else (if (f_X9_in x2 0 16) = 0 then ((-2), s0) else gb (f_X9_asksOf x0 x1 x2 s0) (fun r11 s12 => (r11, s12)))))
theorem f_X9_asks_e (x0 : Int) (x1 : Int) (x2 : Int) (s0 : gMem) : f_X9_asks x0 x1 x2 s0 = (if (f_X9_in x0 0 2) = 0 then ((-2), s0) else (if (f_X9_isPlace x1) = 0 then ((-2), s0) else (if (f_X9_in x2 0 16) = 0 then ((-2), s0) else gb (f_X9_asksOf x0 x1 x2 s0) (fun r11 s12 => (r11, s12))))) := rfl
set_option maxRecDepth 100000 in
set_option maxHeartbeats 4000000 in
theorem f_X9_asks_p (x0 : Int) (x1 : Int) (x2 : Int) (s0 : gMem) (hx0 : in32 x0) (hx1 : in32 x1) (hx2 : in32 x2) (hm_s0 : gMR lgM s0) (hpre0 : VS s0) (rZ : Int) (sZ : gMem) (hres : f_X9_asks x0 x1 x2 s0 = (rZ, sZ)) : (fr [25, 26] s0 sZ) ∧ (gMR lgM sZ) ∧ (in32 rZ) := by
  have hT := f_X9_asks_e x0 x1 x2 s0
  have hf_s0 : fr [25, 26] s0 s0 := fr.rf _ _
  have hp2 := f_X9_in_p x0 0 2 (by omega) (by omega) (by omega) 
  by_cases h3 : (f_X9_in x0 0 2) = 0
  · replace hT := hT.trans (if_pos h3)
    obtain ⟨rfl, rfl⟩ := Prod.mk.inj (hT.symm.trans hres)
    exact ⟨hf_s0, hm_s0, (by omega)⟩
  · replace hT := hT.trans (if_neg h3)
    have hp5 := f_X9_isPlace_p x1 (by omega) 
    by_cases h6 : (f_X9_isPlace x1) = 0
    · replace hT := hT.trans (if_pos h6)
      obtain ⟨rfl, rfl⟩ := Prod.mk.inj (hT.symm.trans hres)
      exact ⟨hf_s0, hm_s0, (by omega)⟩
    · replace hT := hT.trans (if_neg h6)
      have hp8 := f_X9_in_p x2 0 16 (by omega) (by omega) (by omega) 
      by_cases h9 : (f_X9_in x2 0 16) = 0
      · replace hT := hT.trans (if_pos h9)
        obtain ⟨rfl, rfl⟩ := Prod.mk.inj (hT.symm.trans hres)
        exact ⟨hf_s0, hm_s0, (by omega)⟩
      · replace hT := hT.trans (if_neg h9)
        obtain ⟨r11, s12, hs12⟩ : ∃ rr ss, (f_X9_asksOf x0 x1 x2 s0) = (rr, ss) := ⟨_, _, rfl⟩
        replace hT := gby hT hs12
        have hp13 := f_X9_asksOf_p x0 x1 x2 s0 (by omega) (by omega) (by omega) hm_s0 hpre0 (by first | assumption | omega) (by first | assumption | omega) r11 s12 hs12
        obtain ⟨hfc_s12, hm_s12, hp14, hp15⟩ := hp13
        have hf_s12 : fr [25, 26] s0 s12 := hf_s0.call (by decide) hfc_s12
        obtain ⟨rfl, rfl⟩ := Prod.mk.inj (hT.symm.trans hres)
        exact ⟨hf_s12, hm_s12, (by omega)⟩
set_option maxRecDepth 100000 in
set_option maxHeartbeats 4000000 in
theorem c_X9_asks (l : Launch) (D : va_G) (a : Nat → Nat) (cI cJ cS cT : ClassId) (s0 : gMem) (x0 : Int) (x1 : Int) (x2 : Int) (hx0 : in32 x0) (hx1 : in32 x1) (hx2 : in32 x2) (hpre0 : VS s0) : gC l yX9_asks cX9_asks 4 (some .int) 4 256 D vwCl (gT cI cJ cS cT) (wdM a cI cJ) lgM kI in32 [.ref (a 0), gI x0, gI x1, gI x2] s0 (f_X9_asks x0 x1 x2 s0) := by
  refine gC_of (by decide +kernel) (hwdM a cI cJ) (Nat.le_of_ble_eq_true rfl) ?_
  intro A p e R s m args below meth c hR E
  subst hR
  have hT := f_X9_asks_e x0 x1 x2 s0
  have hf_s0 : fr [25, 26] s0 s0 := fr.rf _ _
  refine k_lv0 (lv' := [(0, .ref (a 0)), (1, gI x0), (2, gI x1), (3, gI x2)]) rfl ?_
  refine k_mr (fun hm_s0 => ?_)
  refine k_iloadn (pc := 0) E 1 dX9_asks_0 rfl rfl ?_
  refine k_iconst (pc := 1) E dX9_asks_1 ?_
  refine k_iconst (pc := 2) E dX9_asks_2 ?_
  refine k_mr (fun hm_s0 => ?_)
  refine k_callS (pc := 3) (np := 3) (As := [gI x0, gI 0, gI 2]) (st := []) E (c_X9_in l D a cI cJ cS cT s0 x0 0 2 (by omega) (by omega) (by omega)) wm_861 wm_11 wm_859 wm_860 (by decide +kernel) ⟨by decide, by decide⟩ rfl (Nat.le_of_ble_eq_true rfl) dX9_asks_3 (ro_kk (fun hr1 => ?_))
  have hp2 := f_X9_in_p x0 0 2 (by omega) (by omega) (by omega) 
  refine k_st (st' := [gI (f_X9_in x0 0 2)]) rfl ?_
  by_cases h3 : (f_X9_in x0 0 2) = 0
  · replace hT := hT.trans (if_pos h3)
    refine k_if_eq_t (pc := 6) (tgt := 36) E (by omega) dX9_asks_6 (by decide) h3 ?_
    refine k_bipush (pc := 36) E dX9_asks_36 (by decide) ?_
    exact k_rho hT (k_iret (pc := 38) E dX9_asks_38 (by omega))
  · replace hT := hT.trans (if_neg h3)
    refine k_if_eq_f (pc := 6) (tgt := 36) E (by omega) dX9_asks_6 (by decide) h3 ?_
    refine k_iloadn (pc := 9) E 2 dX9_asks_9 rfl rfl ?_
    refine k_mr (fun hm_s0 => ?_)
    refine k_callS (pc := 10) (np := 1) (As := [gI x1]) (st := []) E (c_X9_isPlace l D a cI cJ cS cT s0 x1 (by omega)) wm_1040 wm_11 wm_1038 wm_1039 (by decide +kernel) ⟨by decide, by decide⟩ rfl (Nat.le_of_ble_eq_true rfl) dX9_asks_10 (ro_kk (fun hr4 => ?_))
    have hp5 := f_X9_isPlace_p x1 (by omega) 
    refine k_st (st' := [gI (f_X9_isPlace x1)]) rfl ?_
    by_cases h6 : (f_X9_isPlace x1) = 0
    · replace hT := hT.trans (if_pos h6)
      refine k_if_eq_t (pc := 13) (tgt := 36) E (by omega) dX9_asks_13 (by decide) h6 ?_
      refine k_bipush (pc := 36) E dX9_asks_36 (by decide) ?_
      exact k_rho hT (k_iret (pc := 38) E dX9_asks_38 (by omega))
    · replace hT := hT.trans (if_neg h6)
      refine k_if_eq_f (pc := 13) (tgt := 36) E (by omega) dX9_asks_13 (by decide) h6 ?_
      refine k_iloadn (pc := 16) E 3 dX9_asks_16 rfl rfl ?_
      refine k_iconst (pc := 17) E dX9_asks_17 ?_
      refine k_bipush (pc := 18) E dX9_asks_18 (by decide) ?_
      refine k_mr (fun hm_s0 => ?_)
      refine k_callS (pc := 20) (np := 3) (As := [gI x2, gI 0, gI 16]) (st := []) E (c_X9_in l D a cI cJ cS cT s0 x2 0 16 (by omega) (by omega) (by omega)) wm_861 wm_11 wm_859 wm_860 (by decide +kernel) ⟨by decide, by decide⟩ rfl (Nat.le_of_ble_eq_true rfl) dX9_asks_20 (ro_kk (fun hr7 => ?_))
      have hp8 := f_X9_in_p x2 0 16 (by omega) (by omega) (by omega) 
      refine k_st (st' := [gI (f_X9_in x2 0 16)]) rfl ?_
      by_cases h9 : (f_X9_in x2 0 16) = 0
      · replace hT := hT.trans (if_pos h9)
        refine k_if_eq_t (pc := 23) (tgt := 36) E (by omega) dX9_asks_23 (by decide) h9 ?_
        refine k_bipush (pc := 36) E dX9_asks_36 (by decide) ?_
        exact k_rho hT (k_iret (pc := 38) E dX9_asks_38 (by omega))
      · replace hT := hT.trans (if_neg h9)
        refine k_if_eq_f (pc := 23) (tgt := 36) E (by omega) dX9_asks_23 (by decide) h9 ?_
        refine k_aloadn (pc := 26) E 0 dX9_asks_26 rfl rfl ?_
        refine k_iloadn (pc := 27) E 1 dX9_asks_27 rfl rfl ?_
        refine k_iloadn (pc := 28) E 2 dX9_asks_28 rfl rfl ?_
        refine k_iloadn (pc := 29) E 3 dX9_asks_29 rfl rfl ?_
        refine k_mr (fun hm_s0 => ?_)
        refine k_callV (pc := 30) (np := 3) (As := [gI x0, gI x1, gI x2]) (st := []) (q0 := 0) E (c_X9_asksOf l D a cI cJ cS cT s0 x0 x1 x2 (by omega) (by omega) (by omega) hpre0 (by first | assumption | omega) (by first | assumption | omega)) wm_1044 wm_11 wm_1041 wm_1043 wp_34 (by decide +kernel) rfl rfl ⟨by decide, by decide⟩ rfl (Nat.le_of_ble_eq_true rfl) dX9_asks_30 (fun r11 s12 hs12 hr10 => ?_)
        replace hT := gby hT hs12
        have hp13 := f_X9_asksOf_p x0 x1 x2 s0 (by omega) (by omega) (by omega) hm_s0 hpre0 (by first | assumption | omega) (by first | assumption | omega) r11 s12 hs12
        obtain ⟨hfc_s12, hm_s12, hp14, hp15⟩ := hp13
        have hf_s12 : fr [25, 26] s0 s12 := hf_s0.call (by decide) hfc_s12
        refine k_st (st' := [gI r11]) rfl ?_
        refine k_goto (pc := 33) (tgt := 38) E dX9_asks_33 (by decide) ?_
        exact k_rho hT (k_iret (pc := 38) E dX9_asks_38 (by omega))

def f_X9_lay (x0 : Int) (x1 : Int) (x2 : Int) (s0 : gMem) : gRes := (if (f_X9_isPlace x0) = 0 then ((-5), s0) else (if (f_X9_in x1 0 5) = 0 then ((-7), s0) else (if (f_X9_in x2 0 9) = 0 then ((-7), s0) else gl ((10 * (s0 0 x0)) + (s0 1 x0)) (fun v14 => gl (mset s0 0 x0 x1) (fun s15 => gl (mset s15 1 x0 x2) (fun s16 => (v14, s16)))))))
theorem f_X9_lay_e (x0 : Int) (x1 : Int) (x2 : Int) (s0 : gMem) : f_X9_lay x0 x1 x2 s0 = (if (f_X9_isPlace x0) = 0 then ((-5), s0) else (if (f_X9_in x1 0 5) = 0 then ((-7), s0) else (if (f_X9_in x2 0 9) = 0 then ((-7), s0) else gl ((10 * (s0 0 x0)) + (s0 1 x0)) (fun v14 => gl (mset s0 0 x0 x1) (fun s15 => gl (mset s15 1 x0 x2) (fun s16 => (v14, s16))))))) := rfl
set_option maxRecDepth 100000 in
set_option maxHeartbeats 4000000 in
theorem f_X9_lay_p (x0 : Int) (x1 : Int) (x2 : Int) (s0 : gMem) (hx0 : in32 x0) (hx1 : in32 x1) (hx2 : in32 x2) (hm_s0 : gMR lgM s0) (hpre0 : KN s0) (hpre1 : MO s0) (rZ : Int) (sZ : gMem) (hres : f_X9_lay x0 x1 x2 s0 = (rZ, sZ)) : (fr [0, 1] s0 sZ) ∧ (gMR lgM sZ) ∧ (in32 rZ) ∧ (KN sZ) ∧ (MO sZ) := by
  have hT := f_X9_lay_e x0 x1 x2 s0
  have hf_s0 : fr [0, 1] s0 s0 := fr.rf _ _
  have hKN_s0 := hpre0
  have hMO_s0 := hpre1
  have hp2 := f_X9_isPlace_p x0 (by omega) 
  by_cases h3 : (f_X9_isPlace x0) = 0
  · replace hT := hT.trans (if_pos h3)
    obtain ⟨rfl, rfl⟩ := Prod.mk.inj (hT.symm.trans hres)
    exact ⟨hf_s0, hm_s0, (by omega), hKN_s0, hMO_s0⟩
  · replace hT := hT.trans (if_neg h3)
    have hp5 := f_X9_in_p x1 0 5 (by omega) (by omega) (by omega) 
    by_cases h6 : (f_X9_in x1 0 5) = 0
    · replace hT := hT.trans (if_pos h6)
      obtain ⟨rfl, rfl⟩ := Prod.mk.inj (hT.symm.trans hres)
      exact ⟨hf_s0, hm_s0, (by omega), hKN_s0, hMO_s0⟩
    · replace hT := hT.trans (if_neg h6)
      have hp8 := f_X9_in_p x2 0 9 (by omega) (by omega) (by omega) 
      by_cases h9 : (f_X9_in x2 0 9) = 0
      · replace hT := hT.trans (if_pos h9)
        obtain ⟨rfl, rfl⟩ := Prod.mk.inj (hT.symm.trans hres)
        exact ⟨hf_s0, hm_s0, (by omega), hKN_s0, hMO_s0⟩
      · replace hT := hT.trans (if_neg h9)
        have hr10 := (hm_s0 0 x0).1 rfl
        have hi11 := hKN_s0 x0
        have hr12 := (hm_s0 1 x0).1 rfl
        have hi13 := hMO_s0 x0
        obtain ⟨v14, hv14, hT⟩ := glx hT
        obtain ⟨s15, hs15, hT⟩ := glx hT
        have hf_s15 : fr [0, 1] s0 s15 := hs15 ▸ hf_s0.set (by decide)
        have hm_s15 : gMR lgM s15 := hs15 ▸ hm_s0.set32 rfl (by omega)
        have hKN_s15 : KN s15 := hs15 ▸ KN_set hKN_s0 (by omega)
        have hMO_s15 : MO s15 := fun i => by rw [hs15, mset_ne _ _ _ _ _ (by decide)]; exact hMO_s0 i
        obtain ⟨s16, hs16, hT⟩ := glx hT
        have hf_s16 : fr [0, 1] s0 s16 := hs16 ▸ hf_s15.set (by decide)
        have hm_s16 : gMR lgM s16 := hs16 ▸ hm_s15.set32 rfl (by omega)
        have hKN_s16 : KN s16 := fun i => by rw [hs16, mset_ne _ _ _ _ _ (by decide)]; exact hKN_s15 i
        have hMO_s16 : MO s16 := hs16 ▸ MO_set hMO_s15 (by omega)
        obtain ⟨rfl, rfl⟩ := Prod.mk.inj (hT.symm.trans hres)
        exact ⟨hf_s16, hm_s16, (by omega), hKN_s16, hMO_s16⟩
set_option maxRecDepth 100000 in
set_option maxHeartbeats 4000000 in
theorem c_X9_lay (l : Launch) (D : va_G) (a : Nat → Nat) (cI cJ cS cT : ClassId) (s0 : gMem) (x0 : Int) (x1 : Int) (x2 : Int) (hx0 : in32 x0) (hx1 : in32 x1) (hx2 : in32 x2) (hpre0 : KN s0) (hpre1 : MO s0) : gC l yX9_lay cX9_lay 5 (some .int) 3 192 D vwCl (gT cI cJ cS cT) (wdM a cI cJ) lgM kI in32 [.ref (a 0), gI x0, gI x1, gI x2] s0 (f_X9_lay x0 x1 x2 s0) := by
  refine gC_of (by decide +kernel) (hwdM a cI cJ) (Nat.le_of_ble_eq_true rfl) ?_
  intro A p e R s m args below meth c hR E
  subst hR
  have hT := f_X9_lay_e x0 x1 x2 s0
  have hf_s0 : fr [0, 1] s0 s0 := fr.rf _ _
  refine k_lv0 (lv' := [(0, .ref (a 0)), (1, gI x0), (2, gI x1), (3, gI x2)]) rfl ?_
  refine k_mr (fun hm_s0 => ?_)
  have hKN_s0 := hpre0
  have hMO_s0 := hpre1
  refine k_iloadn (pc := 0) E 1 dX9_lay_0 rfl rfl ?_
  refine k_mr (fun hm_s0 => ?_)
  refine k_callS (pc := 1) (np := 1) (As := [gI x0]) (st := []) E (c_X9_isPlace l D a cI cJ cS cT s0 x0 (by omega)) wm_1040 wm_11 wm_1038 wm_1039 (by decide +kernel) ⟨by decide, by decide⟩ rfl (Nat.le_of_ble_eq_true rfl) dX9_lay_1 (ro_kk (fun hr1 => ?_))
  have hp2 := f_X9_isPlace_p x0 (by omega) 
  refine k_st (st' := [gI (f_X9_isPlace x0)]) rfl ?_
  by_cases h3 : (f_X9_isPlace x0) = 0
  · replace hT := hT.trans (if_pos h3)
    refine k_if_ne_f (pc := 4) (tgt := 10) E (by omega) dX9_lay_4 (by decide) h3 ?_
    refine k_bipush (pc := 7) E dX9_lay_7 (by decide) ?_
    exact k_rho hT (k_iret (pc := 9) E dX9_lay_9 (by omega))
  · replace hT := hT.trans (if_neg h3)
    refine k_if_ne_t (pc := 4) (tgt := 10) E (by omega) dX9_lay_4 (by decide) h3 ?_
    refine k_iloadn (pc := 10) E 2 dX9_lay_10 rfl rfl ?_
    refine k_iconst (pc := 11) E dX9_lay_11 ?_
    refine k_iconst (pc := 12) E dX9_lay_12 ?_
    refine k_mr (fun hm_s0 => ?_)
    refine k_callS (pc := 13) (np := 3) (As := [gI x1, gI 0, gI 5]) (st := []) E (c_X9_in l D a cI cJ cS cT s0 x1 0 5 (by omega) (by omega) (by omega)) wm_861 wm_11 wm_859 wm_860 (by decide +kernel) ⟨by decide, by decide⟩ rfl (Nat.le_of_ble_eq_true rfl) dX9_lay_13 (ro_kk (fun hr4 => ?_))
    have hp5 := f_X9_in_p x1 0 5 (by omega) (by omega) (by omega) 
    refine k_st (st' := [gI (f_X9_in x1 0 5)]) rfl ?_
    by_cases h6 : (f_X9_in x1 0 5) = 0
    · replace hT := hT.trans (if_pos h6)
      refine k_if_eq_t (pc := 16) (tgt := 29) E (by omega) dX9_lay_16 (by decide) h6 ?_
      refine k_bipush (pc := 29) E dX9_lay_29 (by decide) ?_
      exact k_rho hT (k_iret (pc := 31) E dX9_lay_31 (by omega))
    · replace hT := hT.trans (if_neg h6)
      refine k_if_eq_f (pc := 16) (tgt := 29) E (by omega) dX9_lay_16 (by decide) h6 ?_
      refine k_iloadn (pc := 19) E 3 dX9_lay_19 rfl rfl ?_
      refine k_iconst (pc := 20) E dX9_lay_20 ?_
      refine k_bipush (pc := 21) E dX9_lay_21 (by decide) ?_
      refine k_mr (fun hm_s0 => ?_)
      refine k_callS (pc := 23) (np := 3) (As := [gI x2, gI 0, gI 9]) (st := []) E (c_X9_in l D a cI cJ cS cT s0 x2 0 9 (by omega) (by omega) (by omega)) wm_861 wm_11 wm_859 wm_860 (by decide +kernel) ⟨by decide, by decide⟩ rfl (Nat.le_of_ble_eq_true rfl) dX9_lay_23 (ro_kk (fun hr7 => ?_))
      have hp8 := f_X9_in_p x2 0 9 (by omega) (by omega) (by omega) 
      refine k_st (st' := [gI (f_X9_in x2 0 9)]) rfl ?_
      by_cases h9 : (f_X9_in x2 0 9) = 0
      · replace hT := hT.trans (if_pos h9)
        refine k_if_ne_f (pc := 26) (tgt := 32) E (by omega) dX9_lay_26 (by decide) h9 ?_
        refine k_bipush (pc := 29) E dX9_lay_29 (by decide) ?_
        exact k_rho hT (k_iret (pc := 31) E dX9_lay_31 (by omega))
      · replace hT := hT.trans (if_neg h9)
        refine k_if_ne_t (pc := 26) (tgt := 32) E (by omega) dX9_lay_26 (by decide) h9 ?_
        refine k_bipush (pc := 32) E dX9_lay_32 (by decide) ?_
        refine k_aloadn (pc := 34) E 0 dX9_lay_34 rfl rfl ?_
        refine k_getf (pc := 35) (q0 := 0) (f := 0) (v := .ref (a 1)) E inX9 rfl rfl (by decide) wm_898 rfl rfl dX9_lay_35 ?_
        refine k_iloadn (pc := 38) E 1 dX9_lay_38 rfl rfl ?_
        refine k_iaload (pc := 39) (q0 := 1) (t0 := 0) (k := 0) (n := 16) E rfl rfl rfl (by decide) (by omega) (by omega) dX9_lay_39 (fun hr10 => ?_)
        have hi11 := hKN_s0 x0
        refine k_imul (pc := 40) E dX9_lay_40 ?_
        refine k_aloadn (pc := 41) E 0 dX9_lay_41 rfl rfl ?_
        refine k_getf (pc := 42) (q0 := 0) (f := 1) (v := .ref (a 2)) E inX9 rfl rfl (by decide) wm_899 rfl rfl dX9_lay_42 ?_
        refine k_iloadn (pc := 45) E 1 dX9_lay_45 rfl rfl ?_
        refine k_iaload (pc := 46) (q0 := 2) (t0 := 0) (k := 1) (n := 16) E rfl rfl rfl (by decide) (by omega) (by omega) dX9_lay_46 (fun hr12 => ?_)
        have hi13 := hMO_s0 x0
        refine k_iadd (pc := 47) E dX9_lay_47 ?_
        obtain ⟨v14, hv14, hT⟩ := glx hT
        refine k_st (st' := [gI v14]) (by rw [hv14]) ?_
        refine k_istore (pc := 48) (lv' := [(4, gI v14), (0, .ref (a 0)), (1, gI x0), (2, gI x1), (3, gI x2)]) E dX9_lay_48 (by decide) rfl ?_
        refine k_aloadn (pc := 50) E 1 dX9_lay_50 rfl rfl ?_
        refine k_getf (pc := 51) (q0 := 0) (f := 0) (v := .ref (a 1)) E inX9 rfl rfl (by decide) wm_898 rfl rfl dX9_lay_51 ?_
        refine k_iloadn (pc := 54) E 2 dX9_lay_54 rfl rfl ?_
        refine k_iloadn (pc := 55) E 3 dX9_lay_55 rfl rfl ?_
        refine k_iastore (pc := 56) (q0 := 1) (t0 := 0) (k := 0) (n := 16) E rfl rfl rfl rfl (by decide) (by omega) (by omega) (by omega) dX9_lay_56 ?_
        obtain ⟨s15, hs15, hT⟩ := glx hT
        refine k_sg hs15.symm ?_
        have hf_s15 : fr [0, 1] s0 s15 := hs15 ▸ hf_s0.set (by decide)
        have hKN_s15 : KN s15 := hs15 ▸ KN_set hKN_s0 (by omega)
        have hMO_s15 : MO s15 := fun i => by rw [hs15, mset_ne _ _ _ _ _ (by decide)]; exact hMO_s0 i
        refine k_aloadn (pc := 57) E 1 dX9_lay_57 rfl rfl ?_
        refine k_getf (pc := 58) (q0 := 0) (f := 1) (v := .ref (a 2)) E inX9 rfl rfl (by decide) wm_899 rfl rfl dX9_lay_58 ?_
        refine k_iloadn (pc := 61) E 2 dX9_lay_61 rfl rfl ?_
        refine k_iloadn (pc := 62) E 4 dX9_lay_62 rfl rfl ?_
        refine k_iastore (pc := 63) (q0 := 2) (t0 := 0) (k := 1) (n := 16) E rfl rfl rfl rfl (by decide) (by omega) (by omega) (by omega) dX9_lay_63 ?_
        obtain ⟨s16, hs16, hT⟩ := glx hT
        refine k_sg hs16.symm ?_
        have hf_s16 : fr [0, 1] s0 s16 := hs16 ▸ hf_s15.set (by decide)
        have hKN_s16 : KN s16 := fun i => by rw [hs16, mset_ne _ _ _ _ _ (by decide)]; exact hKN_s15 i
        have hMO_s16 : MO s16 := hs16 ▸ MO_set hMO_s15 (by omega)
        refine k_iload (pc := 64) E 0 dX9_lay_64 rfl ?_
        exact k_rho hT (k_iret (pc := 66) E dX9_lay_66 (by omega))

def f_X9_fallsOf (x0 : Int) (x1 : Int) (s0 : gMem) : gRes := gb (f_X9_asksOf 0 x0 x1 s0) (fun r2 s3 => (gl ((if (s3 0 x0) = 1 then (r2 + (s3 1 x0)) else (if (s3 0 x0) = 2 then (r2 * 2) else (if (s3 0 x0) = 3 then gl (r2 + ((s3 1 x0) + (x1 / 3))) (fun v27 => v27) else (if (s3 0 x0) = 4 then (r2 * 2) else (if (s3 0 x0) = 5 then (r2 / ((s3 1 x0) + 2)) else r2)))))) (fun v15 => ((f_X9_within v15 0 99), s3))))
theorem f_X9_fallsOf_e (x0 : Int) (x1 : Int) (s0 : gMem) : f_X9_fallsOf x0 x1 s0 = gb (f_X9_asksOf 0 x0 x1 s0) (fun r2 s3 => (gl ((if (s3 0 x0) = 1 then (r2 + (s3 1 x0)) else (if (s3 0 x0) = 2 then (r2 * 2) else (if (s3 0 x0) = 3 then gl (r2 + ((s3 1 x0) + (x1 / 3))) (fun v27 => v27) else (if (s3 0 x0) = 4 then (r2 * 2) else (if (s3 0 x0) = 5 then (r2 / ((s3 1 x0) + 2)) else r2)))))) (fun v15 => ((f_X9_within v15 0 99), s3)))) := rfl
set_option maxRecDepth 100000 in
set_option maxHeartbeats 4000000 in
theorem f_X9_fallsOf_p (x0 : Int) (x1 : Int) (s0 : gMem) (hx0 : in32 x0) (hx1 : in32 x1) (hm_s0 : gMR lgM s0) (hpre0 : VS s0) (hpre1 : KN s0) (hpre2 : MO s0) (hpre3 : 0 ≤ x0 ∧ x0 ≤ 15) (hpre4 : 0 ≤ x1 ∧ x1 ≤ 16) (rZ : Int) (sZ : gMem) (hres : f_X9_fallsOf x0 x1 s0 = (rZ, sZ)) : (fr [25, 26] s0 sZ) ∧ (gMR lgM sZ) ∧ (in32 rZ) ∧ (0 ≤ rZ ∧ rZ ≤ 99) := by
  have hT := f_X9_fallsOf_e x0 x1 s0
  have hf_s0 : fr [25, 26] s0 s0 := fr.rf _ _
  obtain ⟨r2, s3, hs3⟩ : ∃ rr ss, (f_X9_asksOf 0 x0 x1 s0) = (rr, ss) := ⟨_, _, rfl⟩
  replace hT := gby hT hs3
  have hp4 := f_X9_asksOf_p 0 x0 x1 s0 (by omega) (by omega) (by omega) hm_s0 hpre0 (by first | assumption | omega) (by first | assumption | omega) r2 s3 hs3
  obtain ⟨hfc_s3, hm_s3, hp5, hp6⟩ := hp4
  have hf_s3 : fr [25, 26] s0 s3 := hf_s0.call (by decide) hfc_s3
  have hr7 := (hm_s3 0 x0).1 rfl
  have hi8 := hpre1 x0
  rw [← hf_s3 0 (by decide)] at hi8
  obtain ⟨z19, hz19, hT⟩ := gl1x hT
  have j14 : ∀ (v15 : Int), ((in32 v15)) → z19 = v15 → (fr [25, 26] s0 sZ) ∧ (gMR lgM sZ) ∧ (in32 rZ) ∧ (0 ≤ rZ ∧ rZ ≤ 99) := by
    intro v15 hq hz
    have hq18 := hq
    replace hT := gl1y hT hz
    have hp17 := f_X9_within_p v15 0 99 (by omega) (by omega) (by omega) 
    obtain ⟨rfl, rfl⟩ := Prod.mk.inj (hT.symm.trans hres)
    exact ⟨hf_s3, hm_s3, (by omega), (by first | assumption | omega)⟩
  replace hT := hz19
  by_cases h9 : (s3 0 x0) = 1
  · replace hT := hT.trans (if_pos h9)
    have hr20 := (hm_s3 1 x0).1 rfl
    have hi21 := hpre2 x0
    rw [← hf_s3 1 (by decide)] at hi21
    exact j14 (r2 + (s3 1 x0)) (by omega) hT
  · replace hT := hT.trans (if_neg h9)
    by_cases h10 : (s3 0 x0) = 2
    · replace hT := hT.trans (if_pos h10)
      exact j14 (r2 * 2) (by omega) hT
    · replace hT := hT.trans (if_neg h10)
      by_cases h11 : (s3 0 x0) = 3
      · replace hT := hT.trans (if_pos h11)
        have hr22 := (hm_s3 1 x0).1 rfl
        have hi23 := hpre2 x0
        rw [← hf_s3 1 (by decide)] at hi23
        have hd24 : (0 : Int) ≤ x1 := (by omega)
        have hd25 : (0 : Int) < 3 := (by omega)
        have hb26 := dv_rg hd24 hd25
        obtain ⟨v27, hv27, hT⟩ := glx hT
        exact j14 v27 (by omega) hT
      · replace hT := hT.trans (if_neg h11)
        by_cases h12 : (s3 0 x0) = 4
        · replace hT := hT.trans (if_pos h12)
          exact j14 (r2 * 2) (by omega) hT
        · replace hT := hT.trans (if_neg h12)
          by_cases h13 : (s3 0 x0) = 5
          · replace hT := hT.trans (if_pos h13)
            have hr28 := (hm_s3 1 x0).1 rfl
            have hi29 := hpre2 x0
            rw [← hf_s3 1 (by decide)] at hi29
            have hd30 : (0 : Int) ≤ r2 := (by omega)
            have hd31 : (0 : Int) < ((s3 1 x0) + 2) := (by omega)
            have hb32 := dv_rg hd30 hd31
            exact j14 (r2 / ((s3 1 x0) + 2)) (by omega) hT
          · replace hT := hT.trans (if_neg h13)
            exact j14 r2 (by omega) hT
set_option maxRecDepth 100000 in
set_option maxHeartbeats 4000000 in
theorem c_X9_fallsOf (l : Launch) (D : va_G) (a : Nat → Nat) (cI cJ cS cT : ClassId) (s0 : gMem) (x0 : Int) (x1 : Int) (hx0 : in32 x0) (hx1 : in32 x1) (hpre0 : VS s0) (hpre1 : KN s0) (hpre2 : MO s0) (hpre3 : 0 ≤ x0 ∧ x0 ≤ 15) (hpre4 : 0 ≤ x1 ∧ x1 ≤ 16) : gC l yX9_fallsOf cX9_fallsOf 4 (some .int) 4 256 D vwCl (gT cI cJ cS cT) (wdM a cI cJ) lgM kI in32 [.ref (a 0), gI x0, gI x1] s0 (f_X9_fallsOf x0 x1 s0) := by
  refine gC_of (by decide +kernel) (hwdM a cI cJ) (Nat.le_of_ble_eq_true rfl) ?_
  intro A p e R s m args below meth c hR E
  subst hR
  have hT := f_X9_fallsOf_e x0 x1 s0
  have hf_s0 : fr [25, 26] s0 s0 := fr.rf _ _
  refine k_lv0 (lv' := [(0, .ref (a 0)), (1, gI x0), (2, gI x1)]) rfl ?_
  refine k_mr (fun hm_s0 => ?_)
  refine k_aloadn (pc := 0) E 0 dX9_fallsOf_0 rfl rfl ?_
  refine k_iconst (pc := 1) E dX9_fallsOf_1 ?_
  refine k_iloadn (pc := 2) E 1 dX9_fallsOf_2 rfl rfl ?_
  refine k_iloadn (pc := 3) E 2 dX9_fallsOf_3 rfl rfl ?_
  refine k_mr (fun hm_s0 => ?_)
  refine k_callV (pc := 4) (np := 3) (As := [gI 0, gI x0, gI x1]) (st := []) (q0 := 0) E (c_X9_asksOf l D a cI cJ cS cT s0 0 x0 x1 (by omega) (by omega) (by omega) hpre0 (by first | assumption | omega) (by first | assumption | omega)) wm_1044 wm_11 wm_1041 wm_1043 wp_34 (by decide +kernel) rfl rfl ⟨by decide, by decide⟩ rfl (Nat.le_of_ble_eq_true rfl) dX9_fallsOf_4 (fun r2 s3 hs3 hr1 => ?_)
  replace hT := gby hT hs3
  have hp4 := f_X9_asksOf_p 0 x0 x1 s0 (by omega) (by omega) (by omega) hm_s0 hpre0 (by first | assumption | omega) (by first | assumption | omega) r2 s3 hs3
  obtain ⟨hfc_s3, hm_s3, hp5, hp6⟩ := hp4
  have hf_s3 : fr [25, 26] s0 s3 := hf_s0.call (by decide) hfc_s3
  refine k_st (st' := [gI r2]) rfl ?_
  refine k_istoren (pc := 7) (lv' := [(3, gI r2), (0, .ref (a 0)), (1, gI x0), (2, gI x1)]) E dX9_fallsOf_7 rfl (by decide) rfl ?_
  refine k_aloadn (pc := 8) E 1 dX9_fallsOf_8 rfl rfl ?_
  refine k_getf (pc := 9) (q0 := 0) (f := 0) (v := .ref (a 1)) E inX9 rfl rfl (by decide) wm_898 rfl rfl dX9_fallsOf_9 ?_
  refine k_iloadn (pc := 12) E 2 dX9_fallsOf_12 rfl rfl ?_
  refine k_iaload (pc := 13) (q0 := 1) (t0 := 0) (k := 0) (n := 16) E rfl rfl rfl (by decide) (by omega) (by omega) dX9_fallsOf_13 (fun hr7 => ?_)
  have hi8 := hpre1 x0
  rw [← hf_s3 0 (by decide)] at hi8
  obtain ⟨z19, hz19, hT⟩ := gl1x hT
  have j14 : ∀ (v15 : Int), ((in32 v15)) → z19 = v15 → gK D vwCl (wdM a cI cJ) lgM A p l e { frames := 4, cells := 0, slots := 0, locals := 256 } s m args below meth c 4 (gQQ D vwCl (wdM a cI cJ) lgM A kI in32 below args s) (f_X9_fallsOf x0 x1 s0) s3 97 [(3, gI v15)] [] := by
    intro v15 hq hz
    have hq18 := hq
    replace hT := gl1y hT hz
    refine k_iloadn (pc := 97) E 0 dX9_fallsOf_97 rfl rfl ?_
    refine k_iconst (pc := 98) E dX9_fallsOf_98 ?_
    refine k_bipush (pc := 99) E dX9_fallsOf_99 (by decide) ?_
    refine k_mr (fun hm_s3 => ?_)
    refine k_callS (pc := 101) (np := 3) (As := [gI v15, gI 0, gI 99]) (st := []) E (c_X9_within l D a cI cJ cS cT s3 v15 0 99 (by omega) (by omega) (by omega)) wm_1057 wm_11 wm_1055 wm_1056 (by decide +kernel) ⟨by decide, by decide⟩ rfl (Nat.le_of_ble_eq_true rfl) dX9_fallsOf_101 (ro_kk (fun hr16 => ?_))
    have hp17 := f_X9_within_p v15 0 99 (by omega) (by omega) (by omega) 
    refine k_st (st' := [gI (f_X9_within v15 0 99)]) rfl ?_
    exact k_rho hT (k_iret (pc := 104) E dX9_fallsOf_104 (by omega))
  replace hT := hz19
  by_cases h9 : (s3 0 x0) = 1
  · replace hT := hT.trans (if_pos h9)
    refine k_tabIn (pc := 14) (tgt := 48) E dX9_fallsOf_14 (by omega) (by omega) (by omega) (by rw [h9]; rfl) (by decide) ?_
    refine k_iloadn (pc := 48) E 0 dX9_fallsOf_48 rfl rfl ?_
    refine k_aloadn (pc := 49) E 1 dX9_fallsOf_49 rfl rfl ?_
    refine k_getf (pc := 50) (q0 := 0) (f := 1) (v := .ref (a 2)) E inX9 rfl rfl (by decide) wm_899 rfl rfl dX9_fallsOf_50 ?_
    refine k_iloadn (pc := 53) E 2 dX9_fallsOf_53 rfl rfl ?_
    refine k_iaload (pc := 54) (q0 := 2) (t0 := 0) (k := 1) (n := 16) E rfl rfl rfl (by decide) (by omega) (by omega) dX9_fallsOf_54 (fun hr20 => ?_)
    have hi21 := hpre2 x0
    rw [← hf_s3 1 (by decide)] at hi21
    refine k_iadd (pc := 55) E dX9_fallsOf_55 ?_
    refine k_istoren (pc := 56) (lv' := [(3, gI (r2 + (s3 1 x0))), (0, .ref (a 0)), (1, gI x0), (2, gI x1)]) E dX9_fallsOf_56 rfl (by decide) rfl ?_
    refine k_goto (pc := 57) (tgt := 97) E dX9_fallsOf_57 (by decide) ?_
    refine k_lv (lv' := [(3, gI (r2 + (s3 1 x0)))]) [0] rfl ?_
    exact j14 (r2 + (s3 1 x0)) (by omega) hT
  · replace hT := hT.trans (if_neg h9)
    by_cases h10 : (s3 0 x0) = 2
    · replace hT := hT.trans (if_pos h10)
      refine k_tabIn (pc := 14) (tgt := 60) E dX9_fallsOf_14 (by omega) (by omega) (by omega) (by rw [h10]; rfl) (by decide) ?_
      refine k_iloadn (pc := 60) E 0 dX9_fallsOf_60 rfl rfl ?_
      refine k_iconst (pc := 61) E dX9_fallsOf_61 ?_
      refine k_imul (pc := 62) E dX9_fallsOf_62 ?_
      refine k_istoren (pc := 63) (lv' := [(3, gI (r2 * 2)), (0, .ref (a 0)), (1, gI x0), (2, gI x1)]) E dX9_fallsOf_63 rfl (by decide) rfl ?_
      refine k_goto (pc := 64) (tgt := 97) E dX9_fallsOf_64 (by decide) ?_
      refine k_lv (lv' := [(3, gI (r2 * 2))]) [0] rfl ?_
      exact j14 (r2 * 2) (by omega) hT
    · replace hT := hT.trans (if_neg h10)
      by_cases h11 : (s3 0 x0) = 3
      · replace hT := hT.trans (if_pos h11)
        refine k_tabIn (pc := 14) (tgt := 67) E dX9_fallsOf_14 (by omega) (by omega) (by omega) (by rw [h11]; rfl) (by decide) ?_
        refine k_iloadn (pc := 67) E 0 dX9_fallsOf_67 rfl rfl ?_
        refine k_aloadn (pc := 68) E 1 dX9_fallsOf_68 rfl rfl ?_
        refine k_getf (pc := 69) (q0 := 0) (f := 1) (v := .ref (a 2)) E inX9 rfl rfl (by decide) wm_899 rfl rfl dX9_fallsOf_69 ?_
        refine k_iloadn (pc := 72) E 2 dX9_fallsOf_72 rfl rfl ?_
        refine k_iaload (pc := 73) (q0 := 2) (t0 := 0) (k := 1) (n := 16) E rfl rfl rfl (by decide) (by omega) (by omega) dX9_fallsOf_73 (fun hr22 => ?_)
        have hi23 := hpre2 x0
        rw [← hf_s3 1 (by decide)] at hi23
        refine k_iloadn (pc := 74) E 3 dX9_fallsOf_74 rfl rfl ?_
        refine k_iconst (pc := 75) E dX9_fallsOf_75 ?_
        have hd24 : (0 : Int) ≤ x1 := (by omega)
        have hd25 : (0 : Int) < 3 := (by omega)
        refine k_idivN (pc := 76) E (by omega) (by omega) hd24 hd25 dX9_fallsOf_76 ?_
        have hb26 := dv_rg hd24 hd25
        refine k_iadd (pc := 77) E dX9_fallsOf_77 ?_
        refine k_iadd (pc := 78) E dX9_fallsOf_78 ?_
        obtain ⟨v27, hv27, hT⟩ := glx hT
        refine k_st (st' := [gI v27]) (by rw [hv27]) ?_
        refine k_istoren (pc := 79) (lv' := [(3, gI v27), (0, .ref (a 0)), (1, gI x0), (2, gI x1)]) E dX9_fallsOf_79 rfl (by decide) rfl ?_
        refine k_goto (pc := 80) (tgt := 97) E dX9_fallsOf_80 (by decide) ?_
        refine k_lv (lv' := [(3, gI v27)]) [0] rfl ?_
        exact j14 v27 (by omega) hT
      · replace hT := hT.trans (if_neg h11)
        by_cases h12 : (s3 0 x0) = 4
        · replace hT := hT.trans (if_pos h12)
          refine k_tabIn (pc := 14) (tgt := 60) E dX9_fallsOf_14 (by omega) (by omega) (by omega) (by rw [h12]; rfl) (by decide) ?_
          refine k_iloadn (pc := 60) E 0 dX9_fallsOf_60 rfl rfl ?_
          refine k_iconst (pc := 61) E dX9_fallsOf_61 ?_
          refine k_imul (pc := 62) E dX9_fallsOf_62 ?_
          refine k_istoren (pc := 63) (lv' := [(3, gI (r2 * 2)), (0, .ref (a 0)), (1, gI x0), (2, gI x1)]) E dX9_fallsOf_63 rfl (by decide) rfl ?_
          refine k_goto (pc := 64) (tgt := 97) E dX9_fallsOf_64 (by decide) ?_
          refine k_lv (lv' := [(3, gI (r2 * 2))]) [0] rfl ?_
          exact j14 (r2 * 2) (by omega) hT
        · replace hT := hT.trans (if_neg h12)
          by_cases h13 : (s3 0 x0) = 5
          · replace hT := hT.trans (if_pos h13)
            refine k_tabIn (pc := 14) (tgt := 83) E dX9_fallsOf_14 (by omega) (by omega) (by omega) (by rw [h13]; rfl) (by decide) ?_
            refine k_iloadn (pc := 83) E 0 dX9_fallsOf_83 rfl rfl ?_
            refine k_aloadn (pc := 84) E 1 dX9_fallsOf_84 rfl rfl ?_
            refine k_getf (pc := 85) (q0 := 0) (f := 1) (v := .ref (a 2)) E inX9 rfl rfl (by decide) wm_899 rfl rfl dX9_fallsOf_85 ?_
            refine k_iloadn (pc := 88) E 2 dX9_fallsOf_88 rfl rfl ?_
            refine k_iaload (pc := 89) (q0 := 2) (t0 := 0) (k := 1) (n := 16) E rfl rfl rfl (by decide) (by omega) (by omega) dX9_fallsOf_89 (fun hr28 => ?_)
            have hi29 := hpre2 x0
            rw [← hf_s3 1 (by decide)] at hi29
            refine k_iconst (pc := 90) E dX9_fallsOf_90 ?_
            refine k_iadd (pc := 91) E dX9_fallsOf_91 ?_
            have hd30 : (0 : Int) ≤ r2 := (by omega)
            have hd31 : (0 : Int) < ((s3 1 x0) + 2) := (by omega)
            refine k_idivN (pc := 92) E (by omega) (by omega) hd30 hd31 dX9_fallsOf_92 ?_
            have hb32 := dv_rg hd30 hd31
            refine k_istoren (pc := 93) (lv' := [(3, gI (r2 / ((s3 1 x0) + 2))), (0, .ref (a 0)), (1, gI x0), (2, gI x1)]) E dX9_fallsOf_93 rfl (by decide) rfl ?_
            refine k_goto (pc := 94) (tgt := 97) E dX9_fallsOf_94 (by decide) ?_
            refine k_lv (lv' := [(3, gI (r2 / ((s3 1 x0) + 2)))]) [0] rfl ?_
            exact j14 (r2 / ((s3 1 x0) + 2)) (by omega) hT
          · replace hT := hT.trans (if_neg h13)
            refine k_tabOut (pc := 14) (tgt := 97) E dX9_fallsOf_14 (by omega) (by omega) (by decide) ?_
            refine k_lv (lv' := [(3, gI r2)]) [0] rfl ?_
            exact j14 r2 (by omega) hT

def f_X9_takesOf (x0 : Int) (s0 : gMem) : gRes := gb (f_X9_asksOf 1 x0 0 s0) (fun r2 s3 => (gj (fun j10c => (if (s3 0 x0) = 1 then j10c else (if (s3 0 x0) = 3 then j10c else (gl ((if (s3 0 x0) = 4 then (3 + (s3 1 x0)) else 0)) (fun v19 => (if (r2 + v19) < 1 then (1, s3) else ((r2 + v19), s3))))))) ((if (r2 + 2) < 1 then (1, s3) else ((r2 + 2), s3)))))
theorem f_X9_takesOf_e (x0 : Int) (s0 : gMem) : f_X9_takesOf x0 s0 = gb (f_X9_asksOf 1 x0 0 s0) (fun r2 s3 => (gj (fun j10c => (if (s3 0 x0) = 1 then j10c else (if (s3 0 x0) = 3 then j10c else (gl ((if (s3 0 x0) = 4 then (3 + (s3 1 x0)) else 0)) (fun v19 => (if (r2 + v19) < 1 then (1, s3) else ((r2 + v19), s3))))))) ((if (r2 + 2) < 1 then (1, s3) else ((r2 + 2), s3))))) := rfl
set_option maxRecDepth 100000 in
set_option maxHeartbeats 4000000 in
theorem f_X9_takesOf_p (x0 : Int) (s0 : gMem) (hx0 : in32 x0) (hm_s0 : gMR lgM s0) (hpre0 : VS s0) (hpre1 : KN s0) (hpre2 : MO s0) (hpre3 : 0 ≤ x0 ∧ x0 ≤ 15) (rZ : Int) (sZ : gMem) (hres : f_X9_takesOf x0 s0 = (rZ, sZ)) : (fr [25, 26] s0 sZ) ∧ (gMR lgM sZ) ∧ (in32 rZ) ∧ (1 ≤ rZ ∧ rZ ≤ 111) := by
  have hT := f_X9_takesOf_e x0 s0
  have hf_s0 : fr [25, 26] s0 s0 := fr.rf _ _
  obtain ⟨r2, s3, hs3⟩ : ∃ rr ss, (f_X9_asksOf 1 x0 0 s0) = (rr, ss) := ⟨_, _, rfl⟩
  replace hT := gby hT hs3
  have hp4 := f_X9_asksOf_p 1 x0 0 s0 (by omega) (by omega) (by omega) hm_s0 hpre0 (by first | assumption | omega) (by first | assumption | omega) r2 s3 hs3
  obtain ⟨hfc_s3, hm_s3, hp5, hp6⟩ := hp4
  have hf_s3 : fr [25, 26] s0 s3 := hf_s0.call (by decide) hfc_s3
  have hr7 := (hm_s3 0 x0).1 rfl
  have hi8 := hpre1 x0
  rw [← hf_s3 0 (by decide)] at hi8
  obtain ⟨j10c, hj10c, hT⟩ := gjx hT
  have j10 : (True) → (f_X9_takesOf x0 s0) = j10c  → (fr [25, 26] s0 sZ) ∧ (gMR lgM sZ) ∧ (in32 rZ) ∧ (1 ≤ rZ ∧ rZ ≤ 111) := by
    intro  hq hT
    rw [hj10c] at hT
    by_cases h11 : (r2 + 2) < 1
    · replace hT := hT.trans (if_pos h11)
      obtain ⟨rfl, rfl⟩ := Prod.mk.inj (hT.symm.trans hres)
      exact ⟨hf_s3, hm_s3, (by omega), (by first | assumption | omega)⟩
    · replace hT := hT.trans (if_neg h11)
      obtain ⟨rfl, rfl⟩ := Prod.mk.inj (hT.symm.trans hres)
      exact ⟨hf_s3, hm_s3, (by omega), (by first | assumption | omega)⟩
  by_cases h9 : (s3 0 x0) = 1
  · replace hT := hT.trans (if_pos h9)
    exact j10  trivial hT
  · replace hT := hT.trans (if_neg h9)
    have hr12 := (hm_s3 0 x0).1 rfl
    have hi13 := hpre1 x0
    rw [← hf_s3 0 (by decide)] at hi13
    by_cases h14 : (s3 0 x0) = 3
    · replace hT := hT.trans (if_pos h14)
      exact j10  trivial hT
    · replace hT := hT.trans (if_neg h14)
      have hr15 := (hm_s3 0 x0).1 rfl
      have hi16 := hpre1 x0
      rw [← hf_s3 0 (by decide)] at hi16
      obtain ⟨z23, hz23, hT⟩ := gl1x hT
      have j18 : ∀ (v19 : Int), ((in32 v19) ∧ (0 ≤ v19 ∧ v19 ≤ 12)) → z23 = v19 → (fr [25, 26] s0 sZ) ∧ (gMR lgM sZ) ∧ (in32 rZ) ∧ (1 ≤ rZ ∧ rZ ≤ 111) := by
        intro v19 hq hz
        obtain ⟨hq21, hq22⟩ := hq
        replace hT := gl1y hT hz
        by_cases h20 : (r2 + v19) < 1
        · replace hT := hT.trans (if_pos h20)
          obtain ⟨rfl, rfl⟩ := Prod.mk.inj (hT.symm.trans hres)
          exact ⟨hf_s3, hm_s3, (by omega), (by first | assumption | omega)⟩
        · replace hT := hT.trans (if_neg h20)
          obtain ⟨rfl, rfl⟩ := Prod.mk.inj (hT.symm.trans hres)
          exact ⟨hf_s3, hm_s3, (by omega), (by first | assumption | omega)⟩
      replace hT := hz23
      by_cases h17 : (s3 0 x0) = 4
      · replace hT := hT.trans (if_pos h17)
        have hr24 := (hm_s3 1 x0).1 rfl
        have hi25 := hpre2 x0
        rw [← hf_s3 1 (by decide)] at hi25
        exact j18 (3 + (s3 1 x0)) ⟨(by omega), (by first | assumption | omega)⟩ hT
      · replace hT := hT.trans (if_neg h17)
        exact j18 0 ⟨(by omega), (by first | assumption | omega)⟩ hT
set_option maxRecDepth 100000 in
set_option maxHeartbeats 4000000 in
theorem c_X9_takesOf (l : Launch) (D : va_G) (a : Nat → Nat) (cI cJ cS cT : ClassId) (s0 : gMem) (x0 : Int) (hx0 : in32 x0) (hpre0 : VS s0) (hpre1 : KN s0) (hpre2 : MO s0) (hpre3 : 0 ≤ x0 ∧ x0 ≤ 15) : gC l yX9_takesOf cX9_takesOf 3 (some .int) 4 256 D vwCl (gT cI cJ cS cT) (wdM a cI cJ) lgM kI in32 [.ref (a 0), gI x0] s0 (f_X9_takesOf x0 s0) := by
  refine gC_of (by decide +kernel) (hwdM a cI cJ) (Nat.le_of_ble_eq_true rfl) ?_
  intro A p e R s m args below meth c hR E
  subst hR
  have hT := f_X9_takesOf_e x0 s0
  have hf_s0 : fr [25, 26] s0 s0 := fr.rf _ _
  refine k_lv0 (lv' := [(0, .ref (a 0)), (1, gI x0)]) rfl ?_
  refine k_mr (fun hm_s0 => ?_)
  refine k_aloadn (pc := 0) E 0 dX9_takesOf_0 rfl rfl ?_
  refine k_iconst (pc := 1) E dX9_takesOf_1 ?_
  refine k_iloadn (pc := 2) E 1 dX9_takesOf_2 rfl rfl ?_
  refine k_iconst (pc := 3) E dX9_takesOf_3 ?_
  refine k_mr (fun hm_s0 => ?_)
  refine k_callV (pc := 4) (np := 3) (As := [gI 1, gI x0, gI 0]) (st := []) (q0 := 0) E (c_X9_asksOf l D a cI cJ cS cT s0 1 x0 0 (by omega) (by omega) (by omega) hpre0 (by first | assumption | omega) (by first | assumption | omega)) wm_1044 wm_11 wm_1041 wm_1043 wp_34 (by decide +kernel) rfl rfl ⟨by decide, by decide⟩ rfl (Nat.le_of_ble_eq_true rfl) dX9_takesOf_4 (fun r2 s3 hs3 hr1 => ?_)
  replace hT := gby hT hs3
  have hp4 := f_X9_asksOf_p 1 x0 0 s0 (by omega) (by omega) (by omega) hm_s0 hpre0 (by first | assumption | omega) (by first | assumption | omega) r2 s3 hs3
  obtain ⟨hfc_s3, hm_s3, hp5, hp6⟩ := hp4
  have hf_s3 : fr [25, 26] s0 s3 := hf_s0.call (by decide) hfc_s3
  refine k_st (st' := [gI r2]) rfl ?_
  refine k_istoren (pc := 7) (lv' := [(2, gI r2), (0, .ref (a 0)), (1, gI x0)]) E dX9_takesOf_7 rfl (by decide) rfl ?_
  refine k_iloadn (pc := 8) E 0 dX9_takesOf_8 rfl rfl ?_
  refine k_aloadn (pc := 9) E 1 dX9_takesOf_9 rfl rfl ?_
  refine k_getf (pc := 10) (q0 := 0) (f := 0) (v := .ref (a 1)) E inX9 rfl rfl (by decide) wm_898 rfl rfl dX9_takesOf_10 ?_
  refine k_iloadn (pc := 13) E 2 dX9_takesOf_13 rfl rfl ?_
  refine k_iaload (pc := 14) (q0 := 1) (t0 := 0) (k := 0) (n := 16) E rfl rfl rfl (by decide) (by omega) (by omega) dX9_takesOf_14 (fun hr7 => ?_)
  have hi8 := hpre1 x0
  rw [← hf_s3 0 (by decide)] at hi8
  refine k_iconst (pc := 15) E dX9_takesOf_15 ?_
  obtain ⟨j10c, hj10c, hT⟩ := gjx hT
  have j10 : (True) → (f_X9_takesOf x0 s0) = j10c  → gK D vwCl (wdM a cI cJ) lgM A p l e { frames := 4, cells := 0, slots := 0, locals := 256 } s m args below meth c 3 (gQQ D vwCl (wdM a cI cJ) lgM A kI in32 below args s) (f_X9_takesOf x0 s0) s3 29 [] [gI r2] := by
    intro  hq hT
    rw [hj10c] at hT
    refine k_iconst (pc := 29) E dX9_takesOf_29 ?_
    refine k_goto (pc := 30) (tgt := 55) E dX9_takesOf_30 (by decide) ?_
    refine k_iadd (pc := 55) E dX9_takesOf_55 ?_
    refine k_istoren (pc := 56) (lv' := [(2, gI (r2 + 2))]) E dX9_takesOf_56 rfl (by decide) rfl ?_
    refine k_iloadn (pc := 57) E 0 dX9_takesOf_57 rfl rfl ?_
    refine k_iconst (pc := 58) E dX9_takesOf_58 ?_
    by_cases h11 : (r2 + 2) < 1
    · replace hT := hT.trans (if_pos h11)
      refine k_icmp_ge_f (pc := 59) (tgt := 66) E (by omega) (by omega) dX9_takesOf_59 (by decide) h11 ?_
      refine k_iconst (pc := 62) E dX9_takesOf_62 ?_
      refine k_goto (pc := 63) (tgt := 67) E dX9_takesOf_63 (by decide) ?_
      exact k_rho hT (k_iret (pc := 67) E dX9_takesOf_67 (by omega))
    · replace hT := hT.trans (if_neg h11)
      refine k_icmp_ge_t (pc := 59) (tgt := 66) E (by omega) (by omega) dX9_takesOf_59 (by decide) h11 ?_
      refine k_iloadn (pc := 66) E 0 dX9_takesOf_66 rfl rfl ?_
      exact k_rho hT (k_iret (pc := 67) E dX9_takesOf_67 (by omega))
  by_cases h9 : (s3 0 x0) = 1
  · replace hT := hT.trans (if_pos h9)
    refine k_icmp_eq_t (pc := 16) (tgt := 29) E (by omega) (by omega) dX9_takesOf_16 (by decide) h9 ?_
    refine k_lv (lv' := []) [] rfl ?_
    exact j10  trivial hT
  · replace hT := hT.trans (if_neg h9)
    refine k_icmp_eq_f (pc := 16) (tgt := 29) E (by omega) (by omega) dX9_takesOf_16 (by decide) h9 ?_
    refine k_aloadn (pc := 19) E 1 dX9_takesOf_19 rfl rfl ?_
    refine k_getf (pc := 20) (q0 := 0) (f := 0) (v := .ref (a 1)) E inX9 rfl rfl (by decide) wm_898 rfl rfl dX9_takesOf_20 ?_
    refine k_iloadn (pc := 23) E 2 dX9_takesOf_23 rfl rfl ?_
    refine k_iaload (pc := 24) (q0 := 1) (t0 := 0) (k := 0) (n := 16) E rfl rfl rfl (by decide) (by omega) (by omega) dX9_takesOf_24 (fun hr12 => ?_)
    have hi13 := hpre1 x0
    rw [← hf_s3 0 (by decide)] at hi13
    refine k_iconst (pc := 25) E dX9_takesOf_25 ?_
    by_cases h14 : (s3 0 x0) = 3
    · replace hT := hT.trans (if_pos h14)
      refine k_icmp_ne_f (pc := 26) (tgt := 33) E (by omega) (by omega) dX9_takesOf_26 (by decide) h14 ?_
      refine k_lv (lv' := []) [] rfl ?_
      exact j10  trivial hT
    · replace hT := hT.trans (if_neg h14)
      refine k_icmp_ne_t (pc := 26) (tgt := 33) E (by omega) (by omega) dX9_takesOf_26 (by decide) h14 ?_
      refine k_aloadn (pc := 33) E 1 dX9_takesOf_33 rfl rfl ?_
      refine k_getf (pc := 34) (q0 := 0) (f := 0) (v := .ref (a 1)) E inX9 rfl rfl (by decide) wm_898 rfl rfl dX9_takesOf_34 ?_
      refine k_iloadn (pc := 37) E 2 dX9_takesOf_37 rfl rfl ?_
      refine k_iaload (pc := 38) (q0 := 1) (t0 := 0) (k := 0) (n := 16) E rfl rfl rfl (by decide) (by omega) (by omega) dX9_takesOf_38 (fun hr15 => ?_)
      have hi16 := hpre1 x0
      rw [← hf_s3 0 (by decide)] at hi16
      refine k_iconst (pc := 39) E dX9_takesOf_39 ?_
      obtain ⟨z23, hz23, hT⟩ := gl1x hT
      have j18 : ∀ (v19 : Int), ((in32 v19) ∧ (0 ≤ v19 ∧ v19 ≤ 12)) → z23 = v19 → gK D vwCl (wdM a cI cJ) lgM A p l e { frames := 4, cells := 0, slots := 0, locals := 256 } s m args below meth c 3 (gQQ D vwCl (wdM a cI cJ) lgM A kI in32 below args s) (f_X9_takesOf x0 s0) s3 55 [] [gI v19, gI r2] := by
        intro v19 hq hz
        obtain ⟨hq21, hq22⟩ := hq
        replace hT := gl1y hT hz
        refine k_iadd (pc := 55) E dX9_takesOf_55 ?_
        refine k_istoren (pc := 56) (lv' := [(2, gI (r2 + v19))]) E dX9_takesOf_56 rfl (by decide) rfl ?_
        refine k_iloadn (pc := 57) E 0 dX9_takesOf_57 rfl rfl ?_
        refine k_iconst (pc := 58) E dX9_takesOf_58 ?_
        by_cases h20 : (r2 + v19) < 1
        · replace hT := hT.trans (if_pos h20)
          refine k_icmp_ge_f (pc := 59) (tgt := 66) E (by omega) (by omega) dX9_takesOf_59 (by decide) h20 ?_
          refine k_iconst (pc := 62) E dX9_takesOf_62 ?_
          refine k_goto (pc := 63) (tgt := 67) E dX9_takesOf_63 (by decide) ?_
          exact k_rho hT (k_iret (pc := 67) E dX9_takesOf_67 (by omega))
        · replace hT := hT.trans (if_neg h20)
          refine k_icmp_ge_t (pc := 59) (tgt := 66) E (by omega) (by omega) dX9_takesOf_59 (by decide) h20 ?_
          refine k_iloadn (pc := 66) E 0 dX9_takesOf_66 rfl rfl ?_
          exact k_rho hT (k_iret (pc := 67) E dX9_takesOf_67 (by omega))
      replace hT := hz23
      by_cases h17 : (s3 0 x0) = 4
      · replace hT := hT.trans (if_pos h17)
        refine k_icmp_ne_f (pc := 40) (tgt := 54) E (by omega) (by omega) dX9_takesOf_40 (by decide) h17 ?_
        refine k_iconst (pc := 43) E dX9_takesOf_43 ?_
        refine k_aloadn (pc := 44) E 1 dX9_takesOf_44 rfl rfl ?_
        refine k_getf (pc := 45) (q0 := 0) (f := 1) (v := .ref (a 2)) E inX9 rfl rfl (by decide) wm_899 rfl rfl dX9_takesOf_45 ?_
        refine k_iloadn (pc := 48) E 2 dX9_takesOf_48 rfl rfl ?_
        refine k_iaload (pc := 49) (q0 := 2) (t0 := 0) (k := 1) (n := 16) E rfl rfl rfl (by decide) (by omega) (by omega) dX9_takesOf_49 (fun hr24 => ?_)
        have hi25 := hpre2 x0
        rw [← hf_s3 1 (by decide)] at hi25
        refine k_iadd (pc := 50) E dX9_takesOf_50 ?_
        refine k_goto (pc := 51) (tgt := 55) E dX9_takesOf_51 (by decide) ?_
        refine k_lv (lv' := []) [] rfl ?_
        exact j18 (3 + (s3 1 x0)) ⟨(by omega), (by first | assumption | omega)⟩ hT
      · replace hT := hT.trans (if_neg h17)
        refine k_icmp_ne_t (pc := 40) (tgt := 54) E (by omega) (by omega) dX9_takesOf_40 (by decide) h17 ?_
        refine k_iconst (pc := 54) E dX9_takesOf_54 ?_
        refine k_lv (lv' := []) [] rfl ?_
        exact j18 0 ⟨(by omega), (by first | assumption | omega)⟩ hT

def f_X9_doesStop (x0 : Int) (s0 : gMem) : Int := (if (s0 0 x0) = 4 then 1 else 0)
theorem f_X9_doesStop_e (x0 : Int) (s0 : gMem) : f_X9_doesStop x0 s0 = (if (s0 0 x0) = 4 then 1 else 0) := rfl
set_option maxRecDepth 100000 in
set_option maxHeartbeats 4000000 in
theorem f_X9_doesStop_p (x0 : Int) (s0 : gMem) (hx0 : in32 x0) (hm_s0 : gMR lgM s0) (hpre0 : 0 ≤ x0 ∧ x0 ≤ 15) : (((f_X9_doesStop x0 s0) = 0 ∨ (f_X9_doesStop x0 s0) = 1)) ∧ (((f_X9_doesStop x0 s0) = 1 ∧ s0 0 x0 = 4) ∨ ((f_X9_doesStop x0 s0) = 0 ∧ s0 0 x0 ≠ 4)) := by
  have hT := f_X9_doesStop_e x0 s0
  have hr1 := (hm_s0 0 x0).1 rfl
  by_cases h2 : (s0 0 x0) = 4
  · replace hT := hT.trans (if_pos h2)
    rw [hT]
    exact ⟨(by first | exact Or.inl rfl | exact Or.inr rfl | omega), (by first | assumption | omega)⟩
  · replace hT := hT.trans (if_neg h2)
    rw [hT]
    exact ⟨(by first | exact Or.inl rfl | exact Or.inr rfl | omega), (by first | assumption | omega)⟩
set_option maxRecDepth 100000 in
set_option maxHeartbeats 4000000 in
theorem c_X9_doesStop (l : Launch) (D : va_G) (a : Nat → Nat) (cI cJ cS cT : ClassId) (s0 : gMem) (x0 : Int) (hx0 : in32 x0) (hpre0 : 0 ≤ x0 ∧ x0 ≤ 15) : gC l yX9_doesStop cX9_doesStop 2 (some .boolean) 1 64 D vwCl (gT cI cJ cS cT) (wdM a cI cJ) lgM kI rgZ [.ref (a 0), gI x0] s0 ((f_X9_doesStop x0 s0), s0) := by
  refine gC_of (by decide +kernel) (hwdM a cI cJ) (Nat.le_of_ble_eq_true rfl) ?_
  intro A p e R s m args below meth c hR E
  subst hR
  have hT := f_X9_doesStop_e x0 s0
  refine k_lv0 (lv' := [(0, .ref (a 0)), (1, gI x0)]) rfl ?_
  refine k_mr (fun hm_s0 => ?_)
  refine k_aloadn (pc := 0) E 0 dX9_doesStop_0 rfl rfl ?_
  refine k_getf (pc := 1) (q0 := 0) (f := 0) (v := .ref (a 1)) E inX9 rfl rfl (by decide) wm_898 rfl rfl dX9_doesStop_1 ?_
  refine k_iloadn (pc := 4) E 1 dX9_doesStop_4 rfl rfl ?_
  refine k_iaload (pc := 5) (q0 := 1) (t0 := 0) (k := 0) (n := 16) E rfl rfl rfl (by decide) (by omega) (by omega) dX9_doesStop_5 (fun hr1 => ?_)
  refine k_iconst (pc := 6) E dX9_doesStop_6 ?_
  by_cases h2 : (s0 0 x0) = 4
  · replace hT := hT.trans (if_pos h2)
    refine k_icmp_ne_f (pc := 7) (tgt := 14) E (by omega) (by omega) dX9_doesStop_7 (by decide) h2 ?_
    refine k_iconst (pc := 10) E dX9_doesStop_10 ?_
    refine k_goto (pc := 11) (tgt := 15) E dX9_doesStop_11 (by decide) ?_
    exact k_rho (congrArg (fun q => (q, s0)) hT) (k_zret (pc := 15) E dX9_doesStop_15 (by first | exact Or.inl rfl | exact Or.inr rfl | omega))
  · replace hT := hT.trans (if_neg h2)
    refine k_icmp_ne_t (pc := 7) (tgt := 14) E (by omega) (by omega) dX9_doesStop_7 (by decide) h2 ?_
    refine k_iconst (pc := 14) E dX9_doesStop_14 ?_
    exact k_rho (congrArg (fun q => (q, s0)) hT) (k_zret (pc := 15) E dX9_doesStop_15 (by first | exact Or.inl rfl | exact Or.inr rfl | omega))

def f_X9_told (x0 : Int) (x1 : Int) (s0 : gMem) : gRes := (if (f_X9_isPlace x0) = 0 then ((-5), s0) else (if x1 = 0 then ((s0 0 x0), s0) else (if x1 = 1 then ((s0 1 x0), s0) else (if x1 = 2 then gb (f_X9_fallsOf x0 0 s0) (fun r15 s16 => (r15, s16)) else (if x1 = 3 then gb (f_X9_takesOf x0 s0) (fun r21 s22 => (r21, s22)) else (if x1 = 4 then (if (f_X9_doesStop x0 s0) = 0 then (0, s0) else (1, s0)) else (if x1 = 5 then gb (f_X9_asksOf 2 x0 0 s0) (fun r30 s31 => (r30, s31)) else ((-7), s0))))))))
theorem f_X9_told_e (x0 : Int) (x1 : Int) (s0 : gMem) : f_X9_told x0 x1 s0 = (if (f_X9_isPlace x0) = 0 then ((-5), s0) else (if x1 = 0 then ((s0 0 x0), s0) else (if x1 = 1 then ((s0 1 x0), s0) else (if x1 = 2 then gb (f_X9_fallsOf x0 0 s0) (fun r15 s16 => (r15, s16)) else (if x1 = 3 then gb (f_X9_takesOf x0 s0) (fun r21 s22 => (r21, s22)) else (if x1 = 4 then (if (f_X9_doesStop x0 s0) = 0 then (0, s0) else (1, s0)) else (if x1 = 5 then gb (f_X9_asksOf 2 x0 0 s0) (fun r30 s31 => (r30, s31)) else ((-7), s0)))))))) := rfl
set_option maxRecDepth 100000 in
set_option maxHeartbeats 4000000 in
theorem f_X9_told_p (x0 : Int) (x1 : Int) (s0 : gMem) (hx0 : in32 x0) (hx1 : in32 x1) (hm_s0 : gMR lgM s0) (hpre0 : VS s0) (hpre1 : KN s0) (hpre2 : MO s0) (rZ : Int) (sZ : gMem) (hres : f_X9_told x0 x1 s0 = (rZ, sZ)) : (fr [25, 26] s0 sZ) ∧ (gMR lgM sZ) ∧ (in32 rZ) := by
  have hT := f_X9_told_e x0 x1 s0
  have hf_s0 : fr [25, 26] s0 s0 := fr.rf _ _
  have hp2 := f_X9_isPlace_p x0 (by omega) 
  by_cases h3 : (f_X9_isPlace x0) = 0
  · replace hT := hT.trans (if_pos h3)
    obtain ⟨rfl, rfl⟩ := Prod.mk.inj (hT.symm.trans hres)
    exact ⟨hf_s0, hm_s0, (by omega)⟩
  · replace hT := hT.trans (if_neg h3)
    by_cases h4 : x1 = 0
    · replace hT := hT.trans (if_pos h4)
      have hr10 := (hm_s0 0 x0).1 rfl
      have hi11 := hpre1 x0
      obtain ⟨rfl, rfl⟩ := Prod.mk.inj (hT.symm.trans hres)
      exact ⟨hf_s0, hm_s0, (by omega)⟩
    · replace hT := hT.trans (if_neg h4)
      by_cases h5 : x1 = 1
      · replace hT := hT.trans (if_pos h5)
        have hr12 := (hm_s0 1 x0).1 rfl
        have hi13 := hpre2 x0
        obtain ⟨rfl, rfl⟩ := Prod.mk.inj (hT.symm.trans hres)
        exact ⟨hf_s0, hm_s0, (by omega)⟩
      · replace hT := hT.trans (if_neg h5)
        by_cases h6 : x1 = 2
        · replace hT := hT.trans (if_pos h6)
          obtain ⟨r15, s16, hs16⟩ : ∃ rr ss, (f_X9_fallsOf x0 0 s0) = (rr, ss) := ⟨_, _, rfl⟩
          replace hT := gby hT hs16
          have hp17 := f_X9_fallsOf_p x0 0 s0 (by omega) (by omega) hm_s0 hpre0 hpre1 hpre2 (by first | assumption | omega) (by first | assumption | omega) r15 s16 hs16
          obtain ⟨hfc_s16, hm_s16, hp18, hp19⟩ := hp17
          have hf_s16 : fr [25, 26] s0 s16 := hf_s0.call (by decide) hfc_s16
          obtain ⟨rfl, rfl⟩ := Prod.mk.inj (hT.symm.trans hres)
          exact ⟨hf_s16, hm_s16, (by omega)⟩
        · replace hT := hT.trans (if_neg h6)
          by_cases h7 : x1 = 3
          · replace hT := hT.trans (if_pos h7)
            obtain ⟨r21, s22, hs22⟩ : ∃ rr ss, (f_X9_takesOf x0 s0) = (rr, ss) := ⟨_, _, rfl⟩
            replace hT := gby hT hs22
            have hp23 := f_X9_takesOf_p x0 s0 (by omega) hm_s0 hpre0 hpre1 hpre2 (by first | assumption | omega) r21 s22 hs22
            obtain ⟨hfc_s22, hm_s22, hp24, hp25⟩ := hp23
            have hf_s22 : fr [25, 26] s0 s22 := hf_s0.call (by decide) hfc_s22
            obtain ⟨rfl, rfl⟩ := Prod.mk.inj (hT.symm.trans hres)
            exact ⟨hf_s22, hm_s22, (by omega)⟩
          · replace hT := hT.trans (if_neg h7)
            by_cases h8 : x1 = 4
            · replace hT := hT.trans (if_pos h8)
              have hp27 := f_X9_doesStop_p x0 s0 (by omega) hm_s0 (by first | assumption | omega)
              by_cases h28 : (f_X9_doesStop x0 s0) = 0
              · replace hT := hT.trans (if_pos h28)
                obtain ⟨rfl, rfl⟩ := Prod.mk.inj (hT.symm.trans hres)
                exact ⟨hf_s0, hm_s0, (by omega)⟩
              · replace hT := hT.trans (if_neg h28)
                obtain ⟨rfl, rfl⟩ := Prod.mk.inj (hT.symm.trans hres)
                exact ⟨hf_s0, hm_s0, (by omega)⟩
            · replace hT := hT.trans (if_neg h8)
              by_cases h9 : x1 = 5
              · replace hT := hT.trans (if_pos h9)
                obtain ⟨r30, s31, hs31⟩ : ∃ rr ss, (f_X9_asksOf 2 x0 0 s0) = (rr, ss) := ⟨_, _, rfl⟩
                replace hT := gby hT hs31
                have hp32 := f_X9_asksOf_p 2 x0 0 s0 (by omega) (by omega) (by omega) hm_s0 hpre0 (by first | assumption | omega) (by first | assumption | omega) r30 s31 hs31
                obtain ⟨hfc_s31, hm_s31, hp33, hp34⟩ := hp32
                have hf_s31 : fr [25, 26] s0 s31 := hf_s0.call (by decide) hfc_s31
                obtain ⟨rfl, rfl⟩ := Prod.mk.inj (hT.symm.trans hres)
                exact ⟨hf_s31, hm_s31, (by omega)⟩
              · replace hT := hT.trans (if_neg h9)
                obtain ⟨rfl, rfl⟩ := Prod.mk.inj (hT.symm.trans hres)
                exact ⟨hf_s0, hm_s0, (by omega)⟩
set_option maxRecDepth 100000 in
set_option maxHeartbeats 4000000 in
theorem c_X9_told (l : Launch) (D : va_G) (a : Nat → Nat) (cI cJ cS cT : ClassId) (s0 : gMem) (x0 : Int) (x1 : Int) (hx0 : in32 x0) (hx1 : in32 x1) (hpre0 : VS s0) (hpre1 : KN s0) (hpre2 : MO s0) : gC l yX9_told cX9_told 3 (some .int) 5 320 D vwCl (gT cI cJ cS cT) (wdM a cI cJ) lgM kI in32 [.ref (a 0), gI x0, gI x1] s0 (f_X9_told x0 x1 s0) := by
  refine gC_of (by decide +kernel) (hwdM a cI cJ) (Nat.le_of_ble_eq_true rfl) ?_
  intro A p e R s m args below meth c hR E
  subst hR
  have hT := f_X9_told_e x0 x1 s0
  have hf_s0 : fr [25, 26] s0 s0 := fr.rf _ _
  refine k_lv0 (lv' := [(0, .ref (a 0)), (1, gI x0), (2, gI x1)]) rfl ?_
  refine k_mr (fun hm_s0 => ?_)
  refine k_iloadn (pc := 0) E 1 dX9_told_0 rfl rfl ?_
  refine k_mr (fun hm_s0 => ?_)
  refine k_callS (pc := 1) (np := 1) (As := [gI x0]) (st := []) E (c_X9_isPlace l D a cI cJ cS cT s0 x0 (by omega)) wm_1040 wm_11 wm_1038 wm_1039 (by decide +kernel) ⟨by decide, by decide⟩ rfl (Nat.le_of_ble_eq_true rfl) dX9_told_1 (ro_kk (fun hr1 => ?_))
  have hp2 := f_X9_isPlace_p x0 (by omega) 
  refine k_st (st' := [gI (f_X9_isPlace x0)]) rfl ?_
  by_cases h3 : (f_X9_isPlace x0) = 0
  · replace hT := hT.trans (if_pos h3)
    refine k_if_ne_f (pc := 4) (tgt := 10) E (by omega) dX9_told_4 (by decide) h3 ?_
    refine k_bipush (pc := 7) E dX9_told_7 (by decide) ?_
    exact k_rho hT (k_iret (pc := 9) E dX9_told_9 (by omega))
  · replace hT := hT.trans (if_neg h3)
    refine k_if_ne_t (pc := 4) (tgt := 10) E (by omega) dX9_told_4 (by decide) h3 ?_
    refine k_iloadn (pc := 10) E 2 dX9_told_10 rfl rfl ?_
    by_cases h4 : x1 = 0
    · replace hT := hT.trans (if_pos h4)
      refine k_tabIn (pc := 11) (tgt := 48) E dX9_told_11 (by omega) (by omega) (by omega) (by rw [h4]; rfl) (by decide) ?_
      refine k_aloadn (pc := 48) E 0 dX9_told_48 rfl rfl ?_
      refine k_getf (pc := 49) (q0 := 0) (f := 0) (v := .ref (a 1)) E inX9 rfl rfl (by decide) wm_898 rfl rfl dX9_told_49 ?_
      refine k_iloadn (pc := 52) E 1 dX9_told_52 rfl rfl ?_
      refine k_iaload (pc := 53) (q0 := 1) (t0 := 0) (k := 0) (n := 16) E rfl rfl rfl (by decide) (by omega) (by omega) dX9_told_53 (fun hr10 => ?_)
      have hi11 := hpre1 x0
      exact k_rho hT (k_iret (pc := 54) E dX9_told_54 (by omega))
    · replace hT := hT.trans (if_neg h4)
      by_cases h5 : x1 = 1
      · replace hT := hT.trans (if_pos h5)
        refine k_tabIn (pc := 11) (tgt := 55) E dX9_told_11 (by omega) (by omega) (by omega) (by rw [h5]; rfl) (by decide) ?_
        refine k_aloadn (pc := 55) E 0 dX9_told_55 rfl rfl ?_
        refine k_getf (pc := 56) (q0 := 0) (f := 1) (v := .ref (a 2)) E inX9 rfl rfl (by decide) wm_899 rfl rfl dX9_told_56 ?_
        refine k_iloadn (pc := 59) E 1 dX9_told_59 rfl rfl ?_
        refine k_iaload (pc := 60) (q0 := 2) (t0 := 0) (k := 1) (n := 16) E rfl rfl rfl (by decide) (by omega) (by omega) dX9_told_60 (fun hr12 => ?_)
        have hi13 := hpre2 x0
        exact k_rho hT (k_iret (pc := 61) E dX9_told_61 (by omega))
      · replace hT := hT.trans (if_neg h5)
        by_cases h6 : x1 = 2
        · replace hT := hT.trans (if_pos h6)
          refine k_tabIn (pc := 11) (tgt := 62) E dX9_told_11 (by omega) (by omega) (by omega) (by rw [h6]; rfl) (by decide) ?_
          refine k_aloadn (pc := 62) E 0 dX9_told_62 rfl rfl ?_
          refine k_iloadn (pc := 63) E 1 dX9_told_63 rfl rfl ?_
          refine k_iconst (pc := 64) E dX9_told_64 ?_
          refine k_mr (fun hm_s0 => ?_)
          refine k_callV (pc := 65) (np := 2) (As := [gI x0, gI 0]) (st := []) (q0 := 0) E (c_X9_fallsOf l D a cI cJ cS cT s0 x0 0 (by omega) (by omega) hpre0 hpre1 hpre2 (by first | assumption | omega) (by first | assumption | omega)) wm_1069 wm_11 wm_1066 wm_1068 wp_36 (by decide +kernel) rfl rfl ⟨by decide, by decide⟩ rfl (Nat.le_of_ble_eq_true rfl) dX9_told_65 (fun r15 s16 hs16 hr14 => ?_)
          replace hT := gby hT hs16
          have hp17 := f_X9_fallsOf_p x0 0 s0 (by omega) (by omega) hm_s0 hpre0 hpre1 hpre2 (by first | assumption | omega) (by first | assumption | omega) r15 s16 hs16
          obtain ⟨hfc_s16, hm_s16, hp18, hp19⟩ := hp17
          have hf_s16 : fr [25, 26] s0 s16 := hf_s0.call (by decide) hfc_s16
          refine k_st (st' := [gI r15]) rfl ?_
          exact k_rho hT (k_iret (pc := 68) E dX9_told_68 (by omega))
        · replace hT := hT.trans (if_neg h6)
          by_cases h7 : x1 = 3
          · replace hT := hT.trans (if_pos h7)
            refine k_tabIn (pc := 11) (tgt := 69) E dX9_told_11 (by omega) (by omega) (by omega) (by rw [h7]; rfl) (by decide) ?_
            refine k_aloadn (pc := 69) E 0 dX9_told_69 rfl rfl ?_
            refine k_iloadn (pc := 70) E 1 dX9_told_70 rfl rfl ?_
            refine k_mr (fun hm_s0 => ?_)
            refine k_callV (pc := 71) (np := 1) (As := [gI x0]) (st := []) (q0 := 0) E (c_X9_takesOf l D a cI cJ cS cT s0 x0 (by omega) hpre0 hpre1 hpre2 (by first | assumption | omega)) wm_1073 wm_11 wm_1070 wm_1072 wp_37 (by decide +kernel) rfl rfl ⟨by decide, by decide⟩ rfl (Nat.le_of_ble_eq_true rfl) dX9_told_71 (fun r21 s22 hs22 hr20 => ?_)
            replace hT := gby hT hs22
            have hp23 := f_X9_takesOf_p x0 s0 (by omega) hm_s0 hpre0 hpre1 hpre2 (by first | assumption | omega) r21 s22 hs22
            obtain ⟨hfc_s22, hm_s22, hp24, hp25⟩ := hp23
            have hf_s22 : fr [25, 26] s0 s22 := hf_s0.call (by decide) hfc_s22
            refine k_st (st' := [gI r21]) rfl ?_
            exact k_rho hT (k_iret (pc := 74) E dX9_told_74 (by omega))
          · replace hT := hT.trans (if_neg h7)
            by_cases h8 : x1 = 4
            · replace hT := hT.trans (if_pos h8)
              refine k_tabIn (pc := 11) (tgt := 75) E dX9_told_11 (by omega) (by omega) (by omega) (by rw [h8]; rfl) (by decide) ?_
              refine k_aloadn (pc := 75) E 0 dX9_told_75 rfl rfl ?_
              refine k_iloadn (pc := 76) E 1 dX9_told_76 rfl rfl ?_
              refine k_mr (fun hm_s0 => ?_)
              refine k_callV (pc := 77) (np := 1) (As := [gI x0]) (st := []) (q0 := 0) E (c_X9_doesStop l D a cI cJ cS cT s0 x0 (by omega) (by first | assumption | omega)) wm_1077 wm_11 wm_1074 wm_1076 wp_38 (by decide +kernel) rfl rfl ⟨by decide, by decide⟩ rfl (Nat.le_of_ble_eq_true rfl) dX9_told_77 (ro_kk (fun hr26 => ?_))
              have hp27 := f_X9_doesStop_p x0 s0 (by omega) hm_s0 (by first | assumption | omega)
              refine k_st (st' := [gI (f_X9_doesStop x0 s0)]) rfl ?_
              by_cases h28 : (f_X9_doesStop x0 s0) = 0
              · replace hT := hT.trans (if_pos h28)
                refine k_if_eq_t (pc := 80) (tgt := 87) E (by omega) dX9_told_80 (by decide) h28 ?_
                refine k_iconst (pc := 87) E dX9_told_87 ?_
                exact k_rho hT (k_iret (pc := 88) E dX9_told_88 (by omega))
              · replace hT := hT.trans (if_neg h28)
                refine k_if_eq_f (pc := 80) (tgt := 87) E (by omega) dX9_told_80 (by decide) h28 ?_
                refine k_iconst (pc := 83) E dX9_told_83 ?_
                refine k_goto (pc := 84) (tgt := 88) E dX9_told_84 (by decide) ?_
                exact k_rho hT (k_iret (pc := 88) E dX9_told_88 (by omega))
            · replace hT := hT.trans (if_neg h8)
              by_cases h9 : x1 = 5
              · replace hT := hT.trans (if_pos h9)
                refine k_tabIn (pc := 11) (tgt := 89) E dX9_told_11 (by omega) (by omega) (by omega) (by rw [h9]; rfl) (by decide) ?_
                refine k_aloadn (pc := 89) E 0 dX9_told_89 rfl rfl ?_
                refine k_iconst (pc := 90) E dX9_told_90 ?_
                refine k_iloadn (pc := 91) E 1 dX9_told_91 rfl rfl ?_
                refine k_iconst (pc := 92) E dX9_told_92 ?_
                refine k_mr (fun hm_s0 => ?_)
                refine k_callV (pc := 93) (np := 3) (As := [gI 2, gI x0, gI 0]) (st := []) (q0 := 0) E (c_X9_asksOf l D a cI cJ cS cT s0 2 x0 0 (by omega) (by omega) (by omega) hpre0 (by first | assumption | omega) (by first | assumption | omega)) wm_1044 wm_11 wm_1041 wm_1043 wp_34 (by decide +kernel) rfl rfl ⟨by decide, by decide⟩ rfl (Nat.le_of_ble_eq_true rfl) dX9_told_93 (fun r30 s31 hs31 hr29 => ?_)
                replace hT := gby hT hs31
                have hp32 := f_X9_asksOf_p 2 x0 0 s0 (by omega) (by omega) (by omega) hm_s0 hpre0 (by first | assumption | omega) (by first | assumption | omega) r30 s31 hs31
                obtain ⟨hfc_s31, hm_s31, hp33, hp34⟩ := hp32
                have hf_s31 : fr [25, 26] s0 s31 := hf_s0.call (by decide) hfc_s31
                refine k_st (st' := [gI r30]) rfl ?_
                exact k_rho hT (k_iret (pc := 96) E dX9_told_96 (by omega))
              · replace hT := hT.trans (if_neg h9)
                refine k_tabOut (pc := 11) (tgt := 97) E dX9_told_11 (by omega) (by omega) (by decide) ?_
                refine k_bipush (pc := 97) E dX9_told_97 (by decide) ?_
                exact k_rho hT (k_iret (pc := 99) E dX9_told_99 (by omega))
