def f_X0_putUp (x0 : Int) (s0 : gMem) : gRes := gl (mset s0 71 0 (((s0 71 0) * 48271) % 2147483647)) (fun s6 => gl (mset s6 73 0 ((s6 73 0) + 1)) (fun s11 => gl (ior (f_X4_fallsOn x0 1 (s11 72 0) (s11 62 0) s11) (f_X4_fallsOn x0 (-1) (s11 72 0) (s11 62 0) s11)) (fun v26 => gl (f_J6_bitCount_0f7a4 v26) (fun v29 => gb (f_X4_falls x0 v29 s11) (fun r36 s37 => (if ((s11 71 0) % 100) < r36 then gl (mset s37 72 0 (iand (s37 72 0) (ixor v26 (-1)))) (fun s49 => gl (mset s49 74 0 ((s49 74 0) + 1)) (fun s54 => (v29, s54))) else gl (mset s37 72 0 (ior (s37 72 0) (ishl 1 x0))) (fun s63 => ((-1), s63))))))))
theorem f_X0_putUp_e (x0 : Int) (s0 : gMem) : f_X0_putUp x0 s0 = gl (mset s0 71 0 (((s0 71 0) * 48271) % 2147483647)) (fun s6 => gl (mset s6 73 0 ((s6 73 0) + 1)) (fun s11 => gl (ior (f_X4_fallsOn x0 1 (s11 72 0) (s11 62 0) s11) (f_X4_fallsOn x0 (-1) (s11 72 0) (s11 62 0) s11)) (fun v26 => gl (f_J6_bitCount_0f7a4 v26) (fun v29 => gb (f_X4_falls x0 v29 s11) (fun r36 s37 => (if ((s11 71 0) % 100) < r36 then gl (mset s37 72 0 (iand (s37 72 0) (ixor v26 (-1)))) (fun s49 => gl (mset s49 74 0 ((s49 74 0) + 1)) (fun s54 => (v29, s54))) else gl (mset s37 72 0 (ior (s37 72 0) (ishl 1 x0))) (fun s63 => ((-1), s63)))))))) := rfl
set_option maxRecDepth 100000 in
set_option maxHeartbeats 4000000 in
theorem f_X0_putUp_p (x0 : Int) (s0 : gMem) (hx0 : in32 x0) (hm_s0 : gMR lgX s0) (hpre0 : CD s0) (hpre1 : BG s0) (hpre2 : LA s0) (hpre3 : MOx s0) (hpre4 : KF s0) (hpre5 : LST s0) (hpre6 : LT s0) (hpre7 : RE s0) (hpre8 : 0 ≤ s0 73 0 ∧ s0 73 0 ≤ 1000) (hpre9 : 0 ≤ s0 74 0 ∧ s0 74 0 ≤ 1000) (hpre10 : 0 ≤ x0 ∧ x0 ≤ 15) (rZ : Int) (sZ : gMem) (hres : f_X0_putUp x0 s0 = (rZ, sZ)) : (fr [32, 36, 37, 71, 72, 73, 74] s0 sZ) ∧ (gMR lgX sZ) ∧ (in32 rZ) ∧ (KF sZ) ∧ (LST sZ) ∧ (LT sZ) ∧ (sZ 73 0 = s0 73 0 + 1) ∧ (s0 74 0 ≤ sZ 74 0 ∧ sZ 74 0 ≤ s0 74 0 + 1) ∧ (-1 ≤ rZ ∧ rZ ≤ 16) := by
  have hT := f_X0_putUp_e x0 s0
  have hf_s0 : fr [32, 36, 37, 71, 72, 73, 74] s0 s0 := fr.rf _ _
  have hKF_s0 := hpre4
  have hLST_s0 := hpre5
  have hLT_s0 := hpre6
  have hr1 := (hm_s0 71 0).2 rfl
  have hi2 := hLT_s0 0
  have hd3 : (0 : Int) ≤ ((s0 71 0) * 48271) := (by omega)
  have hd4 : (0 : Int) < 2147483647 := (by omega)
  have hb5 := rm_rg (x := ((s0 71 0) * 48271)) hd4
  obtain ⟨s6, hs6, hT⟩ := glx hT
  have hf_s6 : fr [32, 36, 37, 71, 72, 73, 74] s0 s6 := hs6 ▸ hf_s0.set (by decide)
  have hm_s6 : gMR lgX s6 := hs6 ▸ hm_s0.set64 rfl (by omega)
  have hg_s6 : fr [71] s0 s6 := hs6 ▸ (fr.rf _ _).set (by decide)
  have hKF_s6 : KF s6 := KF_fr hKF_s0 (fun k hk => hg_s6 k (dj (by decide) k hk))
  have hLST_s6 : LST s6 := LST_fr hLST_s0 (fun k hk => hg_s6 k (dj (by decide) k hk))
  have hLT_s6 : LT s6 := hs6 ▸ LT_set hLT_s0 (by omega)
  have ht7 : s6 72 0 = s0 72 0 := by rw [hs6]; exact mset_ne _ _ _ _ _ (by decide)
  have ht8 : s6 73 0 = s0 73 0 := by rw [hs6]; exact mset_ne _ _ _ _ _ (by decide)
  have ht9 : s6 74 0 = s0 74 0 := by rw [hs6]; exact mset_ne _ _ _ _ _ (by decide)
  have hr10 := (hm_s6 73 0).1 rfl
  obtain ⟨s11, hs11, hT⟩ := glx hT
  have hf_s11 : fr [32, 36, 37, 71, 72, 73, 74] s0 s11 := hs11 ▸ hf_s6.set (by decide)
  have hm_s11 : gMR lgX s11 := hs11 ▸ hm_s6.set32 rfl (by omega)
  have hg_s11 : fr [73] s6 s11 := hs11 ▸ (fr.rf _ _).set (by decide)
  have hKF_s11 : KF s11 := KF_fr hKF_s6 (fun k hk => hg_s11 k (dj (by decide) k hk))
  have hLST_s11 : LST s11 := LST_fr hLST_s6 (fun k hk => hg_s11 k (dj (by decide) k hk))
  have hLT_s11 : LT s11 := LT_fr hLT_s6 (fun k hk => hg_s11 k (dj (by decide) k hk))
  have ht12 : s11 72 0 = s6 72 0 := by rw [hs11]; exact mset_ne _ _ _ _ _ (by decide)
  have ht13 : s11 73 0 = ((s6 73 0) + 1) := by rw [hs11]; exact mset_eq _ _ _ _
  have ht14 : s11 74 0 = s6 74 0 := by rw [hs11]; exact mset_ne _ _ _ _ _ (by decide)
  have hr15 := (hm_s11 62 0).1 rfl
  have hi16 := (RE_fr hpre7 (fun k hk => hf_s11 k (dj (by decide) k hk))) 0
  have hr17 := (hm_s11 72 0).1 rfl
  have hi18 := hLST_s11 0
  have hp20 := f_X4_fallsOn_p x0 1 (s11 72 0) (s11 62 0) s11 (by omega) (by omega) (by omega) (by omega) hm_s11 (by first | assumption | omega) (by first | assumption | omega)
  have hr21 := (hm_s11 72 0).1 rfl
  have hi22 := hLST_s11 0
  have hp24 := f_X4_fallsOn_p x0 (-1) (s11 72 0) (s11 62 0) s11 (by omega) (by omega) (by omega) (by omega) hm_s11 (by first | assumption | omega) (by first | assumption | omega)
  have kn0 := ior_16 (x := (f_X4_fallsOn x0 1 (s11 72 0) (s11 62 0) s11)) (y := (f_X4_fallsOn x0 (-1) (s11 72 0) (s11 62 0) s11)) (by omega) (by omega) (by omega) (by omega)
  have hb25 := ior_rg (f_X4_fallsOn x0 1 (s11 72 0) (s11 62 0) s11) (f_X4_fallsOn x0 (-1) (s11 72 0) (s11 62 0) s11)
  skip
  obtain ⟨v26, hv26, hT⟩ := glx hT
  have hp28 := f_J6_bitCount_0f7a4_p v26 (by omega) 
  obtain ⟨v29, hv29, hT⟩ := glx hT
  have kbv29 := bc_rg (x := v26) (by omega) (by omega)
  rw [← hv29] at kbv29
  rw [← hv29] at hp28
  clear hv29
  have hr30 := (hm_s11 71 0).2 rfl
  have hi31 := hLT_s11 0
  have hd32 : (0 : Int) ≤ (s11 71 0) := (by omega)
  have hd33 : (0 : Int) < 100 := (by omega)
  have hb34 := rm_rg (x := (s11 71 0)) hd33
  obtain ⟨r36, s37, hs37⟩ : ∃ rr ss, (f_X4_falls x0 v29 s11) = (rr, ss) := ⟨_, _, rfl⟩
  replace hT := gby hT hs37
  have hp38 := f_X4_falls_p x0 v29 s11 (by omega) (by omega) hm_s11 (CD_fr hpre0 (fun k hk => hf_s11 k (dj (by decide) k hk))) (BG_fr hpre1 (fun k hk => hf_s11 k (dj (by decide) k hk))) (LA_fr hpre2 (fun k hk => hf_s11 k (dj (by decide) k hk))) (MOx_fr hpre3 (fun k hk => hf_s11 k (dj (by decide) k hk))) hKF_s11 (by first | assumption | omega) (by first | assumption | omega) r36 s37 hs37
  obtain ⟨hfc_s37, hm_s37, hp39, hKF_s37, hp40⟩ := hp38
  have hf_s37 : fr [32, 36, 37, 71, 72, 73, 74] s0 s37 := hf_s11.call (by decide) hfc_s37
  have hLST_s37 : LST s37 := LST_fr hLST_s11 (fun k hk => hfc_s37 k (dj (by decide) k hk))
  have hLT_s37 : LT s37 := LT_fr hLT_s11 (fun k hk => hfc_s37 k (dj (by decide) k hk))
  have ht41 : s37 72 0 = s11 72 0 := by rw [hfc_s37 72 (by decide)]
  have ht42 : s37 73 0 = s11 73 0 := by rw [hfc_s37 73 (by decide)]
  have ht43 : s37 74 0 = s11 74 0 := by rw [hfc_s37 74 (by decide)]
  by_cases h44 : ((s11 71 0) % 100) < r36
  · replace hT := hT.trans (if_pos h44)
    have hr45 := (hm_s37 72 0).1 rfl
    have hi46 := hLST_s37 0
    have hb47 := ixor_rg v26 (-1)
    have hb48 := iand_rg (s37 72 0) (ixor v26 (-1))
    have kn2 := iand_nn (ixor v26 (-1)) (x := s37 72 0) (by omega) (by omega)
    obtain ⟨s49, hs49, hT⟩ := glx hT
    have hf_s49 : fr [32, 36, 37, 71, 72, 73, 74] s0 s49 := hs49 ▸ hf_s37.set (by decide)
    have hm_s49 : gMR lgX s49 := hs49 ▸ hm_s37.set32 rfl (by omega)
    have hg_s49 : fr [72] s37 s49 := hs49 ▸ (fr.rf _ _).set (by decide)
    have hKF_s49 : KF s49 := KF_fr hKF_s37 (fun k hk => hg_s49 k (dj (by decide) k hk))
    have hLST_s49 : LST s49 := hs49 ▸ LST_set hLST_s37 (by omega)
    have hLT_s49 : LT s49 := LT_fr hLT_s37 (fun k hk => hg_s49 k (dj (by decide) k hk))
    have ht50 : s49 72 0 = (iand (s37 72 0) (ixor v26 (-1))) := by rw [hs49]; exact mset_eq _ _ _ _
    have ht51 : s49 73 0 = s37 73 0 := by rw [hs49]; exact mset_ne _ _ _ _ _ (by decide)
    have ht52 : s49 74 0 = s37 74 0 := by rw [hs49]; exact mset_ne _ _ _ _ _ (by decide)
    have hr53 := (hm_s49 74 0).1 rfl
    obtain ⟨s54, hs54, hT⟩ := glx hT
    have hf_s54 : fr [32, 36, 37, 71, 72, 73, 74] s0 s54 := hs54 ▸ hf_s49.set (by decide)
    have hm_s54 : gMR lgX s54 := hs54 ▸ hm_s49.set32 rfl (by omega)
    have hg_s54 : fr [74] s49 s54 := hs54 ▸ (fr.rf _ _).set (by decide)
    have hKF_s54 : KF s54 := KF_fr hKF_s49 (fun k hk => hg_s54 k (dj (by decide) k hk))
    have hLST_s54 : LST s54 := LST_fr hLST_s49 (fun k hk => hg_s54 k (dj (by decide) k hk))
    have hLT_s54 : LT s54 := LT_fr hLT_s49 (fun k hk => hg_s54 k (dj (by decide) k hk))
    have ht55 : s54 72 0 = s49 72 0 := by rw [hs54]; exact mset_ne _ _ _ _ _ (by decide)
    have ht56 : s54 73 0 = s49 73 0 := by rw [hs54]; exact mset_ne _ _ _ _ _ (by decide)
    have ht57 : s54 74 0 = ((s49 74 0) + 1) := by rw [hs54]; exact mset_eq _ _ _ _
    obtain ⟨rfl, rfl⟩ := Prod.mk.inj (hT.symm.trans hres)
    exact ⟨hf_s54, hm_s54, (by omega), hKF_s54, hLST_s54, hLT_s54, (by first | assumption | omega), (by first | assumption | omega), (by first | assumption | omega)⟩
  · replace hT := hT.trans (if_neg h44)
    have hr58 := (hm_s37 72 0).1 rfl
    have hi59 := hLST_s37 0
    have hb60 := ishl_rg 1 x0
    have hb61 : 0 ≤ x0 ∧ x0 ≤ 15 → _ := fun q => ishl_1 q.1 q.2
    have hb62 := ior_rg (s37 72 0) (ishl 1 x0)
    have kn3 := ishl_1 (p := x0) (by omega) (by omega)
    have kn4 := ior_16 (x := s37 72 0) (y := ishl 1 x0) (by omega) (by omega) (by omega) (by omega)
    obtain ⟨s63, hs63, hT⟩ := glx hT
    have hf_s63 : fr [32, 36, 37, 71, 72, 73, 74] s0 s63 := hs63 ▸ hf_s37.set (by decide)
    have hm_s63 : gMR lgX s63 := hs63 ▸ hm_s37.set32 rfl (by omega)
    have hg_s63 : fr [72] s37 s63 := hs63 ▸ (fr.rf _ _).set (by decide)
    have hKF_s63 : KF s63 := KF_fr hKF_s37 (fun k hk => hg_s63 k (dj (by decide) k hk))
    have hLST_s63 : LST s63 := hs63 ▸ LST_set hLST_s37 (by omega)
    have hLT_s63 : LT s63 := LT_fr hLT_s37 (fun k hk => hg_s63 k (dj (by decide) k hk))
    have ht64 : s63 72 0 = (ior (s37 72 0) (ishl 1 x0)) := by rw [hs63]; exact mset_eq _ _ _ _
    have ht65 : s63 73 0 = s37 73 0 := by rw [hs63]; exact mset_ne _ _ _ _ _ (by decide)
    have ht66 : s63 74 0 = s37 74 0 := by rw [hs63]; exact mset_ne _ _ _ _ _ (by decide)
    obtain ⟨rfl, rfl⟩ := Prod.mk.inj (hT.symm.trans hres)
    exact ⟨hf_s63, hm_s63, (by omega), hKF_s63, hLST_s63, hLT_s63, (by first | assumption | omega), (by first | assumption | omega), (by first | assumption | omega)⟩
set_option maxRecDepth 100000 in
set_option maxHeartbeats 4000000 in
theorem c_X0_putUp (l : Launch) (D : va_G) (a : Nat → Nat) (cI cJ cS cT : ClassId) (s0 : gMem) (x0 : Int) (hx0 : in32 x0) (hpre0 : CD s0) (hpre1 : BG s0) (hpre2 : LA s0) (hpre3 : MOx s0) (hpre4 : KF s0) (hpre5 : LST s0) (hpre6 : LT s0) (hpre7 : RE s0) (hpre8 : 0 ≤ s0 73 0 ∧ s0 73 0 ≤ 1000) (hpre9 : 0 ≤ s0 74 0 ∧ s0 74 0 ≤ 1000) (hpre10 : 0 ≤ x0 ∧ x0 ≤ 15) : gC l yX0_putUp cX0_putUp 5 (some .int) 4 256 D vwCl (gT cI cJ cS cT) (wdX a cI cJ cS cT) lgX kI in32 [.ref (a 7), gI x0] s0 (f_X0_putUp x0 s0) := by
  refine gC_of (by decide +kernel) (hwdX a cI cJ cS cT) (Nat.le_of_ble_eq_true rfl) ?_
  intro A p e R s m args below meth c hR E
  subst hR
  have hT := f_X0_putUp_e x0 s0
  have hf_s0 : fr [32, 36, 37, 71, 72, 73, 74] s0 s0 := fr.rf _ _
  refine k_lv0 (lv' := [(0, .ref (a 7)), (1, gI x0)]) rfl ?_
  refine k_mr (fun hm_s0 => ?_)
  have hKF_s0 := hpre4
  have hLST_s0 := hpre5
  have hLT_s0 := hpre6
  refine k_aloadn (pc := 0) E 0 dX0_putUp_0 rfl rfl ?_
  refine k_aloadn (pc := 1) E 0 dX0_putUp_1 rfl rfl ?_
  refine k_getfJ (pc := 2) (q0 := 7) (f := 1) (k := 71) E inX0 rfl rfl (by decide) wm_232 rfl rfl rfl dX0_putUp_2 (fun hr1 => ?_)
  have hi2 := hLT_s0 0
  refine k_ldc2 (pc := 5) (n := 48271) E dX0_putUp_5 wm_705 (by decide) ?_
  refine k_lmul (pc := 8) E dX0_putUp_8 ?_
  refine k_ldc2 (pc := 9) (n := 2147483647) E dX0_putUp_9 wm_706 (by decide) ?_
  have hd3 : (0 : Int) ≤ ((s0 71 0) * 48271) := (by omega)
  have hd4 : (0 : Int) < 2147483647 := (by omega)
  refine k_lremN (pc := 12) E (by omega) (by omega) hd3 hd4 dX0_putUp_12 ?_
  have hb5 := rm_rg (x := ((s0 71 0) * 48271)) hd4
  refine k_putfJ (pc := 13) (q0 := 7) (f := 1) (k := 71) E tyX0 tyX0_ok nmX0 inX0 rfl rfl (by decide) wm_232 rfl rfl rfl (Nat.le_of_ble_eq_true rfl) rfl rfl (by omega) dX0_putUp_13 ?_
  obtain ⟨s6, hs6, hT⟩ := glx hT
  refine k_sg hs6.symm ?_
  have hf_s6 : fr [32, 36, 37, 71, 72, 73, 74] s0 s6 := hs6 ▸ hf_s0.set (by decide)
  have hg_s6 : fr [71] s0 s6 := hs6 ▸ (fr.rf _ _).set (by decide)
  have hKF_s6 : KF s6 := KF_fr hKF_s0 (fun k hk => hg_s6 k (dj (by decide) k hk))
  have hLST_s6 : LST s6 := LST_fr hLST_s0 (fun k hk => hg_s6 k (dj (by decide) k hk))
  have hLT_s6 : LT s6 := hs6 ▸ LT_set hLT_s0 (by omega)
  have ht7 : s6 72 0 = s0 72 0 := by rw [hs6]; exact mset_ne _ _ _ _ _ (by decide)
  have ht8 : s6 73 0 = s0 73 0 := by rw [hs6]; exact mset_ne _ _ _ _ _ (by decide)
  have ht9 : s6 74 0 = s0 74 0 := by rw [hs6]; exact mset_ne _ _ _ _ _ (by decide)
  refine k_aloadn (pc := 16) E 0 dX0_putUp_16 rfl rfl ?_
  refine k_dup (pc := 17) E dX0_putUp_17 rfl ?_
  refine k_getfI (pc := 18) (q0 := 7) (f := 3) (k := 73) E inX0 rfl rfl (by decide) wm_235 rfl rfl rfl dX0_putUp_18 (fun hr10 => ?_)
  refine k_iconst (pc := 21) E dX0_putUp_21 ?_
  refine k_iadd (pc := 22) E dX0_putUp_22 ?_
  refine k_putfI (pc := 23) (q0 := 7) (f := 3) (k := 73) E tyX0 tyX0_ok nmX0 inX0 rfl rfl (by decide) wm_235 rfl rfl rfl (Nat.le_of_ble_eq_true rfl) rfl rfl (by omega) dX0_putUp_23 ?_
  obtain ⟨s11, hs11, hT⟩ := glx hT
  refine k_sg hs11.symm ?_
  have hf_s11 : fr [32, 36, 37, 71, 72, 73, 74] s0 s11 := hs11 ▸ hf_s6.set (by decide)
  have hg_s11 : fr [73] s6 s11 := hs11 ▸ (fr.rf _ _).set (by decide)
  have hKF_s11 : KF s11 := KF_fr hKF_s6 (fun k hk => hg_s11 k (dj (by decide) k hk))
  have hLST_s11 : LST s11 := LST_fr hLST_s6 (fun k hk => hg_s11 k (dj (by decide) k hk))
  have hLT_s11 : LT s11 := LT_fr hLT_s6 (fun k hk => hg_s11 k (dj (by decide) k hk))
  have ht12 : s11 72 0 = s6 72 0 := by rw [hs11]; exact mset_ne _ _ _ _ _ (by decide)
  have ht13 : s11 73 0 = ((s6 73 0) + 1) := by rw [hs11]; exact mset_eq _ _ _ _
  have ht14 : s11 74 0 = s6 74 0 := by rw [hs11]; exact mset_ne _ _ _ _ _ (by decide)
  refine k_aloadn (pc := 26) E 0 dX0_putUp_26 rfl rfl ?_
  refine k_getf (pc := 27) (q0 := 7) (f := 0) (v := .ref (a 3)) E inX0 rfl rfl (by decide) wm_231 rfl rfl dX0_putUp_27 ?_
  refine k_getf (pc := 30) (q0 := 3) (f := 0) (v := .ref (a 4)) E inX4 rfl rfl (by decide) wm_148 rfl rfl dX0_putUp_30 ?_
  refine k_getfI (pc := 33) (q0 := 4) (f := 5) (k := 62) E inX6 rfl rfl (by decide) wm_120 rfl rfl rfl dX0_putUp_33 (fun hr15 => ?_)
  have hi16 := (RE_fr hpre7 (fun k hk => hf_s11 k (dj (by decide) k hk))) 0
  refine k_istoren (pc := 36) (lv' := [(2, gI (s11 62 0)), (0, .ref (a 7)), (1, gI x0)]) E dX0_putUp_36 rfl (by decide) rfl ?_
  refine k_aloadn (pc := 37) E 1 dX0_putUp_37 rfl rfl ?_
  refine k_getf (pc := 38) (q0 := 7) (f := 0) (v := .ref (a 3)) E inX0 rfl rfl (by decide) wm_231 rfl rfl dX0_putUp_38 ?_
  refine k_iloadn (pc := 41) E 2 dX0_putUp_41 rfl rfl ?_
  refine k_iconst (pc := 42) E dX0_putUp_42 ?_
  refine k_aloadn (pc := 43) E 1 dX0_putUp_43 rfl rfl ?_
  refine k_getfI (pc := 44) (q0 := 7) (f := 2) (k := 72) E inX0 rfl rfl (by decide) wm_233 rfl rfl rfl dX0_putUp_44 (fun hr17 => ?_)
  have hi18 := hLST_s11 0
  refine k_iloadn (pc := 47) E 0 dX0_putUp_47 rfl rfl ?_
  refine k_mr (fun hm_s11 => ?_)
  refine k_callV (pc := 48) (np := 4) (As := [gI x0, gI 1, gI (s11 72 0), gI (s11 62 0)]) (st := []) (q0 := 3) E (c_X4_fallsOn l D a cI cJ cS cT s11 x0 1 (s11 72 0) (s11 62 0) (by omega) (by omega) (by omega) (by omega) (by first | assumption | omega) (by first | assumption | omega)) wm_677 wm_4 wm_707 wm_675 wm_676 (by decide +kernel) rfl rfl ⟨by decide, by decide⟩ rfl (Nat.le_of_ble_eq_true rfl) dX0_putUp_48 (ro_kk (fun hr19 => ?_))
  have hp20 := f_X4_fallsOn_p x0 1 (s11 72 0) (s11 62 0) s11 (by omega) (by omega) (by omega) (by omega) hm_s11 (by first | assumption | omega) (by first | assumption | omega)
  refine k_st (st' := [gI (f_X4_fallsOn x0 1 (s11 72 0) (s11 62 0) s11)]) rfl ?_
  refine k_aloadn (pc := 51) E 1 dX0_putUp_51 rfl rfl ?_
  refine k_getf (pc := 52) (q0 := 7) (f := 0) (v := .ref (a 3)) E inX0 rfl rfl (by decide) wm_231 rfl rfl dX0_putUp_52 ?_
  refine k_iloadn (pc := 55) E 2 dX0_putUp_55 rfl rfl ?_
  refine k_iconst (pc := 56) E dX0_putUp_56 ?_
  refine k_aloadn (pc := 57) E 1 dX0_putUp_57 rfl rfl ?_
  refine k_getfI (pc := 58) (q0 := 7) (f := 2) (k := 72) E inX0 rfl rfl (by decide) wm_233 rfl rfl rfl dX0_putUp_58 (fun hr21 => ?_)
  have hi22 := hLST_s11 0
  refine k_iloadn (pc := 61) E 0 dX0_putUp_61 rfl rfl ?_
  refine k_mr (fun hm_s11 => ?_)
  refine k_callV (pc := 62) (np := 4) (As := [gI x0, gI (-1), gI (s11 72 0), gI (s11 62 0)]) (st := [gI (f_X4_fallsOn x0 1 (s11 72 0) (s11 62 0) s11)]) (q0 := 3) E (c_X4_fallsOn l D a cI cJ cS cT s11 x0 (-1) (s11 72 0) (s11 62 0) (by omega) (by omega) (by omega) (by omega) (by first | assumption | omega) (by first | assumption | omega)) wm_677 wm_4 wm_707 wm_675 wm_676 (by decide +kernel) rfl rfl ⟨by decide, by decide⟩ rfl (Nat.le_of_ble_eq_true rfl) dX0_putUp_62 (ro_kk (fun hr23 => ?_))
  have hp24 := f_X4_fallsOn_p x0 (-1) (s11 72 0) (s11 62 0) s11 (by omega) (by omega) (by omega) (by omega) hm_s11 (by first | assumption | omega) (by first | assumption | omega)
  refine k_st (st' := [gI (f_X4_fallsOn x0 (-1) (s11 72 0) (s11 62 0) s11), gI (f_X4_fallsOn x0 1 (s11 72 0) (s11 62 0) s11)]) rfl ?_
  have kn0 := ior_16 (x := (f_X4_fallsOn x0 1 (s11 72 0) (s11 62 0) s11)) (y := (f_X4_fallsOn x0 (-1) (s11 72 0) (s11 62 0) s11)) (by omega) (by omega) (by omega) (by omega)
  refine k_ior (pc := 65) E dX0_putUp_65 ?_
  have hb25 := ior_rg (f_X4_fallsOn x0 1 (s11 72 0) (s11 62 0) s11) (f_X4_fallsOn x0 (-1) (s11 72 0) (s11 62 0) s11)
  skip
  obtain ⟨v26, hv26, hT⟩ := glx hT
  refine k_st (st' := [gI v26]) (by rw [hv26]) ?_
  refine k_istoren (pc := 66) (lv' := [(3, gI v26), (2, gI (s11 62 0)), (0, .ref (a 7)), (1, gI x0)]) E dX0_putUp_66 rfl (by decide) rfl ?_
  refine k_iloadn (pc := 67) E 0 dX0_putUp_67 rfl rfl ?_
  refine k_callS (pc := 68) (np := 1) (As := [gI v26]) (st := []) E (c_J6_bitCount_0f7a4 l D a cI cJ cS cT s11 v26 (by omega)) wm_487 wm_17 wm_708 wm_486 (by decide +kernel) ⟨by decide, by decide⟩ rfl (Nat.le_of_ble_eq_true rfl) dX0_putUp_68 (ro_kk (fun hr27 => ?_))
  have hp28 := f_J6_bitCount_0f7a4_p v26 (by omega) 
  obtain ⟨v29, hv29, hT⟩ := glx hT
  have kbv29 := bc_rg (x := v26) (by omega) (by omega)
  rw [← hv29] at kbv29
  refine k_st (st' := [gI v29]) (by rw [hv29]; rfl) ?_
  rw [← hv29] at hr27 hp28
  clear hv29
  refine k_istore (pc := 71) (lv' := [(4, gI v29), (3, gI v26), (2, gI (s11 62 0)), (0, .ref (a 7)), (1, gI x0)]) E dX0_putUp_71 (by decide) rfl ?_
  refine k_aloadn (pc := 73) E 3 dX0_putUp_73 rfl rfl ?_
  refine k_getfJ (pc := 74) (q0 := 7) (f := 1) (k := 71) E inX0 rfl rfl (by decide) wm_232 rfl rfl rfl dX0_putUp_74 (fun hr30 => ?_)
  have hi31 := hLT_s11 0
  refine k_ldc2 (pc := 77) (n := 100) E dX0_putUp_77 wm_709 (by decide) ?_
  have hd32 : (0 : Int) ≤ (s11 71 0) := (by omega)
  have hd33 : (0 : Int) < 100 := (by omega)
  refine k_lremN (pc := 80) E (by omega) (by omega) hd32 hd33 dX0_putUp_80 ?_
  have hb34 := rm_rg (x := (s11 71 0)) hd33
  refine k_aloadn (pc := 81) E 3 dX0_putUp_81 rfl rfl ?_
  refine k_getf (pc := 82) (q0 := 7) (f := 0) (v := .ref (a 3)) E inX0 rfl rfl (by decide) wm_231 rfl rfl dX0_putUp_82 ?_
  refine k_iloadn (pc := 85) E 4 dX0_putUp_85 rfl rfl ?_
  refine k_iload (pc := 86) E 0 dX0_putUp_86 rfl ?_
  refine k_mr (fun hm_s11 => ?_)
  refine k_callV (pc := 88) (np := 2) (As := [gI x0, gI v29]) (st := [gL ((s11 71 0) % 100)]) (q0 := 3) E (c_X4_falls l D a cI cJ cS cT s11 x0 v29 (by omega) (by omega) (CD_fr hpre0 (fun k hk => hf_s11 k (dj (by decide) k hk))) (BG_fr hpre1 (fun k hk => hf_s11 k (dj (by decide) k hk))) (LA_fr hpre2 (fun k hk => hf_s11 k (dj (by decide) k hk))) (MOx_fr hpre3 (fun k hk => hf_s11 k (dj (by decide) k hk))) hKF_s11 (by first | assumption | omega) (by first | assumption | omega)) wm_513 wm_4 wm_710 wm_511 wm_512 (by decide +kernel) rfl rfl ⟨by decide, by decide⟩ rfl (Nat.le_of_ble_eq_true rfl) dX0_putUp_88 (fun r36 s37 hs37 hr35 => ?_)
  replace hT := gby hT hs37
  have hp38 := f_X4_falls_p x0 v29 s11 (by omega) (by omega) hm_s11 (CD_fr hpre0 (fun k hk => hf_s11 k (dj (by decide) k hk))) (BG_fr hpre1 (fun k hk => hf_s11 k (dj (by decide) k hk))) (LA_fr hpre2 (fun k hk => hf_s11 k (dj (by decide) k hk))) (MOx_fr hpre3 (fun k hk => hf_s11 k (dj (by decide) k hk))) hKF_s11 (by first | assumption | omega) (by first | assumption | omega) r36 s37 hs37
  obtain ⟨hfc_s37, hm_s37, hp39, hKF_s37, hp40⟩ := hp38
  have hf_s37 : fr [32, 36, 37, 71, 72, 73, 74] s0 s37 := hf_s11.call (by decide) hfc_s37
  have hLST_s37 : LST s37 := LST_fr hLST_s11 (fun k hk => hfc_s37 k (dj (by decide) k hk))
  have hLT_s37 : LT s37 := LT_fr hLT_s11 (fun k hk => hfc_s37 k (dj (by decide) k hk))
  have ht41 : s37 72 0 = s11 72 0 := by rw [hfc_s37 72 (by decide)]
  have ht42 : s37 73 0 = s11 73 0 := by rw [hfc_s37 73 (by decide)]
  have ht43 : s37 74 0 = s11 74 0 := by rw [hfc_s37 74 (by decide)]
  refine k_st (st' := [gI r36, gL ((s11 71 0) % 100)]) rfl ?_
  refine k_i2l (pc := 91) E dX0_putUp_91 (by omega) ?_
  by_cases h44 : ((s11 71 0) % 100) < r36
  · replace hT := hT.trans (if_pos h44)
    refine k_lcmp (pc := 92) E dX0_putUp_92 (by omega) (by omega) ?_
    refine k_if_ge_f (pc := 93) (tgt := 121) E (by (repeat' split) <;> omega) dX0_putUp_93 (by decide) (by (repeat' split) <;> omega) ?_
    refine k_aloadn (pc := 96) E 3 dX0_putUp_96 rfl rfl ?_
    refine k_dup (pc := 97) E dX0_putUp_97 rfl ?_
    refine k_getfI (pc := 98) (q0 := 7) (f := 2) (k := 72) E inX0 rfl rfl (by decide) wm_233 rfl rfl rfl dX0_putUp_98 (fun hr45 => ?_)
    have hi46 := hLST_s37 0
    refine k_iloadn (pc := 101) E 1 dX0_putUp_101 rfl rfl ?_
    refine k_iconst (pc := 102) E dX0_putUp_102 ?_
    refine k_ixor (pc := 103) E dX0_putUp_103 ?_
    have hb47 := ixor_rg v26 (-1)
    refine k_iand (pc := 104) E dX0_putUp_104 ?_
    have hb48 := iand_rg (s37 72 0) (ixor v26 (-1))
    have kn2 := iand_nn (ixor v26 (-1)) (x := s37 72 0) (by omega) (by omega)
    refine k_putfI (pc := 105) (q0 := 7) (f := 2) (k := 72) E tyX0 tyX0_ok nmX0 inX0 rfl rfl (by decide) wm_233 rfl rfl rfl (Nat.le_of_ble_eq_true rfl) rfl rfl (by omega) dX0_putUp_105 ?_
    obtain ⟨s49, hs49, hT⟩ := glx hT
    refine k_sg hs49.symm ?_
    have hf_s49 : fr [32, 36, 37, 71, 72, 73, 74] s0 s49 := hs49 ▸ hf_s37.set (by decide)
    have hg_s49 : fr [72] s37 s49 := hs49 ▸ (fr.rf _ _).set (by decide)
    have hKF_s49 : KF s49 := KF_fr hKF_s37 (fun k hk => hg_s49 k (dj (by decide) k hk))
    have hLST_s49 : LST s49 := hs49 ▸ LST_set hLST_s37 (by omega)
    have hLT_s49 : LT s49 := LT_fr hLT_s37 (fun k hk => hg_s49 k (dj (by decide) k hk))
    have ht50 : s49 72 0 = (iand (s37 72 0) (ixor v26 (-1))) := by rw [hs49]; exact mset_eq _ _ _ _
    have ht51 : s49 73 0 = s37 73 0 := by rw [hs49]; exact mset_ne _ _ _ _ _ (by decide)
    have ht52 : s49 74 0 = s37 74 0 := by rw [hs49]; exact mset_ne _ _ _ _ _ (by decide)
    refine k_aloadn (pc := 108) E 3 dX0_putUp_108 rfl rfl ?_
    refine k_dup (pc := 109) E dX0_putUp_109 rfl ?_
    refine k_getfI (pc := 110) (q0 := 7) (f := 4) (k := 74) E inX0 rfl rfl (by decide) wm_237 rfl rfl rfl dX0_putUp_110 (fun hr53 => ?_)
    refine k_iconst (pc := 113) E dX0_putUp_113 ?_
    refine k_iadd (pc := 114) E dX0_putUp_114 ?_
    refine k_putfI (pc := 115) (q0 := 7) (f := 4) (k := 74) E tyX0 tyX0_ok nmX0 inX0 rfl rfl (by decide) wm_237 rfl rfl rfl (Nat.le_of_ble_eq_true rfl) rfl rfl (by omega) dX0_putUp_115 ?_
    obtain ⟨s54, hs54, hT⟩ := glx hT
    refine k_sg hs54.symm ?_
    have hf_s54 : fr [32, 36, 37, 71, 72, 73, 74] s0 s54 := hs54 ▸ hf_s49.set (by decide)
    have hg_s54 : fr [74] s49 s54 := hs54 ▸ (fr.rf _ _).set (by decide)
    have hKF_s54 : KF s54 := KF_fr hKF_s49 (fun k hk => hg_s54 k (dj (by decide) k hk))
    have hLST_s54 : LST s54 := LST_fr hLST_s49 (fun k hk => hg_s54 k (dj (by decide) k hk))
    have hLT_s54 : LT s54 := LT_fr hLT_s49 (fun k hk => hg_s54 k (dj (by decide) k hk))
    have ht55 : s54 72 0 = s49 72 0 := by rw [hs54]; exact mset_ne _ _ _ _ _ (by decide)
    have ht56 : s54 73 0 = s49 73 0 := by rw [hs54]; exact mset_ne _ _ _ _ _ (by decide)
    have ht57 : s54 74 0 = ((s49 74 0) + 1) := by rw [hs54]; exact mset_eq _ _ _ _
    refine k_iload (pc := 118) E 0 dX0_putUp_118 rfl ?_
    exact k_rho hT (k_iret (pc := 120) E dX0_putUp_120 (by omega))
  · replace hT := hT.trans (if_neg h44)
    refine k_lcmp (pc := 92) E dX0_putUp_92 (by omega) (by omega) ?_
    refine k_if_ge_t (pc := 93) (tgt := 121) E (by (repeat' split) <;> omega) dX0_putUp_93 (by decide) (by (repeat' split) <;> omega) ?_
    refine k_aloadn (pc := 121) E 3 dX0_putUp_121 rfl rfl ?_
    refine k_dup (pc := 122) E dX0_putUp_122 rfl ?_
    refine k_getfI (pc := 123) (q0 := 7) (f := 2) (k := 72) E inX0 rfl rfl (by decide) wm_233 rfl rfl rfl dX0_putUp_123 (fun hr58 => ?_)
    have hi59 := hLST_s37 0
    refine k_iconst (pc := 126) E dX0_putUp_126 ?_
    refine k_iloadn (pc := 127) E 4 dX0_putUp_127 rfl rfl ?_
    refine k_ishl (pc := 128) E dX0_putUp_128 ?_
    have hb60 := ishl_rg 1 x0
    have hb61 : 0 ≤ x0 ∧ x0 ≤ 15 → _ := fun q => ishl_1 q.1 q.2
    refine k_ior (pc := 129) E dX0_putUp_129 ?_
    have hb62 := ior_rg (s37 72 0) (ishl 1 x0)
    have kn3 := ishl_1 (p := x0) (by omega) (by omega)
    have kn4 := ior_16 (x := s37 72 0) (y := ishl 1 x0) (by omega) (by omega) (by omega) (by omega)
    refine k_putfI (pc := 130) (q0 := 7) (f := 2) (k := 72) E tyX0 tyX0_ok nmX0 inX0 rfl rfl (by decide) wm_233 rfl rfl rfl (Nat.le_of_ble_eq_true rfl) rfl rfl (by omega) dX0_putUp_130 ?_
    obtain ⟨s63, hs63, hT⟩ := glx hT
    refine k_sg hs63.symm ?_
    have hf_s63 : fr [32, 36, 37, 71, 72, 73, 74] s0 s63 := hs63 ▸ hf_s37.set (by decide)
    have hg_s63 : fr [72] s37 s63 := hs63 ▸ (fr.rf _ _).set (by decide)
    have hKF_s63 : KF s63 := KF_fr hKF_s37 (fun k hk => hg_s63 k (dj (by decide) k hk))
    have hLST_s63 : LST s63 := hs63 ▸ LST_set hLST_s37 (by omega)
    have hLT_s63 : LT s63 := LT_fr hLT_s37 (fun k hk => hg_s63 k (dj (by decide) k hk))
    have ht64 : s63 72 0 = (ior (s37 72 0) (ishl 1 x0)) := by rw [hs63]; exact mset_eq _ _ _ _
    have ht65 : s63 73 0 = s37 73 0 := by rw [hs63]; exact mset_ne _ _ _ _ _ (by decide)
    have ht66 : s63 74 0 = s37 74 0 := by rw [hs63]; exact mset_ne _ _ _ _ _ (by decide)
    refine k_iconst (pc := 133) E dX0_putUp_133 ?_
    exact k_rho hT (k_iret (pc := 134) E dX0_putUp_134 (by omega))

def t_X0_firstEmpty_2  (s0 : gMem) : Nat → Int → Int
  | 0, v1 => 0
  | n2 + 1, v1 => (if v1 < 16 then (if (f_X8_has (s0 72 0) (s0 43 v1)) = 0 then (s0 43 v1) else (t_X0_firstEmpty_2 s0 n2 (v1 + 1))) else 0)
theorem t_X0_firstEmpty_2_s  (s0 : gMem) (n2 : Nat) (v1 : Int)  : t_X0_firstEmpty_2  s0 (n2 + 1) v1 = (if v1 < 16 then (if (f_X8_has (s0 72 0) (s0 43 v1)) = 0 then (s0 43 v1) else (t_X0_firstEmpty_2 s0 n2 (v1 + 1))) else 0) := rfl
def f_X0_firstEmpty  (s0 : gMem) : Int := (t_X0_firstEmpty_2 s0 17 0)
theorem f_X0_firstEmpty_e  (s0 : gMem) : f_X0_firstEmpty s0 = (t_X0_firstEmpty_2 s0 17 0) := rfl
set_option maxRecDepth 100000 in
set_option maxHeartbeats 4000000 in
theorem f_X0_firstEmpty_p  (s0 : gMem)  (hm_s0 : gMR lgX s0) (hpre0 : ORx s0) : (in32 (f_X0_firstEmpty s0)) ∧ (0 ≤ (f_X0_firstEmpty s0) ∧ (f_X0_firstEmpty s0) ≤ 15) := by
  have hT := f_X0_firstEmpty_e  s0
  have L13 : ∀ (n14 : Nat) (v12 : Int), ((in32 v12) ∧ (0 ≤ v12 ∧ v12 ≤ 16)) → 16 - v12 < (n14 : Int) → (f_X0_firstEmpty s0) = (t_X0_firstEmpty_2 s0 n14 v12) → (in32 (f_X0_firstEmpty s0)) ∧ (0 ≤ (f_X0_firstEmpty s0) ∧ (f_X0_firstEmpty s0) ≤ 15) := by
    intro n14; induction n14 with
    | zero =>
      intro v12 hq hm hT
      exfalso
      obtain ⟨hq25, hq26⟩ := hq
      omega
    | succ n14 ih =>
      intro v12 hq hm hT
      obtain ⟨hq27, hq28⟩ := hq
      replace hT := hT.trans (t_X0_firstEmpty_2_s  s0 n14 v12)
      by_cases h16 : v12 < 16
      · replace hT := hT.trans (if_pos h16)
        have hr17 := (hm_s0 72 0).1 rfl
        have hr18 := (hm_s0 43 v12).1 rfl
        have hi19 := hpre0 v12
        have hp21 := f_X8_has_p (s0 72 0) (s0 43 v12) (by omega) (by omega) 
        by_cases h22 : (f_X8_has (s0 72 0) (s0 43 v12)) = 0
        · replace hT := hT.trans (if_pos h22)
          have hr23 := (hm_s0 43 v12).1 rfl
          have hi24 := hpre0 v12
          rw [hT]
          exact ⟨(by omega), (by first | assumption | omega)⟩
        · replace hT := hT.trans (if_neg h22)
          exact ih (v12 + 1) ⟨(by omega), (by first | assumption | omega)⟩ (by omega) hT
      · replace hT := hT.trans (if_neg h16)
        rw [hT]
        exact ⟨(by omega), (by first | assumption | omega)⟩
  exact L13 17 0 ⟨(by omega), (by first | assumption | omega)⟩ (by omega) hT
set_option maxRecDepth 100000 in
set_option maxHeartbeats 4000000 in
theorem c_X0_firstEmpty (l : Launch) (D : va_G) (a : Nat → Nat) (cI cJ cS cT : ClassId) (s0 : gMem)   (hpre0 : ORx s0) : gC l yX0_firstEmpty cX0_firstEmpty 3 (some .int) 2 128 D vwCl (gT cI cJ cS cT) (wdX a cI cJ cS cT) lgX kI in32 [.ref (a 7), .ref (a 43)] s0 ((f_X0_firstEmpty s0), s0) := by
  refine gC_of (by decide +kernel) (hwdX a cI cJ cS cT) (Nat.le_of_ble_eq_true rfl) ?_
  intro A p e R s m args below meth c hR E
  subst hR
  have hT := f_X0_firstEmpty_e  s0
  refine k_lv0 (lv' := [(0, .ref (a 7)), (1, .ref (a 43))]) rfl ?_
  refine k_mr (fun hm_s0 => ?_)
  refine k_iconst (pc := 0) E dX0_firstEmpty_0 ?_
  refine k_istoren (pc := 1) (lv' := [(2, gI 0), (0, .ref (a 7)), (1, .ref (a 43))]) E dX0_firstEmpty_1 rfl (by decide) rfl ?_
  have L13 : ∀ (n14 : Nat) (v12 : Int), ((in32 v12) ∧ (0 ≤ v12 ∧ v12 ≤ 16)) → 16 - v12 < (n14 : Int) → (f_X0_firstEmpty s0) = (t_X0_firstEmpty_2 s0 n14 v12) → gK D vwCl (wdX a cI cJ cS cT) lgX A p l e { frames := 2, cells := 0, slots := 0, locals := 128 } s m args below meth c 3 (gQQ D vwCl (wdX a cI cJ cS cT) lgX A kI in32 below args s) ((f_X0_firstEmpty s0), s0) s0 2 [(0, .ref (a 7)), (1, .ref (a 43)), (2, gI v12)] [] := by
    intro n14; induction n14 with
    | zero =>
      intro v12 hq hm hT
      exfalso
      obtain ⟨hq25, hq26⟩ := hq
      omega
    | succ n14 ih =>
      intro v12 hq hm hT
      obtain ⟨hq27, hq28⟩ := hq
      replace hT := hT.trans (t_X0_firstEmpty_2_s  s0 n14 v12)
      refine k_iloadn (pc := 2) E 2 dX0_firstEmpty_2 rfl rfl ?_
      refine k_bipush (pc := 3) E dX0_firstEmpty_3 (by decide) ?_
      by_cases h16 : v12 < 16
      · replace hT := hT.trans (if_pos h16)
        refine k_icmp_ge_f (pc := 5) (tgt := 31) E (by omega) (by omega) dX0_firstEmpty_5 (by decide) h16 ?_
        refine k_aloadn (pc := 8) E 0 dX0_firstEmpty_8 rfl rfl ?_
        refine k_getfI (pc := 9) (q0 := 7) (f := 2) (k := 72) E inX0 rfl rfl (by decide) wm_233 rfl rfl rfl dX0_firstEmpty_9 (fun hr17 => ?_)
        refine k_aloadn (pc := 12) E 1 dX0_firstEmpty_12 rfl rfl ?_
        refine k_iloadn (pc := 13) E 2 dX0_firstEmpty_13 rfl rfl ?_
        refine k_iaload (pc := 14) (q0 := 43) (t0 := 0) (k := 43) (n := 16) E rfl rfl rfl (by decide) (by omega) (by omega) dX0_firstEmpty_14 (fun hr18 => ?_)
        have hi19 := hpre0 v12
        refine k_mr (fun hm_s0 => ?_)
        refine k_callSN (pc := 15) (np := 2) (As := [gI (s0 72 0), gI (s0 43 v12)]) (st := []) E (c_X8_has l D a cI cJ cS cT s0 (s0 72 0) (s0 43 v12) (by omega) (by omega)) wm_552 wm_1 (List.mem_of_getElem? (i := 2) rfl) wm_551 (by decide +kernel) ⟨by decide, by decide⟩ rfl (Nat.le_of_ble_eq_true rfl) dX0_firstEmpty_15 (ro_kk (fun hr20 => ?_))
        have hp21 := f_X8_has_p (s0 72 0) (s0 43 v12) (by omega) (by omega) 
        refine k_st (st' := [gI (f_X8_has (s0 72 0) (s0 43 v12))]) rfl ?_
        by_cases h22 : (f_X8_has (s0 72 0) (s0 43 v12)) = 0
        · replace hT := hT.trans (if_pos h22)
          refine k_if_ne_f (pc := 18) (tgt := 25) E (by omega) dX0_firstEmpty_18 (by decide) h22 ?_
          refine k_aloadn (pc := 21) E 1 dX0_firstEmpty_21 rfl rfl ?_
          refine k_iloadn (pc := 22) E 2 dX0_firstEmpty_22 rfl rfl ?_
          refine k_iaload (pc := 23) (q0 := 43) (t0 := 0) (k := 43) (n := 16) E rfl rfl rfl (by decide) (by omega) (by omega) dX0_firstEmpty_23 (fun hr23 => ?_)
          have hi24 := hpre0 v12
          exact k_rho (congrArg (fun q => (q, s0)) hT) (k_iret (pc := 24) E dX0_firstEmpty_24 (by omega))
        · replace hT := hT.trans (if_neg h22)
          refine k_if_ne_t (pc := 18) (tgt := 25) E (by omega) dX0_firstEmpty_18 (by decide) h22 ?_
          refine k_iinc (pc := 25) (lv' := [(2, gI (v12 + 1)), (0, .ref (a 7)), (1, .ref (a 43))]) E 2 dX0_firstEmpty_25 rfl (by decide) rfl ?_
          refine k_goto (pc := 28) (tgt := 2) E dX0_firstEmpty_28 (by decide) ?_
          refine k_lv (lv' := [(0, .ref (a 7)), (1, .ref (a 43)), (2, gI (v12 + 1))]) [1, 2, 0] rfl ?_
          exact ih (v12 + 1) ⟨(by omega), (by first | assumption | omega)⟩ (by omega) hT
      · replace hT := hT.trans (if_neg h16)
        refine k_icmp_ge_t (pc := 5) (tgt := 31) E (by omega) (by omega) dX0_firstEmpty_5 (by decide) h16 ?_
        refine k_iconst (pc := 31) E dX0_firstEmpty_31 ?_
        exact k_rho (congrArg (fun q => (q, s0)) hT) (k_iret (pc := 32) E dX0_firstEmpty_32 (by omega))
  refine k_lv (lv' := [(0, .ref (a 7)), (1, .ref (a 43)), (2, gI 0)]) [1, 2, 0] rfl ?_
  exact L13 17 0 ⟨(by omega), (by first | assumption | omega)⟩ (by omega) hT

def w_X0_drawRow_8 (c2 : Int) : Nat → Int → gMem → Int × gMem
  | 0, v8, s9 => (v8, s9)
  | n10 + 1, v8, s9 => (if v8 < c2 then (if (s9 72 0) = 65535 then (v8, s9) else gb (f_X0_putUp (f_X0_firstEmpty  s9) s9) (fun r18 s19 => (w_X0_drawRow_8 c2 n10 (v8 + 1) s19))) else (v8, s9))
theorem w_X0_drawRow_8_s (c2 : Int) (n10 : Nat) (v8 : Int) (s9 : gMem) : w_X0_drawRow_8 c2 (n10 + 1) v8 s9 = (if v8 < c2 then (if (s9 72 0) = 65535 then (v8, s9) else gb (f_X0_putUp (f_X0_firstEmpty  s9) s9) (fun r18 s19 => (w_X0_drawRow_8 c2 n10 (v8 + 1) s19))) else (v8, s9)) := rfl
def f_X0_drawRow (x0 : Int) (x1 : Int) (s0 : gMem) : gRes := gb (f_X0_begin x0 s0) (fun r2 s3 => (gl2 (w_X0_drawRow_8 x1 401 0 s3) (fun v53 s54 => (0, s54))))
theorem f_X0_drawRow_e (x0 : Int) (x1 : Int) (s0 : gMem) : f_X0_drawRow x0 x1 s0 = gb (f_X0_begin x0 s0) (fun r2 s3 => (gl2 (w_X0_drawRow_8 x1 401 0 s3) (fun v53 s54 => (0, s54)))) := rfl
set_option maxRecDepth 100000 in
set_option maxHeartbeats 4000000 in
theorem f_X0_drawRow_p (x0 : Int) (x1 : Int) (s0 : gMem) (hx0 : in32 x0) (hx1 : in32 x1) (hm_s0 : gMR lgX s0) (hpre0 : CD s0) (hpre1 : BG s0) (hpre2 : LA s0) (hpre3 : MOx s0) (hpre4 : KF s0) (hpre5 : LST s0) (hpre6 : LT s0) (hpre7 : RE s0) (hpre8 : ORx s0) (hpre9 : ST s0) (hpre10 : 0 ≤ x0 ∧ x0 ≤ 100100) (hpre11 : 0 ≤ x1 ∧ x1 ≤ 400) (rZ : Int) (sZ : gMem) (hres : f_X0_drawRow x0 x1 s0 = (rZ, sZ)) : (fr [32, 36, 37, 71, 72, 73, 74] s0 sZ) ∧ (gMR lgX sZ) ∧ (True) ∧ (KF sZ) ∧ (LST sZ) ∧ (LT sZ) := by
  have hT := f_X0_drawRow_e x0 x1 s0
  have hf_s0 : fr [32, 36, 37, 71, 72, 73, 74] s0 s0 := fr.rf _ _
  have hKF_s0 := hpre4
  have hLST_s0 := hpre5
  have hLT_s0 := hpre6
  obtain ⟨r2, s3, hs3⟩ : ∃ rr ss, (f_X0_begin x0 s0) = (rr, ss) := ⟨_, _, rfl⟩
  replace hT := gby hT hs3
  have hp4 := f_X0_begin_p x0 s0 (by omega) hm_s0 hLST_s0 hLT_s0 hpre9 (by first | assumption | omega) r2 s3 hs3
  obtain ⟨hfc_s3, hm_s3, hp5, hLST_s3, hLT_s3, hp6, hp7⟩ := hp4
  have hf_s3 : fr [32, 36, 37, 71, 72, 73, 74] s0 s3 := hf_s0.call (by decide) hfc_s3
  have hKF_s3 : KF s3 := KF_fr hKF_s0 (fun k hk => hfc_s3 k (dj (by decide) k hk))
  have L27 : ∀ (n28 : Nat) (v25 : Int) (s26 : gMem), ((in32 v25) ∧ (fr [32, 36, 37, 71, 72, 73, 74] s0 s26) ∧ (gMR lgX s26) ∧ (KF s26) ∧ (LST s26) ∧ (LT s26) ∧ (0 ≤ v25 ∧ v25 ≤ x1) ∧ (0 ≤ s26 73 0 ∧ s26 73 0 ≤ v25) ∧ (0 ≤ s26 74 0 ∧ s26 74 0 ≤ v25)) → x1 - v25 < (n28 : Int) → (∀ (w29 : Int) (s30 : gMem), (w_X0_drawRow_8 x1 n28 v25 s26) = (w29, s30) → ((in32 w29) ∧ (fr [32, 36, 37, 71, 72, 73, 74] s0 s30) ∧ (gMR lgX s30) ∧ (KF s30) ∧ (LST s30) ∧ (LT s30) ∧ (0 ≤ w29 ∧ w29 ≤ x1) ∧ (0 ≤ s30 73 0 ∧ s30 73 0 ≤ w29) ∧ (0 ≤ s30 74 0 ∧ s30 74 0 ≤ w29)) → (fr [32, 36, 37, 71, 72, 73, 74] s0 sZ) ∧ (gMR lgX sZ) ∧ (True) ∧ (KF sZ) ∧ (LST sZ) ∧ (LT sZ)) → (fr [32, 36, 37, 71, 72, 73, 74] s0 sZ) ∧ (gMR lgX sZ) ∧ (True) ∧ (KF sZ) ∧ (LST sZ) ∧ (LT sZ) := by
    intro n28; induction n28 with
    | zero =>
      intro v25 s26 hq hm hk
      exfalso
      obtain ⟨hq45, hf_s26, hm_s26, hKF_s26, hLST_s26, hLT_s26, hq46, hq47, hq48⟩ := hq
      omega
    | succ n28 ih =>
      intro v25 s26 hq hm hk
      obtain ⟨hq49, hf_s26, hm_s26, hKF_s26, hLST_s26, hLT_s26, hq50, hq51, hq52⟩ := hq
      have hT := w_X0_drawRow_8_s x1 n28 v25 s26
      by_cases h31 : v25 < x1
      · replace hT := hT.trans (if_pos h31)
        have hr32 := (hm_s26 72 0).1 rfl
        have hi33 := hLST_s26 0
        by_cases h34 : (s26 72 0) = 65535
        · replace hT := hT.trans (if_pos h34)
          exact hk v25 s26 hT ⟨(by omega), hf_s26, hm_s26, hKF_s26, hLST_s26, hLT_s26, (by first | assumption | omega), (by first | assumption | omega), (by first | assumption | omega)⟩
        · replace hT := hT.trans (if_neg h34)
          have hp36 := f_X0_firstEmpty_p  s26  hm_s26 (ORx_fr hpre8 (fun k hk => hf_s26 k (dj (by decide) k hk)))
          obtain ⟨r38, s39, hs39⟩ : ∃ rr ss, (f_X0_putUp (f_X0_firstEmpty  s26) s26) = (rr, ss) := ⟨_, _, rfl⟩
          replace hT := gby hT hs39
          have hp40 := f_X0_putUp_p (f_X0_firstEmpty  s26) s26 (by omega) hm_s26 (CD_fr hpre0 (fun k hk => hf_s26 k (dj (by decide) k hk))) (BG_fr hpre1 (fun k hk => hf_s26 k (dj (by decide) k hk))) (LA_fr hpre2 (fun k hk => hf_s26 k (dj (by decide) k hk))) (MOx_fr hpre3 (fun k hk => hf_s26 k (dj (by decide) k hk))) hKF_s26 hLST_s26 hLT_s26 (RE_fr hpre7 (fun k hk => hf_s26 k (dj (by decide) k hk))) (by first | assumption | omega) (by first | assumption | omega) (by first | assumption | omega) r38 s39 hs39
          obtain ⟨hfc_s39, hm_s39, hp41, hKF_s39, hLST_s39, hLT_s39, hp42, hp43, hp44⟩ := hp40
          have hf_s39 : fr [32, 36, 37, 71, 72, 73, 74] s0 s39 := hf_s26.call (by decide) hfc_s39
          exact ih (v25 + 1) s39 ⟨(by omega), hf_s39, hm_s39, hKF_s39, hLST_s39, hLT_s39, (by first | assumption | omega), (by first | assumption | omega), (by first | assumption | omega)⟩ (by omega) (fun w29 s30 hw hi => hk w29 s30 (hT.trans hw) hi)
      · replace hT := hT.trans (if_neg h31)
        exact hk v25 s26 hT ⟨(by omega), hf_s26, hm_s26, hKF_s26, hLST_s26, hLT_s26, (by first | assumption | omega), (by first | assumption | omega), (by first | assumption | omega)⟩
  refine L27 401 0 s3 ⟨(by omega), hf_s3, hm_s3, hKF_s3, hLST_s3, hLT_s3, (by first | assumption | omega), (by first | assumption | omega), (by first | assumption | omega)⟩ (by omega) (fun v53 s54 hw hq => ?_)
  obtain ⟨hq55, hf_s54, hm_s54, hKF_s54, hLST_s54, hLT_s54, hq56, hq57, hq58⟩ := hq
  replace hT := gl2y hT hw
  obtain ⟨rfl, rfl⟩ := Prod.mk.inj (hT.symm.trans hres)
  exact ⟨hf_s54, hm_s54, trivial, hKF_s54, hLST_s54, hLT_s54⟩
set_option maxRecDepth 100000 in
set_option maxHeartbeats 4000000 in
theorem c_X0_drawRow (l : Launch) (D : va_G) (a : Nat → Nat) (cI cJ cS cT : ClassId) (s0 : gMem) (x0 : Int) (x1 : Int) (hx0 : in32 x0) (hx1 : in32 x1) (hpre0 : CD s0) (hpre1 : BG s0) (hpre2 : LA s0) (hpre3 : MOx s0) (hpre4 : KF s0) (hpre5 : LST s0) (hpre6 : LT s0) (hpre7 : RE s0) (hpre8 : ORx s0) (hpre9 : ST s0) (hpre10 : 0 ≤ x0 ∧ x0 ≤ 100100) (hpre11 : 0 ≤ x1 ∧ x1 ≤ 400) : gC l yX0_drawRow cX0_drawRow 5 none 5 320 D vwCl (gT cI cJ cS cT) (wdX a cI cJ cS cT) lgX kV rgV [.ref (a 7), gI x0, gI x1, .ref (a 43)] s0 (f_X0_drawRow x0 x1 s0) := by
  refine gC_of (by decide +kernel) (hwdX a cI cJ cS cT) (Nat.le_of_ble_eq_true rfl) ?_
  intro A p e R s m args below meth c hR E
  subst hR
  have hT := f_X0_drawRow_e x0 x1 s0
  have hf_s0 : fr [32, 36, 37, 71, 72, 73, 74] s0 s0 := fr.rf _ _
  refine k_lv0 (lv' := [(0, .ref (a 7)), (1, gI x0), (2, gI x1), (3, .ref (a 43))]) rfl ?_
  refine k_mr (fun hm_s0 => ?_)
  have hKF_s0 := hpre4
  have hLST_s0 := hpre5
  have hLT_s0 := hpre6
  refine k_aloadn (pc := 0) E 0 dX0_drawRow_0 rfl rfl ?_
  refine k_iloadn (pc := 1) E 1 dX0_drawRow_1 rfl rfl ?_
  refine k_mr (fun hm_s0 => ?_)
  refine k_callV (pc := 2) (np := 1) (As := [gI x0]) (st := []) (q0 := 7) E (c_X0_begin l D a cI cJ cS cT s0 x0 (by omega) hLST_s0 hLT_s0 hpre9 (by first | assumption | omega)) wm_700 wm_9 wm_720 wm_698 wm_699 (by decide +kernel) rfl rfl ⟨by decide, by decide⟩ rfl (Nat.le_of_ble_eq_true rfl) dX0_drawRow_2 (fun r2 s3 hs3 hr1 => ?_)
  replace hT := gby hT hs3
  have hp4 := f_X0_begin_p x0 s0 (by omega) hm_s0 hLST_s0 hLT_s0 hpre9 (by first | assumption | omega) r2 s3 hs3
  obtain ⟨hfc_s3, hm_s3, hp5, hLST_s3, hLT_s3, hp6, hp7⟩ := hp4
  have hf_s3 : fr [32, 36, 37, 71, 72, 73, 74] s0 s3 := hf_s0.call (by decide) hfc_s3
  have hKF_s3 : KF s3 := KF_fr hKF_s0 (fun k hk => hfc_s3 k (dj (by decide) k hk))
  refine k_st (st' := []) rfl ?_
  refine k_iconst (pc := 5) E dX0_drawRow_5 ?_
  refine k_istore (pc := 6) (lv' := [(4, gI 0), (0, .ref (a 7)), (1, gI x0), (2, gI x1), (3, .ref (a 43))]) E dX0_drawRow_6 (by decide) rfl ?_
  have L27 : ∀ (n28 : Nat) (v25 : Int) (s26 : gMem), ((in32 v25) ∧ (fr [32, 36, 37, 71, 72, 73, 74] s0 s26) ∧ (KF s26) ∧ (LST s26) ∧ (LT s26) ∧ (0 ≤ v25 ∧ v25 ≤ x1) ∧ (0 ≤ s26 73 0 ∧ s26 73 0 ≤ v25) ∧ (0 ≤ s26 74 0 ∧ s26 74 0 ≤ v25)) → x1 - v25 < (n28 : Int) → (∀ (w29 : Int) (s30 : gMem), (w_X0_drawRow_8 x1 n28 v25 s26) = (w29, s30) → ((in32 w29) ∧ (fr [32, 36, 37, 71, 72, 73, 74] s0 s30) ∧ (KF s30) ∧ (LST s30) ∧ (LT s30) ∧ (0 ≤ w29 ∧ w29 ≤ x1) ∧ (0 ≤ s30 73 0 ∧ s30 73 0 ≤ w29) ∧ (0 ≤ s30 74 0 ∧ s30 74 0 ≤ w29)) → gK D vwCl (wdX a cI cJ cS cT) lgX A p l e { frames := 5, cells := 0, slots := 0, locals := 320 } s m args below meth c 5 (gQQ D vwCl (wdX a cI cJ cS cT) lgX A kV rgV below args s) (f_X0_drawRow x0 x1 s0) s30 39 [] []) → gK D vwCl (wdX a cI cJ cS cT) lgX A p l e { frames := 5, cells := 0, slots := 0, locals := 320 } s m args below meth c 5 (gQQ D vwCl (wdX a cI cJ cS cT) lgX A kV rgV below args s) (f_X0_drawRow x0 x1 s0) s26 8 [(0, .ref (a 7)), (2, gI x1), (3, .ref (a 43)), (4, gI v25)] [] := by
    intro n28; induction n28 with
    | zero =>
      intro v25 s26 hq hm hk
      exfalso
      obtain ⟨hq45, hf_s26, hKF_s26, hLST_s26, hLT_s26, hq46, hq47, hq48⟩ := hq
      omega
    | succ n28 ih =>
      intro v25 s26 hq hm hk
      obtain ⟨hq49, hf_s26, hKF_s26, hLST_s26, hLT_s26, hq50, hq51, hq52⟩ := hq
      have hT := w_X0_drawRow_8_s x1 n28 v25 s26
      refine k_iload (pc := 8) E 3 dX0_drawRow_8 rfl ?_
      refine k_iloadn (pc := 10) E 1 dX0_drawRow_10 rfl rfl ?_
      by_cases h31 : v25 < x1
      · replace hT := hT.trans (if_pos h31)
        refine k_icmp_ge_f (pc := 11) (tgt := 39) E (by omega) (by omega) dX0_drawRow_11 (by decide) h31 ?_
        refine k_aloadn (pc := 14) E 0 dX0_drawRow_14 rfl rfl ?_
        refine k_getfI (pc := 15) (q0 := 7) (f := 2) (k := 72) E inX0 rfl rfl (by decide) wm_233 rfl rfl rfl dX0_drawRow_15 (fun hr32 => ?_)
        have hi33 := hLST_s26 0
        refine k_ldc (pc := 18) (n := 65535) E dX0_drawRow_18 wm_721 (by decide) ?_
        by_cases h34 : (s26 72 0) = 65535
        · replace hT := hT.trans (if_pos h34)
          refine k_icmp_eq_t (pc := 20) (tgt := 39) E (by omega) (by omega) dX0_drawRow_20 (by decide) h34 ?_
          refine k_lv (lv' := []) [] rfl ?_
          exact hk v25 s26 hT ⟨(by omega), hf_s26, hKF_s26, hLST_s26, hLT_s26, (by first | assumption | omega), (by first | assumption | omega), (by first | assumption | omega)⟩
        · replace hT := hT.trans (if_neg h34)
          refine k_icmp_eq_f (pc := 20) (tgt := 39) E (by omega) (by omega) dX0_drawRow_20 (by decide) h34 ?_
          refine k_aloadn (pc := 23) E 0 dX0_drawRow_23 rfl rfl ?_
          refine k_aloadn (pc := 24) E 0 dX0_drawRow_24 rfl rfl ?_
          refine k_aloadn (pc := 25) E 2 dX0_drawRow_25 rfl rfl ?_
          refine k_mr (fun hm_s26 => ?_)
          refine k_callV (pc := 26) (np := 1) (As := [.ref (a 43)]) (st := [.ref (a 7)]) (q0 := 7) E (c_X0_firstEmpty l D a cI cJ cS cT s26  (ORx_fr hpre8 (fun k hk => hf_s26 k (dj (by decide) k hk)))) wm_725 wm_9 wm_722 wm_724 wp_22 (by decide +kernel) rfl rfl ⟨by decide, by decide⟩ rfl (Nat.le_of_ble_eq_true rfl) dX0_drawRow_26 (ro_kk (fun hr35 => ?_))
          have hp36 := f_X0_firstEmpty_p  s26  hm_s26 (ORx_fr hpre8 (fun k hk => hf_s26 k (dj (by decide) k hk)))
          refine k_st (st' := [gI (f_X0_firstEmpty  s26), .ref (a 7)]) rfl ?_
          refine k_mr (fun hm_s26 => ?_)
          refine k_callV (pc := 29) (np := 1) (As := [gI (f_X0_firstEmpty  s26)]) (st := []) (q0 := 7) E (c_X0_putUp l D a cI cJ cS cT s26 (f_X0_firstEmpty  s26) (by omega) (CD_fr hpre0 (fun k hk => hf_s26 k (dj (by decide) k hk))) (BG_fr hpre1 (fun k hk => hf_s26 k (dj (by decide) k hk))) (LA_fr hpre2 (fun k hk => hf_s26 k (dj (by decide) k hk))) (MOx_fr hpre3 (fun k hk => hf_s26 k (dj (by decide) k hk))) hKF_s26 hLST_s26 hLT_s26 (RE_fr hpre7 (fun k hk => hf_s26 k (dj (by decide) k hk))) (by first | assumption | omega) (by first | assumption | omega) (by first | assumption | omega)) wm_704 wm_9 wm_727 wm_702 wm_703 (by decide +kernel) rfl rfl ⟨by decide, by decide⟩ rfl (Nat.le_of_ble_eq_true rfl) dX0_drawRow_29 (fun r38 s39 hs39 hr37 => ?_)
          replace hT := gby hT hs39
          have hp40 := f_X0_putUp_p (f_X0_firstEmpty  s26) s26 (by omega) hm_s26 (CD_fr hpre0 (fun k hk => hf_s26 k (dj (by decide) k hk))) (BG_fr hpre1 (fun k hk => hf_s26 k (dj (by decide) k hk))) (LA_fr hpre2 (fun k hk => hf_s26 k (dj (by decide) k hk))) (MOx_fr hpre3 (fun k hk => hf_s26 k (dj (by decide) k hk))) hKF_s26 hLST_s26 hLT_s26 (RE_fr hpre7 (fun k hk => hf_s26 k (dj (by decide) k hk))) (by first | assumption | omega) (by first | assumption | omega) (by first | assumption | omega) r38 s39 hs39
          obtain ⟨hfc_s39, hm_s39, hp41, hKF_s39, hLST_s39, hLT_s39, hp42, hp43, hp44⟩ := hp40
          have hf_s39 : fr [32, 36, 37, 71, 72, 73, 74] s0 s39 := hf_s26.call (by decide) hfc_s39
          refine k_st (st' := [gI r38]) rfl ?_
          refine k_pop (pc := 32) E dX0_drawRow_32 rfl ?_
          refine k_iinc (pc := 33) (lv' := [(4, gI (v25 + 1)), (0, .ref (a 7)), (2, gI x1), (3, .ref (a 43))]) E 3 dX0_drawRow_33 rfl (by decide) rfl ?_
          refine k_goto (pc := 36) (tgt := 8) E dX0_drawRow_36 (by decide) ?_
          refine k_lv (lv' := [(0, .ref (a 7)), (2, gI x1), (3, .ref (a 43)), (4, gI (v25 + 1))]) [1, 2, 3, 0] rfl ?_
          exact ih (v25 + 1) s39 ⟨(by omega), hf_s39, hKF_s39, hLST_s39, hLT_s39, (by first | assumption | omega), (by first | assumption | omega), (by first | assumption | omega)⟩ (by omega) (fun w29 s30 hw hi => hk w29 s30 (hT.trans hw) hi)
      · replace hT := hT.trans (if_neg h31)
        refine k_icmp_ge_t (pc := 11) (tgt := 39) E (by omega) (by omega) dX0_drawRow_11 (by decide) h31 ?_
        refine k_lv (lv' := []) [] rfl ?_
        exact hk v25 s26 hT ⟨(by omega), hf_s26, hKF_s26, hLST_s26, hLT_s26, (by first | assumption | omega), (by first | assumption | omega), (by first | assumption | omega)⟩
  refine k_lv (lv' := [(0, .ref (a 7)), (2, gI x1), (3, .ref (a 43)), (4, gI 0)]) [1, 3, 4, 0] rfl ?_
  refine L27 401 0 s3 ⟨(by omega), hf_s3, hKF_s3, hLST_s3, hLT_s3, (by first | assumption | omega), (by first | assumption | omega), (by first | assumption | omega)⟩ (by omega) (fun v53 s54 hw hq => ?_)
  obtain ⟨hq55, hf_s54, hKF_s54, hLST_s54, hLT_s54, hq56, hq57, hq58⟩ := hq
  replace hT := gl2y hT hw
  exact k_rho hT (k_vret (pc := 39) E dX0_drawRow_39)

def f_X8_put (x0 : Int) (x1 : Int) (s0 : gMem) : gRes := (if (f_X8_outside x0 16) = 0 then (if (f_X8_outside x1 100000) = 0 then (if (f_X8_has (s0 60 0) x0) = 0 then gb (f_X0_begin x1 s0) (fun r13 s14 => gb (f_X0_putUp x0 s14) (fun r20 s21 => gl (mset s21 60 0 (s21 72 0)) (fun s29 => (r20, s29)))) else ((-3), s0)) else ((-7), s0)) else ((-5), s0))
theorem f_X8_put_e (x0 : Int) (x1 : Int) (s0 : gMem) : f_X8_put x0 x1 s0 = (if (f_X8_outside x0 16) = 0 then (if (f_X8_outside x1 100000) = 0 then (if (f_X8_has (s0 60 0) x0) = 0 then gb (f_X0_begin x1 s0) (fun r13 s14 => gb (f_X0_putUp x0 s14) (fun r20 s21 => gl (mset s21 60 0 (s21 72 0)) (fun s29 => (r20, s29)))) else ((-3), s0)) else ((-7), s0)) else ((-5), s0)) := rfl
set_option maxRecDepth 100000 in
set_option maxHeartbeats 4000000 in
theorem f_X8_put_p (x0 : Int) (x1 : Int) (s0 : gMem) (hx0 : in32 x0) (hx1 : in32 x1) (hm_s0 : gMR lgX s0) (hpre0 : CD s0) (hpre1 : BG s0) (hpre2 : LA s0) (hpre3 : MOx s0) (hpre4 : KF s0) (hpre5 : LST s0) (hpre6 : LT s0) (hpre7 : RE s0) (hpre8 : ST s0) (rZ : Int) (sZ : gMem) (hres : f_X8_put x0 x1 s0 = (rZ, sZ)) : (fr [32, 36, 37, 60, 71, 72, 73, 74] s0 sZ) ∧ (gMR lgX sZ) ∧ (in32 rZ) ∧ (KF sZ) ∧ (LST sZ) ∧ (LT sZ) ∧ (ST sZ) := by
  have hT := f_X8_put_e x0 x1 s0
  have hf_s0 : fr [32, 36, 37, 60, 71, 72, 73, 74] s0 s0 := fr.rf _ _
  have hKF_s0 := hpre4
  have hLST_s0 := hpre5
  have hLT_s0 := hpre6
  have hST_s0 := hpre8
  have hp2 := f_X8_outside_p x0 16 (by omega) (by omega) 
  by_cases h3 : (f_X8_outside x0 16) = 0
  · replace hT := hT.trans (if_pos h3)
    have hp5 := f_X8_outside_p x1 100000 (by omega) (by omega) 
    by_cases h6 : (f_X8_outside x1 100000) = 0
    · replace hT := hT.trans (if_pos h6)
      have hr7 := (hm_s0 60 0).1 rfl
      have hi8 := hST_s0 0
      have hp10 := f_X8_has_p (s0 60 0) x0 (by omega) (by omega) 
      by_cases h11 : (f_X8_has (s0 60 0) x0) = 0
      · replace hT := hT.trans (if_pos h11)
        obtain ⟨r13, s14, hs14⟩ : ∃ rr ss, (f_X0_begin x1 s0) = (rr, ss) := ⟨_, _, rfl⟩
        replace hT := gby hT hs14
        have hp15 := f_X0_begin_p x1 s0 (by omega) hm_s0 hLST_s0 hLT_s0 hST_s0 (by first | assumption | omega) r13 s14 hs14
        obtain ⟨hfc_s14, hm_s14, hp16, hLST_s14, hLT_s14, hp17, hp18⟩ := hp15
        have hf_s14 : fr [32, 36, 37, 60, 71, 72, 73, 74] s0 s14 := hf_s0.call (by decide) hfc_s14
        have hKF_s14 : KF s14 := KF_fr hKF_s0 (fun k hk => hfc_s14 k (dj (by decide) k hk))
        have hST_s14 : ST s14 := ST_fr hST_s0 (fun k hk => hfc_s14 k (dj (by decide) k hk))
        obtain ⟨r20, s21, hs21⟩ : ∃ rr ss, (f_X0_putUp x0 s14) = (rr, ss) := ⟨_, _, rfl⟩
        replace hT := gby hT hs21
        have hp22 := f_X0_putUp_p x0 s14 (by omega) hm_s14 (CD_fr hpre0 (fun k hk => hf_s14 k (dj (by decide) k hk))) (BG_fr hpre1 (fun k hk => hf_s14 k (dj (by decide) k hk))) (LA_fr hpre2 (fun k hk => hf_s14 k (dj (by decide) k hk))) (MOx_fr hpre3 (fun k hk => hf_s14 k (dj (by decide) k hk))) hKF_s14 hLST_s14 hLT_s14 (RE_fr hpre7 (fun k hk => hf_s14 k (dj (by decide) k hk))) (by first | assumption | omega) (by first | assumption | omega) (by first | assumption | omega) r20 s21 hs21
        obtain ⟨hfc_s21, hm_s21, hp23, hKF_s21, hLST_s21, hLT_s21, hp24, hp25, hp26⟩ := hp22
        have hf_s21 : fr [32, 36, 37, 60, 71, 72, 73, 74] s0 s21 := hf_s14.call (by decide) hfc_s21
        have hST_s21 : ST s21 := ST_fr hST_s14 (fun k hk => hfc_s21 k (dj (by decide) k hk))
        have hr27 := (hm_s21 72 0).1 rfl
        have hi28 := hLST_s21 0
        obtain ⟨s29, hs29, hT⟩ := glx hT
        have hf_s29 : fr [32, 36, 37, 60, 71, 72, 73, 74] s0 s29 := hs29 ▸ hf_s21.set (by decide)
        have hm_s29 : gMR lgX s29 := hs29 ▸ hm_s21.set32 rfl (by omega)
        have hg_s29 : fr [60] s21 s29 := hs29 ▸ (fr.rf _ _).set (by decide)
        have hKF_s29 : KF s29 := KF_fr hKF_s21 (fun k hk => hg_s29 k (dj (by decide) k hk))
        have hLST_s29 : LST s29 := LST_fr hLST_s21 (fun k hk => hg_s29 k (dj (by decide) k hk))
        have hLT_s29 : LT s29 := LT_fr hLT_s21 (fun k hk => hg_s29 k (dj (by decide) k hk))
        have hST_s29 : ST s29 := hs29 ▸ ST_set hST_s21 (by omega)
        have ht30 : s29 72 0 = s21 72 0 := by rw [hs29]; exact mset_ne _ _ _ _ _ (by decide)
        have ht31 : s29 73 0 = s21 73 0 := by rw [hs29]; exact mset_ne _ _ _ _ _ (by decide)
        have ht32 : s29 74 0 = s21 74 0 := by rw [hs29]; exact mset_ne _ _ _ _ _ (by decide)
        obtain ⟨rfl, rfl⟩ := Prod.mk.inj (hT.symm.trans hres)
        exact ⟨hf_s29, hm_s29, (by omega), hKF_s29, hLST_s29, hLT_s29, hST_s29⟩
      · replace hT := hT.trans (if_neg h11)
        obtain ⟨rfl, rfl⟩ := Prod.mk.inj (hT.symm.trans hres)
        exact ⟨hf_s0, hm_s0, (by omega), hKF_s0, hLST_s0, hLT_s0, hST_s0⟩
    · replace hT := hT.trans (if_neg h6)
      obtain ⟨rfl, rfl⟩ := Prod.mk.inj (hT.symm.trans hres)
      exact ⟨hf_s0, hm_s0, (by omega), hKF_s0, hLST_s0, hLT_s0, hST_s0⟩
  · replace hT := hT.trans (if_neg h3)
    obtain ⟨rfl, rfl⟩ := Prod.mk.inj (hT.symm.trans hres)
    exact ⟨hf_s0, hm_s0, (by omega), hKF_s0, hLST_s0, hLT_s0, hST_s0⟩
set_option maxRecDepth 100000 in
set_option maxHeartbeats 4000000 in
theorem c_X8_put (l : Launch) (D : va_G) (a : Nat → Nat) (cI cJ cS cT : ClassId) (s0 : gMem) (x0 : Int) (x1 : Int) (hx0 : in32 x0) (hx1 : in32 x1) (hpre0 : CD s0) (hpre1 : BG s0) (hpre2 : LA s0) (hpre3 : MOx s0) (hpre4 : KF s0) (hpre5 : LST s0) (hpre6 : LT s0) (hpre7 : RE s0) (hpre8 : ST s0) : gC l yX8_put cX8_put 4 (some .int) 5 320 D vwCl (gT cI cJ cS cT) (wdX a cI cJ cS cT) lgX kI in32 [.ref (a 0), gI x0, gI x1] s0 (f_X8_put x0 x1 s0) := by
  refine gC_of (by decide +kernel) (hwdX a cI cJ cS cT) (Nat.le_of_ble_eq_true rfl) ?_
  intro A p e R s m args below meth c hR E
  subst hR
  have hT := f_X8_put_e x0 x1 s0
  have hf_s0 : fr [32, 36, 37, 60, 71, 72, 73, 74] s0 s0 := fr.rf _ _
  refine k_lv0 (lv' := [(0, .ref (a 0)), (1, gI x0), (2, gI x1)]) rfl ?_
  refine k_mr (fun hm_s0 => ?_)
  have hKF_s0 := hpre4
  have hLST_s0 := hpre5
  have hLT_s0 := hpre6
  have hST_s0 := hpre8
  refine k_iloadn (pc := 0) E 1 dX8_put_0 rfl rfl ?_
  refine k_bipush (pc := 1) E dX8_put_1 (by decide) ?_
  refine k_mr (fun hm_s0 => ?_)
  refine k_callS (pc := 3) (np := 2) (As := [gI x0, gI 16]) (st := []) E (c_X8_outside l D a cI cJ cS cT s0 x0 16 (by omega) (by omega)) wm_310 wm_1 wm_308 wm_309 (by decide +kernel) ⟨by decide, by decide⟩ rfl (Nat.le_of_ble_eq_true rfl) dX8_put_3 (ro_kk (fun hr1 => ?_))
  have hp2 := f_X8_outside_p x0 16 (by omega) (by omega) 
  refine k_st (st' := [gI (f_X8_outside x0 16)]) rfl ?_
  by_cases h3 : (f_X8_outside x0 16) = 0
  · replace hT := hT.trans (if_pos h3)
    refine k_if_eq_t (pc := 6) (tgt := 12) E (by omega) dX8_put_6 (by decide) h3 ?_
    refine k_iloadn (pc := 12) E 2 dX8_put_12 rfl rfl ?_
    refine k_ldc (pc := 13) (n := 100000) E dX8_put_13 wm_696 (by decide) ?_
    refine k_mr (fun hm_s0 => ?_)
    refine k_callS (pc := 15) (np := 2) (As := [gI x1, gI 100000]) (st := []) E (c_X8_outside l D a cI cJ cS cT s0 x1 100000 (by omega) (by omega)) wm_310 wm_1 wm_308 wm_309 (by decide +kernel) ⟨by decide, by decide⟩ rfl (Nat.le_of_ble_eq_true rfl) dX8_put_15 (ro_kk (fun hr4 => ?_))
    have hp5 := f_X8_outside_p x1 100000 (by omega) (by omega) 
    refine k_st (st' := [gI (f_X8_outside x1 100000)]) rfl ?_
    by_cases h6 : (f_X8_outside x1 100000) = 0
    · replace hT := hT.trans (if_pos h6)
      refine k_if_eq_t (pc := 18) (tgt := 24) E (by omega) dX8_put_18 (by decide) h6 ?_
      refine k_aloadn (pc := 24) E 0 dX8_put_24 rfl rfl ?_
      refine k_getf (pc := 25) (q0 := 0) (f := 2) (v := .ref (a 3)) E inX8 rfl rfl (by decide) wm_274 rfl rfl dX8_put_25 ?_
      refine k_getf (pc := 28) (q0 := 3) (f := 0) (v := .ref (a 4)) E inX4 rfl rfl (by decide) wm_149 rfl rfl dX8_put_28 ?_
      refine k_getfI (pc := 31) (q0 := 4) (f := 3) (k := 60) E inX6 rfl rfl (by decide) wm_113 rfl rfl rfl dX8_put_31 (fun hr7 => ?_)
      have hi8 := hST_s0 0
      refine k_iloadn (pc := 34) E 1 dX8_put_34 rfl rfl ?_
      refine k_mr (fun hm_s0 => ?_)
      refine k_callS (pc := 35) (np := 2) (As := [gI (s0 60 0), gI x0]) (st := []) E (c_X8_has l D a cI cJ cS cT s0 (s0 60 0) x0 (by omega) (by omega)) wm_552 wm_1 wm_651 wm_551 (by decide +kernel) ⟨by decide, by decide⟩ rfl (Nat.le_of_ble_eq_true rfl) dX8_put_35 (ro_kk (fun hr9 => ?_))
      have hp10 := f_X8_has_p (s0 60 0) x0 (by omega) (by omega) 
      refine k_st (st' := [gI (f_X8_has (s0 60 0) x0)]) rfl ?_
      by_cases h11 : (f_X8_has (s0 60 0) x0) = 0
      · replace hT := hT.trans (if_pos h11)
        refine k_if_eq_t (pc := 38) (tgt := 44) E (by omega) dX8_put_38 (by decide) h11 ?_
        refine k_aloadn (pc := 44) E 0 dX8_put_44 rfl rfl ?_
        refine k_getf (pc := 45) (q0 := 0) (f := 5) (v := .ref (a 7)) E inX8 rfl rfl (by decide) wm_277 rfl rfl dX8_put_45 ?_
        refine k_iloadn (pc := 48) E 2 dX8_put_48 rfl rfl ?_
        refine k_mr (fun hm_s0 => ?_)
        refine k_callV (pc := 49) (np := 1) (As := [gI x1]) (st := []) (q0 := 7) E (c_X0_begin l D a cI cJ cS cT s0 x1 (by omega) hLST_s0 hLT_s0 hST_s0 (by first | assumption | omega)) wm_700 wm_9 wm_697 wm_698 wm_699 (by decide +kernel) rfl rfl ⟨by decide, by decide⟩ rfl (Nat.le_of_ble_eq_true rfl) dX8_put_49 (fun r13 s14 hs14 hr12 => ?_)
        replace hT := gby hT hs14
        have hp15 := f_X0_begin_p x1 s0 (by omega) hm_s0 hLST_s0 hLT_s0 hST_s0 (by first | assumption | omega) r13 s14 hs14
        obtain ⟨hfc_s14, hm_s14, hp16, hLST_s14, hLT_s14, hp17, hp18⟩ := hp15
        have hf_s14 : fr [32, 36, 37, 60, 71, 72, 73, 74] s0 s14 := hf_s0.call (by decide) hfc_s14
        have hKF_s14 : KF s14 := KF_fr hKF_s0 (fun k hk => hfc_s14 k (dj (by decide) k hk))
        have hST_s14 : ST s14 := ST_fr hST_s0 (fun k hk => hfc_s14 k (dj (by decide) k hk))
        refine k_st (st' := []) rfl ?_
        refine k_aloadn (pc := 52) E 0 dX8_put_52 rfl rfl ?_
        refine k_getf (pc := 53) (q0 := 0) (f := 5) (v := .ref (a 7)) E inX8 rfl rfl (by decide) wm_277 rfl rfl dX8_put_53 ?_
        refine k_iloadn (pc := 56) E 1 dX8_put_56 rfl rfl ?_
        refine k_mr (fun hm_s14 => ?_)
        refine k_callV (pc := 57) (np := 1) (As := [gI x0]) (st := []) (q0 := 7) E (c_X0_putUp l D a cI cJ cS cT s14 x0 (by omega) (CD_fr hpre0 (fun k hk => hf_s14 k (dj (by decide) k hk))) (BG_fr hpre1 (fun k hk => hf_s14 k (dj (by decide) k hk))) (LA_fr hpre2 (fun k hk => hf_s14 k (dj (by decide) k hk))) (MOx_fr hpre3 (fun k hk => hf_s14 k (dj (by decide) k hk))) hKF_s14 hLST_s14 hLT_s14 (RE_fr hpre7 (fun k hk => hf_s14 k (dj (by decide) k hk))) (by first | assumption | omega) (by first | assumption | omega) (by first | assumption | omega)) wm_704 wm_9 wm_701 wm_702 wm_703 (by decide +kernel) rfl rfl ⟨by decide, by decide⟩ rfl (Nat.le_of_ble_eq_true rfl) dX8_put_57 (fun r20 s21 hs21 hr19 => ?_)
        replace hT := gby hT hs21
        have hp22 := f_X0_putUp_p x0 s14 (by omega) hm_s14 (CD_fr hpre0 (fun k hk => hf_s14 k (dj (by decide) k hk))) (BG_fr hpre1 (fun k hk => hf_s14 k (dj (by decide) k hk))) (LA_fr hpre2 (fun k hk => hf_s14 k (dj (by decide) k hk))) (MOx_fr hpre3 (fun k hk => hf_s14 k (dj (by decide) k hk))) hKF_s14 hLST_s14 hLT_s14 (RE_fr hpre7 (fun k hk => hf_s14 k (dj (by decide) k hk))) (by first | assumption | omega) (by first | assumption | omega) (by first | assumption | omega) r20 s21 hs21
        obtain ⟨hfc_s21, hm_s21, hp23, hKF_s21, hLST_s21, hLT_s21, hp24, hp25, hp26⟩ := hp22
        have hf_s21 : fr [32, 36, 37, 60, 71, 72, 73, 74] s0 s21 := hf_s14.call (by decide) hfc_s21
        have hST_s21 : ST s21 := ST_fr hST_s14 (fun k hk => hfc_s21 k (dj (by decide) k hk))
        refine k_st (st' := [gI r20]) rfl ?_
        refine k_istoren (pc := 60) (lv' := [(3, gI r20), (0, .ref (a 0)), (1, gI x0), (2, gI x1)]) E dX8_put_60 rfl (by decide) rfl ?_
        refine k_aloadn (pc := 61) E 1 dX8_put_61 rfl rfl ?_
        refine k_getf (pc := 62) (q0 := 0) (f := 2) (v := .ref (a 3)) E inX8 rfl rfl (by decide) wm_274 rfl rfl dX8_put_62 ?_
        refine k_getf (pc := 65) (q0 := 3) (f := 0) (v := .ref (a 4)) E inX4 rfl rfl (by decide) wm_149 rfl rfl dX8_put_65 ?_
        refine k_aloadn (pc := 68) E 1 dX8_put_68 rfl rfl ?_
        refine k_getf (pc := 69) (q0 := 0) (f := 5) (v := .ref (a 7)) E inX8 rfl rfl (by decide) wm_277 rfl rfl dX8_put_69 ?_
        refine k_getfI (pc := 72) (q0 := 7) (f := 2) (k := 72) E inX0 rfl rfl (by decide) wm_234 rfl rfl rfl dX8_put_72 (fun hr27 => ?_)
        have hi28 := hLST_s21 0
        refine k_putfI (pc := 75) (q0 := 4) (f := 3) (k := 60) E tyX6 tyX6_ok nmX6 inX6 rfl rfl (by decide) wm_113 rfl rfl rfl (Nat.le_of_ble_eq_true rfl) rfl rfl (by omega) dX8_put_75 ?_
        obtain ⟨s29, hs29, hT⟩ := glx hT
        refine k_sg hs29.symm ?_
        have hf_s29 : fr [32, 36, 37, 60, 71, 72, 73, 74] s0 s29 := hs29 ▸ hf_s21.set (by decide)
        have hg_s29 : fr [60] s21 s29 := hs29 ▸ (fr.rf _ _).set (by decide)
        have hKF_s29 : KF s29 := KF_fr hKF_s21 (fun k hk => hg_s29 k (dj (by decide) k hk))
        have hLST_s29 : LST s29 := LST_fr hLST_s21 (fun k hk => hg_s29 k (dj (by decide) k hk))
        have hLT_s29 : LT s29 := LT_fr hLT_s21 (fun k hk => hg_s29 k (dj (by decide) k hk))
        have hST_s29 : ST s29 := hs29 ▸ ST_set hST_s21 (by omega)
        have ht30 : s29 72 0 = s21 72 0 := by rw [hs29]; exact mset_ne _ _ _ _ _ (by decide)
        have ht31 : s29 73 0 = s21 73 0 := by rw [hs29]; exact mset_ne _ _ _ _ _ (by decide)
        have ht32 : s29 74 0 = s21 74 0 := by rw [hs29]; exact mset_ne _ _ _ _ _ (by decide)
        refine k_iloadn (pc := 78) E 0 dX8_put_78 rfl rfl ?_
        exact k_rho hT (k_iret (pc := 79) E dX8_put_79 (by omega))
      · replace hT := hT.trans (if_neg h11)
        refine k_if_eq_f (pc := 38) (tgt := 44) E (by omega) dX8_put_38 (by decide) h11 ?_
        refine k_bipush (pc := 41) E dX8_put_41 (by decide) ?_
        exact k_rho hT (k_iret (pc := 43) E dX8_put_43 (by omega))
    · replace hT := hT.trans (if_neg h6)
      refine k_if_eq_f (pc := 18) (tgt := 24) E (by omega) dX8_put_18 (by decide) h6 ?_
      refine k_bipush (pc := 21) E dX8_put_21 (by decide) ?_
      exact k_rho hT (k_iret (pc := 23) E dX8_put_23 (by omega))
  · replace hT := hT.trans (if_neg h3)
    refine k_if_eq_f (pc := 6) (tgt := 12) E (by omega) dX8_put_6 (by decide) h3 ?_
    refine k_bipush (pc := 9) E dX8_put_9 (by decide) ?_
    exact k_rho hT (k_iret (pc := 11) E dX8_put_11 (by omega))
