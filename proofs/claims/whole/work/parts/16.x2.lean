def t_X7_reckon_13 (c1 : Int) (c2 : Int) : Nat → Int → Int → gMem → gRes
  | 0, v3, v4, s5 => (0, s5)
  | n6 + 1, v3, v4, s5 => (if v4 < (s5 (26 + c1.toNat) (c2 + 1)) then (gl ((if (-7) < (s5 (19 + c1.toNat) v4) then (v3 + 1) else (if (s5 (19 + c1.toNat) v4) = (-14) then v3 else (if (s5 (19 + c1.toNat) v4) = (-15) then v3 else (v3 + (-1)))))) (fun v14 => (if v14 < 1 then (0, s5) else (if v14 < 161 then (gl ((if (s5 (19 + c1.toNat) v4) = -15 then gl (iwr (-(s5 32 (v14 - 1)))) (fun v34 => v34) else (if (s5 (19 + c1.toNat) v4) = -14 then (gl ((if (s5 32 (v14 - 1)) = 0 then 1 else 0)) (fun v37 => v37)) else (if (s5 (19 + c1.toNat) v4) = -13 then gl (iwr ((s5 32 (v14 - 1)) * (s5 32 v14))) (fun v41 => v41) else (if (s5 (19 + c1.toNat) v4) = -12 then gl (iwr ((s5 32 (v14 - 1)) - (s5 32 v14))) (fun v43 => v43) else (if (s5 (19 + c1.toNat) v4) = -11 then gl (iwr ((s5 32 (v14 - 1)) + (s5 32 v14))) (fun v45 => v45) else (if (s5 (19 + c1.toNat) v4) = -10 then (gl ((if (s5 32 (v14 - 1)) = (s5 32 v14) then 1 else 0)) (fun v48 => v48)) else (if (s5 (19 + c1.toNat) v4) = -9 then (gl ((if (s5 32 (v14 - 1)) < (s5 32 v14) then 1 else 0)) (fun v53 => v53)) else (if (s5 (19 + c1.toNat) v4) = -8 then (gj (fun j57c => (if (s5 32 (v14 - 1)) = 0 then j57c else (if (s5 32 v14) = 0 then j57c else 1))) (0)) else (if (s5 (19 + c1.toNat) v4) = -7 then (gj (fun j60c => (if (s5 32 (v14 - 1)) = 0 then (if (s5 32 v14) = 0 then 0 else j60c) else j60c)) (1)) else (gl ((if (s5 (19 + c1.toNat) v4) < 0 then (s5 36 ((-1) - (s5 (19 + c1.toNat) v4))) else (s5 (19 + c1.toNat) v4))) (fun v64 => v64)))))))))))) (fun v29 => gl (mset s5 32 (v14 - 1) v29) (fun s30 => (t_X7_reckon_13 c1 c2 n6 v14 (v4 + 1) s30)))) else (0, s5))))) else ((s5 32 0), s5))
theorem t_X7_reckon_13_s (c1 : Int) (c2 : Int) (n6 : Nat) (v3 : Int) (v4 : Int) (s5 : gMem) : t_X7_reckon_13 c1 c2 (n6 + 1) v3 v4 s5 = (if v4 < (s5 (26 + c1.toNat) (c2 + 1)) then (gl ((if (-7) < (s5 (19 + c1.toNat) v4) then (v3 + 1) else (if (s5 (19 + c1.toNat) v4) = (-14) then v3 else (if (s5 (19 + c1.toNat) v4) = (-15) then v3 else (v3 + (-1)))))) (fun v14 => (if v14 < 1 then (0, s5) else (if v14 < 161 then (gl ((if (s5 (19 + c1.toNat) v4) = -15 then gl (iwr (-(s5 32 (v14 - 1)))) (fun v34 => v34) else (if (s5 (19 + c1.toNat) v4) = -14 then (gl ((if (s5 32 (v14 - 1)) = 0 then 1 else 0)) (fun v37 => v37)) else (if (s5 (19 + c1.toNat) v4) = -13 then gl (iwr ((s5 32 (v14 - 1)) * (s5 32 v14))) (fun v41 => v41) else (if (s5 (19 + c1.toNat) v4) = -12 then gl (iwr ((s5 32 (v14 - 1)) - (s5 32 v14))) (fun v43 => v43) else (if (s5 (19 + c1.toNat) v4) = -11 then gl (iwr ((s5 32 (v14 - 1)) + (s5 32 v14))) (fun v45 => v45) else (if (s5 (19 + c1.toNat) v4) = -10 then (gl ((if (s5 32 (v14 - 1)) = (s5 32 v14) then 1 else 0)) (fun v48 => v48)) else (if (s5 (19 + c1.toNat) v4) = -9 then (gl ((if (s5 32 (v14 - 1)) < (s5 32 v14) then 1 else 0)) (fun v53 => v53)) else (if (s5 (19 + c1.toNat) v4) = -8 then (gj (fun j57c => (if (s5 32 (v14 - 1)) = 0 then j57c else (if (s5 32 v14) = 0 then j57c else 1))) (0)) else (if (s5 (19 + c1.toNat) v4) = -7 then (gj (fun j60c => (if (s5 32 (v14 - 1)) = 0 then (if (s5 32 v14) = 0 then 0 else j60c) else j60c)) (1)) else (gl ((if (s5 (19 + c1.toNat) v4) < 0 then (s5 36 ((-1) - (s5 (19 + c1.toNat) v4))) else (s5 (19 + c1.toNat) v4))) (fun v64 => v64)))))))))))) (fun v29 => gl (mset s5 32 (v14 - 1) v29) (fun s30 => (t_X7_reckon_13 c1 c2 n6 v14 (v4 + 1) s30)))) else (0, s5))))) else ((s5 32 0), s5)) := rfl
def f_X7_reckon (x0 : Int) (x1 : Int) (s0 : gMem) : gRes := (t_X7_reckon_13 x0 x1 161 0 (s0 (26 + x0.toNat) x1) s0)
theorem f_X7_reckon_e (x0 : Int) (x1 : Int) (s0 : gMem) : f_X7_reckon x0 x1 s0 = (t_X7_reckon_13 x0 x1 161 0 (s0 (26 + x0.toNat) x1) s0) := rfl
set_option maxRecDepth 100000 in
set_option maxHeartbeats 4000000 in
theorem f_X7_reckon_p (x0 : Int) (x1 : Int) (s0 : gMem) (hx0 : in32 x0) (hx1 : in32 x1) (hm_s0 : gMR lgX s0) (hpre0 : CD s0) (hpre1 : BG s0) (hpre2 : 0 ≤ x0 ∧ x0 ≤ 5) (hpre3 : 0 ≤ x1 ∧ x1 ≤ 2) (rZ : Int) (sZ : gMem) (hres : f_X7_reckon x0 x1 s0 = (rZ, sZ)) : (fr [32] s0 sZ) ∧ (gMR lgX sZ) ∧ (in32 rZ) := by
  have hT := f_X7_reckon_e x0 x1 s0
  have hf_s0 : fr [32] s0 s0 := fr.rf _ _
  have hr1 := (hm_s0 (26 + x0.toNat) x1).1 (beL (by omega))
  have hi2 := hpre1 x0.toNat (by omega) x1
  have L77 : ∀ (n78 : Nat) (v74 : Int) (v75 : Int) (s76 : gMem), ((in32 v74) ∧ (in32 v75) ∧ (fr [32] s0 s76) ∧ (gMR lgX s76) ∧ (0 ≤ v74 ∧ v74 ≤ 160) ∧ (0 ≤ v75 ∧ v75 ≤ 160)) → 160 - v75 < (n78 : Int) → (f_X7_reckon x0 x1 s0) = (t_X7_reckon_13 x0 x1 n78 v74 v75 s76) → (fr [32] s0 sZ) ∧ (gMR lgX sZ) ∧ (in32 rZ) := by
    intro n78; induction n78 with
    | zero =>
      intro v74 v75 s76 hq hm hT
      exfalso
      obtain ⟨hq149, hq150, hf_s76, hm_s76, hq151, hq152⟩ := hq
      omega
    | succ n78 ih =>
      intro v74 v75 s76 hq hm hT
      obtain ⟨hq153, hq154, hf_s76, hm_s76, hq155, hq156⟩ := hq
      replace hT := hT.trans (t_X7_reckon_13_s x0 x1 n78 v74 v75 s76)
      have hr82 := (hm_s76 (26 + x0.toNat) (x1 + 1)).1 (beL (by omega))
      have hi83 := (BG_fr hpre1 (fun k hk => hf_s76 k (dj (by decide) k hk))) x0.toNat (by omega) (x1 + 1)
      by_cases h84 : v75 < (s76 (26 + x0.toNat) (x1 + 1))
      · replace hT := hT.trans (if_pos h84)
        have hr85 := (hm_s76 (19 + x0.toNat) v75).1 (coL (by omega))
        have hi86 := (CD_fr hpre0 (fun k hk => hf_s76 k (dj (by decide) k hk))) x0.toNat (by omega) v75
        obtain ⟨z145, hz145, hT⟩ := gl1x hT
        have j88 : ∀ (v89 : Int), ((in32 v89) ∧ (-1 ≤ v89 ∧ v89 ≤ 161)) → z145 = v89 → (fr [32] s0 sZ) ∧ (gMR lgX sZ) ∧ (in32 rZ) := by
          intro v89 hq hz
          obtain ⟨hq143, hq144⟩ := hq
          replace hT := gl1y hT hz
          by_cases h90 : v89 < 1
          · replace hT := hT.trans (if_pos h90)
            obtain ⟨rfl, rfl⟩ := Prod.mk.inj (hT.symm.trans hres)
            exact ⟨hf_s76, hm_s76, (by omega)⟩
          · replace hT := hT.trans (if_neg h90)
            by_cases h91 : v89 < 161
            · replace hT := hT.trans (if_pos h91)
              have hr92 := (hm_s76 32 (v89 - 1)).1 rfl
              have hr93 := (hm_s76 32 v89).1 rfl
              obtain ⟨z107, hz107, hT⟩ := gl1x hT
              have j103 : ∀ (v104 : Int), ((in32 v104)) → z107 = v104 → (fr [32] s0 sZ) ∧ (gMR lgX sZ) ∧ (in32 rZ) := by
                intro v104 hq hz
                have hq106 := hq
                replace hT := gl1y hT hz
                obtain ⟨s105, hs105, hT⟩ := glx hT
                have hf_s105 : fr [32] s0 s105 := hs105 ▸ hf_s76.set (by decide)
                have hm_s105 : gMR lgX s105 := hs105 ▸ hm_s76.set32 rfl (by omega)
                exact ih v89 (v75 + 1) s105 ⟨(by omega), (by omega), hf_s105, hm_s105, (by first | assumption | omega), (by first | assumption | omega)⟩ (by omega) hT
              replace hT := hz107
              by_cases h94 : (s76 (19 + x0.toNat) v75) = -15
              · replace hT := hT.trans (if_pos h94)
                have hb108 := iwr_rg (-(s76 32 (v89 - 1)))
                obtain ⟨v109, hv109, hT⟩ := glx hT
                exact j103 v109 (by omega) hT
              · replace hT := hT.trans (if_neg h94)
                by_cases h95 : (s76 (19 + x0.toNat) v75) = -14
                · replace hT := hT.trans (if_pos h95)
                  obtain ⟨z114, hz114, hT⟩ := gl1x hT
                  have j111 : ∀ (v112 : Int), ((in32 v112)) → z114 = v112 → (fr [32] s0 sZ) ∧ (gMR lgX sZ) ∧ (in32 rZ) := by
                    intro v112 hq hz
                    have hq113 := hq
                    replace hT := gl1y hT hz
                    exact j103 v112 (by omega) hT
                  replace hT := hz114
                  by_cases h110 : (s76 32 (v89 - 1)) = 0
                  · replace hT := hT.trans (if_pos h110)
                    exact j111 1 (by omega) hT
                  · replace hT := hT.trans (if_neg h110)
                    exact j111 0 (by omega) hT
                · replace hT := hT.trans (if_neg h95)
                  by_cases h96 : (s76 (19 + x0.toNat) v75) = -13
                  · replace hT := hT.trans (if_pos h96)
                    have hb115 := iwr_rg ((s76 32 (v89 - 1)) * (s76 32 v89))
                    obtain ⟨v116, hv116, hT⟩ := glx hT
                    exact j103 v116 (by omega) hT
                  · replace hT := hT.trans (if_neg h96)
                    by_cases h97 : (s76 (19 + x0.toNat) v75) = -12
                    · replace hT := hT.trans (if_pos h97)
                      have hb117 := iwr_rg ((s76 32 (v89 - 1)) - (s76 32 v89))
                      obtain ⟨v118, hv118, hT⟩ := glx hT
                      exact j103 v118 (by omega) hT
                    · replace hT := hT.trans (if_neg h97)
                      by_cases h98 : (s76 (19 + x0.toNat) v75) = -11
                      · replace hT := hT.trans (if_pos h98)
                        have hb119 := iwr_rg ((s76 32 (v89 - 1)) + (s76 32 v89))
                        obtain ⟨v120, hv120, hT⟩ := glx hT
                        exact j103 v120 (by omega) hT
                      · replace hT := hT.trans (if_neg h98)
                        by_cases h99 : (s76 (19 + x0.toNat) v75) = -10
                        · replace hT := hT.trans (if_pos h99)
                          obtain ⟨z125, hz125, hT⟩ := gl1x hT
                          have j122 : ∀ (v123 : Int), ((in32 v123)) → z125 = v123 → (fr [32] s0 sZ) ∧ (gMR lgX sZ) ∧ (in32 rZ) := by
                            intro v123 hq hz
                            have hq124 := hq
                            replace hT := gl1y hT hz
                            exact j103 v123 (by omega) hT
                          replace hT := hz125
                          by_cases h121 : (s76 32 (v89 - 1)) = (s76 32 v89)
                          · replace hT := hT.trans (if_pos h121)
                            exact j122 1 (by omega) hT
                          · replace hT := hT.trans (if_neg h121)
                            exact j122 0 (by omega) hT
                        · replace hT := hT.trans (if_neg h99)
                          by_cases h100 : (s76 (19 + x0.toNat) v75) = -9
                          · replace hT := hT.trans (if_pos h100)
                            obtain ⟨z130, hz130, hT⟩ := gl1x hT
                            have j127 : ∀ (v128 : Int), ((in32 v128)) → z130 = v128 → (fr [32] s0 sZ) ∧ (gMR lgX sZ) ∧ (in32 rZ) := by
                              intro v128 hq hz
                              have hq129 := hq
                              replace hT := gl1y hT hz
                              exact j103 v128 (by omega) hT
                            replace hT := hz130
                            by_cases h126 : (s76 32 (v89 - 1)) < (s76 32 v89)
                            · replace hT := hT.trans (if_pos h126)
                              exact j127 1 (by omega) hT
                            · replace hT := hT.trans (if_neg h126)
                              exact j127 0 (by omega) hT
                          · replace hT := hT.trans (if_neg h100)
                            by_cases h101 : (s76 (19 + x0.toNat) v75) = -8
                            · replace hT := hT.trans (if_pos h101)
                              obtain ⟨j132c, hj132c, hT⟩ := gjx hT
                              have j132 : (True) → z107 = j132c  → (fr [32] s0 sZ) ∧ (gMR lgX sZ) ∧ (in32 rZ) := by
                                intro  hq hT
                                rw [hj132c] at hT
                                exact j103 0 (by omega) hT
                              by_cases h131 : (s76 32 (v89 - 1)) = 0
                              · replace hT := hT.trans (if_pos h131)
                                exact j132  trivial hT
                              · replace hT := hT.trans (if_neg h131)
                                by_cases h133 : (s76 32 v89) = 0
                                · replace hT := hT.trans (if_pos h133)
                                  exact j132  trivial hT
                                · replace hT := hT.trans (if_neg h133)
                                  exact j103 1 (by omega) hT
                            · replace hT := hT.trans (if_neg h101)
                              by_cases h102 : (s76 (19 + x0.toNat) v75) = -7
                              · replace hT := hT.trans (if_pos h102)
                                obtain ⟨j135c, hj135c, hT⟩ := gjx hT
                                have j135 : (True) → z107 = j135c  → (fr [32] s0 sZ) ∧ (gMR lgX sZ) ∧ (in32 rZ) := by
                                  intro  hq hT
                                  rw [hj135c] at hT
                                  exact j103 1 (by omega) hT
                                by_cases h134 : (s76 32 (v89 - 1)) = 0
                                · replace hT := hT.trans (if_pos h134)
                                  by_cases h136 : (s76 32 v89) = 0
                                  · replace hT := hT.trans (if_pos h136)
                                    exact j103 0 (by omega) hT
                                  · replace hT := hT.trans (if_neg h136)
                                    exact j135  trivial hT
                                · replace hT := hT.trans (if_neg h134)
                                  exact j135  trivial hT
                              · replace hT := hT.trans (if_neg h102)
                                obtain ⟨z141, hz141, hT⟩ := gl1x hT
                                have j138 : ∀ (v139 : Int), ((in32 v139)) → z141 = v139 → (fr [32] s0 sZ) ∧ (gMR lgX sZ) ∧ (in32 rZ) := by
                                  intro v139 hq hz
                                  have hq140 := hq
                                  replace hT := gl1y hT hz
                                  exact j103 v139 (by omega) hT
                                replace hT := hz141
                                by_cases h137 : (s76 (19 + x0.toNat) v75) < 0
                                · replace hT := hT.trans (if_pos h137)
                                  have hr142 := (hm_s76 36 ((-1) - (s76 (19 + x0.toNat) v75))).1 rfl
                                  exact j138 (s76 36 ((-1) - (s76 (19 + x0.toNat) v75))) (by omega) hT
                                · replace hT := hT.trans (if_neg h137)
                                  exact j138 (s76 (19 + x0.toNat) v75) (by omega) hT
            · replace hT := hT.trans (if_neg h91)
              obtain ⟨rfl, rfl⟩ := Prod.mk.inj (hT.symm.trans hres)
              exact ⟨hf_s76, hm_s76, (by omega)⟩
        replace hT := hz145
        by_cases h87 : (-7) < (s76 (19 + x0.toNat) v75)
        · replace hT := hT.trans (if_pos h87)
          exact j88 (v74 + 1) ⟨(by omega), (by first | assumption | omega)⟩ hT
        · replace hT := hT.trans (if_neg h87)
          by_cases h146 : (s76 (19 + x0.toNat) v75) = (-14)
          · replace hT := hT.trans (if_pos h146)
            exact j88 v74 ⟨(by omega), (by first | assumption | omega)⟩ hT
          · replace hT := hT.trans (if_neg h146)
            by_cases h147 : (s76 (19 + x0.toNat) v75) = (-15)
            · replace hT := hT.trans (if_pos h147)
              exact j88 v74 ⟨(by omega), (by first | assumption | omega)⟩ hT
            · replace hT := hT.trans (if_neg h147)
              exact j88 (v74 + (-1)) ⟨(by omega), (by first | assumption | omega)⟩ hT
      · replace hT := hT.trans (if_neg h84)
        have hr148 := (hm_s76 32 0).1 rfl
        obtain ⟨rfl, rfl⟩ := Prod.mk.inj (hT.symm.trans hres)
        exact ⟨hf_s76, hm_s76, (by omega)⟩
  exact L77 161 0 (s0 (26 + x0.toNat) x1) s0 ⟨(by omega), (by omega), hf_s0, hm_s0, (by first | assumption | omega), (by first | assumption | omega)⟩ (by omega) hT
set_option maxRecDepth 100000 in
set_option maxHeartbeats 4000000 in
theorem c_X7_reckon (l : Launch) (D : va_G) (a : Nat → Nat) (cI cJ cS cT : ClassId) (s0 : gMem) (x0 : Int) (x1 : Int) (hx0 : in32 x0) (hx1 : in32 x1) (hpre0 : CD s0) (hpre1 : BG s0) (hpre2 : 0 ≤ x0 ∧ x0 ≤ 5) (hpre3 : 0 ≤ x1 ∧ x1 ≤ 2) : gC l yX7_reckon cX7_reckon 9 (some .int) 1 64 D vwCl (gT cI cJ cS cT) (wdX a cI cJ cS cT) lgX kI in32 [.ref (a 1), gI x0, gI x1, .ref (a 36)] s0 (f_X7_reckon x0 x1 s0) := by
  refine gC_of (by decide +kernel) (hwdX a cI cJ cS cT) (Nat.le_of_ble_eq_true rfl) ?_
  intro A p e R s m args below meth c hR E
  subst hR
  have hT := f_X7_reckon_e x0 x1 s0
  have hf_s0 : fr [32] s0 s0 := fr.rf _ _
  refine k_lv0 (lv' := [(0, .ref (a 1)), (1, gI x0), (2, gI x1), (3, .ref (a 36))]) rfl ?_
  refine k_mr (fun hm_s0 => ?_)
  refine k_iconst (pc := 0) E dX7_reckon_0 ?_
  refine k_istore (pc := 1) (lv' := [(4, gI 0), (0, .ref (a 1)), (1, gI x0), (2, gI x1), (3, .ref (a 36))]) E dX7_reckon_1 (by decide) rfl ?_
  refine k_aloadn (pc := 3) E 1 dX7_reckon_3 rfl rfl ?_
  refine k_getf (pc := 4) (q0 := 1) (f := 1) (v := .ref (a 25)) E inX7 rfl rfl (by decide) wm_36 rfl rfl dX7_reckon_4 ?_
  refine k_iloadn (pc := 7) E 2 dX7_reckon_7 rfl rfl ?_
  refine k_aaloadA (pc := 8) (q0 := 25) (t0 := 3) (b := 26) (n := 6) E rfl rfl (by decide) (by omega) (by omega) dX7_reckon_8 ?_
  refine k_iloadn (pc := 9) E 3 dX7_reckon_9 rfl rfl ?_
  refine k_iaload (pc := 10) (q0 := (26 + x0.toNat)) (t0 := 0) (k := (26 + x0.toNat)) (n := 4) E (beA a cI cJ cS cT s0 (by omega)) rfl (beL (by omega)) (by decide) (by omega) (by omega) dX7_reckon_10 (fun hr1 => ?_)
  have hi2 := hpre1 x0.toNat (by omega) x1
  refine k_istore (pc := 11) (lv' := [(5, gI (s0 (26 + x0.toNat) x1)), (4, gI 0), (0, .ref (a 1)), (1, gI x0), (2, gI x1), (3, .ref (a 36))]) E dX7_reckon_11 (by decide) rfl ?_
  have L77 : ∀ (n78 : Nat) (v74 : Int) (v75 : Int) (s76 : gMem), ((in32 v74) ∧ (in32 v75) ∧ (fr [32] s0 s76) ∧ (0 ≤ v74 ∧ v74 ≤ 160) ∧ (0 ≤ v75 ∧ v75 ≤ 160)) → 160 - v75 < (n78 : Int) → (f_X7_reckon x0 x1 s0) = (t_X7_reckon_13 x0 x1 n78 v74 v75 s76) → gK D vwCl (wdX a cI cJ cS cT) lgX A p l e { frames := 1, cells := 0, slots := 0, locals := 64 } s m args below meth c 9 (gQQ D vwCl (wdX a cI cJ cS cT) lgX A kI in32 below args s) (f_X7_reckon x0 x1 s0) s76 13 [(0, .ref (a 1)), (1, gI x0), (2, gI x1), (3, .ref (a 36)), (4, gI v74), (5, gI v75)] [] := by
    intro n78; induction n78 with
    | zero =>
      intro v74 v75 s76 hq hm hT
      exfalso
      obtain ⟨hq149, hq150, hf_s76, hq151, hq152⟩ := hq
      omega
    | succ n78 ih =>
      intro v74 v75 s76 hq hm hT
      obtain ⟨hq153, hq154, hf_s76, hq155, hq156⟩ := hq
      replace hT := hT.trans (t_X7_reckon_13_s x0 x1 n78 v74 v75 s76)
      refine k_iload (pc := 13) E 5 dX7_reckon_13 rfl ?_
      refine k_aloadn (pc := 15) E 0 dX7_reckon_15 rfl rfl ?_
      refine k_getf (pc := 16) (q0 := 1) (f := 1) (v := .ref (a 25)) E inX7 rfl rfl (by decide) wm_36 rfl rfl dX7_reckon_16 ?_
      refine k_iloadn (pc := 19) E 1 dX7_reckon_19 rfl rfl ?_
      refine k_aaloadA (pc := 20) (q0 := 25) (t0 := 3) (b := 26) (n := 6) E rfl rfl (by decide) (by omega) (by omega) dX7_reckon_20 ?_
      refine k_iloadn (pc := 21) E 2 dX7_reckon_21 rfl rfl ?_
      refine k_iconst (pc := 22) E dX7_reckon_22 ?_
      refine k_iadd (pc := 23) E dX7_reckon_23 ?_
      refine k_iaload (pc := 24) (q0 := (26 + x0.toNat)) (t0 := 0) (k := (26 + x0.toNat)) (n := 4) E (beA a cI cJ cS cT s76 (by omega)) rfl (beL (by omega)) (by decide) (by omega) (by omega) dX7_reckon_24 (fun hr82 => ?_)
      have hi83 := (BG_fr hpre1 (fun k hk => hf_s76 k (dj (by decide) k hk))) x0.toNat (by omega) (x1 + 1)
      by_cases h84 : v75 < (s76 (26 + x0.toNat) (x1 + 1))
      · replace hT := hT.trans (if_pos h84)
        refine k_icmp_ge_f (pc := 25) (tgt := 322) E (by omega) (by omega) dX7_reckon_25 (by decide) h84 ?_
        refine k_aloadn (pc := 28) E 0 dX7_reckon_28 rfl rfl ?_
        refine k_getf (pc := 29) (q0 := 1) (f := 0) (v := .ref (a 18)) E inX7 rfl rfl (by decide) wm_35 rfl rfl dX7_reckon_29 ?_
        refine k_iloadn (pc := 32) E 1 dX7_reckon_32 rfl rfl ?_
        refine k_aaloadA (pc := 33) (q0 := 18) (t0 := 3) (b := 19) (n := 6) E rfl rfl (by decide) (by omega) (by omega) dX7_reckon_33 ?_
        refine k_iload (pc := 34) E 5 dX7_reckon_34 rfl ?_
        refine k_iaload (pc := 36) (q0 := (19 + x0.toNat)) (t0 := 0) (k := (19 + x0.toNat)) (n := 160) E (coA a cI cJ cS cT s76 (by omega)) rfl (coL (by omega)) (by decide) (by omega) (by omega) dX7_reckon_36 (fun hr85 => ?_)
        have hi86 := (CD_fr hpre0 (fun k hk => hf_s76 k (dj (by decide) k hk))) x0.toNat (by omega) v75
        refine k_istore (pc := 37) (lv' := [(6, gI (s76 (19 + x0.toNat) v75)), (0, .ref (a 1)), (1, gI x0), (2, gI x1), (3, .ref (a 36)), (4, gI v74), (5, gI v75)]) E dX7_reckon_37 (by decide) rfl ?_
        refine k_iload (pc := 39) E 0 dX7_reckon_39 rfl ?_
        refine k_bipush (pc := 41) E dX7_reckon_41 (by decide) ?_
        obtain ⟨z145, hz145, hT⟩ := gl1x hT
        have j88 : ∀ (v89 : Int), ((in32 v89) ∧ (-1 ≤ v89 ∧ v89 ≤ 161)) → z145 = v89 → gK D vwCl (wdX a cI cJ cS cT) lgX A p l e { frames := 1, cells := 0, slots := 0, locals := 64 } s m args below meth c 9 (gQQ D vwCl (wdX a cI cJ cS cT) lgX A kI in32 below args s) (f_X7_reckon x0 x1 s0) s76 69 [(0, .ref (a 1)), (1, gI x0), (2, gI x1), (3, .ref (a 36)), (4, gI v89), (5, gI v75), (6, gI (s76 (19 + x0.toNat) v75))] [] := by
          intro v89 hq hz
          obtain ⟨hq143, hq144⟩ := hq
          replace hT := gl1y hT hz
          refine k_iload (pc := 69) E 4 dX7_reckon_69 rfl ?_
          refine k_iconst (pc := 71) E dX7_reckon_71 ?_
          by_cases h90 : v89 < 1
          · replace hT := hT.trans (if_pos h90)
            refine k_icmp_lt_t (pc := 72) (tgt := 85) E (by omega) (by omega) dX7_reckon_72 (by decide) h90 ?_
            refine k_iconst (pc := 85) E dX7_reckon_85 ?_
            exact k_rho hT (k_iret (pc := 86) E dX7_reckon_86 (by omega))
          · replace hT := hT.trans (if_neg h90)
            refine k_icmp_lt_f (pc := 72) (tgt := 85) E (by omega) (by omega) dX7_reckon_72 (by decide) h90 ?_
            refine k_iload (pc := 75) E 4 dX7_reckon_75 rfl ?_
            refine k_aloadn (pc := 77) E 0 dX7_reckon_77 rfl rfl ?_
            refine k_getf (pc := 78) (q0 := 1) (f := 2) (v := .ref (a 32)) E inX7 rfl rfl (by decide) wm_37 rfl rfl dX7_reckon_78 ?_
            refine k_alenI (pc := 81) (q0 := 32) (t0 := 0) E rfl rfl dX7_reckon_81 ?_
            by_cases h91 : v89 < 161
            · replace hT := hT.trans (if_pos h91)
              refine k_icmp_lt_t (pc := 82) (tgt := 87) E (by omega) (by omega) dX7_reckon_82 (by decide) h91 ?_
              refine k_aloadn (pc := 87) E 0 dX7_reckon_87 rfl rfl ?_
              refine k_getf (pc := 88) (q0 := 1) (f := 2) (v := .ref (a 32)) E inX7 rfl rfl (by decide) wm_37 rfl rfl dX7_reckon_88 ?_
              refine k_iload (pc := 91) E 4 dX7_reckon_91 rfl ?_
              refine k_iconst (pc := 93) E dX7_reckon_93 ?_
              refine k_isub (pc := 94) E dX7_reckon_94 ?_
              refine k_iaload (pc := 95) (q0 := 32) (t0 := 0) (k := 32) (n := 161) E rfl rfl rfl (by decide) (by omega) (by omega) dX7_reckon_95 (fun hr92 => ?_)
              refine k_istore (pc := 96) (lv' := [(7, gI (s76 32 (v89 - 1))), (0, .ref (a 1)), (1, gI x0), (2, gI x1), (3, .ref (a 36)), (4, gI v89), (5, gI v75), (6, gI (s76 (19 + x0.toNat) v75))]) E dX7_reckon_96 (by decide) rfl ?_
              refine k_aloadn (pc := 98) E 1 dX7_reckon_98 rfl rfl ?_
              refine k_getf (pc := 99) (q0 := 1) (f := 2) (v := .ref (a 32)) E inX7 rfl rfl (by decide) wm_37 rfl rfl dX7_reckon_99 ?_
              refine k_iload (pc := 102) E 5 dX7_reckon_102 rfl ?_
              refine k_iaload (pc := 104) (q0 := 32) (t0 := 0) (k := 32) (n := 161) E rfl rfl rfl (by decide) (by omega) (by omega) dX7_reckon_104 (fun hr93 => ?_)
              refine k_istore (pc := 105) (lv' := [(8, gI (s76 32 v89)), (7, gI (s76 32 (v89 - 1))), (0, .ref (a 1)), (1, gI x0), (2, gI x1), (3, .ref (a 36)), (4, gI v89), (5, gI v75), (6, gI (s76 (19 + x0.toNat) v75))]) E dX7_reckon_105 (by decide) rfl ?_
              refine k_iload (pc := 107) E 8 dX7_reckon_107 rfl ?_
              obtain ⟨z107, hz107, hT⟩ := gl1x hT
              have j103 : ∀ (v104 : Int), ((in32 v104)) → z107 = v104 → gK D vwCl (wdX a cI cJ cS cT) lgX A p l e { frames := 1, cells := 0, slots := 0, locals := 64 } s m args below meth c 9 (gQQ D vwCl (wdX a cI cJ cS cT) lgX A kI in32 below args s) (f_X7_reckon x0 x1 s0) s76 305 [(0, .ref (a 1)), (1, gI x0), (2, gI x1), (3, .ref (a 36)), (4, gI v89), (5, gI v75), (7, gI v104)] [] := by
                intro v104 hq hz
                have hq106 := hq
                replace hT := gl1y hT hz
                refine k_aloadn (pc := 305) E 0 dX7_reckon_305 rfl rfl ?_
                refine k_getf (pc := 306) (q0 := 1) (f := 2) (v := .ref (a 32)) E inX7 rfl rfl (by decide) wm_37 rfl rfl dX7_reckon_306 ?_
                refine k_iload (pc := 309) E 4 dX7_reckon_309 rfl ?_
                refine k_iconst (pc := 311) E dX7_reckon_311 ?_
                refine k_isub (pc := 312) E dX7_reckon_312 ?_
                refine k_iload (pc := 313) E 6 dX7_reckon_313 rfl ?_
                refine k_iastore (pc := 315) (q0 := 32) (t0 := 0) (k := 32) (n := 161) E rfl rfl rfl rfl (by decide) (by omega) (by omega) (by omega) dX7_reckon_315 ?_
                obtain ⟨s105, hs105, hT⟩ := glx hT
                refine k_sg hs105.symm ?_
                have hf_s105 : fr [32] s0 s105 := hs105 ▸ hf_s76.set (by decide)
                refine k_iinc (pc := 316) (lv' := [(5, gI (v75 + 1)), (0, .ref (a 1)), (1, gI x0), (2, gI x1), (3, .ref (a 36)), (4, gI v89), (7, gI v104)]) E 5 dX7_reckon_316 rfl (by decide) rfl ?_
                refine k_goto (pc := 319) (tgt := 13) E dX7_reckon_319 (by decide) ?_
                refine k_lv (lv' := [(0, .ref (a 1)), (1, gI x0), (2, gI x1), (3, .ref (a 36)), (4, gI v89), (5, gI (v75 + 1))]) [1, 2, 3, 4, 5, 0] rfl ?_
                exact ih v89 (v75 + 1) s105 ⟨(by omega), (by omega), hf_s105, (by first | assumption | omega), (by first | assumption | omega)⟩ (by omega) hT
              replace hT := hz107
              by_cases h94 : (s76 (19 + x0.toNat) v75) = -15
              · replace hT := hT.trans (if_pos h94)
                refine k_tabIn (pc := 109) (tgt := 279) E dX7_reckon_109 (by omega) (by omega) (by omega) (by rw [h94]; rfl) (by decide) ?_
                refine k_iload (pc := 279) E 1 dX7_reckon_279 rfl ?_
                refine k_ineg (pc := 281) E dX7_reckon_281 ?_
                refine k_st (st' := [gI (iwr (-(s76 32 (v89 - 1))))]) (congrArg (fun q => q :: []) (gIw (-(s76 32 (v89 - 1))))) ?_
                have hb108 := iwr_rg (-(s76 32 (v89 - 1)))
                obtain ⟨v109, hv109, hT⟩ := glx hT
                refine k_st (st' := [gI v109]) (by rw [hv109]) ?_
                refine k_istore (pc := 282) (lv' := [(7, gI v109), (8, gI (s76 32 v89)), (0, .ref (a 1)), (1, gI x0), (2, gI x1), (3, .ref (a 36)), (4, gI v89), (5, gI v75), (6, gI (s76 (19 + x0.toNat) v75))]) E dX7_reckon_282 (by decide) rfl ?_
                refine k_goto (pc := 284) (tgt := 305) E dX7_reckon_284 (by decide) ?_
                refine k_lv (lv' := [(0, .ref (a 1)), (1, gI x0), (2, gI x1), (3, .ref (a 36)), (4, gI v89), (5, gI v75), (7, gI v109)]) [2, 3, 4, 5, 6, 7, 0] rfl ?_
                exact j103 v109 (by omega) hT
              · replace hT := hT.trans (if_neg h94)
                by_cases h95 : (s76 (19 + x0.toNat) v75) = -14
                · replace hT := hT.trans (if_pos h95)
                  refine k_tabIn (pc := 109) (tgt := 264) E dX7_reckon_109 (by omega) (by omega) (by omega) (by rw [h95]; rfl) (by decide) ?_
                  refine k_iload (pc := 264) E 1 dX7_reckon_264 rfl ?_
                  obtain ⟨z114, hz114, hT⟩ := gl1x hT
                  have j111 : ∀ (v112 : Int), ((in32 v112)) → z114 = v112 → gK D vwCl (wdX a cI cJ cS cT) lgX A p l e { frames := 1, cells := 0, slots := 0, locals := 64 } s m args below meth c 9 (gQQ D vwCl (wdX a cI cJ cS cT) lgX A kI in32 below args s) (f_X7_reckon x0 x1 s0) s76 274 [(0, .ref (a 1)), (1, gI x0), (2, gI x1), (3, .ref (a 36)), (4, gI v89), (5, gI v75)] [gI v112] := by
                    intro v112 hq hz
                    have hq113 := hq
                    replace hT := gl1y hT hz
                    refine k_istore (pc := 274) (lv' := [(7, gI v112), (0, .ref (a 1)), (1, gI x0), (2, gI x1), (3, .ref (a 36)), (4, gI v89), (5, gI v75)]) E dX7_reckon_274 (by decide) rfl ?_
                    refine k_goto (pc := 276) (tgt := 305) E dX7_reckon_276 (by decide) ?_
                    refine k_lv (lv' := [(0, .ref (a 1)), (1, gI x0), (2, gI x1), (3, .ref (a 36)), (4, gI v89), (5, gI v75), (7, gI v112)]) [1, 2, 3, 4, 5, 6, 0] rfl ?_
                    exact j103 v112 (by omega) hT
                  replace hT := hz114
                  by_cases h110 : (s76 32 (v89 - 1)) = 0
                  · replace hT := hT.trans (if_pos h110)
                    refine k_if_ne_f (pc := 266) (tgt := 273) E (by omega) dX7_reckon_266 (by decide) h110 ?_
                    refine k_iconst (pc := 269) E dX7_reckon_269 ?_
                    refine k_goto (pc := 270) (tgt := 274) E dX7_reckon_270 (by decide) ?_
                    refine k_lv (lv' := [(0, .ref (a 1)), (1, gI x0), (2, gI x1), (3, .ref (a 36)), (4, gI v89), (5, gI v75)]) [2, 3, 4, 5, 6, 7] rfl ?_
                    exact j111 1 (by omega) hT
                  · replace hT := hT.trans (if_neg h110)
                    refine k_if_ne_t (pc := 266) (tgt := 273) E (by omega) dX7_reckon_266 (by decide) h110 ?_
                    refine k_iconst (pc := 273) E dX7_reckon_273 ?_
                    refine k_lv (lv' := [(0, .ref (a 1)), (1, gI x0), (2, gI x1), (3, .ref (a 36)), (4, gI v89), (5, gI v75)]) [2, 3, 4, 5, 6, 7] rfl ?_
                    exact j111 0 (by omega) hT
                · replace hT := hT.trans (if_neg h95)
                  by_cases h96 : (s76 (19 + x0.toNat) v75) = -13
                  · replace hT := hT.trans (if_pos h96)
                    refine k_tabIn (pc := 109) (tgt := 254) E dX7_reckon_109 (by omega) (by omega) (by omega) (by rw [h96]; rfl) (by decide) ?_
                    refine k_iload (pc := 254) E 1 dX7_reckon_254 rfl ?_
                    refine k_iload (pc := 256) E 0 dX7_reckon_256 rfl ?_
                    refine k_imul (pc := 258) E dX7_reckon_258 ?_
                    refine k_st (st' := [gI (iwr ((s76 32 (v89 - 1)) * (s76 32 v89)))]) (congrArg (fun q => q :: []) (gIw ((s76 32 (v89 - 1)) * (s76 32 v89)))) ?_
                    have hb115 := iwr_rg ((s76 32 (v89 - 1)) * (s76 32 v89))
                    obtain ⟨v116, hv116, hT⟩ := glx hT
                    refine k_st (st' := [gI v116]) (by rw [hv116]) ?_
                    refine k_istore (pc := 259) (lv' := [(7, gI v116), (8, gI (s76 32 v89)), (0, .ref (a 1)), (1, gI x0), (2, gI x1), (3, .ref (a 36)), (4, gI v89), (5, gI v75), (6, gI (s76 (19 + x0.toNat) v75))]) E dX7_reckon_259 (by decide) rfl ?_
                    refine k_goto (pc := 261) (tgt := 305) E dX7_reckon_261 (by decide) ?_
                    refine k_lv (lv' := [(0, .ref (a 1)), (1, gI x0), (2, gI x1), (3, .ref (a 36)), (4, gI v89), (5, gI v75), (7, gI v116)]) [2, 3, 4, 5, 6, 7, 0] rfl ?_
                    exact j103 v116 (by omega) hT
                  · replace hT := hT.trans (if_neg h96)
                    by_cases h97 : (s76 (19 + x0.toNat) v75) = -12
                    · replace hT := hT.trans (if_pos h97)
                      refine k_tabIn (pc := 109) (tgt := 244) E dX7_reckon_109 (by omega) (by omega) (by omega) (by rw [h97]; rfl) (by decide) ?_
                      refine k_iload (pc := 244) E 1 dX7_reckon_244 rfl ?_
                      refine k_iload (pc := 246) E 0 dX7_reckon_246 rfl ?_
                      refine k_isub (pc := 248) E dX7_reckon_248 ?_
                      refine k_st (st' := [gI (iwr ((s76 32 (v89 - 1)) - (s76 32 v89)))]) (congrArg (fun q => q :: []) (gIw ((s76 32 (v89 - 1)) - (s76 32 v89)))) ?_
                      have hb117 := iwr_rg ((s76 32 (v89 - 1)) - (s76 32 v89))
                      obtain ⟨v118, hv118, hT⟩ := glx hT
                      refine k_st (st' := [gI v118]) (by rw [hv118]) ?_
                      refine k_istore (pc := 249) (lv' := [(7, gI v118), (8, gI (s76 32 v89)), (0, .ref (a 1)), (1, gI x0), (2, gI x1), (3, .ref (a 36)), (4, gI v89), (5, gI v75), (6, gI (s76 (19 + x0.toNat) v75))]) E dX7_reckon_249 (by decide) rfl ?_
                      refine k_goto (pc := 251) (tgt := 305) E dX7_reckon_251 (by decide) ?_
                      refine k_lv (lv' := [(0, .ref (a 1)), (1, gI x0), (2, gI x1), (3, .ref (a 36)), (4, gI v89), (5, gI v75), (7, gI v118)]) [2, 3, 4, 5, 6, 7, 0] rfl ?_
                      exact j103 v118 (by omega) hT
                    · replace hT := hT.trans (if_neg h97)
                      by_cases h98 : (s76 (19 + x0.toNat) v75) = -11
                      · replace hT := hT.trans (if_pos h98)
                        refine k_tabIn (pc := 109) (tgt := 234) E dX7_reckon_109 (by omega) (by omega) (by omega) (by rw [h98]; rfl) (by decide) ?_
                        refine k_iload (pc := 234) E 1 dX7_reckon_234 rfl ?_
                        refine k_iload (pc := 236) E 0 dX7_reckon_236 rfl ?_
                        refine k_iadd (pc := 238) E dX7_reckon_238 ?_
                        refine k_st (st' := [gI (iwr ((s76 32 (v89 - 1)) + (s76 32 v89)))]) (congrArg (fun q => q :: []) (gIw ((s76 32 (v89 - 1)) + (s76 32 v89)))) ?_
                        have hb119 := iwr_rg ((s76 32 (v89 - 1)) + (s76 32 v89))
                        obtain ⟨v120, hv120, hT⟩ := glx hT
                        refine k_st (st' := [gI v120]) (by rw [hv120]) ?_
                        refine k_istore (pc := 239) (lv' := [(7, gI v120), (8, gI (s76 32 v89)), (0, .ref (a 1)), (1, gI x0), (2, gI x1), (3, .ref (a 36)), (4, gI v89), (5, gI v75), (6, gI (s76 (19 + x0.toNat) v75))]) E dX7_reckon_239 (by decide) rfl ?_
                        refine k_goto (pc := 241) (tgt := 305) E dX7_reckon_241 (by decide) ?_
                        refine k_lv (lv' := [(0, .ref (a 1)), (1, gI x0), (2, gI x1), (3, .ref (a 36)), (4, gI v89), (5, gI v75), (7, gI v120)]) [2, 3, 4, 5, 6, 7, 0] rfl ?_
                        exact j103 v120 (by omega) hT
                      · replace hT := hT.trans (if_neg h98)
                        by_cases h99 : (s76 (19 + x0.toNat) v75) = -10
                        · replace hT := hT.trans (if_pos h99)
                          refine k_tabIn (pc := 109) (tgt := 217) E dX7_reckon_109 (by omega) (by omega) (by omega) (by rw [h99]; rfl) (by decide) ?_
                          refine k_iload (pc := 217) E 1 dX7_reckon_217 rfl ?_
                          refine k_iload (pc := 219) E 0 dX7_reckon_219 rfl ?_
                          obtain ⟨z125, hz125, hT⟩ := gl1x hT
                          have j122 : ∀ (v123 : Int), ((in32 v123)) → z125 = v123 → gK D vwCl (wdX a cI cJ cS cT) lgX A p l e { frames := 1, cells := 0, slots := 0, locals := 64 } s m args below meth c 9 (gQQ D vwCl (wdX a cI cJ cS cT) lgX A kI in32 below args s) (f_X7_reckon x0 x1 s0) s76 229 [(0, .ref (a 1)), (1, gI x0), (2, gI x1), (3, .ref (a 36)), (4, gI v89), (5, gI v75)] [gI v123] := by
                            intro v123 hq hz
                            have hq124 := hq
                            replace hT := gl1y hT hz
                            refine k_istore (pc := 229) (lv' := [(7, gI v123), (0, .ref (a 1)), (1, gI x0), (2, gI x1), (3, .ref (a 36)), (4, gI v89), (5, gI v75)]) E dX7_reckon_229 (by decide) rfl ?_
                            refine k_goto (pc := 231) (tgt := 305) E dX7_reckon_231 (by decide) ?_
                            refine k_lv (lv' := [(0, .ref (a 1)), (1, gI x0), (2, gI x1), (3, .ref (a 36)), (4, gI v89), (5, gI v75), (7, gI v123)]) [1, 2, 3, 4, 5, 6, 0] rfl ?_
                            exact j103 v123 (by omega) hT
                          replace hT := hz125
                          by_cases h121 : (s76 32 (v89 - 1)) = (s76 32 v89)
                          · replace hT := hT.trans (if_pos h121)
                            refine k_icmp_ne_f (pc := 221) (tgt := 228) E (by omega) (by omega) dX7_reckon_221 (by decide) h121 ?_
                            refine k_iconst (pc := 224) E dX7_reckon_224 ?_
                            refine k_goto (pc := 225) (tgt := 229) E dX7_reckon_225 (by decide) ?_
                            refine k_lv (lv' := [(0, .ref (a 1)), (1, gI x0), (2, gI x1), (3, .ref (a 36)), (4, gI v89), (5, gI v75)]) [2, 3, 4, 5, 6, 7] rfl ?_
                            exact j122 1 (by omega) hT
                          · replace hT := hT.trans (if_neg h121)
                            refine k_icmp_ne_t (pc := 221) (tgt := 228) E (by omega) (by omega) dX7_reckon_221 (by decide) h121 ?_
                            refine k_iconst (pc := 228) E dX7_reckon_228 ?_
                            refine k_lv (lv' := [(0, .ref (a 1)), (1, gI x0), (2, gI x1), (3, .ref (a 36)), (4, gI v89), (5, gI v75)]) [2, 3, 4, 5, 6, 7] rfl ?_
                            exact j122 0 (by omega) hT
                        · replace hT := hT.trans (if_neg h99)
                          by_cases h100 : (s76 (19 + x0.toNat) v75) = -9
                          · replace hT := hT.trans (if_pos h100)
                            refine k_tabIn (pc := 109) (tgt := 200) E dX7_reckon_109 (by omega) (by omega) (by omega) (by rw [h100]; rfl) (by decide) ?_
                            refine k_iload (pc := 200) E 1 dX7_reckon_200 rfl ?_
                            refine k_iload (pc := 202) E 0 dX7_reckon_202 rfl ?_
                            obtain ⟨z130, hz130, hT⟩ := gl1x hT
                            have j127 : ∀ (v128 : Int), ((in32 v128)) → z130 = v128 → gK D vwCl (wdX a cI cJ cS cT) lgX A p l e { frames := 1, cells := 0, slots := 0, locals := 64 } s m args below meth c 9 (gQQ D vwCl (wdX a cI cJ cS cT) lgX A kI in32 below args s) (f_X7_reckon x0 x1 s0) s76 212 [(0, .ref (a 1)), (1, gI x0), (2, gI x1), (3, .ref (a 36)), (4, gI v89), (5, gI v75)] [gI v128] := by
                              intro v128 hq hz
                              have hq129 := hq
                              replace hT := gl1y hT hz
                              refine k_istore (pc := 212) (lv' := [(7, gI v128), (0, .ref (a 1)), (1, gI x0), (2, gI x1), (3, .ref (a 36)), (4, gI v89), (5, gI v75)]) E dX7_reckon_212 (by decide) rfl ?_
                              refine k_goto (pc := 214) (tgt := 305) E dX7_reckon_214 (by decide) ?_
                              refine k_lv (lv' := [(0, .ref (a 1)), (1, gI x0), (2, gI x1), (3, .ref (a 36)), (4, gI v89), (5, gI v75), (7, gI v128)]) [1, 2, 3, 4, 5, 6, 0] rfl ?_
                              exact j103 v128 (by omega) hT
                            replace hT := hz130
                            by_cases h126 : (s76 32 (v89 - 1)) < (s76 32 v89)
                            · replace hT := hT.trans (if_pos h126)
                              refine k_icmp_ge_f (pc := 204) (tgt := 211) E (by omega) (by omega) dX7_reckon_204 (by decide) h126 ?_
                              refine k_iconst (pc := 207) E dX7_reckon_207 ?_
                              refine k_goto (pc := 208) (tgt := 212) E dX7_reckon_208 (by decide) ?_
                              refine k_lv (lv' := [(0, .ref (a 1)), (1, gI x0), (2, gI x1), (3, .ref (a 36)), (4, gI v89), (5, gI v75)]) [2, 3, 4, 5, 6, 7] rfl ?_
                              exact j127 1 (by omega) hT
                            · replace hT := hT.trans (if_neg h126)
                              refine k_icmp_ge_t (pc := 204) (tgt := 211) E (by omega) (by omega) dX7_reckon_204 (by decide) h126 ?_
                              refine k_iconst (pc := 211) E dX7_reckon_211 ?_
                              refine k_lv (lv' := [(0, .ref (a 1)), (1, gI x0), (2, gI x1), (3, .ref (a 36)), (4, gI v89), (5, gI v75)]) [2, 3, 4, 5, 6, 7] rfl ?_
                              exact j127 0 (by omega) hT
                          · replace hT := hT.trans (if_neg h100)
                            by_cases h101 : (s76 (19 + x0.toNat) v75) = -8
                            · replace hT := hT.trans (if_pos h101)
                              refine k_tabIn (pc := 109) (tgt := 180) E dX7_reckon_109 (by omega) (by omega) (by omega) (by rw [h101]; rfl) (by decide) ?_
                              refine k_iload (pc := 180) E 1 dX7_reckon_180 rfl ?_
                              obtain ⟨j132c, hj132c, hT⟩ := gjx hT
                              have j132 : (True) → z107 = j132c  → gK D vwCl (wdX a cI cJ cS cT) lgX A p l e { frames := 1, cells := 0, slots := 0, locals := 64 } s m args below meth c 9 (gQQ D vwCl (wdX a cI cJ cS cT) lgX A kI in32 below args s) (f_X7_reckon x0 x1 s0) s76 194 [(0, .ref (a 1)), (1, gI x0), (2, gI x1), (3, .ref (a 36)), (4, gI v89), (5, gI v75)] [] := by
                                intro  hq hT
                                rw [hj132c] at hT
                                refine k_iconst (pc := 194) E dX7_reckon_194 ?_
                                refine k_istore (pc := 195) (lv' := [(7, gI 0), (0, .ref (a 1)), (1, gI x0), (2, gI x1), (3, .ref (a 36)), (4, gI v89), (5, gI v75)]) E dX7_reckon_195 (by decide) rfl ?_
                                refine k_goto (pc := 197) (tgt := 305) E dX7_reckon_197 (by decide) ?_
                                refine k_lv (lv' := [(0, .ref (a 1)), (1, gI x0), (2, gI x1), (3, .ref (a 36)), (4, gI v89), (5, gI v75), (7, gI 0)]) [1, 2, 3, 4, 5, 6, 0] rfl ?_
                                exact j103 0 (by omega) hT
                              by_cases h131 : (s76 32 (v89 - 1)) = 0
                              · replace hT := hT.trans (if_pos h131)
                                refine k_if_eq_t (pc := 182) (tgt := 194) E (by omega) dX7_reckon_182 (by decide) h131 ?_
                                refine k_lv (lv' := [(0, .ref (a 1)), (1, gI x0), (2, gI x1), (3, .ref (a 36)), (4, gI v89), (5, gI v75)]) [2, 3, 4, 5, 6, 7] rfl ?_
                                exact j132  trivial hT
                              · replace hT := hT.trans (if_neg h131)
                                refine k_if_eq_f (pc := 182) (tgt := 194) E (by omega) dX7_reckon_182 (by decide) h131 ?_
                                refine k_iload (pc := 185) E 0 dX7_reckon_185 rfl ?_
                                by_cases h133 : (s76 32 v89) = 0
                                · replace hT := hT.trans (if_pos h133)
                                  refine k_if_eq_t (pc := 187) (tgt := 194) E (by omega) dX7_reckon_187 (by decide) h133 ?_
                                  refine k_lv (lv' := [(0, .ref (a 1)), (1, gI x0), (2, gI x1), (3, .ref (a 36)), (4, gI v89), (5, gI v75)]) [2, 3, 4, 5, 6, 7] rfl ?_
                                  exact j132  trivial hT
                                · replace hT := hT.trans (if_neg h133)
                                  refine k_if_eq_f (pc := 187) (tgt := 194) E (by omega) dX7_reckon_187 (by decide) h133 ?_
                                  refine k_iconst (pc := 190) E dX7_reckon_190 ?_
                                  refine k_goto (pc := 191) (tgt := 195) E dX7_reckon_191 (by decide) ?_
                                  refine k_istore (pc := 195) (lv' := [(7, gI 1), (8, gI (s76 32 v89)), (0, .ref (a 1)), (1, gI x0), (2, gI x1), (3, .ref (a 36)), (4, gI v89), (5, gI v75), (6, gI (s76 (19 + x0.toNat) v75))]) E dX7_reckon_195 (by decide) rfl ?_
                                  refine k_goto (pc := 197) (tgt := 305) E dX7_reckon_197 (by decide) ?_
                                  refine k_lv (lv' := [(0, .ref (a 1)), (1, gI x0), (2, gI x1), (3, .ref (a 36)), (4, gI v89), (5, gI v75), (7, gI 1)]) [2, 3, 4, 5, 6, 7, 0] rfl ?_
                                  exact j103 1 (by omega) hT
                            · replace hT := hT.trans (if_neg h101)
                              by_cases h102 : (s76 (19 + x0.toNat) v75) = -7
                              · replace hT := hT.trans (if_pos h102)
                                refine k_tabIn (pc := 109) (tgt := 160) E dX7_reckon_109 (by omega) (by omega) (by omega) (by rw [h102]; rfl) (by decide) ?_
                                refine k_iload (pc := 160) E 1 dX7_reckon_160 rfl ?_
                                obtain ⟨j135c, hj135c, hT⟩ := gjx hT
                                have j135 : (True) → z107 = j135c  → gK D vwCl (wdX a cI cJ cS cT) lgX A p l e { frames := 1, cells := 0, slots := 0, locals := 64 } s m args below meth c 9 (gQQ D vwCl (wdX a cI cJ cS cT) lgX A kI in32 below args s) (f_X7_reckon x0 x1 s0) s76 170 [(0, .ref (a 1)), (1, gI x0), (2, gI x1), (3, .ref (a 36)), (4, gI v89), (5, gI v75)] [] := by
                                  intro  hq hT
                                  rw [hj135c] at hT
                                  refine k_iconst (pc := 170) E dX7_reckon_170 ?_
                                  refine k_goto (pc := 171) (tgt := 175) E dX7_reckon_171 (by decide) ?_
                                  refine k_istore (pc := 175) (lv' := [(7, gI 1), (0, .ref (a 1)), (1, gI x0), (2, gI x1), (3, .ref (a 36)), (4, gI v89), (5, gI v75)]) E dX7_reckon_175 (by decide) rfl ?_
                                  refine k_goto (pc := 177) (tgt := 305) E dX7_reckon_177 (by decide) ?_
                                  refine k_lv (lv' := [(0, .ref (a 1)), (1, gI x0), (2, gI x1), (3, .ref (a 36)), (4, gI v89), (5, gI v75), (7, gI 1)]) [1, 2, 3, 4, 5, 6, 0] rfl ?_
                                  exact j103 1 (by omega) hT
                                by_cases h134 : (s76 32 (v89 - 1)) = 0
                                · replace hT := hT.trans (if_pos h134)
                                  refine k_if_ne_f (pc := 162) (tgt := 170) E (by omega) dX7_reckon_162 (by decide) h134 ?_
                                  refine k_iload (pc := 165) E 0 dX7_reckon_165 rfl ?_
                                  by_cases h136 : (s76 32 v89) = 0
                                  · replace hT := hT.trans (if_pos h136)
                                    refine k_if_eq_t (pc := 167) (tgt := 174) E (by omega) dX7_reckon_167 (by decide) h136 ?_
                                    refine k_iconst (pc := 174) E dX7_reckon_174 ?_
                                    refine k_istore (pc := 175) (lv' := [(7, gI 0), (8, gI (s76 32 v89)), (0, .ref (a 1)), (1, gI x0), (2, gI x1), (3, .ref (a 36)), (4, gI v89), (5, gI v75), (6, gI (s76 (19 + x0.toNat) v75))]) E dX7_reckon_175 (by decide) rfl ?_
                                    refine k_goto (pc := 177) (tgt := 305) E dX7_reckon_177 (by decide) ?_
                                    refine k_lv (lv' := [(0, .ref (a 1)), (1, gI x0), (2, gI x1), (3, .ref (a 36)), (4, gI v89), (5, gI v75), (7, gI 0)]) [2, 3, 4, 5, 6, 7, 0] rfl ?_
                                    exact j103 0 (by omega) hT
                                  · replace hT := hT.trans (if_neg h136)
                                    refine k_if_eq_f (pc := 167) (tgt := 174) E (by omega) dX7_reckon_167 (by decide) h136 ?_
                                    refine k_lv (lv' := [(0, .ref (a 1)), (1, gI x0), (2, gI x1), (3, .ref (a 36)), (4, gI v89), (5, gI v75)]) [2, 3, 4, 5, 6, 7] rfl ?_
                                    exact j135  trivial hT
                                · replace hT := hT.trans (if_neg h134)
                                  refine k_if_ne_t (pc := 162) (tgt := 170) E (by omega) dX7_reckon_162 (by decide) h134 ?_
                                  refine k_lv (lv' := [(0, .ref (a 1)), (1, gI x0), (2, gI x1), (3, .ref (a 36)), (4, gI v89), (5, gI v75)]) [2, 3, 4, 5, 6, 7] rfl ?_
                                  exact j135  trivial hT
                              · replace hT := hT.trans (if_neg h102)
                                refine k_tabOut (pc := 109) (tgt := 287) E dX7_reckon_109 (by omega) (by omega) (by decide) ?_
                                refine k_iload (pc := 287) E 8 dX7_reckon_287 rfl ?_
                                obtain ⟨z141, hz141, hT⟩ := gl1x hT
                                have j138 : ∀ (v139 : Int), ((in32 v139)) → z141 = v139 → gK D vwCl (wdX a cI cJ cS cT) lgX A p l e { frames := 1, cells := 0, slots := 0, locals := 64 } s m args below meth c 9 (gQQ D vwCl (wdX a cI cJ cS cT) lgX A kI in32 below args s) (f_X7_reckon x0 x1 s0) s76 303 [(0, .ref (a 1)), (1, gI x0), (2, gI x1), (3, .ref (a 36)), (4, gI v89), (5, gI v75)] [gI v139] := by
                                  intro v139 hq hz
                                  have hq140 := hq
                                  replace hT := gl1y hT hz
                                  refine k_istore (pc := 303) (lv' := [(7, gI v139), (0, .ref (a 1)), (1, gI x0), (2, gI x1), (3, .ref (a 36)), (4, gI v89), (5, gI v75)]) E dX7_reckon_303 (by decide) rfl ?_
                                  refine k_lv (lv' := [(0, .ref (a 1)), (1, gI x0), (2, gI x1), (3, .ref (a 36)), (4, gI v89), (5, gI v75), (7, gI v139)]) [1, 2, 3, 4, 5, 6, 0] rfl ?_
                                  exact j103 v139 (by omega) hT
                                replace hT := hz141
                                by_cases h137 : (s76 (19 + x0.toNat) v75) < 0
                                · replace hT := hT.trans (if_pos h137)
                                  refine k_if_lt_t (pc := 289) (tgt := 297) E (by omega) dX7_reckon_289 (by decide) h137 ?_
                                  refine k_aloadn (pc := 297) E 5 dX7_reckon_297 rfl rfl ?_
                                  refine k_iconst (pc := 298) E dX7_reckon_298 ?_
                                  refine k_iload (pc := 299) E 8 dX7_reckon_299 rfl ?_
                                  refine k_isub (pc := 301) E dX7_reckon_301 ?_
                                  refine k_iaload (pc := 302) (q0 := 36) (t0 := 0) (k := 36) (n := 6) E rfl rfl rfl (by decide) (by omega) (by omega) dX7_reckon_302 (fun hr142 => ?_)
                                  refine k_lv (lv' := [(0, .ref (a 1)), (1, gI x0), (2, gI x1), (3, .ref (a 36)), (4, gI v89), (5, gI v75)]) [2, 3, 4, 5, 6, 7] rfl ?_
                                  exact j138 (s76 36 ((-1) - (s76 (19 + x0.toNat) v75))) (by omega) hT
                                · replace hT := hT.trans (if_neg h137)
                                  refine k_if_lt_f (pc := 289) (tgt := 297) E (by omega) dX7_reckon_289 (by decide) h137 ?_
                                  refine k_iload (pc := 292) E 8 dX7_reckon_292 rfl ?_
                                  refine k_goto (pc := 294) (tgt := 303) E dX7_reckon_294 (by decide) ?_
                                  refine k_lv (lv' := [(0, .ref (a 1)), (1, gI x0), (2, gI x1), (3, .ref (a 36)), (4, gI v89), (5, gI v75)]) [2, 3, 4, 5, 6, 7] rfl ?_
                                  exact j138 (s76 (19 + x0.toNat) v75) (by omega) hT
            · replace hT := hT.trans (if_neg h91)
              refine k_icmp_lt_f (pc := 82) (tgt := 87) E (by omega) (by omega) dX7_reckon_82 (by decide) h91 ?_
              refine k_iconst (pc := 85) E dX7_reckon_85 ?_
              exact k_rho hT (k_iret (pc := 86) E dX7_reckon_86 (by omega))
        replace hT := hz145
        by_cases h87 : (-7) < (s76 (19 + x0.toNat) v75)
        · replace hT := hT.trans (if_pos h87)
          refine k_icmp_le_f (pc := 43) (tgt := 52) E (by omega) (by omega) dX7_reckon_43 (by decide) h87 ?_
          refine k_iinc (pc := 46) (lv' := [(4, gI (v74 + 1)), (6, gI (s76 (19 + x0.toNat) v75)), (0, .ref (a 1)), (1, gI x0), (2, gI x1), (3, .ref (a 36)), (5, gI v75)]) E 5 dX7_reckon_46 rfl (by decide) rfl ?_
          refine k_goto (pc := 49) (tgt := 69) E dX7_reckon_49 (by decide) ?_
          refine k_lv (lv' := [(0, .ref (a 1)), (1, gI x0), (2, gI x1), (3, .ref (a 36)), (4, gI (v74 + 1)), (5, gI v75), (6, gI (s76 (19 + x0.toNat) v75))]) [2, 3, 4, 5, 0, 6, 1] rfl ?_
          exact j88 (v74 + 1) ⟨(by omega), (by first | assumption | omega)⟩ hT
        · replace hT := hT.trans (if_neg h87)
          refine k_icmp_le_t (pc := 43) (tgt := 52) E (by omega) (by omega) dX7_reckon_43 (by decide) h87 ?_
          refine k_iload (pc := 52) E 0 dX7_reckon_52 rfl ?_
          refine k_bipush (pc := 54) E dX7_reckon_54 (by decide) ?_
          by_cases h146 : (s76 (19 + x0.toNat) v75) = (-14)
          · replace hT := hT.trans (if_pos h146)
            refine k_icmp_eq_t (pc := 56) (tgt := 69) E (by omega) (by omega) dX7_reckon_56 (by decide) h146 ?_
            refine k_lv (lv' := [(0, .ref (a 1)), (1, gI x0), (2, gI x1), (3, .ref (a 36)), (4, gI v74), (5, gI v75), (6, gI (s76 (19 + x0.toNat) v75))]) [1, 2, 3, 4, 5, 6, 0] rfl ?_
            exact j88 v74 ⟨(by omega), (by first | assumption | omega)⟩ hT
          · replace hT := hT.trans (if_neg h146)
            refine k_icmp_eq_f (pc := 56) (tgt := 69) E (by omega) (by omega) dX7_reckon_56 (by decide) h146 ?_
            refine k_iload (pc := 59) E 0 dX7_reckon_59 rfl ?_
            refine k_bipush (pc := 61) E dX7_reckon_61 (by decide) ?_
            by_cases h147 : (s76 (19 + x0.toNat) v75) = (-15)
            · replace hT := hT.trans (if_pos h147)
              refine k_icmp_eq_t (pc := 63) (tgt := 69) E (by omega) (by omega) dX7_reckon_63 (by decide) h147 ?_
              refine k_lv (lv' := [(0, .ref (a 1)), (1, gI x0), (2, gI x1), (3, .ref (a 36)), (4, gI v74), (5, gI v75), (6, gI (s76 (19 + x0.toNat) v75))]) [1, 2, 3, 4, 5, 6, 0] rfl ?_
              exact j88 v74 ⟨(by omega), (by first | assumption | omega)⟩ hT
            · replace hT := hT.trans (if_neg h147)
              refine k_icmp_eq_f (pc := 63) (tgt := 69) E (by omega) (by omega) dX7_reckon_63 (by decide) h147 ?_
              refine k_iinc (pc := 66) (lv' := [(4, gI (v74 + (-1))), (6, gI (s76 (19 + x0.toNat) v75)), (0, .ref (a 1)), (1, gI x0), (2, gI x1), (3, .ref (a 36)), (5, gI v75)]) E 5 dX7_reckon_66 rfl (by decide) rfl ?_
              refine k_lv (lv' := [(0, .ref (a 1)), (1, gI x0), (2, gI x1), (3, .ref (a 36)), (4, gI (v74 + (-1))), (5, gI v75), (6, gI (s76 (19 + x0.toNat) v75))]) [2, 3, 4, 5, 0, 6, 1] rfl ?_
              exact j88 (v74 + (-1)) ⟨(by omega), (by first | assumption | omega)⟩ hT
      · replace hT := hT.trans (if_neg h84)
        refine k_icmp_ge_t (pc := 25) (tgt := 322) E (by omega) (by omega) dX7_reckon_25 (by decide) h84 ?_
        refine k_aloadn (pc := 322) E 0 dX7_reckon_322 rfl rfl ?_
        refine k_getf (pc := 323) (q0 := 1) (f := 2) (v := .ref (a 32)) E inX7 rfl rfl (by decide) wm_37 rfl rfl dX7_reckon_323 ?_
        refine k_iconst (pc := 326) E dX7_reckon_326 ?_
        refine k_iaload (pc := 327) (q0 := 32) (t0 := 0) (k := 32) (n := 161) E rfl rfl rfl (by decide) (by omega) (by omega) dX7_reckon_327 (fun hr148 => ?_)
        exact k_rho hT (k_iret (pc := 328) E dX7_reckon_328 (by omega))
  refine k_lv (lv' := [(0, .ref (a 1)), (1, gI x0), (2, gI x1), (3, .ref (a 36)), (4, gI 0), (5, gI (s0 (26 + x0.toNat) x1))]) [2, 3, 4, 5, 1, 0] rfl ?_
  exact L77 161 0 (s0 (26 + x0.toNat) x1) s0 ⟨(by omega), (by omega), hf_s0, (by first | assumption | omega), (by first | assumption | omega)⟩ (by omega) hT

def f_X4_bounded (x0 : Int) (x1 : Int) : Int := (if x0 < x1 then x1 else (if 99 < x0 then 99 else x0))
theorem f_X4_bounded_e (x0 : Int) (x1 : Int) : f_X4_bounded x0 x1 = (if x0 < x1 then x1 else (if 99 < x0 then 99 else x0)) := rfl
set_option maxRecDepth 100000 in
set_option maxHeartbeats 4000000 in
theorem f_X4_bounded_p (x0 : Int) (x1 : Int) (hx0 : in32 x0) (hx1 : in32 x1) (hpre0 : 0 ≤ x1 ∧ x1 ≤ 99) : (in32 (f_X4_bounded x0 x1)) ∧ (x1 ≤ (f_X4_bounded x0 x1) ∧ (f_X4_bounded x0 x1) ≤ 99) ∧ ((x0 < x1 ∧ (f_X4_bounded x0 x1) = x1) ∨ (x1 ≤ x0 ∧ 99 < x0 ∧ (f_X4_bounded x0 x1) = 99) ∨ (x1 ≤ x0 ∧ x0 ≤ 99 ∧ (f_X4_bounded x0 x1) = x0)) := by
  have hT := f_X4_bounded_e x0 x1
  by_cases h1 : x0 < x1
  · replace hT := hT.trans (if_pos h1)
    rw [hT]
    exact ⟨(by omega), (by first | assumption | omega), (by first | assumption | omega)⟩
  · replace hT := hT.trans (if_neg h1)
    by_cases h2 : 99 < x0
    · replace hT := hT.trans (if_pos h2)
      rw [hT]
      exact ⟨(by omega), (by first | assumption | omega), (by first | assumption | omega)⟩
    · replace hT := hT.trans (if_neg h2)
      rw [hT]
      exact ⟨(by omega), (by first | assumption | omega), (by first | assumption | omega)⟩
set_option maxRecDepth 100000 in
set_option maxHeartbeats 4000000 in
theorem c_X4_bounded (l : Launch) (D : va_G) (a : Nat → Nat) (cI cJ cS cT : ClassId) (s0 : gMem) (x0 : Int) (x1 : Int) (hx0 : in32 x0) (hx1 : in32 x1) (hpre0 : 0 ≤ x1 ∧ x1 ≤ 99) : gC l yX4_bounded cX4_bounded 2 (some .int) 1 64 D vwCl (gT cI cJ cS cT) (wdX a cI cJ cS cT) lgX kI in32 [gI x0, gI x1] s0 ((f_X4_bounded x0 x1), s0) := by
  refine gC_of (by decide +kernel) (hwdX a cI cJ cS cT) (Nat.le_of_ble_eq_true rfl) ?_
  intro A p e R s m args below meth c hR E
  subst hR
  have hT := f_X4_bounded_e x0 x1
  refine k_lv0 (lv' := [(0, gI x0), (1, gI x1)]) rfl ?_
  refine k_iloadn (pc := 0) E 0 dX4_bounded_0 rfl rfl ?_
  refine k_iloadn (pc := 1) E 1 dX4_bounded_1 rfl rfl ?_
  by_cases h1 : x0 < x1
  · replace hT := hT.trans (if_pos h1)
    refine k_icmp_ge_f (pc := 2) (tgt := 9) E (by omega) (by omega) dX4_bounded_2 (by decide) h1 ?_
    refine k_iloadn (pc := 5) E 1 dX4_bounded_5 rfl rfl ?_
    refine k_goto (pc := 6) (tgt := 21) E dX4_bounded_6 (by decide) ?_
    exact k_rho (congrArg (fun q => (q, s0)) hT) (k_iret (pc := 21) E dX4_bounded_21 (by omega))
  · replace hT := hT.trans (if_neg h1)
    refine k_icmp_ge_t (pc := 2) (tgt := 9) E (by omega) (by omega) dX4_bounded_2 (by decide) h1 ?_
    refine k_iloadn (pc := 9) E 0 dX4_bounded_9 rfl rfl ?_
    refine k_bipush (pc := 10) E dX4_bounded_10 (by decide) ?_
    by_cases h2 : 99 < x0
    · replace hT := hT.trans (if_pos h2)
      refine k_icmp_le_f (pc := 12) (tgt := 20) E (by omega) (by omega) dX4_bounded_12 (by decide) h2 ?_
      refine k_bipush (pc := 15) E dX4_bounded_15 (by decide) ?_
      refine k_goto (pc := 17) (tgt := 21) E dX4_bounded_17 (by decide) ?_
      exact k_rho (congrArg (fun q => (q, s0)) hT) (k_iret (pc := 21) E dX4_bounded_21 (by omega))
    · replace hT := hT.trans (if_neg h2)
      refine k_icmp_le_t (pc := 12) (tgt := 20) E (by omega) (by omega) dX4_bounded_12 (by decide) h2 ?_
      refine k_iloadn (pc := 20) E 0 dX4_bounded_20 rfl rfl ?_
      exact k_rho (congrArg (fun q => (q, s0)) hT) (k_iret (pc := 21) E dX4_bounded_21 (by omega))

def f_X4_says (x0 : Int) (x1 : Int) (x2 : Int) (s0 : gMem) : gRes := gl (mset s0 36 0 x1) (fun s1 => gl (mset s1 36 1 (s1 41 x1)) (fun s3 => gl (mset s3 36 2 x2) (fun s4 => gl (f_J6_bitCount_0f7a4 (s4 59 0)) (fun v8 => gl (mset s4 36 3 v8) (fun s9 => gl (mset s9 36 4 (s9 61 0)) (fun s11 => gl (mset s11 36 5 (s11 62 0)) (fun s13 => gb (f_X7_reckon (s13 63 0) x0 s13) (fun r17 s18 => (gl ((if x0 = 0 then 0 else 1)) (fun v23 => ((f_X4_bounded r17 v23), s18)))))))))))
theorem f_X4_says_e (x0 : Int) (x1 : Int) (x2 : Int) (s0 : gMem) : f_X4_says x0 x1 x2 s0 = gl (mset s0 36 0 x1) (fun s1 => gl (mset s1 36 1 (s1 41 x1)) (fun s3 => gl (mset s3 36 2 x2) (fun s4 => gl (f_J6_bitCount_0f7a4 (s4 59 0)) (fun v8 => gl (mset s4 36 3 v8) (fun s9 => gl (mset s9 36 4 (s9 61 0)) (fun s11 => gl (mset s11 36 5 (s11 62 0)) (fun s13 => gb (f_X7_reckon (s13 63 0) x0 s13) (fun r17 s18 => (gl ((if x0 = 0 then 0 else 1)) (fun v23 => ((f_X4_bounded r17 v23), s18))))))))))) := rfl
set_option maxRecDepth 100000 in
set_option maxHeartbeats 4000000 in
theorem f_X4_says_p (x0 : Int) (x1 : Int) (x2 : Int) (s0 : gMem) (hx0 : in32 x0) (hx1 : in32 x1) (hx2 : in32 x2) (hm_s0 : gMR lgX s0) (hpre0 : CD s0) (hpre1 : BG s0) (hpre2 : LA s0) (hpre3 : 0 ≤ x0 ∧ x0 ≤ 2) (hpre4 : 0 ≤ x1 ∧ x1 ≤ 15) (rZ : Int) (sZ : gMem) (hres : f_X4_says x0 x1 x2 s0 = (rZ, sZ)) : (fr [32, 36] s0 sZ) ∧ (gMR lgX sZ) ∧ (in32 rZ) ∧ (0 ≤ rZ ∧ rZ ≤ 99) := by
  have hT := f_X4_says_e x0 x1 x2 s0
  have hf_s0 : fr [32, 36] s0 s0 := fr.rf _ _
  obtain ⟨s1, hs1, hT⟩ := glx hT
  have hf_s1 : fr [32, 36] s0 s1 := hs1 ▸ hf_s0.set (by decide)
  have hm_s1 : gMR lgX s1 := hs1 ▸ hm_s0.set32 rfl (by omega)
  have hr2 := (hm_s1 41 x1).1 rfl
  obtain ⟨s3, hs3, hT⟩ := glx hT
  have hf_s3 : fr [32, 36] s0 s3 := hs3 ▸ hf_s1.set (by decide)
  have hm_s3 : gMR lgX s3 := hs3 ▸ hm_s1.set32 rfl (by omega)
  obtain ⟨s4, hs4, hT⟩ := glx hT
  have hf_s4 : fr [32, 36] s0 s4 := hs4 ▸ hf_s3.set (by decide)
  have hm_s4 : gMR lgX s4 := hs4 ▸ hm_s3.set32 rfl (by omega)
  have hr5 := (hm_s4 59 0).1 rfl
  have hp7 := f_J6_bitCount_0f7a4_p (s4 59 0) (by omega) 
  obtain ⟨v8, hv8, hT⟩ := glx hT
  rw [← hv8] at hp7
  clear hv8
  obtain ⟨s9, hs9, hT⟩ := glx hT
  have hf_s9 : fr [32, 36] s0 s9 := hs9 ▸ hf_s4.set (by decide)
  have hm_s9 : gMR lgX s9 := hs9 ▸ hm_s4.set32 rfl (by omega)
  have hr10 := (hm_s9 61 0).1 rfl
  obtain ⟨s11, hs11, hT⟩ := glx hT
  have hf_s11 : fr [32, 36] s0 s11 := hs11 ▸ hf_s9.set (by decide)
  have hm_s11 : gMR lgX s11 := hs11 ▸ hm_s9.set32 rfl (by omega)
  have hr12 := (hm_s11 62 0).1 rfl
  obtain ⟨s13, hs13, hT⟩ := glx hT
  have hf_s13 : fr [32, 36] s0 s13 := hs13 ▸ hf_s11.set (by decide)
  have hm_s13 : gMR lgX s13 := hs13 ▸ hm_s11.set32 rfl (by omega)
  have hr14 := (hm_s13 63 0).1 rfl
  have hi15 := (LA_fr hpre2 (fun k hk => hf_s13 k (dj (by decide) k hk))) 0
  obtain ⟨r17, s18, hs18⟩ : ∃ rr ss, (f_X7_reckon (s13 63 0) x0 s13) = (rr, ss) := ⟨_, _, rfl⟩
  replace hT := gby hT hs18
  have hp19 := f_X7_reckon_p (s13 63 0) x0 s13 (by omega) (by omega) hm_s13 (CD_fr hpre0 (fun k hk => hf_s13 k (dj (by decide) k hk))) (BG_fr hpre1 (fun k hk => hf_s13 k (dj (by decide) k hk))) (by first | assumption | omega) (by first | assumption | omega) r17 s18 hs18
  obtain ⟨hfc_s18, hm_s18, hp20⟩ := hp19
  have hf_s18 : fr [32, 36] s0 s18 := hf_s13.call (by decide) hfc_s18
  obtain ⟨z27, hz27, hT⟩ := gl1x hT
  have j22 : ∀ (v23 : Int), ((in32 v23)) → z27 = v23 → (fr [32, 36] s0 sZ) ∧ (gMR lgX sZ) ∧ (in32 rZ) ∧ (0 ≤ rZ ∧ rZ ≤ 99) := by
    intro v23 hq hz
    have hq26 := hq
    replace hT := gl1y hT hz
    have hp25 := f_X4_bounded_p r17 v23 (by omega) (by omega) (by first | assumption | omega)
    obtain ⟨rfl, rfl⟩ := Prod.mk.inj (hT.symm.trans hres)
    exact ⟨hf_s18, hm_s18, (by omega), (by first | assumption | omega)⟩
  replace hT := hz27
  by_cases h21 : x0 = 0
  · replace hT := hT.trans (if_pos h21)
    exact j22 0 (by omega) hT
  · replace hT := hT.trans (if_neg h21)
    exact j22 1 (by omega) hT
set_option maxRecDepth 100000 in
set_option maxHeartbeats 4000000 in
theorem c_X4_says (l : Launch) (D : va_G) (a : Nat → Nat) (cI cJ cS cT : ClassId) (s0 : gMem) (x0 : Int) (x1 : Int) (x2 : Int) (hx0 : in32 x0) (hx1 : in32 x1) (hx2 : in32 x2) (hpre0 : CD s0) (hpre1 : BG s0) (hpre2 : LA s0) (hpre3 : 0 ≤ x0 ∧ x0 ≤ 2) (hpre4 : 0 ≤ x1 ∧ x1 ≤ 15) : gC l yX4_says cX4_says 4 (some .int) 2 128 D vwCl (gT cI cJ cS cT) (wdX a cI cJ cS cT) lgX kI in32 [.ref (a 3), gI x0, gI x1, gI x2] s0 (f_X4_says x0 x1 x2 s0) := by
  refine gC_of (by decide +kernel) (hwdX a cI cJ cS cT) (Nat.le_of_ble_eq_true rfl) ?_
  intro A p e R s m args below meth c hR E
  subst hR
  have hT := f_X4_says_e x0 x1 x2 s0
  have hf_s0 : fr [32, 36] s0 s0 := fr.rf _ _
  refine k_lv0 (lv' := [(0, .ref (a 3)), (1, gI x0), (2, gI x1), (3, gI x2)]) rfl ?_
  refine k_mr (fun hm_s0 => ?_)
  refine k_aloadn (pc := 0) E 0 dX4_says_0 rfl rfl ?_
  refine k_getf (pc := 1) (q0 := 3) (f := 2) (v := .ref (a 36)) E inX4 rfl rfl (by decide) wm_151 rfl rfl dX4_says_1 ?_
  refine k_iconst (pc := 4) E dX4_says_4 ?_
  refine k_iloadn (pc := 5) E 2 dX4_says_5 rfl rfl ?_
  refine k_iastore (pc := 6) (q0 := 36) (t0 := 0) (k := 36) (n := 6) E rfl rfl rfl rfl (by decide) (by omega) (by omega) (by omega) dX4_says_6 ?_
  obtain ⟨s1, hs1, hT⟩ := glx hT
  refine k_sg hs1.symm ?_
  have hf_s1 : fr [32, 36] s0 s1 := hs1 ▸ hf_s0.set (by decide)
  refine k_aloadn (pc := 7) E 0 dX4_says_7 rfl rfl ?_
  refine k_getf (pc := 8) (q0 := 3) (f := 2) (v := .ref (a 36)) E inX4 rfl rfl (by decide) wm_151 rfl rfl dX4_says_8 ?_
  refine k_iconst (pc := 11) E dX4_says_11 ?_
  refine k_aloadn (pc := 12) E 0 dX4_says_12 rfl rfl ?_
  refine k_getf (pc := 13) (q0 := 3) (f := 0) (v := .ref (a 4)) E inX4 rfl rfl (by decide) wm_147 rfl rfl dX4_says_13 ?_
  refine k_getf (pc := 16) (q0 := 4) (f := 1) (v := .ref (a 41)) E inX6 rfl rfl (by decide) wm_106 rfl rfl dX4_says_16 ?_
  refine k_iloadn (pc := 19) E 2 dX4_says_19 rfl rfl ?_
  refine k_iaload (pc := 20) (q0 := 41) (t0 := 0) (k := 41) (n := 16) E rfl rfl rfl (by decide) (by omega) (by omega) dX4_says_20 (fun hr2 => ?_)
  refine k_iastore (pc := 21) (q0 := 36) (t0 := 0) (k := 36) (n := 6) E rfl rfl rfl rfl (by decide) (by omega) (by omega) (by omega) dX4_says_21 ?_
  obtain ⟨s3, hs3, hT⟩ := glx hT
  refine k_sg hs3.symm ?_
  have hf_s3 : fr [32, 36] s0 s3 := hs3 ▸ hf_s1.set (by decide)
  refine k_aloadn (pc := 22) E 0 dX4_says_22 rfl rfl ?_
  refine k_getf (pc := 23) (q0 := 3) (f := 2) (v := .ref (a 36)) E inX4 rfl rfl (by decide) wm_151 rfl rfl dX4_says_23 ?_
  refine k_iconst (pc := 26) E dX4_says_26 ?_
  refine k_iloadn (pc := 27) E 3 dX4_says_27 rfl rfl ?_
  refine k_iastore (pc := 28) (q0 := 36) (t0 := 0) (k := 36) (n := 6) E rfl rfl rfl rfl (by decide) (by omega) (by omega) (by omega) dX4_says_28 ?_
  obtain ⟨s4, hs4, hT⟩ := glx hT
  refine k_sg hs4.symm ?_
  have hf_s4 : fr [32, 36] s0 s4 := hs4 ▸ hf_s3.set (by decide)
  refine k_aloadn (pc := 29) E 0 dX4_says_29 rfl rfl ?_
  refine k_getf (pc := 30) (q0 := 3) (f := 2) (v := .ref (a 36)) E inX4 rfl rfl (by decide) wm_151 rfl rfl dX4_says_30 ?_
  refine k_iconst (pc := 33) E dX4_says_33 ?_
  refine k_aloadn (pc := 34) E 0 dX4_says_34 rfl rfl ?_
  refine k_getf (pc := 35) (q0 := 3) (f := 0) (v := .ref (a 4)) E inX4 rfl rfl (by decide) wm_147 rfl rfl dX4_says_35 ?_
  refine k_getfI (pc := 38) (q0 := 4) (f := 2) (k := 59) E inX6 rfl rfl (by decide) wm_110 rfl rfl rfl dX4_says_38 (fun hr5 => ?_)
  refine k_callS (pc := 41) (np := 1) (As := [gI (s4 59 0)]) (st := [gI 3, .ref (a 36)]) E (c_J6_bitCount_0f7a4 l D a cI cJ cS cT s4 (s4 59 0) (by omega)) wm_487 wm_17 wm_485 wm_486 (by decide +kernel) ⟨by decide, by decide⟩ rfl (Nat.le_of_ble_eq_true rfl) dX4_says_41 (ro_kk (fun hr6 => ?_))
  have hp7 := f_J6_bitCount_0f7a4_p (s4 59 0) (by omega) 
  obtain ⟨v8, hv8, hT⟩ := glx hT
  refine k_st (st' := [gI v8, gI 3, .ref (a 36)]) (by rw [hv8]; rfl) ?_
  rw [← hv8] at hr6 hp7
  clear hv8
  refine k_iastore (pc := 44) (q0 := 36) (t0 := 0) (k := 36) (n := 6) E rfl rfl rfl rfl (by decide) (by omega) (by omega) (by omega) dX4_says_44 ?_
  obtain ⟨s9, hs9, hT⟩ := glx hT
  refine k_sg hs9.symm ?_
  have hf_s9 : fr [32, 36] s0 s9 := hs9 ▸ hf_s4.set (by decide)
  refine k_aloadn (pc := 45) E 0 dX4_says_45 rfl rfl ?_
  refine k_getf (pc := 46) (q0 := 3) (f := 2) (v := .ref (a 36)) E inX4 rfl rfl (by decide) wm_151 rfl rfl dX4_says_46 ?_
  refine k_iconst (pc := 49) E dX4_says_49 ?_
  refine k_aloadn (pc := 50) E 0 dX4_says_50 rfl rfl ?_
  refine k_getf (pc := 51) (q0 := 3) (f := 0) (v := .ref (a 4)) E inX4 rfl rfl (by decide) wm_147 rfl rfl dX4_says_51 ?_
  refine k_getfI (pc := 54) (q0 := 4) (f := 4) (k := 61) E inX6 rfl rfl (by decide) wm_117 rfl rfl rfl dX4_says_54 (fun hr10 => ?_)
  refine k_iastore (pc := 57) (q0 := 36) (t0 := 0) (k := 36) (n := 6) E rfl rfl rfl rfl (by decide) (by omega) (by omega) (by omega) dX4_says_57 ?_
  obtain ⟨s11, hs11, hT⟩ := glx hT
  refine k_sg hs11.symm ?_
  have hf_s11 : fr [32, 36] s0 s11 := hs11 ▸ hf_s9.set (by decide)
  refine k_aloadn (pc := 58) E 0 dX4_says_58 rfl rfl ?_
  refine k_getf (pc := 59) (q0 := 3) (f := 2) (v := .ref (a 36)) E inX4 rfl rfl (by decide) wm_151 rfl rfl dX4_says_59 ?_
  refine k_iconst (pc := 62) E dX4_says_62 ?_
  refine k_aloadn (pc := 63) E 0 dX4_says_63 rfl rfl ?_
  refine k_getf (pc := 64) (q0 := 3) (f := 0) (v := .ref (a 4)) E inX4 rfl rfl (by decide) wm_147 rfl rfl dX4_says_64 ?_
  refine k_getfI (pc := 67) (q0 := 4) (f := 5) (k := 62) E inX6 rfl rfl (by decide) wm_121 rfl rfl rfl dX4_says_67 (fun hr12 => ?_)
  refine k_iastore (pc := 70) (q0 := 36) (t0 := 0) (k := 36) (n := 6) E rfl rfl rfl rfl (by decide) (by omega) (by omega) (by omega) dX4_says_70 ?_
  obtain ⟨s13, hs13, hT⟩ := glx hT
  refine k_sg hs13.symm ?_
  have hf_s13 : fr [32, 36] s0 s13 := hs13 ▸ hf_s11.set (by decide)
  refine k_aloadn (pc := 71) E 0 dX4_says_71 rfl rfl ?_
  refine k_getf (pc := 72) (q0 := 3) (f := 1) (v := .ref (a 1)) E inX4 rfl rfl (by decide) wm_150 rfl rfl dX4_says_72 ?_
  refine k_aloadn (pc := 75) E 0 dX4_says_75 rfl rfl ?_
  refine k_getf (pc := 76) (q0 := 3) (f := 0) (v := .ref (a 4)) E inX4 rfl rfl (by decide) wm_147 rfl rfl dX4_says_76 ?_
  refine k_getfI (pc := 79) (q0 := 4) (f := 6) (k := 63) E inX6 rfl rfl (by decide) wm_124 rfl rfl rfl dX4_says_79 (fun hr14 => ?_)
  have hi15 := (LA_fr hpre2 (fun k hk => hf_s13 k (dj (by decide) k hk))) 0
  refine k_iloadn (pc := 82) E 1 dX4_says_82 rfl rfl ?_
  refine k_aloadn (pc := 83) E 0 dX4_says_83 rfl rfl ?_
  refine k_getf (pc := 84) (q0 := 3) (f := 2) (v := .ref (a 36)) E inX4 rfl rfl (by decide) wm_151 rfl rfl dX4_says_84 ?_
  refine k_mr (fun hm_s13 => ?_)
  refine k_callV (pc := 87) (np := 3) (As := [gI (s13 63 0), gI x0, .ref (a 36)]) (st := []) (q0 := 1) E (c_X7_reckon l D a cI cJ cS cT s13 (s13 63 0) x0 (by omega) (by omega) (CD_fr hpre0 (fun k hk => hf_s13 k (dj (by decide) k hk))) (BG_fr hpre1 (fun k hk => hf_s13 k (dj (by decide) k hk))) (by first | assumption | omega) (by first | assumption | omega)) wm_494 wm_2 wm_491 wm_492 wm_493 (by decide +kernel) rfl rfl ⟨by decide, by decide⟩ rfl (Nat.le_of_ble_eq_true rfl) dX4_says_87 (fun r17 s18 hs18 hr16 => ?_)
  replace hT := gby hT hs18
  have hp19 := f_X7_reckon_p (s13 63 0) x0 s13 (by omega) (by omega) hm_s13 (CD_fr hpre0 (fun k hk => hf_s13 k (dj (by decide) k hk))) (BG_fr hpre1 (fun k hk => hf_s13 k (dj (by decide) k hk))) (by first | assumption | omega) (by first | assumption | omega) r17 s18 hs18
  obtain ⟨hfc_s18, hm_s18, hp20⟩ := hp19
  have hf_s18 : fr [32, 36] s0 s18 := hf_s13.call (by decide) hfc_s18
  refine k_st (st' := [gI r17]) rfl ?_
  refine k_iloadn (pc := 90) E 1 dX4_says_90 rfl rfl ?_
  obtain ⟨z27, hz27, hT⟩ := gl1x hT
  have j22 : ∀ (v23 : Int), ((in32 v23)) → z27 = v23 → gK D vwCl (wdX a cI cJ cS cT) lgX A p l e { frames := 2, cells := 0, slots := 0, locals := 128 } s m args below meth c 4 (gQQ D vwCl (wdX a cI cJ cS cT) lgX A kI in32 below args s) (f_X4_says x0 x1 x2 s0) s18 99 [] [gI v23, gI r17] := by
    intro v23 hq hz
    have hq26 := hq
    replace hT := gl1y hT hz
    refine k_mr (fun hm_s18 => ?_)
    refine k_callS (pc := 99) (np := 2) (As := [gI r17, gI v23]) (st := []) E (c_X4_bounded l D a cI cJ cS cT s18 r17 v23 (by omega) (by omega) (by first | assumption | omega)) wm_497 wm_4 wm_495 wm_496 (by decide +kernel) ⟨by decide, by decide⟩ rfl (Nat.le_of_ble_eq_true rfl) dX4_says_99 (ro_kk (fun hr24 => ?_))
    have hp25 := f_X4_bounded_p r17 v23 (by omega) (by omega) (by first | assumption | omega)
    refine k_st (st' := [gI (f_X4_bounded r17 v23)]) rfl ?_
    exact k_rho hT (k_iret (pc := 102) E dX4_says_102 (by omega))
  replace hT := hz27
  by_cases h21 : x0 = 0
  · replace hT := hT.trans (if_pos h21)
    refine k_if_ne_f (pc := 91) (tgt := 98) E (by omega) dX4_says_91 (by decide) h21 ?_
    refine k_iconst (pc := 94) E dX4_says_94 ?_
    refine k_goto (pc := 95) (tgt := 99) E dX4_says_95 (by decide) ?_
    refine k_lv (lv' := []) [] rfl ?_
    exact j22 0 (by omega) hT
  · replace hT := hT.trans (if_neg h21)
    refine k_if_ne_t (pc := 91) (tgt := 98) E (by omega) dX4_says_91 (by decide) h21 ?_
    refine k_iconst (pc := 98) E dX4_says_98 ?_
    refine k_lv (lv' := []) [] rfl ?_
    exact j22 1 (by omega) hT

def f_X4_fallsByKind (x0 : Int) (x1 : Int) (x2 : Int) (s0 : gMem) : Int := (if (s0 40 x0) = 1 then (x1 + (s0 41 x0)) else (if (s0 40 x0) = 2 then (2 * x1) else (if (s0 40 x0) = 3 then ((x1 + (s0 41 x0)) + (x2 / 3)) else (if (s0 40 x0) = 4 then (2 * x1) else (if (s0 40 x0) = 5 then (x1 / ((s0 41 x0) + 2)) else x1)))))
theorem f_X4_fallsByKind_e (x0 : Int) (x1 : Int) (x2 : Int) (s0 : gMem) : f_X4_fallsByKind x0 x1 x2 s0 = (if (s0 40 x0) = 1 then (x1 + (s0 41 x0)) else (if (s0 40 x0) = 2 then (2 * x1) else (if (s0 40 x0) = 3 then ((x1 + (s0 41 x0)) + (x2 / 3)) else (if (s0 40 x0) = 4 then (2 * x1) else (if (s0 40 x0) = 5 then (x1 / ((s0 41 x0) + 2)) else x1))))) := rfl
set_option maxRecDepth 100000 in
set_option maxHeartbeats 4000000 in
theorem f_X4_fallsByKind_p (x0 : Int) (x1 : Int) (x2 : Int) (s0 : gMem) (hx0 : in32 x0) (hx1 : in32 x1) (hx2 : in32 x2) (hm_s0 : gMR lgX s0) (hpre0 : MOx s0) (hpre1 : 0 ≤ x0 ∧ x0 ≤ 15) (hpre2 : 0 ≤ x1 ∧ x1 ≤ 99) (hpre3 : 0 ≤ x2 ∧ x2 ≤ 16) : (in32 (f_X4_fallsByKind x0 x1 x2 s0)) ∧ (0 ≤ (f_X4_fallsByKind x0 x1 x2 s0) ∧ (f_X4_fallsByKind x0 x1 x2 s0) ≤ 198) := by
  have hT := f_X4_fallsByKind_e x0 x1 x2 s0
  have hr1 := (hm_s0 40 x0).1 rfl
  by_cases h2 : (s0 40 x0) = 1
  · replace hT := hT.trans (if_pos h2)
    have hr7 := (hm_s0 41 x0).1 rfl
    have hi8 := hpre0 x0
    rw [hT]
    exact ⟨(by omega), (by first | assumption | omega)⟩
  · replace hT := hT.trans (if_neg h2)
    by_cases h3 : (s0 40 x0) = 2
    · replace hT := hT.trans (if_pos h3)
      rw [hT]
      exact ⟨(by omega), (by first | assumption | omega)⟩
    · replace hT := hT.trans (if_neg h3)
      by_cases h4 : (s0 40 x0) = 3
      · replace hT := hT.trans (if_pos h4)
        have hr9 := (hm_s0 41 x0).1 rfl
        have hi10 := hpre0 x0
        have hd11 : (0 : Int) ≤ x2 := (by omega)
        have hd12 : (0 : Int) < 3 := (by omega)
        have hb13 := dv_rg hd11 hd12
        rw [hT]
        exact ⟨(by omega), (by first | assumption | omega)⟩
      · replace hT := hT.trans (if_neg h4)
        by_cases h5 : (s0 40 x0) = 4
        · replace hT := hT.trans (if_pos h5)
          rw [hT]
          exact ⟨(by omega), (by first | assumption | omega)⟩
        · replace hT := hT.trans (if_neg h5)
          by_cases h6 : (s0 40 x0) = 5
          · replace hT := hT.trans (if_pos h6)
            have hr14 := (hm_s0 41 x0).1 rfl
            have hi15 := hpre0 x0
            have hd16 : (0 : Int) ≤ x1 := (by omega)
            have hd17 : (0 : Int) < ((s0 41 x0) + 2) := (by omega)
            have hb18 := dv_rg hd16 hd17
            rw [hT]
            exact ⟨(by omega), (by first | assumption | omega)⟩
          · replace hT := hT.trans (if_neg h6)
            rw [hT]
            exact ⟨(by omega), (by first | assumption | omega)⟩
set_option maxRecDepth 100000 in
set_option maxHeartbeats 4000000 in
theorem c_X4_fallsByKind (l : Launch) (D : va_G) (a : Nat → Nat) (cI cJ cS cT : ClassId) (s0 : gMem) (x0 : Int) (x1 : Int) (x2 : Int) (hx0 : in32 x0) (hx1 : in32 x1) (hx2 : in32 x2) (hpre0 : MOx s0) (hpre1 : 0 ≤ x0 ∧ x0 ≤ 15) (hpre2 : 0 ≤ x1 ∧ x1 ≤ 99) (hpre3 : 0 ≤ x2 ∧ x2 ≤ 16) : gC l yX4_fallsByKind cX4_fallsByKind 4 (some .int) 1 64 D vwCl (gT cI cJ cS cT) (wdX a cI cJ cS cT) lgX kI in32 [.ref (a 3), gI x0, gI x1, gI x2] s0 ((f_X4_fallsByKind x0 x1 x2 s0), s0) := by
  refine gC_of (by decide +kernel) (hwdX a cI cJ cS cT) (Nat.le_of_ble_eq_true rfl) ?_
  intro A p e R s m args below meth c hR E
  subst hR
  have hT := f_X4_fallsByKind_e x0 x1 x2 s0
  refine k_lv0 (lv' := [(0, .ref (a 3)), (1, gI x0), (2, gI x1), (3, gI x2)]) rfl ?_
  refine k_mr (fun hm_s0 => ?_)
  refine k_aloadn (pc := 0) E 0 dX4_fallsByKind_0 rfl rfl ?_
  refine k_getf (pc := 1) (q0 := 3) (f := 0) (v := .ref (a 4)) E inX4 rfl rfl (by decide) wm_147 rfl rfl dX4_fallsByKind_1 ?_
  refine k_getf (pc := 4) (q0 := 4) (f := 0) (v := .ref (a 40)) E inX6 rfl rfl (by decide) wm_103 rfl rfl dX4_fallsByKind_4 ?_
  refine k_iloadn (pc := 7) E 1 dX4_fallsByKind_7 rfl rfl ?_
  refine k_iaload (pc := 8) (q0 := 40) (t0 := 0) (k := 40) (n := 16) E rfl rfl rfl (by decide) (by omega) (by omega) dX4_fallsByKind_8 (fun hr1 => ?_)
  by_cases h2 : (s0 40 x0) = 1
  · replace hT := hT.trans (if_pos h2)
    refine k_tabIn (pc := 9) (tgt := 44) E dX4_fallsByKind_9 (by omega) (by omega) (by omega) (by rw [h2]; rfl) (by decide) ?_
    refine k_iloadn (pc := 44) E 2 dX4_fallsByKind_44 rfl rfl ?_
    refine k_aloadn (pc := 45) E 0 dX4_fallsByKind_45 rfl rfl ?_
    refine k_getf (pc := 46) (q0 := 3) (f := 0) (v := .ref (a 4)) E inX4 rfl rfl (by decide) wm_147 rfl rfl dX4_fallsByKind_46 ?_
    refine k_getf (pc := 49) (q0 := 4) (f := 1) (v := .ref (a 41)) E inX6 rfl rfl (by decide) wm_106 rfl rfl dX4_fallsByKind_49 ?_
    refine k_iloadn (pc := 52) E 1 dX4_fallsByKind_52 rfl rfl ?_
    refine k_iaload (pc := 53) (q0 := 41) (t0 := 0) (k := 41) (n := 16) E rfl rfl rfl (by decide) (by omega) (by omega) dX4_fallsByKind_53 (fun hr7 => ?_)
    have hi8 := hpre0 x0
    refine k_iadd (pc := 54) E dX4_fallsByKind_54 ?_
    exact k_rho (congrArg (fun q => (q, s0)) hT) (k_iret (pc := 55) E dX4_fallsByKind_55 (by omega))
  · replace hT := hT.trans (if_neg h2)
    by_cases h3 : (s0 40 x0) = 2
    · replace hT := hT.trans (if_pos h3)
      refine k_tabIn (pc := 9) (tgt := 56) E dX4_fallsByKind_9 (by omega) (by omega) (by omega) (by rw [h3]; rfl) (by decide) ?_
      refine k_iconst (pc := 56) E dX4_fallsByKind_56 ?_
      refine k_iloadn (pc := 57) E 2 dX4_fallsByKind_57 rfl rfl ?_
      refine k_imul (pc := 58) E dX4_fallsByKind_58 ?_
      exact k_rho (congrArg (fun q => (q, s0)) hT) (k_iret (pc := 59) E dX4_fallsByKind_59 (by omega))
    · replace hT := hT.trans (if_neg h3)
      by_cases h4 : (s0 40 x0) = 3
      · replace hT := hT.trans (if_pos h4)
        refine k_tabIn (pc := 9) (tgt := 60) E dX4_fallsByKind_9 (by omega) (by omega) (by omega) (by rw [h4]; rfl) (by decide) ?_
        refine k_iloadn (pc := 60) E 2 dX4_fallsByKind_60 rfl rfl ?_
        refine k_aloadn (pc := 61) E 0 dX4_fallsByKind_61 rfl rfl ?_
        refine k_getf (pc := 62) (q0 := 3) (f := 0) (v := .ref (a 4)) E inX4 rfl rfl (by decide) wm_147 rfl rfl dX4_fallsByKind_62 ?_
        refine k_getf (pc := 65) (q0 := 4) (f := 1) (v := .ref (a 41)) E inX6 rfl rfl (by decide) wm_106 rfl rfl dX4_fallsByKind_65 ?_
        refine k_iloadn (pc := 68) E 1 dX4_fallsByKind_68 rfl rfl ?_
        refine k_iaload (pc := 69) (q0 := 41) (t0 := 0) (k := 41) (n := 16) E rfl rfl rfl (by decide) (by omega) (by omega) dX4_fallsByKind_69 (fun hr9 => ?_)
        have hi10 := hpre0 x0
        refine k_iadd (pc := 70) E dX4_fallsByKind_70 ?_
        refine k_iloadn (pc := 71) E 3 dX4_fallsByKind_71 rfl rfl ?_
        refine k_iconst (pc := 72) E dX4_fallsByKind_72 ?_
        have hd11 : (0 : Int) ≤ x2 := (by omega)
        have hd12 : (0 : Int) < 3 := (by omega)
        refine k_idivN (pc := 73) E (by omega) (by omega) hd11 hd12 dX4_fallsByKind_73 ?_
        have hb13 := dv_rg hd11 hd12
        refine k_iadd (pc := 74) E dX4_fallsByKind_74 ?_
        exact k_rho (congrArg (fun q => (q, s0)) hT) (k_iret (pc := 75) E dX4_fallsByKind_75 (by omega))
      · replace hT := hT.trans (if_neg h4)
        by_cases h5 : (s0 40 x0) = 4
        · replace hT := hT.trans (if_pos h5)
          refine k_tabIn (pc := 9) (tgt := 56) E dX4_fallsByKind_9 (by omega) (by omega) (by omega) (by rw [h5]; rfl) (by decide) ?_
          refine k_iconst (pc := 56) E dX4_fallsByKind_56 ?_
          refine k_iloadn (pc := 57) E 2 dX4_fallsByKind_57 rfl rfl ?_
          refine k_imul (pc := 58) E dX4_fallsByKind_58 ?_
          exact k_rho (congrArg (fun q => (q, s0)) hT) (k_iret (pc := 59) E dX4_fallsByKind_59 (by omega))
        · replace hT := hT.trans (if_neg h5)
          by_cases h6 : (s0 40 x0) = 5
          · replace hT := hT.trans (if_pos h6)
            refine k_tabIn (pc := 9) (tgt := 76) E dX4_fallsByKind_9 (by omega) (by omega) (by omega) (by rw [h6]; rfl) (by decide) ?_
            refine k_iloadn (pc := 76) E 2 dX4_fallsByKind_76 rfl rfl ?_
            refine k_aloadn (pc := 77) E 0 dX4_fallsByKind_77 rfl rfl ?_
            refine k_getf (pc := 78) (q0 := 3) (f := 0) (v := .ref (a 4)) E inX4 rfl rfl (by decide) wm_147 rfl rfl dX4_fallsByKind_78 ?_
            refine k_getf (pc := 81) (q0 := 4) (f := 1) (v := .ref (a 41)) E inX6 rfl rfl (by decide) wm_106 rfl rfl dX4_fallsByKind_81 ?_
            refine k_iloadn (pc := 84) E 1 dX4_fallsByKind_84 rfl rfl ?_
            refine k_iaload (pc := 85) (q0 := 41) (t0 := 0) (k := 41) (n := 16) E rfl rfl rfl (by decide) (by omega) (by omega) dX4_fallsByKind_85 (fun hr14 => ?_)
            have hi15 := hpre0 x0
            refine k_iconst (pc := 86) E dX4_fallsByKind_86 ?_
            refine k_iadd (pc := 87) E dX4_fallsByKind_87 ?_
            have hd16 : (0 : Int) ≤ x1 := (by omega)
            have hd17 : (0 : Int) < ((s0 41 x0) + 2) := (by omega)
            refine k_idivN (pc := 88) E (by omega) (by omega) hd16 hd17 dX4_fallsByKind_88 ?_
            have hb18 := dv_rg hd16 hd17
            exact k_rho (congrArg (fun q => (q, s0)) hT) (k_iret (pc := 89) E dX4_fallsByKind_89 (by omega))
          · replace hT := hT.trans (if_neg h6)
            refine k_tabOut (pc := 9) (tgt := 90) E dX4_fallsByKind_9 (by omega) (by omega) (by decide) ?_
            refine k_iloadn (pc := 90) E 2 dX4_fallsByKind_90 rfl rfl ?_
            exact k_rho (congrArg (fun q => (q, s0)) hT) (k_iret (pc := 91) E dX4_fallsByKind_91 (by omega))

def f_X4_takesMore (x0 : Int) (s0 : gMem) : Int := (if (s0 40 x0) = 1 then 2 else (if (s0 40 x0) = 2 then 0 else (if (s0 40 x0) = 3 then 2 else (if (s0 40 x0) = 4 then (3 + (s0 41 x0)) else 0))))
theorem f_X4_takesMore_e (x0 : Int) (s0 : gMem) : f_X4_takesMore x0 s0 = (if (s0 40 x0) = 1 then 2 else (if (s0 40 x0) = 2 then 0 else (if (s0 40 x0) = 3 then 2 else (if (s0 40 x0) = 4 then (3 + (s0 41 x0)) else 0)))) := rfl
set_option maxRecDepth 100000 in
set_option maxHeartbeats 4000000 in
theorem f_X4_takesMore_p (x0 : Int) (s0 : gMem) (hx0 : in32 x0) (hm_s0 : gMR lgX s0) (hpre0 : MOx s0) (hpre1 : 0 ≤ x0 ∧ x0 ≤ 15) : (in32 (f_X4_takesMore x0 s0)) ∧ (0 ≤ (f_X4_takesMore x0 s0) ∧ (f_X4_takesMore x0 s0) ≤ 12) := by
  have hT := f_X4_takesMore_e x0 s0
  have hr1 := (hm_s0 40 x0).1 rfl
  by_cases h2 : (s0 40 x0) = 1
  · replace hT := hT.trans (if_pos h2)
    rw [hT]
    exact ⟨(by omega), (by first | assumption | omega)⟩
  · replace hT := hT.trans (if_neg h2)
    by_cases h3 : (s0 40 x0) = 2
    · replace hT := hT.trans (if_pos h3)
      rw [hT]
      exact ⟨(by omega), (by first | assumption | omega)⟩
    · replace hT := hT.trans (if_neg h3)
      by_cases h4 : (s0 40 x0) = 3
      · replace hT := hT.trans (if_pos h4)
        rw [hT]
        exact ⟨(by omega), (by first | assumption | omega)⟩
      · replace hT := hT.trans (if_neg h4)
        by_cases h5 : (s0 40 x0) = 4
        · replace hT := hT.trans (if_pos h5)
          have hr6 := (hm_s0 41 x0).1 rfl
          have hi7 := hpre0 x0
          rw [hT]
          exact ⟨(by omega), (by first | assumption | omega)⟩
        · replace hT := hT.trans (if_neg h5)
          rw [hT]
          exact ⟨(by omega), (by first | assumption | omega)⟩
set_option maxRecDepth 100000 in
set_option maxHeartbeats 4000000 in
theorem c_X4_takesMore (l : Launch) (D : va_G) (a : Nat → Nat) (cI cJ cS cT : ClassId) (s0 : gMem) (x0 : Int) (hx0 : in32 x0) (hpre0 : MOx s0) (hpre1 : 0 ≤ x0 ∧ x0 ≤ 15) : gC l yX4_takesMore cX4_takesMore 2 (some .int) 1 64 D vwCl (gT cI cJ cS cT) (wdX a cI cJ cS cT) lgX kI in32 [.ref (a 3), gI x0] s0 ((f_X4_takesMore x0 s0), s0) := by
  refine gC_of (by decide +kernel) (hwdX a cI cJ cS cT) (Nat.le_of_ble_eq_true rfl) ?_
  intro A p e R s m args below meth c hR E
  subst hR
  have hT := f_X4_takesMore_e x0 s0
  refine k_lv0 (lv' := [(0, .ref (a 3)), (1, gI x0)]) rfl ?_
  refine k_mr (fun hm_s0 => ?_)
  refine k_aloadn (pc := 0) E 0 dX4_takesMore_0 rfl rfl ?_
  refine k_getf (pc := 1) (q0 := 3) (f := 0) (v := .ref (a 4)) E inX4 rfl rfl (by decide) wm_147 rfl rfl dX4_takesMore_1 ?_
  refine k_getf (pc := 4) (q0 := 4) (f := 0) (v := .ref (a 40)) E inX6 rfl rfl (by decide) wm_103 rfl rfl dX4_takesMore_4 ?_
  refine k_iloadn (pc := 7) E 1 dX4_takesMore_7 rfl rfl ?_
  refine k_iaload (pc := 8) (q0 := 40) (t0 := 0) (k := 40) (n := 16) E rfl rfl rfl (by decide) (by omega) (by omega) dX4_takesMore_8 (fun hr1 => ?_)
  by_cases h2 : (s0 40 x0) = 1
  · replace hT := hT.trans (if_pos h2)
    refine k_tabIn (pc := 9) (tgt := 40) E dX4_takesMore_9 (by omega) (by omega) (by omega) (by rw [h2]; rfl) (by decide) ?_
    refine k_iconst (pc := 40) E dX4_takesMore_40 ?_
    exact k_rho (congrArg (fun q => (q, s0)) hT) (k_iret (pc := 41) E dX4_takesMore_41 (by omega))
  · replace hT := hT.trans (if_neg h2)
    by_cases h3 : (s0 40 x0) = 2
    · replace hT := hT.trans (if_pos h3)
      refine k_tabIn (pc := 9) (tgt := 54) E dX4_takesMore_9 (by omega) (by omega) (by omega) (by rw [h3]; rfl) (by decide) ?_
      refine k_iconst (pc := 54) E dX4_takesMore_54 ?_
      exact k_rho (congrArg (fun q => (q, s0)) hT) (k_iret (pc := 55) E dX4_takesMore_55 (by omega))
    · replace hT := hT.trans (if_neg h3)
      by_cases h4 : (s0 40 x0) = 3
      · replace hT := hT.trans (if_pos h4)
        refine k_tabIn (pc := 9) (tgt := 40) E dX4_takesMore_9 (by omega) (by omega) (by omega) (by rw [h4]; rfl) (by decide) ?_
        refine k_iconst (pc := 40) E dX4_takesMore_40 ?_
        exact k_rho (congrArg (fun q => (q, s0)) hT) (k_iret (pc := 41) E dX4_takesMore_41 (by omega))
      · replace hT := hT.trans (if_neg h4)
        by_cases h5 : (s0 40 x0) = 4
        · replace hT := hT.trans (if_pos h5)
          refine k_tabIn (pc := 9) (tgt := 42) E dX4_takesMore_9 (by omega) (by omega) (by omega) (by rw [h5]; rfl) (by decide) ?_
          refine k_iconst (pc := 42) E dX4_takesMore_42 ?_
          refine k_aloadn (pc := 43) E 0 dX4_takesMore_43 rfl rfl ?_
          refine k_getf (pc := 44) (q0 := 3) (f := 0) (v := .ref (a 4)) E inX4 rfl rfl (by decide) wm_147 rfl rfl dX4_takesMore_44 ?_
          refine k_getf (pc := 47) (q0 := 4) (f := 1) (v := .ref (a 41)) E inX6 rfl rfl (by decide) wm_106 rfl rfl dX4_takesMore_47 ?_
          refine k_iloadn (pc := 50) E 1 dX4_takesMore_50 rfl rfl ?_
          refine k_iaload (pc := 51) (q0 := 41) (t0 := 0) (k := 41) (n := 16) E rfl rfl rfl (by decide) (by omega) (by omega) dX4_takesMore_51 (fun hr6 => ?_)
          have hi7 := hpre0 x0
          refine k_iadd (pc := 52) E dX4_takesMore_52 ?_
          exact k_rho (congrArg (fun q => (q, s0)) hT) (k_iret (pc := 53) E dX4_takesMore_53 (by omega))
        · replace hT := hT.trans (if_neg h5)
          refine k_tabOut (pc := 9) (tgt := 54) E dX4_takesMore_9 (by omega) (by omega) (by decide) ?_
          refine k_iconst (pc := 54) E dX4_takesMore_54 ?_
          exact k_rho (congrArg (fun q => (q, s0)) hT) (k_iret (pc := 55) E dX4_takesMore_55 (by omega))

def f_X4_stops (x0 : Int) (s0 : gMem) : Int := (if (s0 40 x0) = 4 then 1 else 0)
theorem f_X4_stops_e (x0 : Int) (s0 : gMem) : f_X4_stops x0 s0 = (if (s0 40 x0) = 4 then 1 else 0) := rfl
set_option maxRecDepth 100000 in
set_option maxHeartbeats 4000000 in
theorem f_X4_stops_p (x0 : Int) (s0 : gMem) (hx0 : in32 x0) (hm_s0 : gMR lgX s0) (hpre0 : 0 ≤ x0 ∧ x0 ≤ 15) : (((f_X4_stops x0 s0) = 0 ∨ (f_X4_stops x0 s0) = 1)) ∧ (((f_X4_stops x0 s0) = 1 ∧ s0 40 x0 = 4) ∨ ((f_X4_stops x0 s0) = 0 ∧ s0 40 x0 ≠ 4)) := by
  have hT := f_X4_stops_e x0 s0
  have hr1 := (hm_s0 40 x0).1 rfl
  by_cases h2 : (s0 40 x0) = 4
  · replace hT := hT.trans (if_pos h2)
    rw [hT]
    exact ⟨(by first | exact Or.inl rfl | exact Or.inr rfl | omega), (by first | assumption | omega)⟩
  · replace hT := hT.trans (if_neg h2)
    rw [hT]
    exact ⟨(by first | exact Or.inl rfl | exact Or.inr rfl | omega), (by first | assumption | omega)⟩
set_option maxRecDepth 100000 in
set_option maxHeartbeats 4000000 in
theorem c_X4_stops (l : Launch) (D : va_G) (a : Nat → Nat) (cI cJ cS cT : ClassId) (s0 : gMem) (x0 : Int) (hx0 : in32 x0) (hpre0 : 0 ≤ x0 ∧ x0 ≤ 15) : gC l yX4_stops cX4_stops 2 (some .boolean) 1 64 D vwCl (gT cI cJ cS cT) (wdX a cI cJ cS cT) lgX kI rgZ [.ref (a 3), gI x0] s0 ((f_X4_stops x0 s0), s0) := by
  refine gC_of (by decide +kernel) (hwdX a cI cJ cS cT) (Nat.le_of_ble_eq_true rfl) ?_
  intro A p e R s m args below meth c hR E
  subst hR
  have hT := f_X4_stops_e x0 s0
  refine k_lv0 (lv' := [(0, .ref (a 3)), (1, gI x0)]) rfl ?_
  refine k_mr (fun hm_s0 => ?_)
  refine k_aloadn (pc := 0) E 0 dX4_stops_0 rfl rfl ?_
  refine k_getf (pc := 1) (q0 := 3) (f := 0) (v := .ref (a 4)) E inX4 rfl rfl (by decide) wm_147 rfl rfl dX4_stops_1 ?_
  refine k_getf (pc := 4) (q0 := 4) (f := 0) (v := .ref (a 40)) E inX6 rfl rfl (by decide) wm_103 rfl rfl dX4_stops_4 ?_
  refine k_iloadn (pc := 7) E 1 dX4_stops_7 rfl rfl ?_
  refine k_iaload (pc := 8) (q0 := 40) (t0 := 0) (k := 40) (n := 16) E rfl rfl rfl (by decide) (by omega) (by omega) dX4_stops_8 (fun hr1 => ?_)
  refine k_iconst (pc := 9) E dX4_stops_9 ?_
  by_cases h2 : (s0 40 x0) = 4
  · replace hT := hT.trans (if_pos h2)
    refine k_icmp_ne_f (pc := 10) (tgt := 17) E (by omega) (by omega) dX4_stops_10 (by decide) h2 ?_
    refine k_iconst (pc := 13) E dX4_stops_13 ?_
    refine k_goto (pc := 14) (tgt := 18) E dX4_stops_14 (by decide) ?_
    exact k_rho (congrArg (fun q => (q, s0)) hT) (k_zret (pc := 18) E dX4_stops_18 (by first | exact Or.inl rfl | exact Or.inr rfl | omega))
  · replace hT := hT.trans (if_neg h2)
    refine k_icmp_ne_t (pc := 10) (tgt := 17) E (by omega) (by omega) dX4_stops_10 (by decide) h2 ?_
    refine k_iconst (pc := 17) E dX4_stops_17 ?_
    exact k_rho (congrArg (fun q => (q, s0)) hT) (k_zret (pc := 18) E dX4_stops_18 (by first | exact Or.inl rfl | exact Or.inr rfl | omega))

def f_X4_falls (x0 : Int) (x1 : Int) (s0 : gMem) : gRes := (gl ((if (s0 37 ((x0 * 17) + x1)) < 0 then gb (f_X4_says 0 x0 x1 s0) (fun r11 s12 => gl (mset s12 37 ((x0 * 17) + x1) (f_X4_bounded (f_X4_fallsByKind x0 r11 x1 s12) 0)) (fun s20 => s20)) else s0)) (fun s5 => ((s5 37 ((x0 * 17) + x1)), s5)))
theorem f_X4_falls_e (x0 : Int) (x1 : Int) (s0 : gMem) : f_X4_falls x0 x1 s0 = (gl ((if (s0 37 ((x0 * 17) + x1)) < 0 then gb (f_X4_says 0 x0 x1 s0) (fun r11 s12 => gl (mset s12 37 ((x0 * 17) + x1) (f_X4_bounded (f_X4_fallsByKind x0 r11 x1 s12) 0)) (fun s20 => s20)) else s0)) (fun s5 => ((s5 37 ((x0 * 17) + x1)), s5))) := rfl
set_option maxRecDepth 100000 in
set_option maxHeartbeats 4000000 in
theorem f_X4_falls_p (x0 : Int) (x1 : Int) (s0 : gMem) (hx0 : in32 x0) (hx1 : in32 x1) (hm_s0 : gMR lgX s0) (hpre0 : CD s0) (hpre1 : BG s0) (hpre2 : LA s0) (hpre3 : MOx s0) (hpre4 : KF s0) (hpre5 : 0 ≤ x0 ∧ x0 ≤ 15) (hpre6 : 0 ≤ x1 ∧ x1 ≤ 16) (rZ : Int) (sZ : gMem) (hres : f_X4_falls x0 x1 s0 = (rZ, sZ)) : (fr [32, 36, 37] s0 sZ) ∧ (gMR lgX sZ) ∧ (in32 rZ) ∧ (KF sZ) ∧ (0 ≤ rZ ∧ rZ ≤ 99) := by
  have hT := f_X4_falls_e x0 x1 s0
  have hf_s0 : fr [32, 36, 37] s0 s0 := fr.rf _ _
  have hKF_s0 := hpre4
  have hr1 := (hm_s0 37 ((x0 * 17) + x1)).1 rfl
  have hi2 := hKF_s0 ((x0 * 17) + x1)
  obtain ⟨z9, hz9, hT⟩ := gl1x hT
  have j4 : ∀ (s5 : gMem), ((fr [32, 36, 37] s0 s5) ∧ (gMR lgX s5) ∧ (KF s5) ∧ (0 ≤ s5 37 (x0 * 17 + x1))) → z9 = s5 → (fr [32, 36, 37] s0 sZ) ∧ (gMR lgX sZ) ∧ (in32 rZ) ∧ (KF sZ) ∧ (0 ≤ rZ ∧ rZ ≤ 99) := by
    intro s5 hq hz
    obtain ⟨hf_s5, hm_s5, hKF_s5, hq8⟩ := hq
    replace hT := gl1y hT hz
    have hr6 := (hm_s5 37 ((x0 * 17) + x1)).1 rfl
    have hi7 := hKF_s5 ((x0 * 17) + x1)
    obtain ⟨rfl, rfl⟩ := Prod.mk.inj (hT.symm.trans hres)
    exact ⟨hf_s5, hm_s5, (by omega), hKF_s5, (by first | assumption | omega)⟩
  replace hT := hz9
  by_cases h3 : (s0 37 ((x0 * 17) + x1)) < 0
  · replace hT := hT.trans (if_pos h3)
    obtain ⟨r11, s12, hs12⟩ : ∃ rr ss, (f_X4_says 0 x0 x1 s0) = (rr, ss) := ⟨_, _, rfl⟩
    replace hT := gby hT hs12
    have hp13 := f_X4_says_p 0 x0 x1 s0 (by omega) (by omega) (by omega) hm_s0 hpre0 hpre1 hpre2 (by first | assumption | omega) (by first | assumption | omega) r11 s12 hs12
    obtain ⟨hfc_s12, hm_s12, hp14, hp15⟩ := hp13
    have hf_s12 : fr [32, 36, 37] s0 s12 := hf_s0.call (by decide) hfc_s12
    have hKF_s12 : KF s12 := KF_fr hKF_s0 (fun k hk => hfc_s12 k (dj (by decide) k hk))
    have hp17 := f_X4_fallsByKind_p x0 r11 x1 s12 (by omega) (by omega) (by omega) hm_s12 (MOx_fr hpre3 (fun k hk => hf_s12 k (dj (by decide) k hk))) (by first | assumption | omega) (by first | assumption | omega) (by first | assumption | omega)
    have hp19 := f_X4_bounded_p (f_X4_fallsByKind x0 r11 x1 s12) 0 (by omega) (by omega) (by first | assumption | omega)
    obtain ⟨s20, hs20, hT⟩ := glx hT
    have hf_s20 : fr [32, 36, 37] s0 s20 := hs20 ▸ hf_s12.set (by decide)
    have hm_s20 : gMR lgX s20 := hs20 ▸ hm_s12.set32 rfl (by omega)
    have hg_s20 : fr [37] s12 s20 := hs20 ▸ (fr.rf _ _).set (by decide)
    have hKF_s20 : KF s20 := hs20 ▸ KF_set hKF_s12 (by omega)
    have hw21 : s20 37 ((x0 * 17) + x1) = (f_X4_bounded (f_X4_fallsByKind x0 r11 x1 s12) 0) := by rw [hs20]; exact mset_eq _ _ _ _
    exact j4 s20 ⟨hf_s20, hm_s20, hKF_s20, (by first | assumption | omega)⟩ hT
  · replace hT := hT.trans (if_neg h3)
    exact j4 s0 ⟨hf_s0, hm_s0, hKF_s0, (by first | assumption | omega)⟩ hT
set_option maxRecDepth 100000 in
set_option maxHeartbeats 4000000 in
theorem c_X4_falls (l : Launch) (D : va_G) (a : Nat → Nat) (cI cJ cS cT : ClassId) (s0 : gMem) (x0 : Int) (x1 : Int) (hx0 : in32 x0) (hx1 : in32 x1) (hpre0 : CD s0) (hpre1 : BG s0) (hpre2 : LA s0) (hpre3 : MOx s0) (hpre4 : KF s0) (hpre5 : 0 ≤ x0 ∧ x0 ≤ 15) (hpre6 : 0 ≤ x1 ∧ x1 ≤ 16) : gC l yX4_falls cX4_falls 4 (some .int) 3 192 D vwCl (gT cI cJ cS cT) (wdX a cI cJ cS cT) lgX kI in32 [.ref (a 3), gI x0, gI x1] s0 (f_X4_falls x0 x1 s0) := by
  refine gC_of (by decide +kernel) (hwdX a cI cJ cS cT) (Nat.le_of_ble_eq_true rfl) ?_
  intro A p e R s m args below meth c hR E
  subst hR
  have hT := f_X4_falls_e x0 x1 s0
  have hf_s0 : fr [32, 36, 37] s0 s0 := fr.rf _ _
  refine k_lv0 (lv' := [(0, .ref (a 3)), (1, gI x0), (2, gI x1)]) rfl ?_
  refine k_mr (fun hm_s0 => ?_)
  have hKF_s0 := hpre4
  refine k_iloadn (pc := 0) E 1 dX4_falls_0 rfl rfl ?_
  refine k_bipush (pc := 1) E dX4_falls_1 (by decide) ?_
  refine k_imul (pc := 3) E dX4_falls_3 ?_
  refine k_iloadn (pc := 4) E 2 dX4_falls_4 rfl rfl ?_
  refine k_iadd (pc := 5) E dX4_falls_5 ?_
  refine k_istoren (pc := 6) (lv' := [(3, gI ((x0 * 17) + x1)), (0, .ref (a 3)), (1, gI x0), (2, gI x1)]) E dX4_falls_6 rfl (by decide) rfl ?_
  refine k_aloadn (pc := 7) E 1 dX4_falls_7 rfl rfl ?_
  refine k_getf (pc := 8) (q0 := 3) (f := 3) (v := .ref (a 37)) E inX4 rfl rfl (by decide) wm_152 rfl rfl dX4_falls_8 ?_
  refine k_iloadn (pc := 11) E 0 dX4_falls_11 rfl rfl ?_
  refine k_iaload (pc := 12) (q0 := 37) (t0 := 0) (k := 37) (n := 272) E rfl rfl rfl (by decide) (by omega) (by omega) dX4_falls_12 (fun hr1 => ?_)
  have hi2 := hKF_s0 ((x0 * 17) + x1)
  obtain ⟨z9, hz9, hT⟩ := gl1x hT
  have j4 : ∀ (s5 : gMem), ((fr [32, 36, 37] s0 s5) ∧ (KF s5) ∧ (0 ≤ s5 37 (x0 * 17 + x1))) → z9 = s5 → gK D vwCl (wdX a cI cJ cS cT) lgX A p l e { frames := 3, cells := 0, slots := 0, locals := 192 } s m args below meth c 4 (gQQ D vwCl (wdX a cI cJ cS cT) lgX A kI in32 below args s) (f_X4_falls x0 x1 s0) s5 39 [(0, .ref (a 3)), (3, gI ((x0 * 17) + x1))] [] := by
    intro s5 hq hz
    obtain ⟨hf_s5, hKF_s5, hq8⟩ := hq
    replace hT := gl1y hT hz
    refine k_aloadn (pc := 39) E 0 dX4_falls_39 rfl rfl ?_
    refine k_getf (pc := 40) (q0 := 3) (f := 3) (v := .ref (a 37)) E inX4 rfl rfl (by decide) wm_152 rfl rfl dX4_falls_40 ?_
    refine k_iloadn (pc := 43) E 1 dX4_falls_43 rfl rfl ?_
    refine k_iaload (pc := 44) (q0 := 37) (t0 := 0) (k := 37) (n := 272) E rfl rfl rfl (by decide) (by omega) (by omega) dX4_falls_44 (fun hr6 => ?_)
    have hi7 := hKF_s5 ((x0 * 17) + x1)
    exact k_rho hT (k_iret (pc := 45) E dX4_falls_45 (by omega))
  replace hT := hz9
  by_cases h3 : (s0 37 ((x0 * 17) + x1)) < 0
  · replace hT := hT.trans (if_pos h3)
    refine k_if_ge_f (pc := 13) (tgt := 39) E (by omega) dX4_falls_13 (by decide) h3 ?_
    refine k_aloadn (pc := 16) E 1 dX4_falls_16 rfl rfl ?_
    refine k_getf (pc := 17) (q0 := 3) (f := 3) (v := .ref (a 37)) E inX4 rfl rfl (by decide) wm_152 rfl rfl dX4_falls_17 ?_
    refine k_iloadn (pc := 20) E 0 dX4_falls_20 rfl rfl ?_
    refine k_aloadn (pc := 21) E 1 dX4_falls_21 rfl rfl ?_
    refine k_iloadn (pc := 22) E 2 dX4_falls_22 rfl rfl ?_
    refine k_aloadn (pc := 23) E 1 dX4_falls_23 rfl rfl ?_
    refine k_iconst (pc := 24) E dX4_falls_24 ?_
    refine k_iloadn (pc := 25) E 2 dX4_falls_25 rfl rfl ?_
    refine k_iloadn (pc := 26) E 3 dX4_falls_26 rfl rfl ?_
    refine k_mr (fun hm_s0 => ?_)
    refine k_callV (pc := 27) (np := 3) (As := [gI 0, gI x0, gI x1]) (st := [gI x0, .ref (a 3), gI ((x0 * 17) + x1), .ref (a 37)]) (q0 := 3) E (c_X4_says l D a cI cJ cS cT s0 0 x0 x1 (by omega) (by omega) (by omega) hpre0 hpre1 hpre2 (by first | assumption | omega) (by first | assumption | omega)) wm_484 wm_4 wm_514 wm_482 wm_483 (by decide +kernel) rfl rfl ⟨by decide, by decide⟩ rfl (Nat.le_of_ble_eq_true rfl) dX4_falls_27 (fun r11 s12 hs12 hr10 => ?_)
    replace hT := gby hT hs12
    have hp13 := f_X4_says_p 0 x0 x1 s0 (by omega) (by omega) (by omega) hm_s0 hpre0 hpre1 hpre2 (by first | assumption | omega) (by first | assumption | omega) r11 s12 hs12
    obtain ⟨hfc_s12, hm_s12, hp14, hp15⟩ := hp13
    have hf_s12 : fr [32, 36, 37] s0 s12 := hf_s0.call (by decide) hfc_s12
    have hKF_s12 : KF s12 := KF_fr hKF_s0 (fun k hk => hfc_s12 k (dj (by decide) k hk))
    refine k_st (st' := [gI r11, gI x0, .ref (a 3), gI ((x0 * 17) + x1), .ref (a 37)]) rfl ?_
    refine k_iloadn (pc := 30) E 3 dX4_falls_30 rfl rfl ?_
    refine k_mr (fun hm_s12 => ?_)
    refine k_callV (pc := 31) (np := 3) (As := [gI x0, gI r11, gI x1]) (st := [gI ((x0 * 17) + x1), .ref (a 37)]) (q0 := 3) E (c_X4_fallsByKind l D a cI cJ cS cT s12 x0 r11 x1 (by omega) (by omega) (by omega) (MOx_fr hpre3 (fun k hk => hf_s12 k (dj (by decide) k hk))) (by first | assumption | omega) (by first | assumption | omega) (by first | assumption | omega)) wm_518 wm_4 wm_515 wm_517 wp_14 (by decide +kernel) rfl rfl ⟨by decide, by decide⟩ rfl (Nat.le_of_ble_eq_true rfl) dX4_falls_31 (ro_kk (fun hr16 => ?_))
    have hp17 := f_X4_fallsByKind_p x0 r11 x1 s12 (by omega) (by omega) (by omega) hm_s12 (MOx_fr hpre3 (fun k hk => hf_s12 k (dj (by decide) k hk))) (by first | assumption | omega) (by first | assumption | omega) (by first | assumption | omega)
    refine k_st (st' := [gI (f_X4_fallsByKind x0 r11 x1 s12), gI ((x0 * 17) + x1), .ref (a 37)]) rfl ?_
    refine k_iconst (pc := 34) E dX4_falls_34 ?_
    refine k_mr (fun hm_s12 => ?_)
    refine k_callS (pc := 35) (np := 2) (As := [gI (f_X4_fallsByKind x0 r11 x1 s12), gI 0]) (st := [gI ((x0 * 17) + x1), .ref (a 37)]) E (c_X4_bounded l D a cI cJ cS cT s12 (f_X4_fallsByKind x0 r11 x1 s12) 0 (by omega) (by omega) (by first | assumption | omega)) wm_497 wm_4 wm_495 wm_496 (by decide +kernel) ⟨by decide, by decide⟩ rfl (Nat.le_of_ble_eq_true rfl) dX4_falls_35 (ro_kk (fun hr18 => ?_))
    have hp19 := f_X4_bounded_p (f_X4_fallsByKind x0 r11 x1 s12) 0 (by omega) (by omega) (by first | assumption | omega)
    refine k_st (st' := [gI (f_X4_bounded (f_X4_fallsByKind x0 r11 x1 s12) 0), gI ((x0 * 17) + x1), .ref (a 37)]) rfl ?_
    refine k_iastore (pc := 38) (q0 := 37) (t0 := 0) (k := 37) (n := 272) E rfl rfl rfl rfl (by decide) (by omega) (by omega) (by omega) dX4_falls_38 ?_
    obtain ⟨s20, hs20, hT⟩ := glx hT
    refine k_sg hs20.symm ?_
    have hf_s20 : fr [32, 36, 37] s0 s20 := hs20 ▸ hf_s12.set (by decide)
    have hg_s20 : fr [37] s12 s20 := hs20 ▸ (fr.rf _ _).set (by decide)
    have hKF_s20 : KF s20 := hs20 ▸ KF_set hKF_s12 (by omega)
    have hw21 : s20 37 ((x0 * 17) + x1) = (f_X4_bounded (f_X4_fallsByKind x0 r11 x1 s12) 0) := by rw [hs20]; exact mset_eq _ _ _ _
    refine k_lv (lv' := [(0, .ref (a 3)), (3, gI ((x0 * 17) + x1))]) [1, 0] rfl ?_
    exact j4 s20 ⟨hf_s20, hKF_s20, (by first | assumption | omega)⟩ hT
  · replace hT := hT.trans (if_neg h3)
    refine k_if_ge_t (pc := 13) (tgt := 39) E (by omega) dX4_falls_13 (by decide) h3 ?_
    refine k_lv (lv' := [(0, .ref (a 3)), (3, gI ((x0 * 17) + x1))]) [1, 0] rfl ?_
    exact j4 s0 ⟨hf_s0, hKF_s0, (by first | assumption | omega)⟩ hT

def f_X4_takes (x0 : Int) (s0 : gMem) : gRes := (gl ((if (s0 39 x0) < 0 then gb (f_X4_says 1 x0 0 s0) (fun r11 s12 => gl (mset s12 39 x0 (imax 1 (r11 + (f_X4_takesMore x0 s12)))) (fun s19 => s19)) else s0)) (fun s5 => ((s5 39 x0), s5)))
theorem f_X4_takes_e (x0 : Int) (s0 : gMem) : f_X4_takes x0 s0 = (gl ((if (s0 39 x0) < 0 then gb (f_X4_says 1 x0 0 s0) (fun r11 s12 => gl (mset s12 39 x0 (imax 1 (r11 + (f_X4_takesMore x0 s12)))) (fun s19 => s19)) else s0)) (fun s5 => ((s5 39 x0), s5))) := rfl
set_option maxRecDepth 100000 in
set_option maxHeartbeats 4000000 in
theorem f_X4_takes_p (x0 : Int) (s0 : gMem) (hx0 : in32 x0) (hm_s0 : gMR lgX s0) (hpre0 : CD s0) (hpre1 : BG s0) (hpre2 : LA s0) (hpre3 : MOx s0) (hpre4 : KT s0) (hpre5 : 0 ≤ x0 ∧ x0 ≤ 15) (rZ : Int) (sZ : gMem) (hres : f_X4_takes x0 s0 = (rZ, sZ)) : (fr [32, 36, 39] s0 sZ) ∧ (gMR lgX sZ) ∧ (in32 rZ) ∧ (KT sZ) ∧ (0 ≤ rZ ∧ rZ ≤ 200) := by
  have hT := f_X4_takes_e x0 s0
  have hf_s0 : fr [32, 36, 39] s0 s0 := fr.rf _ _
  have hKT_s0 := hpre4
  have hr1 := (hm_s0 39 x0).1 rfl
  have hi2 := hKT_s0 x0
  obtain ⟨z9, hz9, hT⟩ := gl1x hT
  have j4 : ∀ (s5 : gMem), ((fr [32, 36, 39] s0 s5) ∧ (gMR lgX s5) ∧ (KT s5) ∧ (0 ≤ s5 39 x0)) → z9 = s5 → (fr [32, 36, 39] s0 sZ) ∧ (gMR lgX sZ) ∧ (in32 rZ) ∧ (KT sZ) ∧ (0 ≤ rZ ∧ rZ ≤ 200) := by
    intro s5 hq hz
    obtain ⟨hf_s5, hm_s5, hKT_s5, hq8⟩ := hq
    replace hT := gl1y hT hz
    have hr6 := (hm_s5 39 x0).1 rfl
    have hi7 := hKT_s5 x0
    obtain ⟨rfl, rfl⟩ := Prod.mk.inj (hT.symm.trans hres)
    exact ⟨hf_s5, hm_s5, (by omega), hKT_s5, (by first | assumption | omega)⟩
  replace hT := hz9
  by_cases h3 : (s0 39 x0) < 0
  · replace hT := hT.trans (if_pos h3)
    obtain ⟨r11, s12, hs12⟩ : ∃ rr ss, (f_X4_says 1 x0 0 s0) = (rr, ss) := ⟨_, _, rfl⟩
    replace hT := gby hT hs12
    have hp13 := f_X4_says_p 1 x0 0 s0 (by omega) (by omega) (by omega) hm_s0 hpre0 hpre1 hpre2 (by first | assumption | omega) (by first | assumption | omega) r11 s12 hs12
    obtain ⟨hfc_s12, hm_s12, hp14, hp15⟩ := hp13
    have hf_s12 : fr [32, 36, 39] s0 s12 := hf_s0.call (by decide) hfc_s12
    have hKT_s12 : KT s12 := KT_fr hKT_s0 (fun k hk => hfc_s12 k (dj (by decide) k hk))
    have hp17 := f_X4_takesMore_p x0 s12 (by omega) hm_s12 (MOx_fr hpre3 (fun k hk => hf_s12 k (dj (by decide) k hk))) (by first | assumption | omega)
    have hp18 := imax_p 1 (r11 + (f_X4_takesMore x0 s12))
    obtain ⟨s19, hs19, hT⟩ := glx hT
    have hf_s19 : fr [32, 36, 39] s0 s19 := hs19 ▸ hf_s12.set (by decide)
    have hm_s19 : gMR lgX s19 := hs19 ▸ hm_s12.set32 rfl (by omega)
    have hg_s19 : fr [39] s12 s19 := hs19 ▸ (fr.rf _ _).set (by decide)
    have hKT_s19 : KT s19 := hs19 ▸ KT_set hKT_s12 (by omega)
    have hw20 : s19 39 x0 = (imax 1 (r11 + (f_X4_takesMore x0 s12))) := by rw [hs19]; exact mset_eq _ _ _ _
    exact j4 s19 ⟨hf_s19, hm_s19, hKT_s19, (by first | assumption | omega)⟩ hT
  · replace hT := hT.trans (if_neg h3)
    exact j4 s0 ⟨hf_s0, hm_s0, hKT_s0, (by first | assumption | omega)⟩ hT
set_option maxRecDepth 100000 in
set_option maxHeartbeats 4000000 in
theorem c_X4_takes (l : Launch) (D : va_G) (a : Nat → Nat) (cI cJ cS cT : ClassId) (s0 : gMem) (x0 : Int) (hx0 : in32 x0) (hpre0 : CD s0) (hpre1 : BG s0) (hpre2 : LA s0) (hpre3 : MOx s0) (hpre4 : KT s0) (hpre5 : 0 ≤ x0 ∧ x0 ≤ 15) : gC l yX4_takes cX4_takes 2 (some .int) 3 192 D vwCl (gT cI cJ cS cT) (wdX a cI cJ cS cT) lgX kI in32 [.ref (a 3), gI x0] s0 (f_X4_takes x0 s0) := by
  refine gC_of (by decide +kernel) (hwdX a cI cJ cS cT) (Nat.le_of_ble_eq_true rfl) ?_
  intro A p e R s m args below meth c hR E
  subst hR
  have hT := f_X4_takes_e x0 s0
  have hf_s0 : fr [32, 36, 39] s0 s0 := fr.rf _ _
  refine k_lv0 (lv' := [(0, .ref (a 3)), (1, gI x0)]) rfl ?_
  refine k_mr (fun hm_s0 => ?_)
  have hKT_s0 := hpre4
  refine k_aloadn (pc := 0) E 0 dX4_takes_0 rfl rfl ?_
  refine k_getf (pc := 1) (q0 := 3) (f := 5) (v := .ref (a 39)) E inX4 rfl rfl (by decide) wm_154 rfl rfl dX4_takes_1 ?_
  refine k_iloadn (pc := 4) E 1 dX4_takes_4 rfl rfl ?_
  refine k_iaload (pc := 5) (q0 := 39) (t0 := 0) (k := 39) (n := 16) E rfl rfl rfl (by decide) (by omega) (by omega) dX4_takes_5 (fun hr1 => ?_)
  have hi2 := hKT_s0 x0
  obtain ⟨z9, hz9, hT⟩ := gl1x hT
  have j4 : ∀ (s5 : gMem), ((fr [32, 36, 39] s0 s5) ∧ (KT s5) ∧ (0 ≤ s5 39 x0)) → z9 = s5 → gK D vwCl (wdX a cI cJ cS cT) lgX A p l e { frames := 3, cells := 0, slots := 0, locals := 192 } s m args below meth c 2 (gQQ D vwCl (wdX a cI cJ cS cT) lgX A kI in32 below args s) (f_X4_takes x0 s0) s5 32 [(0, .ref (a 3)), (1, gI x0)] [] := by
    intro s5 hq hz
    obtain ⟨hf_s5, hKT_s5, hq8⟩ := hq
    replace hT := gl1y hT hz
    refine k_aloadn (pc := 32) E 0 dX4_takes_32 rfl rfl ?_
    refine k_getf (pc := 33) (q0 := 3) (f := 5) (v := .ref (a 39)) E inX4 rfl rfl (by decide) wm_154 rfl rfl dX4_takes_33 ?_
    refine k_iloadn (pc := 36) E 1 dX4_takes_36 rfl rfl ?_
    refine k_iaload (pc := 37) (q0 := 39) (t0 := 0) (k := 39) (n := 16) E rfl rfl rfl (by decide) (by omega) (by omega) dX4_takes_37 (fun hr6 => ?_)
    have hi7 := hKT_s5 x0
    exact k_rho hT (k_iret (pc := 38) E dX4_takes_38 (by omega))
  replace hT := hz9
  by_cases h3 : (s0 39 x0) < 0
  · replace hT := hT.trans (if_pos h3)
    refine k_if_ge_f (pc := 6) (tgt := 32) E (by omega) dX4_takes_6 (by decide) h3 ?_
    refine k_aloadn (pc := 9) E 0 dX4_takes_9 rfl rfl ?_
    refine k_getf (pc := 10) (q0 := 3) (f := 5) (v := .ref (a 39)) E inX4 rfl rfl (by decide) wm_154 rfl rfl dX4_takes_10 ?_
    refine k_iloadn (pc := 13) E 1 dX4_takes_13 rfl rfl ?_
    refine k_iconst (pc := 14) E dX4_takes_14 ?_
    refine k_aloadn (pc := 15) E 0 dX4_takes_15 rfl rfl ?_
    refine k_iconst (pc := 16) E dX4_takes_16 ?_
    refine k_iloadn (pc := 17) E 1 dX4_takes_17 rfl rfl ?_
    refine k_iconst (pc := 18) E dX4_takes_18 ?_
    refine k_mr (fun hm_s0 => ?_)
    refine k_callV (pc := 19) (np := 3) (As := [gI 1, gI x0, gI 0]) (st := [gI 1, gI x0, .ref (a 39)]) (q0 := 3) E (c_X4_says l D a cI cJ cS cT s0 1 x0 0 (by omega) (by omega) (by omega) hpre0 hpre1 hpre2 (by first | assumption | omega) (by first | assumption | omega)) wm_484 wm_4 wm_514 wm_482 wm_483 (by decide +kernel) rfl rfl ⟨by decide, by decide⟩ rfl (Nat.le_of_ble_eq_true rfl) dX4_takes_19 (fun r11 s12 hs12 hr10 => ?_)
    replace hT := gby hT hs12
    have hp13 := f_X4_says_p 1 x0 0 s0 (by omega) (by omega) (by omega) hm_s0 hpre0 hpre1 hpre2 (by first | assumption | omega) (by first | assumption | omega) r11 s12 hs12
    obtain ⟨hfc_s12, hm_s12, hp14, hp15⟩ := hp13
    have hf_s12 : fr [32, 36, 39] s0 s12 := hf_s0.call (by decide) hfc_s12
    have hKT_s12 : KT s12 := KT_fr hKT_s0 (fun k hk => hfc_s12 k (dj (by decide) k hk))
    refine k_st (st' := [gI r11, gI 1, gI x0, .ref (a 39)]) rfl ?_
    refine k_aloadn (pc := 22) E 0 dX4_takes_22 rfl rfl ?_
    refine k_iloadn (pc := 23) E 1 dX4_takes_23 rfl rfl ?_
    refine k_mr (fun hm_s12 => ?_)
    refine k_callV (pc := 24) (np := 1) (As := [gI x0]) (st := [gI r11, gI 1, gI x0, .ref (a 39)]) (q0 := 3) E (c_X4_takesMore l D a cI cJ cS cT s12 x0 (by omega) (MOx_fr hpre3 (fun k hk => hf_s12 k (dj (by decide) k hk))) (by first | assumption | omega)) wm_526 wm_4 wm_523 wm_525 wp_15 (by decide +kernel) rfl rfl ⟨by decide, by decide⟩ rfl (Nat.le_of_ble_eq_true rfl) dX4_takes_24 (ro_kk (fun hr16 => ?_))
    have hp17 := f_X4_takesMore_p x0 s12 (by omega) hm_s12 (MOx_fr hpre3 (fun k hk => hf_s12 k (dj (by decide) k hk))) (by first | assumption | omega)
    refine k_st (st' := [gI (f_X4_takesMore x0 s12), gI r11, gI 1, gI x0, .ref (a 39)]) rfl ?_
    refine k_iadd (pc := 27) E dX4_takes_27 ?_
    refine k_max (pc := 28) (st := [gI x0, .ref (a 39)]) E (by omega) (by omega) wk_527 wk_528 wm_18 wk_529 (by decide) (Nat.le_of_ble_eq_true rfl) dX4_takes_28 ?_
    have hp18 := imax_p 1 (r11 + (f_X4_takesMore x0 s12))
    refine k_iastore (pc := 31) (q0 := 39) (t0 := 0) (k := 39) (n := 16) E rfl rfl rfl rfl (by decide) (by omega) (by omega) (by omega) dX4_takes_31 ?_
    obtain ⟨s19, hs19, hT⟩ := glx hT
    refine k_sg hs19.symm ?_
    have hf_s19 : fr [32, 36, 39] s0 s19 := hs19 ▸ hf_s12.set (by decide)
    have hg_s19 : fr [39] s12 s19 := hs19 ▸ (fr.rf _ _).set (by decide)
    have hKT_s19 : KT s19 := hs19 ▸ KT_set hKT_s12 (by omega)
    have hw20 : s19 39 x0 = (imax 1 (r11 + (f_X4_takesMore x0 s12))) := by rw [hs19]; exact mset_eq _ _ _ _
    exact j4 s19 ⟨hf_s19, hKT_s19, (by first | assumption | omega)⟩ hT
  · replace hT := hT.trans (if_neg h3)
    refine k_if_ge_t (pc := 6) (tgt := 32) E (by omega) dX4_takes_6 (by decide) h3 ?_
    exact j4 s0 ⟨hf_s0, hKT_s0, (by first | assumption | omega)⟩ hT

def f_X4_closes (x0 : Int) (x1 : Int) (s0 : gMem) : gRes := (gl ((if (s0 38 ((x0 * 17) + x1)) < 0 then gb (f_X4_says 2 x0 x1 s0) (fun r11 s12 => gl (mset s12 38 ((x0 * 17) + x1) r11) (fun s16 => s16)) else s0)) (fun s5 => ((s5 38 ((x0 * 17) + x1)), s5)))
theorem f_X4_closes_e (x0 : Int) (x1 : Int) (s0 : gMem) : f_X4_closes x0 x1 s0 = (gl ((if (s0 38 ((x0 * 17) + x1)) < 0 then gb (f_X4_says 2 x0 x1 s0) (fun r11 s12 => gl (mset s12 38 ((x0 * 17) + x1) r11) (fun s16 => s16)) else s0)) (fun s5 => ((s5 38 ((x0 * 17) + x1)), s5))) := rfl
set_option maxRecDepth 100000 in
set_option maxHeartbeats 4000000 in
theorem f_X4_closes_p (x0 : Int) (x1 : Int) (s0 : gMem) (hx0 : in32 x0) (hx1 : in32 x1) (hm_s0 : gMR lgX s0) (hpre0 : CD s0) (hpre1 : BG s0) (hpre2 : LA s0) (hpre3 : MOx s0) (hpre4 : KC s0) (hpre5 : 0 ≤ x0 ∧ x0 ≤ 15) (hpre6 : 0 ≤ x1 ∧ x1 ≤ 16) (rZ : Int) (sZ : gMem) (hres : f_X4_closes x0 x1 s0 = (rZ, sZ)) : (fr [32, 36, 38] s0 sZ) ∧ (gMR lgX sZ) ∧ (in32 rZ) ∧ (KC sZ) ∧ (0 ≤ rZ ∧ rZ ≤ 99) := by
  have hT := f_X4_closes_e x0 x1 s0
  have hf_s0 : fr [32, 36, 38] s0 s0 := fr.rf _ _
  have hKC_s0 := hpre4
  have hr1 := (hm_s0 38 ((x0 * 17) + x1)).1 rfl
  have hi2 := hKC_s0 ((x0 * 17) + x1)
  obtain ⟨z9, hz9, hT⟩ := gl1x hT
  have j4 : ∀ (s5 : gMem), ((fr [32, 36, 38] s0 s5) ∧ (gMR lgX s5) ∧ (KC s5) ∧ (0 ≤ s5 38 (x0 * 17 + x1))) → z9 = s5 → (fr [32, 36, 38] s0 sZ) ∧ (gMR lgX sZ) ∧ (in32 rZ) ∧ (KC sZ) ∧ (0 ≤ rZ ∧ rZ ≤ 99) := by
    intro s5 hq hz
    obtain ⟨hf_s5, hm_s5, hKC_s5, hq8⟩ := hq
    replace hT := gl1y hT hz
    have hr6 := (hm_s5 38 ((x0 * 17) + x1)).1 rfl
    have hi7 := hKC_s5 ((x0 * 17) + x1)
    obtain ⟨rfl, rfl⟩ := Prod.mk.inj (hT.symm.trans hres)
    exact ⟨hf_s5, hm_s5, (by omega), hKC_s5, (by first | assumption | omega)⟩
  replace hT := hz9
  by_cases h3 : (s0 38 ((x0 * 17) + x1)) < 0
  · replace hT := hT.trans (if_pos h3)
    obtain ⟨r11, s12, hs12⟩ : ∃ rr ss, (f_X4_says 2 x0 x1 s0) = (rr, ss) := ⟨_, _, rfl⟩
    replace hT := gby hT hs12
    have hp13 := f_X4_says_p 2 x0 x1 s0 (by omega) (by omega) (by omega) hm_s0 hpre0 hpre1 hpre2 (by first | assumption | omega) (by first | assumption | omega) r11 s12 hs12
    obtain ⟨hfc_s12, hm_s12, hp14, hp15⟩ := hp13
    have hf_s12 : fr [32, 36, 38] s0 s12 := hf_s0.call (by decide) hfc_s12
    have hKC_s12 : KC s12 := KC_fr hKC_s0 (fun k hk => hfc_s12 k (dj (by decide) k hk))
    obtain ⟨s16, hs16, hT⟩ := glx hT
    have hf_s16 : fr [32, 36, 38] s0 s16 := hs16 ▸ hf_s12.set (by decide)
    have hm_s16 : gMR lgX s16 := hs16 ▸ hm_s12.set32 rfl (by omega)
    have hg_s16 : fr [38] s12 s16 := hs16 ▸ (fr.rf _ _).set (by decide)
    have hKC_s16 : KC s16 := hs16 ▸ KC_set hKC_s12 (by omega)
    have hw17 : s16 38 ((x0 * 17) + x1) = r11 := by rw [hs16]; exact mset_eq _ _ _ _
    exact j4 s16 ⟨hf_s16, hm_s16, hKC_s16, (by first | assumption | omega)⟩ hT
  · replace hT := hT.trans (if_neg h3)
    exact j4 s0 ⟨hf_s0, hm_s0, hKC_s0, (by first | assumption | omega)⟩ hT
set_option maxRecDepth 100000 in
set_option maxHeartbeats 4000000 in
theorem c_X4_closes (l : Launch) (D : va_G) (a : Nat → Nat) (cI cJ cS cT : ClassId) (s0 : gMem) (x0 : Int) (x1 : Int) (hx0 : in32 x0) (hx1 : in32 x1) (hpre0 : CD s0) (hpre1 : BG s0) (hpre2 : LA s0) (hpre3 : MOx s0) (hpre4 : KC s0) (hpre5 : 0 ≤ x0 ∧ x0 ≤ 15) (hpre6 : 0 ≤ x1 ∧ x1 ≤ 16) : gC l yX4_closes cX4_closes 4 (some .int) 3 192 D vwCl (gT cI cJ cS cT) (wdX a cI cJ cS cT) lgX kI in32 [.ref (a 3), gI x0, gI x1] s0 (f_X4_closes x0 x1 s0) := by
  refine gC_of (by decide +kernel) (hwdX a cI cJ cS cT) (Nat.le_of_ble_eq_true rfl) ?_
  intro A p e R s m args below meth c hR E
  subst hR
  have hT := f_X4_closes_e x0 x1 s0
  have hf_s0 : fr [32, 36, 38] s0 s0 := fr.rf _ _
  refine k_lv0 (lv' := [(0, .ref (a 3)), (1, gI x0), (2, gI x1)]) rfl ?_
  refine k_mr (fun hm_s0 => ?_)
  have hKC_s0 := hpre4
  refine k_iloadn (pc := 0) E 1 dX4_closes_0 rfl rfl ?_
  refine k_bipush (pc := 1) E dX4_closes_1 (by decide) ?_
  refine k_imul (pc := 3) E dX4_closes_3 ?_
  refine k_iloadn (pc := 4) E 2 dX4_closes_4 rfl rfl ?_
  refine k_iadd (pc := 5) E dX4_closes_5 ?_
  refine k_istoren (pc := 6) (lv' := [(3, gI ((x0 * 17) + x1)), (0, .ref (a 3)), (1, gI x0), (2, gI x1)]) E dX4_closes_6 rfl (by decide) rfl ?_
  refine k_aloadn (pc := 7) E 1 dX4_closes_7 rfl rfl ?_
  refine k_getf (pc := 8) (q0 := 3) (f := 4) (v := .ref (a 38)) E inX4 rfl rfl (by decide) wm_153 rfl rfl dX4_closes_8 ?_
  refine k_iloadn (pc := 11) E 0 dX4_closes_11 rfl rfl ?_
  refine k_iaload (pc := 12) (q0 := 38) (t0 := 0) (k := 38) (n := 272) E rfl rfl rfl (by decide) (by omega) (by omega) dX4_closes_12 (fun hr1 => ?_)
  have hi2 := hKC_s0 ((x0 * 17) + x1)
  obtain ⟨z9, hz9, hT⟩ := gl1x hT
  have j4 : ∀ (s5 : gMem), ((fr [32, 36, 38] s0 s5) ∧ (KC s5) ∧ (0 ≤ s5 38 (x0 * 17 + x1))) → z9 = s5 → gK D vwCl (wdX a cI cJ cS cT) lgX A p l e { frames := 3, cells := 0, slots := 0, locals := 192 } s m args below meth c 4 (gQQ D vwCl (wdX a cI cJ cS cT) lgX A kI in32 below args s) (f_X4_closes x0 x1 s0) s5 29 [(0, .ref (a 3)), (3, gI ((x0 * 17) + x1))] [] := by
    intro s5 hq hz
    obtain ⟨hf_s5, hKC_s5, hq8⟩ := hq
    replace hT := gl1y hT hz
    refine k_aloadn (pc := 29) E 0 dX4_closes_29 rfl rfl ?_
    refine k_getf (pc := 30) (q0 := 3) (f := 4) (v := .ref (a 38)) E inX4 rfl rfl (by decide) wm_153 rfl rfl dX4_closes_30 ?_
    refine k_iloadn (pc := 33) E 1 dX4_closes_33 rfl rfl ?_
    refine k_iaload (pc := 34) (q0 := 38) (t0 := 0) (k := 38) (n := 272) E rfl rfl rfl (by decide) (by omega) (by omega) dX4_closes_34 (fun hr6 => ?_)
    have hi7 := hKC_s5 ((x0 * 17) + x1)
    exact k_rho hT (k_iret (pc := 35) E dX4_closes_35 (by omega))
  replace hT := hz9
  by_cases h3 : (s0 38 ((x0 * 17) + x1)) < 0
  · replace hT := hT.trans (if_pos h3)
    refine k_if_ge_f (pc := 13) (tgt := 29) E (by omega) dX4_closes_13 (by decide) h3 ?_
    refine k_aloadn (pc := 16) E 1 dX4_closes_16 rfl rfl ?_
    refine k_getf (pc := 17) (q0 := 3) (f := 4) (v := .ref (a 38)) E inX4 rfl rfl (by decide) wm_153 rfl rfl dX4_closes_17 ?_
    refine k_iloadn (pc := 20) E 0 dX4_closes_20 rfl rfl ?_
    refine k_aloadn (pc := 21) E 1 dX4_closes_21 rfl rfl ?_
    refine k_iconst (pc := 22) E dX4_closes_22 ?_
    refine k_iloadn (pc := 23) E 2 dX4_closes_23 rfl rfl ?_
    refine k_iloadn (pc := 24) E 3 dX4_closes_24 rfl rfl ?_
    refine k_mr (fun hm_s0 => ?_)
    refine k_callV (pc := 25) (np := 3) (As := [gI 2, gI x0, gI x1]) (st := [gI ((x0 * 17) + x1), .ref (a 38)]) (q0 := 3) E (c_X4_says l D a cI cJ cS cT s0 2 x0 x1 (by omega) (by omega) (by omega) hpre0 hpre1 hpre2 (by first | assumption | omega) (by first | assumption | omega)) wm_484 wm_4 wm_514 wm_482 wm_483 (by decide +kernel) rfl rfl ⟨by decide, by decide⟩ rfl (Nat.le_of_ble_eq_true rfl) dX4_closes_25 (fun r11 s12 hs12 hr10 => ?_)
    replace hT := gby hT hs12
    have hp13 := f_X4_says_p 2 x0 x1 s0 (by omega) (by omega) (by omega) hm_s0 hpre0 hpre1 hpre2 (by first | assumption | omega) (by first | assumption | omega) r11 s12 hs12
    obtain ⟨hfc_s12, hm_s12, hp14, hp15⟩ := hp13
    have hf_s12 : fr [32, 36, 38] s0 s12 := hf_s0.call (by decide) hfc_s12
    have hKC_s12 : KC s12 := KC_fr hKC_s0 (fun k hk => hfc_s12 k (dj (by decide) k hk))
    refine k_st (st' := [gI r11, gI ((x0 * 17) + x1), .ref (a 38)]) rfl ?_
    refine k_iastore (pc := 28) (q0 := 38) (t0 := 0) (k := 38) (n := 272) E rfl rfl rfl rfl (by decide) (by omega) (by omega) (by omega) dX4_closes_28 ?_
    obtain ⟨s16, hs16, hT⟩ := glx hT
    refine k_sg hs16.symm ?_
    have hf_s16 : fr [32, 36, 38] s0 s16 := hs16 ▸ hf_s12.set (by decide)
    have hg_s16 : fr [38] s12 s16 := hs16 ▸ (fr.rf _ _).set (by decide)
    have hKC_s16 : KC s16 := hs16 ▸ KC_set hKC_s12 (by omega)
    have hw17 : s16 38 ((x0 * 17) + x1) = r11 := by rw [hs16]; exact mset_eq _ _ _ _
    refine k_lv (lv' := [(0, .ref (a 3)), (3, gI ((x0 * 17) + x1))]) [1, 0] rfl ?_
    exact j4 s16 ⟨hf_s16, hKC_s16, (by first | assumption | omega)⟩ hT
  · replace hT := hT.trans (if_neg h3)
    refine k_if_ge_t (pc := 13) (tgt := 29) E (by omega) dX4_closes_13 (by decide) h3 ?_
    refine k_lv (lv' := [(0, .ref (a 3)), (3, gI ((x0 * 17) + x1))]) [1, 0] rfl ?_
    exact j4 s0 ⟨hf_s0, hKC_s0, (by first | assumption | omega)⟩ hT

def f_X4_forget  (s0 : gMem) : gRes := gl (mfill s0 37 272 (-1)) (fun s1 => gl (mfill s1 38 272 (-1)) (fun s2 => gl (mfill s2 39 16 (-1)) (fun s3 => (0, s3))))
theorem f_X4_forget_e  (s0 : gMem) : f_X4_forget s0 = gl (mfill s0 37 272 (-1)) (fun s1 => gl (mfill s1 38 272 (-1)) (fun s2 => gl (mfill s2 39 16 (-1)) (fun s3 => (0, s3)))) := rfl
set_option maxRecDepth 100000 in
set_option maxHeartbeats 4000000 in
theorem f_X4_forget_p  (s0 : gMem)  (hm_s0 : gMR lgX s0) (hpre0 : KF s0) (hpre1 : KC s0) (hpre2 : KT s0) (rZ : Int) (sZ : gMem) (hres : f_X4_forget s0 = (rZ, sZ)) : (fr [37, 38, 39] s0 sZ) ∧ (gMR lgX sZ) ∧ (True) ∧ (KF sZ) ∧ (KC sZ) ∧ (KT sZ) := by
  have hT := f_X4_forget_e  s0
  have hf_s0 : fr [37, 38, 39] s0 s0 := fr.rf _ _
  have hKF_s0 := hpre0
  have hKC_s0 := hpre1
  have hKT_s0 := hpre2
  obtain ⟨s1, hs1, hT⟩ := glx hT
  have hf_s1 : fr [37, 38, 39] s0 s1 := hs1 ▸ hf_s0.fill (by decide)
  have hm_s1 : gMR lgX s1 := hs1 ▸ hm_s0.fill32 rfl (by omega)
  have hg_s1 : fr [37] s0 s1 := hs1 ▸ (fr.rf _ _).fill (by decide)
  have hKF_s1 : KF s1 := hs1 ▸ KF_fill hKF_s0 (by omega)
  have hKC_s1 : KC s1 := KC_fr hKC_s0 (fun k hk => hg_s1 k (dj (by decide) k hk))
  have hKT_s1 : KT s1 := KT_fr hKT_s0 (fun k hk => hg_s1 k (dj (by decide) k hk))
  obtain ⟨s2, hs2, hT⟩ := glx hT
  have hf_s2 : fr [37, 38, 39] s0 s2 := hs2 ▸ hf_s1.fill (by decide)
  have hm_s2 : gMR lgX s2 := hs2 ▸ hm_s1.fill32 rfl (by omega)
  have hg_s2 : fr [38] s1 s2 := hs2 ▸ (fr.rf _ _).fill (by decide)
  have hKF_s2 : KF s2 := KF_fr hKF_s1 (fun k hk => hg_s2 k (dj (by decide) k hk))
  have hKC_s2 : KC s2 := hs2 ▸ KC_fill hKC_s1 (by omega)
  have hKT_s2 : KT s2 := KT_fr hKT_s1 (fun k hk => hg_s2 k (dj (by decide) k hk))
  obtain ⟨s3, hs3, hT⟩ := glx hT
  have hf_s3 : fr [37, 38, 39] s0 s3 := hs3 ▸ hf_s2.fill (by decide)
  have hm_s3 : gMR lgX s3 := hs3 ▸ hm_s2.fill32 rfl (by omega)
  have hg_s3 : fr [39] s2 s3 := hs3 ▸ (fr.rf _ _).fill (by decide)
  have hKF_s3 : KF s3 := KF_fr hKF_s2 (fun k hk => hg_s3 k (dj (by decide) k hk))
  have hKC_s3 : KC s3 := KC_fr hKC_s2 (fun k hk => hg_s3 k (dj (by decide) k hk))
  have hKT_s3 : KT s3 := hs3 ▸ KT_fill hKT_s2 (by omega)
  obtain ⟨rfl, rfl⟩ := Prod.mk.inj (hT.symm.trans hres)
  exact ⟨hf_s3, hm_s3, trivial, hKF_s3, hKC_s3, hKT_s3⟩
set_option maxRecDepth 100000 in
set_option maxHeartbeats 4000000 in
theorem c_X4_forget (l : Launch) (D : va_G) (a : Nat → Nat) (cI cJ cS cT : ClassId) (s0 : gMem)   (hpre0 : KF s0) (hpre1 : KC s0) (hpre2 : KT s0) : gC l yX4_forget cX4_forget 1 none 2 128 D vwCl (gT cI cJ cS cT) (wdX a cI cJ cS cT) lgX kV rgV [.ref (a 3)] s0 (f_X4_forget s0) := by
  refine gC_of (by decide +kernel) (hwdX a cI cJ cS cT) (Nat.le_of_ble_eq_true rfl) ?_
  intro A p e R s m args below meth c hR E
  subst hR
  have hT := f_X4_forget_e  s0
  have hf_s0 : fr [37, 38, 39] s0 s0 := fr.rf _ _
  refine k_lv0 (lv' := [(0, .ref (a 3))]) rfl ?_
  refine k_mr (fun hm_s0 => ?_)
  have hKF_s0 := hpre0
  have hKC_s0 := hpre1
  have hKT_s0 := hpre2
  refine k_aloadn (pc := 0) E 0 dX4_forget_0 rfl rfl ?_
  refine k_getf (pc := 1) (q0 := 3) (f := 3) (v := .ref (a 37)) E inX4 rfl rfl (by decide) wm_152 rfl rfl dX4_forget_1 ?_
  refine k_iconst (pc := 4) E dX4_forget_4 ?_
  obtain ⟨s1, hs1, hT⟩ := glx hT
  have hf_s1 : fr [37, 38, 39] s0 s1 := hs1 ▸ hf_s0.fill (by decide)
  have hg_s1 : fr [37] s0 s1 := hs1 ▸ (fr.rf _ _).fill (by decide)
  have hKF_s1 : KF s1 := hs1 ▸ KF_fill hKF_s0 (by omega)
  have hKC_s1 : KC s1 := KC_fr hKC_s0 (fun k hk => hg_s1 k (dj (by decide) k hk))
  have hKT_s1 : KT s1 := KT_fr hKT_s0 (fun k hk => hg_s1 k (dj (by decide) k hk))
  refine k_callS (pc := 5) (np := 2) (As := [.ref (a 37), gI (-1)]) (st := []) E (c_fillI l D (hwdX a cI cJ cS cT) (q0 := 37) (k := 37) (n := 272) (fun _ => rfl) (fun _ _ _ => rfl) rfl rfl (by decide) s0 (-1) (by omega)) wm_146 wm_6 wm_144 wm_145 (by decide +kernel) ⟨by decide, by decide⟩ rfl (Nat.le_of_ble_eq_true rfl) dX4_forget_5 (ro_kk (fun _ => ?_))
  refine k_sg hs1.symm ?_
  refine k_st (st' := []) rfl ?_
  refine k_aloadn (pc := 8) E 0 dX4_forget_8 rfl rfl ?_
  refine k_getf (pc := 9) (q0 := 3) (f := 4) (v := .ref (a 38)) E inX4 rfl rfl (by decide) wm_153 rfl rfl dX4_forget_9 ?_
  refine k_iconst (pc := 12) E dX4_forget_12 ?_
  obtain ⟨s2, hs2, hT⟩ := glx hT
  have hf_s2 : fr [37, 38, 39] s0 s2 := hs2 ▸ hf_s1.fill (by decide)
  have hg_s2 : fr [38] s1 s2 := hs2 ▸ (fr.rf _ _).fill (by decide)
  have hKF_s2 : KF s2 := KF_fr hKF_s1 (fun k hk => hg_s2 k (dj (by decide) k hk))
  have hKC_s2 : KC s2 := hs2 ▸ KC_fill hKC_s1 (by omega)
  have hKT_s2 : KT s2 := KT_fr hKT_s1 (fun k hk => hg_s2 k (dj (by decide) k hk))
  refine k_callS (pc := 13) (np := 2) (As := [.ref (a 38), gI (-1)]) (st := []) E (c_fillI l D (hwdX a cI cJ cS cT) (q0 := 38) (k := 38) (n := 272) (fun _ => rfl) (fun _ _ _ => rfl) rfl rfl (by decide) s1 (-1) (by omega)) wm_146 wm_6 wm_144 wm_145 (by decide +kernel) ⟨by decide, by decide⟩ rfl (Nat.le_of_ble_eq_true rfl) dX4_forget_13 (ro_kk (fun _ => ?_))
  refine k_sg hs2.symm ?_
  refine k_st (st' := []) rfl ?_
  refine k_aloadn (pc := 16) E 0 dX4_forget_16 rfl rfl ?_
  refine k_getf (pc := 17) (q0 := 3) (f := 5) (v := .ref (a 39)) E inX4 rfl rfl (by decide) wm_154 rfl rfl dX4_forget_17 ?_
  refine k_iconst (pc := 20) E dX4_forget_20 ?_
  obtain ⟨s3, hs3, hT⟩ := glx hT
  have hf_s3 : fr [37, 38, 39] s0 s3 := hs3 ▸ hf_s2.fill (by decide)
  have hg_s3 : fr [39] s2 s3 := hs3 ▸ (fr.rf _ _).fill (by decide)
  have hKF_s3 : KF s3 := KF_fr hKF_s2 (fun k hk => hg_s3 k (dj (by decide) k hk))
  have hKC_s3 : KC s3 := KC_fr hKC_s2 (fun k hk => hg_s3 k (dj (by decide) k hk))
  have hKT_s3 : KT s3 := hs3 ▸ KT_fill hKT_s2 (by omega)
  refine k_callS (pc := 21) (np := 2) (As := [.ref (a 39), gI (-1)]) (st := []) E (c_fillI l D (hwdX a cI cJ cS cT) (q0 := 39) (k := 39) (n := 16) (fun _ => rfl) (fun _ _ _ => rfl) rfl rfl (by decide) s2 (-1) (by omega)) wm_146 wm_6 wm_144 wm_145 (by decide +kernel) ⟨by decide, by decide⟩ rfl (Nat.le_of_ble_eq_true rfl) dX4_forget_21 (ro_kk (fun _ => ?_))
  refine k_sg hs3.symm ?_
  refine k_st (st' := []) rfl ?_
  exact k_rho hT (k_vret (pc := 24) E dX4_forget_24)

def f_X4_become (x0 : Int) (x1 : Int) (x2 : Int) (s0 : gMem) : gRes := gl (mset s0 40 x0 x1) (fun s1 => gl (mset s1 41 x0 x2) (fun s2 => gb (f_X4_forget  s2) (fun r4 s5 => (0, s5))))
theorem f_X4_become_e (x0 : Int) (x1 : Int) (x2 : Int) (s0 : gMem) : f_X4_become x0 x1 x2 s0 = gl (mset s0 40 x0 x1) (fun s1 => gl (mset s1 41 x0 x2) (fun s2 => gb (f_X4_forget  s2) (fun r4 s5 => (0, s5)))) := rfl
set_option maxRecDepth 100000 in
set_option maxHeartbeats 4000000 in
theorem f_X4_become_p (x0 : Int) (x1 : Int) (x2 : Int) (s0 : gMem) (hx0 : in32 x0) (hx1 : in32 x1) (hx2 : in32 x2) (hm_s0 : gMR lgX s0) (hpre0 : KNx s0) (hpre1 : MOx s0) (hpre2 : KF s0) (hpre3 : KC s0) (hpre4 : KT s0) (hpre5 : 0 ≤ x0 ∧ x0 ≤ 15) (hpre6 : 0 ≤ x1 ∧ x1 ≤ 5) (hpre7 : 0 ≤ x2 ∧ x2 ≤ 9) (rZ : Int) (sZ : gMem) (hres : f_X4_become x0 x1 x2 s0 = (rZ, sZ)) : (fr [37, 38, 39, 40, 41] s0 sZ) ∧ (gMR lgX sZ) ∧ (True) ∧ (KNx sZ) ∧ (MOx sZ) ∧ (KF sZ) ∧ (KC sZ) ∧ (KT sZ) := by
  have hT := f_X4_become_e x0 x1 x2 s0
  have hf_s0 : fr [37, 38, 39, 40, 41] s0 s0 := fr.rf _ _
  have hKNx_s0 := hpre0
  have hMOx_s0 := hpre1
  have hKF_s0 := hpre2
  have hKC_s0 := hpre3
  have hKT_s0 := hpre4
  obtain ⟨s1, hs1, hT⟩ := glx hT
  have hf_s1 : fr [37, 38, 39, 40, 41] s0 s1 := hs1 ▸ hf_s0.set (by decide)
  have hm_s1 : gMR lgX s1 := hs1 ▸ hm_s0.set32 rfl (by omega)
  have hg_s1 : fr [40] s0 s1 := hs1 ▸ (fr.rf _ _).set (by decide)
  have hKNx_s1 : KNx s1 := hs1 ▸ KNx_set hKNx_s0 (by omega)
  have hMOx_s1 : MOx s1 := MOx_fr hMOx_s0 (fun k hk => hg_s1 k (dj (by decide) k hk))
  have hKF_s1 : KF s1 := KF_fr hKF_s0 (fun k hk => hg_s1 k (dj (by decide) k hk))
  have hKC_s1 : KC s1 := KC_fr hKC_s0 (fun k hk => hg_s1 k (dj (by decide) k hk))
  have hKT_s1 : KT s1 := KT_fr hKT_s0 (fun k hk => hg_s1 k (dj (by decide) k hk))
  obtain ⟨s2, hs2, hT⟩ := glx hT
  have hf_s2 : fr [37, 38, 39, 40, 41] s0 s2 := hs2 ▸ hf_s1.set (by decide)
  have hm_s2 : gMR lgX s2 := hs2 ▸ hm_s1.set32 rfl (by omega)
  have hg_s2 : fr [41] s1 s2 := hs2 ▸ (fr.rf _ _).set (by decide)
  have hKNx_s2 : KNx s2 := KNx_fr hKNx_s1 (fun k hk => hg_s2 k (dj (by decide) k hk))
  have hMOx_s2 : MOx s2 := hs2 ▸ MOx_set hMOx_s1 (by omega)
  have hKF_s2 : KF s2 := KF_fr hKF_s1 (fun k hk => hg_s2 k (dj (by decide) k hk))
  have hKC_s2 : KC s2 := KC_fr hKC_s1 (fun k hk => hg_s2 k (dj (by decide) k hk))
  have hKT_s2 : KT s2 := KT_fr hKT_s1 (fun k hk => hg_s2 k (dj (by decide) k hk))
  obtain ⟨r4, s5, hs5⟩ : ∃ rr ss, (f_X4_forget  s2) = (rr, ss) := ⟨_, _, rfl⟩
  replace hT := gby hT hs5
  have hp6 := f_X4_forget_p  s2  hm_s2 hKF_s2 hKC_s2 hKT_s2 r4 s5 hs5
  obtain ⟨hfc_s5, hm_s5, hp7, hKF_s5, hKC_s5, hKT_s5⟩ := hp6
  have hf_s5 : fr [37, 38, 39, 40, 41] s0 s5 := hf_s2.call (by decide) hfc_s5
  have hKNx_s5 : KNx s5 := KNx_fr hKNx_s2 (fun k hk => hfc_s5 k (dj (by decide) k hk))
  have hMOx_s5 : MOx s5 := MOx_fr hMOx_s2 (fun k hk => hfc_s5 k (dj (by decide) k hk))
  obtain ⟨rfl, rfl⟩ := Prod.mk.inj (hT.symm.trans hres)
  exact ⟨hf_s5, hm_s5, trivial, hKNx_s5, hMOx_s5, hKF_s5, hKC_s5, hKT_s5⟩
set_option maxRecDepth 100000 in
set_option maxHeartbeats 4000000 in
theorem c_X4_become (l : Launch) (D : va_G) (a : Nat → Nat) (cI cJ cS cT : ClassId) (s0 : gMem) (x0 : Int) (x1 : Int) (x2 : Int) (hx0 : in32 x0) (hx1 : in32 x1) (hx2 : in32 x2) (hpre0 : KNx s0) (hpre1 : MOx s0) (hpre2 : KF s0) (hpre3 : KC s0) (hpre4 : KT s0) (hpre5 : 0 ≤ x0 ∧ x0 ≤ 15) (hpre6 : 0 ≤ x1 ∧ x1 ≤ 5) (hpre7 : 0 ≤ x2 ∧ x2 ≤ 9) : gC l yX4_become cX4_become 4 none 3 192 D vwCl (gT cI cJ cS cT) (wdX a cI cJ cS cT) lgX kV rgV [.ref (a 3), gI x0, gI x1, gI x2] s0 (f_X4_become x0 x1 x2 s0) := by
  refine gC_of (by decide +kernel) (hwdX a cI cJ cS cT) (Nat.le_of_ble_eq_true rfl) ?_
  intro A p e R s m args below meth c hR E
  subst hR
  have hT := f_X4_become_e x0 x1 x2 s0
  have hf_s0 : fr [37, 38, 39, 40, 41] s0 s0 := fr.rf _ _
  refine k_lv0 (lv' := [(0, .ref (a 3)), (1, gI x0), (2, gI x1), (3, gI x2)]) rfl ?_
  refine k_mr (fun hm_s0 => ?_)
  have hKNx_s0 := hpre0
  have hMOx_s0 := hpre1
  have hKF_s0 := hpre2
  have hKC_s0 := hpre3
  have hKT_s0 := hpre4
  refine k_aloadn (pc := 0) E 0 dX4_become_0 rfl rfl ?_
  refine k_getf (pc := 1) (q0 := 3) (f := 0) (v := .ref (a 4)) E inX4 rfl rfl (by decide) wm_147 rfl rfl dX4_become_1 ?_
  refine k_getf (pc := 4) (q0 := 4) (f := 0) (v := .ref (a 40)) E inX6 rfl rfl (by decide) wm_103 rfl rfl dX4_become_4 ?_
  refine k_iloadn (pc := 7) E 1 dX4_become_7 rfl rfl ?_
  refine k_iloadn (pc := 8) E 2 dX4_become_8 rfl rfl ?_
  refine k_iastore (pc := 9) (q0 := 40) (t0 := 0) (k := 40) (n := 16) E rfl rfl rfl rfl (by decide) (by omega) (by omega) (by omega) dX4_become_9 ?_
  obtain ⟨s1, hs1, hT⟩ := glx hT
  refine k_sg hs1.symm ?_
  have hf_s1 : fr [37, 38, 39, 40, 41] s0 s1 := hs1 ▸ hf_s0.set (by decide)
  have hg_s1 : fr [40] s0 s1 := hs1 ▸ (fr.rf _ _).set (by decide)
  have hKNx_s1 : KNx s1 := hs1 ▸ KNx_set hKNx_s0 (by omega)
  have hMOx_s1 : MOx s1 := MOx_fr hMOx_s0 (fun k hk => hg_s1 k (dj (by decide) k hk))
  have hKF_s1 : KF s1 := KF_fr hKF_s0 (fun k hk => hg_s1 k (dj (by decide) k hk))
  have hKC_s1 : KC s1 := KC_fr hKC_s0 (fun k hk => hg_s1 k (dj (by decide) k hk))
  have hKT_s1 : KT s1 := KT_fr hKT_s0 (fun k hk => hg_s1 k (dj (by decide) k hk))
  refine k_aloadn (pc := 10) E 0 dX4_become_10 rfl rfl ?_
  refine k_getf (pc := 11) (q0 := 3) (f := 0) (v := .ref (a 4)) E inX4 rfl rfl (by decide) wm_147 rfl rfl dX4_become_11 ?_
  refine k_getf (pc := 14) (q0 := 4) (f := 1) (v := .ref (a 41)) E inX6 rfl rfl (by decide) wm_106 rfl rfl dX4_become_14 ?_
  refine k_iloadn (pc := 17) E 1 dX4_become_17 rfl rfl ?_
  refine k_iloadn (pc := 18) E 3 dX4_become_18 rfl rfl ?_
  refine k_iastore (pc := 19) (q0 := 41) (t0 := 0) (k := 41) (n := 16) E rfl rfl rfl rfl (by decide) (by omega) (by omega) (by omega) dX4_become_19 ?_
  obtain ⟨s2, hs2, hT⟩ := glx hT
  refine k_sg hs2.symm ?_
  have hf_s2 : fr [37, 38, 39, 40, 41] s0 s2 := hs2 ▸ hf_s1.set (by decide)
  have hg_s2 : fr [41] s1 s2 := hs2 ▸ (fr.rf _ _).set (by decide)
  have hKNx_s2 : KNx s2 := KNx_fr hKNx_s1 (fun k hk => hg_s2 k (dj (by decide) k hk))
  have hMOx_s2 : MOx s2 := hs2 ▸ MOx_set hMOx_s1 (by omega)
  have hKF_s2 : KF s2 := KF_fr hKF_s1 (fun k hk => hg_s2 k (dj (by decide) k hk))
  have hKC_s2 : KC s2 := KC_fr hKC_s1 (fun k hk => hg_s2 k (dj (by decide) k hk))
  have hKT_s2 : KT s2 := KT_fr hKT_s1 (fun k hk => hg_s2 k (dj (by decide) k hk))
  refine k_aloadn (pc := 20) E 0 dX4_become_20 rfl rfl ?_
  refine k_mr (fun hm_s2 => ?_)
  refine k_callV (pc := 21) (np := 0) (As := []) (st := []) (q0 := 3) E (c_X4_forget l D a cI cJ cS cT s2  hKF_s2 hKC_s2 hKT_s2) wm_143 wm_4 wm_140 wm_141 wm_142 (by decide +kernel) rfl rfl ⟨by decide, by decide⟩ rfl (Nat.le_of_ble_eq_true rfl) dX4_become_21 (fun r4 s5 hs5 hr3 => ?_)
  replace hT := gby hT hs5
  have hp6 := f_X4_forget_p  s2  hm_s2 hKF_s2 hKC_s2 hKT_s2 r4 s5 hs5
  obtain ⟨hfc_s5, hm_s5, hp7, hKF_s5, hKC_s5, hKT_s5⟩ := hp6
  have hf_s5 : fr [37, 38, 39, 40, 41] s0 s5 := hf_s2.call (by decide) hfc_s5
  have hKNx_s5 : KNx s5 := KNx_fr hKNx_s2 (fun k hk => hfc_s5 k (dj (by decide) k hk))
  have hMOx_s5 : MOx s5 := MOx_fr hMOx_s2 (fun k hk => hfc_s5 k (dj (by decide) k hk))
  refine k_st (st' := []) rfl ?_
  exact k_rho hT (k_vret (pc := 24) E dX4_become_24)

def f_X4_obey (x0 : Int) (s0 : gMem) : gRes := gl (mset s0 63 0 x0) (fun s1 => gb (f_X4_forget  s1) (fun r3 s4 => (0, s4)))
theorem f_X4_obey_e (x0 : Int) (s0 : gMem) : f_X4_obey x0 s0 = gl (mset s0 63 0 x0) (fun s1 => gb (f_X4_forget  s1) (fun r3 s4 => (0, s4))) := rfl
set_option maxRecDepth 100000 in
set_option maxHeartbeats 4000000 in
theorem f_X4_obey_p (x0 : Int) (s0 : gMem) (hx0 : in32 x0) (hm_s0 : gMR lgX s0) (hpre0 : LA s0) (hpre1 : KF s0) (hpre2 : KC s0) (hpre3 : KT s0) (hpre4 : 0 ≤ x0 ∧ x0 ≤ 5) (rZ : Int) (sZ : gMem) (hres : f_X4_obey x0 s0 = (rZ, sZ)) : (fr [37, 38, 39, 63] s0 sZ) ∧ (gMR lgX sZ) ∧ (True) ∧ (LA sZ) ∧ (KF sZ) ∧ (KC sZ) ∧ (KT sZ) := by
  have hT := f_X4_obey_e x0 s0
  have hf_s0 : fr [37, 38, 39, 63] s0 s0 := fr.rf _ _
  have hLA_s0 := hpre0
  have hKF_s0 := hpre1
  have hKC_s0 := hpre2
  have hKT_s0 := hpre3
  obtain ⟨s1, hs1, hT⟩ := glx hT
  have hf_s1 : fr [37, 38, 39, 63] s0 s1 := hs1 ▸ hf_s0.set (by decide)
  have hm_s1 : gMR lgX s1 := hs1 ▸ hm_s0.set32 rfl (by omega)
  have hg_s1 : fr [63] s0 s1 := hs1 ▸ (fr.rf _ _).set (by decide)
  have hLA_s1 : LA s1 := hs1 ▸ LA_set hLA_s0 (by omega)
  have hKF_s1 : KF s1 := KF_fr hKF_s0 (fun k hk => hg_s1 k (dj (by decide) k hk))
  have hKC_s1 : KC s1 := KC_fr hKC_s0 (fun k hk => hg_s1 k (dj (by decide) k hk))
  have hKT_s1 : KT s1 := KT_fr hKT_s0 (fun k hk => hg_s1 k (dj (by decide) k hk))
  obtain ⟨r3, s4, hs4⟩ : ∃ rr ss, (f_X4_forget  s1) = (rr, ss) := ⟨_, _, rfl⟩
  replace hT := gby hT hs4
  have hp5 := f_X4_forget_p  s1  hm_s1 hKF_s1 hKC_s1 hKT_s1 r3 s4 hs4
  obtain ⟨hfc_s4, hm_s4, hp6, hKF_s4, hKC_s4, hKT_s4⟩ := hp5
  have hf_s4 : fr [37, 38, 39, 63] s0 s4 := hf_s1.call (by decide) hfc_s4
  have hLA_s4 : LA s4 := LA_fr hLA_s1 (fun k hk => hfc_s4 k (dj (by decide) k hk))
  obtain ⟨rfl, rfl⟩ := Prod.mk.inj (hT.symm.trans hres)
  exact ⟨hf_s4, hm_s4, trivial, hLA_s4, hKF_s4, hKC_s4, hKT_s4⟩
set_option maxRecDepth 100000 in
set_option maxHeartbeats 4000000 in
theorem c_X4_obey (l : Launch) (D : va_G) (a : Nat → Nat) (cI cJ cS cT : ClassId) (s0 : gMem) (x0 : Int) (hx0 : in32 x0) (hpre0 : LA s0) (hpre1 : KF s0) (hpre2 : KC s0) (hpre3 : KT s0) (hpre4 : 0 ≤ x0 ∧ x0 ≤ 5) : gC l yX4_obey cX4_obey 2 none 3 192 D vwCl (gT cI cJ cS cT) (wdX a cI cJ cS cT) lgX kV rgV [.ref (a 3), gI x0] s0 (f_X4_obey x0 s0) := by
  refine gC_of (by decide +kernel) (hwdX a cI cJ cS cT) (Nat.le_of_ble_eq_true rfl) ?_
  intro A p e R s m args below meth c hR E
  subst hR
  have hT := f_X4_obey_e x0 s0
  have hf_s0 : fr [37, 38, 39, 63] s0 s0 := fr.rf _ _
  refine k_lv0 (lv' := [(0, .ref (a 3)), (1, gI x0)]) rfl ?_
  refine k_mr (fun hm_s0 => ?_)
  have hLA_s0 := hpre0
  have hKF_s0 := hpre1
  have hKC_s0 := hpre2
  have hKT_s0 := hpre3
  refine k_aloadn (pc := 0) E 0 dX4_obey_0 rfl rfl ?_
  refine k_getf (pc := 1) (q0 := 3) (f := 0) (v := .ref (a 4)) E inX4 rfl rfl (by decide) wm_147 rfl rfl dX4_obey_1 ?_
  refine k_iloadn (pc := 4) E 1 dX4_obey_4 rfl rfl ?_
  refine k_putfI (pc := 5) (q0 := 4) (f := 6) (k := 63) E tyX6 tyX6_ok nmX6 inX6 rfl rfl (by decide) wm_124 rfl rfl rfl (Nat.le_of_ble_eq_true rfl) rfl rfl (by omega) dX4_obey_5 ?_
  obtain ⟨s1, hs1, hT⟩ := glx hT
  refine k_sg hs1.symm ?_
  have hf_s1 : fr [37, 38, 39, 63] s0 s1 := hs1 ▸ hf_s0.set (by decide)
  have hg_s1 : fr [63] s0 s1 := hs1 ▸ (fr.rf _ _).set (by decide)
  have hLA_s1 : LA s1 := hs1 ▸ LA_set hLA_s0 (by omega)
  have hKF_s1 : KF s1 := KF_fr hKF_s0 (fun k hk => hg_s1 k (dj (by decide) k hk))
  have hKC_s1 : KC s1 := KC_fr hKC_s0 (fun k hk => hg_s1 k (dj (by decide) k hk))
  have hKT_s1 : KT s1 := KT_fr hKT_s0 (fun k hk => hg_s1 k (dj (by decide) k hk))
  refine k_aloadn (pc := 8) E 0 dX4_obey_8 rfl rfl ?_
  refine k_mr (fun hm_s1 => ?_)
  refine k_callV (pc := 9) (np := 0) (As := []) (st := []) (q0 := 3) E (c_X4_forget l D a cI cJ cS cT s1  hKF_s1 hKC_s1 hKT_s1) wm_143 wm_4 wm_140 wm_141 wm_142 (by decide +kernel) rfl rfl ⟨by decide, by decide⟩ rfl (Nat.le_of_ble_eq_true rfl) dX4_obey_9 (fun r3 s4 hs4 hr2 => ?_)
  replace hT := gby hT hs4
  have hp5 := f_X4_forget_p  s1  hm_s1 hKF_s1 hKC_s1 hKT_s1 r3 s4 hs4
  obtain ⟨hfc_s4, hm_s4, hp6, hKF_s4, hKC_s4, hKT_s4⟩ := hp5
  have hf_s4 : fr [37, 38, 39, 63] s0 s4 := hf_s1.call (by decide) hfc_s4
  have hLA_s4 : LA s4 := LA_fr hLA_s1 (fun k hk => hfc_s4 k (dj (by decide) k hk))
  refine k_st (st' := []) rfl ?_
  exact k_rho hT (k_vret (pc := 12) E dX4_obey_12)

def w_X4_fallsOn_26 (c2 : Int) (c3 : Int) (c4 : Int) (s0 : gMem) : Nat → Int → Int → Int → Int → Int × Int × Int × Int
  | 0, v6, v7, v8, v9 => (v6, v7, v8, v9)
  | n10 + 1, v6, v7, v8, v9 => (if v8 = 0 then (v6, v7, v8, v9) else (if v9 < 0 then (v6, v7, v8, v9) else (if v9 < 16 then (gl3 ((if (f_X8_has c3 v9) = 0 then (gl ((if c4 < (iabs (v9 - v7)) then 0 else 1)) (fun v31 => (v6, v7, v31))) else (if (f_X4_stops v9 s0) = 0 then ((ior v6 (ishl 1 v9)), v9, v8) else (v6, v7, 0)))) (fun v18 v19 v20 => (w_X4_fallsOn_26 c2 c3 c4 s0 n10 v18 v19 v20 (v9 + c2)))) else (v6, v7, v8, v9))))
theorem w_X4_fallsOn_26_s (c2 : Int) (c3 : Int) (c4 : Int) (s0 : gMem) (n10 : Nat) (v6 : Int) (v7 : Int) (v8 : Int) (v9 : Int)  : w_X4_fallsOn_26 c2 c3 c4 s0 (n10 + 1) v6 v7 v8 v9 = (if v8 = 0 then (v6, v7, v8, v9) else (if v9 < 0 then (v6, v7, v8, v9) else (if v9 < 16 then (gl3 ((if (f_X8_has c3 v9) = 0 then (gl ((if c4 < (iabs (v9 - v7)) then 0 else 1)) (fun v31 => (v6, v7, v31))) else (if (f_X4_stops v9 s0) = 0 then ((ior v6 (ishl 1 v9)), v9, v8) else (v6, v7, 0)))) (fun v18 v19 v20 => (w_X4_fallsOn_26 c2 c3 c4 s0 n10 v18 v19 v20 (v9 + c2)))) else (v6, v7, v8, v9)))) := rfl
def f_X4_fallsOn (x0 : Int) (x1 : Int) (x2 : Int) (x3 : Int) (s0 : gMem) : Int := (gl ((if (f_X4_stops x0 s0) = 0 then 1 else 0)) (fun v5 => (gl4 (w_X4_fallsOn_26 x1 x2 x3 s0 34 0 x0 v5 (x0 + x1)) (fun v99 v100 v101 v102 => v99))))
theorem f_X4_fallsOn_e (x0 : Int) (x1 : Int) (x2 : Int) (x3 : Int) (s0 : gMem) : f_X4_fallsOn x0 x1 x2 x3 s0 = (gl ((if (f_X4_stops x0 s0) = 0 then 1 else 0)) (fun v5 => (gl4 (w_X4_fallsOn_26 x1 x2 x3 s0 34 0 x0 v5 (x0 + x1)) (fun v99 v100 v101 v102 => v99)))) := rfl
set_option maxRecDepth 100000 in
set_option maxHeartbeats 4000000 in
theorem f_X4_fallsOn_p (x0 : Int) (x1 : Int) (x2 : Int) (x3 : Int) (s0 : gMem) (hx0 : in32 x0) (hx1 : in32 x1) (hx2 : in32 x2) (hx3 : in32 x3) (hm_s0 : gMR lgX s0) (hpre0 : 0 ≤ x0 ∧ x0 ≤ 15) (hpre1 : x1 = 1 ∨ x1 = -1) : (in32 (f_X4_fallsOn x0 x1 x2 x3 s0)) ∧ (0 ≤ (f_X4_fallsOn x0 x1 x2 x3 s0) ∧ (f_X4_fallsOn x0 x1 x2 x3 s0) ≤ 65535) := by
  have hT := f_X4_fallsOn_e x0 x1 x2 x3 s0
  have kq0 : x1 * (x0 + x1) = x1 * x0 + 1 ∧ x1 * x0 ≤ 15 ∧ -15 ≤ x1 * x0 := by rcases hpre1 with h | h <;> rw [h] <;> omega
  have hp2 := f_X4_stops_p x0 s0 (by omega) hm_s0 (by first | assumption | omega)
  obtain ⟨z114, hz114, hT⟩ := gl1x hT
  have j4 : ∀ (v5 : Int), ((in32 v5) ∧ (v5 = 0 ∨ v5 = 1)) → z114 = v5 → (in32 (f_X4_fallsOn x0 x1 x2 x3 s0)) ∧ (0 ≤ (f_X4_fallsOn x0 x1 x2 x3 s0) ∧ (f_X4_fallsOn x0 x1 x2 x3 s0) ≤ 65535) := by
    intro v5 hq hz
    obtain ⟨hq112, hq113⟩ := hq
    replace hT := gl1y hT hz
    have L45 : ∀ (n46 : Nat) (v41 : Int) (v42 : Int) (v43 : Int) (v44 : Int), ((in32 v41) ∧ (in32 v42) ∧ (in32 v43) ∧ (in32 v44) ∧ (0 ≤ v42 ∧ v42 ≤ 15) ∧ (-1 ≤ v44 ∧ v44 ≤ 16) ∧ (v43 = 0 ∨ v43 = 1) ∧ (x1 * v44 ≤ 16) ∧ (0 ≤ v41 ∧ v41 ≤ 65535)) → 17 - x1 * v44 < (n46 : Int) → (∀ (w47 : Int) (w48 : Int) (w49 : Int) (w50 : Int), (w_X4_fallsOn_26 x1 x2 x3 s0 n46 v41 v42 v43 v44) = (w47, w48, w49, w50) → ((in32 w47) ∧ (in32 w48) ∧ (in32 w49) ∧ (in32 w50) ∧ (0 ≤ w48 ∧ w48 ≤ 15) ∧ (-1 ≤ w50 ∧ w50 ≤ 16) ∧ (w49 = 0 ∨ w49 = 1) ∧ (x1 * w50 ≤ 16) ∧ (0 ≤ w47 ∧ w47 ≤ 65535)) → (in32 (f_X4_fallsOn x0 x1 x2 x3 s0)) ∧ (0 ≤ (f_X4_fallsOn x0 x1 x2 x3 s0) ∧ (f_X4_fallsOn x0 x1 x2 x3 s0) ≤ 65535)) → (in32 (f_X4_fallsOn x0 x1 x2 x3 s0)) ∧ (0 ≤ (f_X4_fallsOn x0 x1 x2 x3 s0) ∧ (f_X4_fallsOn x0 x1 x2 x3 s0) ≤ 65535) := by
      intro n46; induction n46 with
      | zero =>
        intro v41 v42 v43 v44 hq hm hk
        exfalso
        obtain ⟨hq81, hq82, hq83, hq84, hq85, hq86, hq87, hq88, hq89⟩ := hq
        omega
      | succ n46 ih =>
        intro v41 v42 v43 v44 hq hm hk
        obtain ⟨hq90, hq91, hq92, hq93, hq94, hq95, hq96, hq97, hq98⟩ := hq
        have hT := w_X4_fallsOn_26_s x1 x2 x3 s0 n46 v41 v42 v43 v44
        by_cases h51 : v43 = 0
        · replace hT := hT.trans (if_pos h51)
          exact hk v41 v42 v43 v44 hT ⟨(by omega), (by omega), (by omega), (by omega), (by first | assumption | omega), (by first | assumption | omega), (by first | assumption | omega), (by first | assumption | omega), (by first | assumption | omega)⟩
        · replace hT := hT.trans (if_neg h51)
          by_cases h52 : v44 < 0
          · replace hT := hT.trans (if_pos h52)
            exact hk v41 v42 v43 v44 hT ⟨(by omega), (by omega), (by omega), (by omega), (by first | assumption | omega), (by first | assumption | omega), (by first | assumption | omega), (by first | assumption | omega), (by first | assumption | omega)⟩
          · replace hT := hT.trans (if_neg h52)
            by_cases h53 : v44 < 16
            · replace hT := hT.trans (if_pos h53)
              have hp55 := f_X8_has_p x2 v44 (by omega) (by omega) 
              obtain ⟨z67, hz67, hT⟩ := gl3x hT
              have j57 : ∀ (v58 : Int) (v59 : Int) (v60 : Int), ((in32 v58) ∧ (in32 v59) ∧ (in32 v60) ∧ (0 ≤ v59 ∧ v59 ≤ 15) ∧ (v60 = 0 ∨ v60 = 1) ∧ (0 ≤ v58 ∧ v58 ≤ 65535)) → z67 = (v58, v59, v60) → (in32 (f_X4_fallsOn x0 x1 x2 x3 s0)) ∧ (0 ≤ (f_X4_fallsOn x0 x1 x2 x3 s0) ∧ (f_X4_fallsOn x0 x1 x2 x3 s0) ≤ 65535) := by
                intro v58 v59 v60 hq hz
                obtain ⟨hq61, hq62, hq63, hq64, hq65, hq66⟩ := hq
                replace hT := gl3y hT hz
                have kq : x1 * (v44 + x1) = x1 * v44 + 1 ∧ x1 * v44 ≤ 15 := by rcases hpre1 with h | h <;> rw [h] <;> omega
                exact ih v58 v59 v60 (v44 + x1) ⟨(by omega), (by omega), (by omega), (by omega), (by first | assumption | omega), (by first | assumption | omega), (by first | assumption | omega), (by first | assumption | omega), (by first | assumption | omega)⟩ (by omega) (fun w47 w48 w49 w50 hw hi => hk w47 w48 w49 w50 (hT.trans hw) hi)
              replace hT := hz67
              by_cases h56 : (f_X8_has x2 v44) = 0
              · replace hT := hT.trans (if_pos h56)
                have hp68 := iabs_p (v44 - v42)
                obtain ⟨z74, hz74, hT⟩ := gl1x hT
                have j70 : ∀ (v71 : Int), ((in32 v71) ∧ (v71 = 0 ∨ v71 = 1)) → z74 = v71 → (in32 (f_X4_fallsOn x0 x1 x2 x3 s0)) ∧ (0 ≤ (f_X4_fallsOn x0 x1 x2 x3 s0) ∧ (f_X4_fallsOn x0 x1 x2 x3 s0) ≤ 65535) := by
                  intro v71 hq hz
                  obtain ⟨hq72, hq73⟩ := hq
                  replace hT := gl1y hT hz
                  exact j57 v41 v42 v71 ⟨(by omega), (by omega), (by omega), (by first | assumption | omega), (by first | assumption | omega), (by first | assumption | omega)⟩ hT
                replace hT := hz74
                by_cases h69 : x3 < (iabs (v44 - v42))
                · replace hT := hT.trans (if_pos h69)
                  exact j70 0 ⟨(by omega), (by first | assumption | omega)⟩ hT
                · replace hT := hT.trans (if_neg h69)
                  exact j70 1 ⟨(by omega), (by first | assumption | omega)⟩ hT
              · replace hT := hT.trans (if_neg h56)
                have hp76 := f_X4_stops_p v44 s0 (by omega) hm_s0 (by first | assumption | omega)
                by_cases h77 : (f_X4_stops v44 s0) = 0
                · replace hT := hT.trans (if_pos h77)
                  have hb78 := ishl_rg 1 v44
                  have hb79 : 0 ≤ v44 ∧ v44 ≤ 15 → _ := fun q => ishl_1 q.1 q.2
                  have kn1 := ishl_1 (p := v44) (by omega) (by omega)
                  have kn := ior_16 (x := v41) (y := ishl 1 v44) (by omega) (by omega) (by omega) (by omega)
                  have hb80 := ior_rg v41 (ishl 1 v44)
                  exact j57 (ior v41 (ishl 1 v44)) v44 v43 ⟨(by omega), (by omega), (by omega), (by first | assumption | omega), (by first | assumption | omega), (by first | assumption | omega)⟩ hT
                · replace hT := hT.trans (if_neg h77)
                  exact j57 v41 v42 0 ⟨(by omega), (by omega), (by omega), (by first | assumption | omega), (by first | assumption | omega), (by first | assumption | omega)⟩ hT
            · replace hT := hT.trans (if_neg h53)
              exact hk v41 v42 v43 v44 hT ⟨(by omega), (by omega), (by omega), (by omega), (by first | assumption | omega), (by first | assumption | omega), (by first | assumption | omega), (by first | assumption | omega), (by first | assumption | omega)⟩
    refine L45 34 0 x0 v5 (x0 + x1) ⟨(by omega), (by omega), (by omega), (by omega), (by first | assumption | omega), (by first | assumption | omega), (by first | assumption | omega), (by first | assumption | omega), (by first | assumption | omega)⟩ (by omega) (fun v99 v100 v101 v102 hw hq => ?_)
    obtain ⟨hq103, hq104, hq105, hq106, hq107, hq108, hq109, hq110, hq111⟩ := hq
    replace hT := gl4y hT hw
    rw [hT]
    exact ⟨(by omega), (by first | assumption | omega)⟩
  replace hT := hz114
  by_cases h3 : (f_X4_stops x0 s0) = 0
  · replace hT := hT.trans (if_pos h3)
    exact j4 1 ⟨(by omega), (by first | assumption | omega)⟩ hT
  · replace hT := hT.trans (if_neg h3)
    exact j4 0 ⟨(by omega), (by first | assumption | omega)⟩ hT
set_option maxRecDepth 100000 in
set_option maxHeartbeats 4000000 in
theorem c_X4_fallsOn (l : Launch) (D : va_G) (a : Nat → Nat) (cI cJ cS cT : ClassId) (s0 : gMem) (x0 : Int) (x1 : Int) (x2 : Int) (x3 : Int) (hx0 : in32 x0) (hx1 : in32 x1) (hx2 : in32 x2) (hx3 : in32 x3) (hpre0 : 0 ≤ x0 ∧ x0 ≤ 15) (hpre1 : x1 = 1 ∨ x1 = -1) : gC l yX4_fallsOn cX4_fallsOn 9 (some .int) 2 128 D vwCl (gT cI cJ cS cT) (wdX a cI cJ cS cT) lgX kI in32 [.ref (a 3), gI x0, gI x1, gI x2, gI x3] s0 ((f_X4_fallsOn x0 x1 x2 x3 s0), s0) := by
  refine gC_of (by decide +kernel) (hwdX a cI cJ cS cT) (Nat.le_of_ble_eq_true rfl) ?_
  intro A p e R s m args below meth c hR E
  subst hR
  have hT := f_X4_fallsOn_e x0 x1 x2 x3 s0
  refine k_lv0 (lv' := [(0, .ref (a 3)), (1, gI x0), (2, gI x1), (3, gI x2), (4, gI x3)]) rfl ?_
  refine k_mr (fun hm_s0 => ?_)
  have kq0 : x1 * (x0 + x1) = x1 * x0 + 1 ∧ x1 * x0 ≤ 15 ∧ -15 ≤ x1 * x0 := by rcases hpre1 with h | h <;> rw [h] <;> omega
  refine k_iconst (pc := 0) E dX4_fallsOn_0 ?_
  refine k_istore (pc := 1) (lv' := [(5, gI 0), (0, .ref (a 3)), (1, gI x0), (2, gI x1), (3, gI x2), (4, gI x3)]) E dX4_fallsOn_1 (by decide) rfl ?_
  refine k_iloadn (pc := 3) E 2 dX4_fallsOn_3 rfl rfl ?_
  refine k_istore (pc := 4) (lv' := [(6, gI x0), (5, gI 0), (0, .ref (a 3)), (1, gI x0), (2, gI x1), (3, gI x2), (4, gI x3)]) E dX4_fallsOn_4 (by decide) rfl ?_
  refine k_aloadn (pc := 6) E 2 dX4_fallsOn_6 rfl rfl ?_
  refine k_iloadn (pc := 7) E 3 dX4_fallsOn_7 rfl rfl ?_
  refine k_mr (fun hm_s0 => ?_)
  refine k_callV (pc := 8) (np := 1) (As := [gI x0]) (st := []) (q0 := 3) E (c_X4_stops l D a cI cJ cS cT s0 x0 (by omega) (by first | assumption | omega)) wm_533 wm_4 wm_678 wm_531 wm_532 (by decide +kernel) rfl rfl ⟨by decide, by decide⟩ rfl (Nat.le_of_ble_eq_true rfl) dX4_fallsOn_8 (ro_kk (fun hr1 => ?_))
  have hp2 := f_X4_stops_p x0 s0 (by omega) hm_s0 (by first | assumption | omega)
  refine k_st (st' := [gI (f_X4_stops x0 s0)]) rfl ?_
  obtain ⟨z114, hz114, hT⟩ := gl1x hT
  have j4 : ∀ (v5 : Int), ((in32 v5) ∧ (v5 = 0 ∨ v5 = 1)) → z114 = v5 → gK D vwCl (wdX a cI cJ cS cT) lgX A p l e { frames := 2, cells := 0, slots := 0, locals := 128 } s m args below meth c 9 (gQQ D vwCl (wdX a cI cJ cS cT) lgX A kI in32 below args s) ((f_X4_fallsOn x0 x1 x2 x3 s0), s0) s0 19 [(0, .ref (a 3)), (1, gI x0), (2, gI x1), (3, gI x2), (4, gI x3), (5, gI 0), (6, gI x0)] [gI v5] := by
    intro v5 hq hz
    obtain ⟨hq112, hq113⟩ := hq
    replace hT := gl1y hT hz
    refine k_istore (pc := 19) (lv' := [(7, gI v5), (0, .ref (a 3)), (1, gI x0), (2, gI x1), (3, gI x2), (4, gI x3), (5, gI 0), (6, gI x0)]) E dX4_fallsOn_19 (by decide) rfl ?_
    refine k_iloadn (pc := 21) E 2 dX4_fallsOn_21 rfl rfl ?_
    refine k_iloadn (pc := 22) E 3 dX4_fallsOn_22 rfl rfl ?_
    refine k_iadd (pc := 23) E dX4_fallsOn_23 ?_
    refine k_istore (pc := 24) (lv' := [(8, gI (x0 + x1)), (7, gI v5), (0, .ref (a 3)), (1, gI x0), (2, gI x1), (3, gI x2), (4, gI x3), (5, gI 0), (6, gI x0)]) E dX4_fallsOn_24 (by decide) rfl ?_
    have L45 : ∀ (n46 : Nat) (v41 : Int) (v42 : Int) (v43 : Int) (v44 : Int), ((in32 v41) ∧ (in32 v42) ∧ (in32 v43) ∧ (in32 v44) ∧ (0 ≤ v42 ∧ v42 ≤ 15) ∧ (-1 ≤ v44 ∧ v44 ≤ 16) ∧ (v43 = 0 ∨ v43 = 1) ∧ (x1 * v44 ≤ 16) ∧ (0 ≤ v41 ∧ v41 ≤ 65535)) → 17 - x1 * v44 < (n46 : Int) → (∀ (w47 : Int) (w48 : Int) (w49 : Int) (w50 : Int), (w_X4_fallsOn_26 x1 x2 x3 s0 n46 v41 v42 v43 v44) = (w47, w48, w49, w50) → ((in32 w47) ∧ (in32 w48) ∧ (in32 w49) ∧ (in32 w50) ∧ (0 ≤ w48 ∧ w48 ≤ 15) ∧ (-1 ≤ w50 ∧ w50 ≤ 16) ∧ (w49 = 0 ∨ w49 = 1) ∧ (x1 * w50 ≤ 16) ∧ (0 ≤ w47 ∧ w47 ≤ 65535)) → gK D vwCl (wdX a cI cJ cS cT) lgX A p l e { frames := 2, cells := 0, slots := 0, locals := 128 } s m args below meth c 9 (gQQ D vwCl (wdX a cI cJ cS cT) lgX A kI in32 below args s) ((f_X4_fallsOn x0 x1 x2 x3 s0), s0) s0 112 [(5, gI w47)] []) → gK D vwCl (wdX a cI cJ cS cT) lgX A p l e { frames := 2, cells := 0, slots := 0, locals := 128 } s m args below meth c 9 (gQQ D vwCl (wdX a cI cJ cS cT) lgX A kI in32 below args s) ((f_X4_fallsOn x0 x1 x2 x3 s0), s0) s0 26 [(0, .ref (a 3)), (2, gI x1), (3, gI x2), (4, gI x3), (5, gI v41), (6, gI v42), (7, gI v43), (8, gI v44)] [] := by
      intro n46; induction n46 with
      | zero =>
        intro v41 v42 v43 v44 hq hm hk
        exfalso
        obtain ⟨hq81, hq82, hq83, hq84, hq85, hq86, hq87, hq88, hq89⟩ := hq
        omega
      | succ n46 ih =>
        intro v41 v42 v43 v44 hq hm hk
        obtain ⟨hq90, hq91, hq92, hq93, hq94, hq95, hq96, hq97, hq98⟩ := hq
        have hT := w_X4_fallsOn_26_s x1 x2 x3 s0 n46 v41 v42 v43 v44
        refine k_iload (pc := 26) E 6 dX4_fallsOn_26 rfl ?_
        by_cases h51 : v43 = 0
        · replace hT := hT.trans (if_pos h51)
          refine k_if_eq_t (pc := 28) (tgt := 112) E (by omega) dX4_fallsOn_28 (by decide) h51 ?_
          refine k_lv (lv' := [(5, gI v41)]) [4] rfl ?_
          exact hk v41 v42 v43 v44 hT ⟨(by omega), (by omega), (by omega), (by omega), (by first | assumption | omega), (by first | assumption | omega), (by first | assumption | omega), (by first | assumption | omega), (by first | assumption | omega)⟩
        · replace hT := hT.trans (if_neg h51)
          refine k_if_eq_f (pc := 28) (tgt := 112) E (by omega) dX4_fallsOn_28 (by decide) h51 ?_
          refine k_iload (pc := 31) E 7 dX4_fallsOn_31 rfl ?_
          by_cases h52 : v44 < 0
          · replace hT := hT.trans (if_pos h52)
            refine k_if_lt_t (pc := 33) (tgt := 112) E (by omega) dX4_fallsOn_33 (by decide) h52 ?_
            refine k_lv (lv' := [(5, gI v41)]) [4] rfl ?_
            exact hk v41 v42 v43 v44 hT ⟨(by omega), (by omega), (by omega), (by omega), (by first | assumption | omega), (by first | assumption | omega), (by first | assumption | omega), (by first | assumption | omega), (by first | assumption | omega)⟩
          · replace hT := hT.trans (if_neg h52)
            refine k_if_lt_f (pc := 33) (tgt := 112) E (by omega) dX4_fallsOn_33 (by decide) h52 ?_
            refine k_iload (pc := 36) E 7 dX4_fallsOn_36 rfl ?_
            refine k_bipush (pc := 38) E dX4_fallsOn_38 (by decide) ?_
            by_cases h53 : v44 < 16
            · replace hT := hT.trans (if_pos h53)
              refine k_icmp_ge_f (pc := 40) (tgt := 112) E (by omega) (by omega) dX4_fallsOn_40 (by decide) h53 ?_
              refine k_iloadn (pc := 43) E 2 dX4_fallsOn_43 rfl rfl ?_
              refine k_iload (pc := 44) E 7 dX4_fallsOn_44 rfl ?_
              refine k_mr (fun hm_s0 => ?_)
              refine k_callSN (pc := 46) (np := 2) (As := [gI x2, gI v44]) (st := []) E (c_X8_has l D a cI cJ cS cT s0 x2 v44 (by omega) (by omega)) wm_552 wm_1 (List.mem_of_getElem? (i := 1) rfl) wm_551 (by decide +kernel) ⟨by decide, by decide⟩ rfl (Nat.le_of_ble_eq_true rfl) dX4_fallsOn_46 (ro_kk (fun hr54 => ?_))
              have hp55 := f_X8_has_p x2 v44 (by omega) (by omega) 
              refine k_st (st' := [gI (f_X8_has x2 v44)]) rfl ?_
              obtain ⟨z67, hz67, hT⟩ := gl3x hT
              have j57 : ∀ (v58 : Int) (v59 : Int) (v60 : Int), ((in32 v58) ∧ (in32 v59) ∧ (in32 v60) ∧ (0 ≤ v59 ∧ v59 ≤ 15) ∧ (v60 = 0 ∨ v60 = 1) ∧ (0 ≤ v58 ∧ v58 ≤ 65535)) → z67 = (v58, v59, v60) → gK D vwCl (wdX a cI cJ cS cT) lgX A p l e { frames := 2, cells := 0, slots := 0, locals := 128 } s m args below meth c 9 (gQQ D vwCl (wdX a cI cJ cS cT) lgX A kI in32 below args s) ((f_X4_fallsOn x0 x1 x2 x3 s0), s0) s0 103 [(0, .ref (a 3)), (2, gI x1), (3, gI x2), (4, gI x3), (5, gI v58), (6, gI v59), (7, gI v60), (8, gI v44)] [] := by
                intro v58 v59 v60 hq hz
                obtain ⟨hq61, hq62, hq63, hq64, hq65, hq66⟩ := hq
                replace hT := gl3y hT hz
                refine k_iload (pc := 103) E 7 dX4_fallsOn_103 rfl ?_
                refine k_iloadn (pc := 105) E 1 dX4_fallsOn_105 rfl rfl ?_
                have kq : x1 * (v44 + x1) = x1 * v44 + 1 ∧ x1 * v44 ≤ 15 := by rcases hpre1 with h | h <;> rw [h] <;> omega
                refine k_iadd (pc := 106) E dX4_fallsOn_106 ?_
                refine k_istore (pc := 107) (lv' := [(8, gI (v44 + x1)), (0, .ref (a 3)), (2, gI x1), (3, gI x2), (4, gI x3), (5, gI v58), (6, gI v59), (7, gI v60)]) E dX4_fallsOn_107 (by decide) rfl ?_
                refine k_goto (pc := 109) (tgt := 26) E dX4_fallsOn_109 (by decide) ?_
                refine k_lv (lv' := [(0, .ref (a 3)), (2, gI x1), (3, gI x2), (4, gI x3), (5, gI v58), (6, gI v59), (7, gI v60), (8, gI (v44 + x1))]) [1, 2, 3, 4, 5, 6, 7, 0] rfl ?_
                exact ih v58 v59 v60 (v44 + x1) ⟨(by omega), (by omega), (by omega), (by omega), (by first | assumption | omega), (by first | assumption | omega), (by first | assumption | omega), (by first | assumption | omega), (by first | assumption | omega)⟩ (by omega) (fun w47 w48 w49 w50 hw hi => hk w47 w48 w49 w50 (hT.trans hw) hi)
              replace hT := hz67
              by_cases h56 : (f_X8_has x2 v44) = 0
              · replace hT := hT.trans (if_pos h56)
                refine k_if_ne_f (pc := 49) (tgt := 75) E (by omega) dX4_fallsOn_49 (by decide) h56 ?_
                refine k_iload (pc := 52) E 7 dX4_fallsOn_52 rfl ?_
                refine k_iload (pc := 54) E 5 dX4_fallsOn_54 rfl ?_
                refine k_isub (pc := 56) E dX4_fallsOn_56 ?_
                refine k_abs (pc := 57) (st := []) E (by omega) wk_679 wk_680 wm_18 wk_681 (by decide) (Nat.le_of_ble_eq_true rfl) dX4_fallsOn_57 ?_
                have hp68 := iabs_p (v44 - v42)
                refine k_iload (pc := 60) E 3 dX4_fallsOn_60 rfl ?_
                obtain ⟨z74, hz74, hT⟩ := gl1x hT
                have j70 : ∀ (v71 : Int), ((in32 v71) ∧ (v71 = 0 ∨ v71 = 1)) → z74 = v71 → gK D vwCl (wdX a cI cJ cS cT) lgX A p l e { frames := 2, cells := 0, slots := 0, locals := 128 } s m args below meth c 9 (gQQ D vwCl (wdX a cI cJ cS cT) lgX A kI in32 below args s) ((f_X4_fallsOn x0 x1 x2 x3 s0), s0) s0 70 [(0, .ref (a 3)), (2, gI x1), (3, gI x2), (4, gI x3), (5, gI v41), (6, gI v42), (8, gI v44)] [gI v71] := by
                  intro v71 hq hz
                  obtain ⟨hq72, hq73⟩ := hq
                  replace hT := gl1y hT hz
                  refine k_istore (pc := 70) (lv' := [(7, gI v71), (0, .ref (a 3)), (2, gI x1), (3, gI x2), (4, gI x3), (5, gI v41), (6, gI v42), (8, gI v44)]) E dX4_fallsOn_70 (by decide) rfl ?_
                  refine k_goto (pc := 72) (tgt := 103) E dX4_fallsOn_72 (by decide) ?_
                  refine k_lv (lv' := [(0, .ref (a 3)), (2, gI x1), (3, gI x2), (4, gI x3), (5, gI v41), (6, gI v42), (7, gI v71), (8, gI v44)]) [1, 2, 3, 4, 5, 6, 0, 7] rfl ?_
                  exact j57 v41 v42 v71 ⟨(by omega), (by omega), (by omega), (by first | assumption | omega), (by first | assumption | omega), (by first | assumption | omega)⟩ hT
                replace hT := hz74
                by_cases h69 : x3 < (iabs (v44 - v42))
                · replace hT := hT.trans (if_pos h69)
                  refine k_icmp_gt_t (pc := 62) (tgt := 69) E (by omega) (by omega) dX4_fallsOn_62 (by decide) h69 ?_
                  refine k_iconst (pc := 69) E dX4_fallsOn_69 ?_
                  refine k_lv (lv' := [(0, .ref (a 3)), (2, gI x1), (3, gI x2), (4, gI x3), (5, gI v41), (6, gI v42), (8, gI v44)]) [0, 1, 2, 3, 4, 5, 7] rfl ?_
                  exact j70 0 ⟨(by omega), (by first | assumption | omega)⟩ hT
                · replace hT := hT.trans (if_neg h69)
                  refine k_icmp_gt_f (pc := 62) (tgt := 69) E (by omega) (by omega) dX4_fallsOn_62 (by decide) h69 ?_
                  refine k_iconst (pc := 65) E dX4_fallsOn_65 ?_
                  refine k_goto (pc := 66) (tgt := 70) E dX4_fallsOn_66 (by decide) ?_
                  refine k_lv (lv' := [(0, .ref (a 3)), (2, gI x1), (3, gI x2), (4, gI x3), (5, gI v41), (6, gI v42), (8, gI v44)]) [0, 1, 2, 3, 4, 5, 7] rfl ?_
                  exact j70 1 ⟨(by omega), (by first | assumption | omega)⟩ hT
              · replace hT := hT.trans (if_neg h56)
                refine k_if_ne_t (pc := 49) (tgt := 75) E (by omega) dX4_fallsOn_49 (by decide) h56 ?_
                refine k_aloadn (pc := 75) E 0 dX4_fallsOn_75 rfl rfl ?_
                refine k_iload (pc := 76) E 7 dX4_fallsOn_76 rfl ?_
                refine k_mr (fun hm_s0 => ?_)
                refine k_callV (pc := 78) (np := 1) (As := [gI v44]) (st := []) (q0 := 3) E (c_X4_stops l D a cI cJ cS cT s0 v44 (by omega) (by first | assumption | omega)) wm_533 wm_4 wm_678 wm_531 wm_532 (by decide +kernel) rfl rfl ⟨by decide, by decide⟩ rfl (Nat.le_of_ble_eq_true rfl) dX4_fallsOn_78 (ro_kk (fun hr75 => ?_))
                have hp76 := f_X4_stops_p v44 s0 (by omega) hm_s0 (by first | assumption | omega)
                refine k_st (st' := [gI (f_X4_stops v44 s0)]) rfl ?_
                by_cases h77 : (f_X4_stops v44 s0) = 0
                · replace hT := hT.trans (if_pos h77)
                  refine k_if_eq_t (pc := 81) (tgt := 90) E (by omega) dX4_fallsOn_81 (by decide) h77 ?_
                  refine k_iload (pc := 90) E 4 dX4_fallsOn_90 rfl ?_
                  refine k_iconst (pc := 92) E dX4_fallsOn_92 ?_
                  refine k_iload (pc := 93) E 7 dX4_fallsOn_93 rfl ?_
                  refine k_ishl (pc := 95) E dX4_fallsOn_95 ?_
                  have hb78 := ishl_rg 1 v44
                  have hb79 : 0 ≤ v44 ∧ v44 ≤ 15 → _ := fun q => ishl_1 q.1 q.2
                  have kn1 := ishl_1 (p := v44) (by omega) (by omega)
                  have kn := ior_16 (x := v41) (y := ishl 1 v44) (by omega) (by omega) (by omega) (by omega)
                  refine k_ior (pc := 96) E dX4_fallsOn_96 ?_
                  have hb80 := ior_rg v41 (ishl 1 v44)
                  refine k_istore (pc := 97) (lv' := [(5, gI (ior v41 (ishl 1 v44))), (0, .ref (a 3)), (2, gI x1), (3, gI x2), (4, gI x3), (6, gI v42), (7, gI v43), (8, gI v44)]) E dX4_fallsOn_97 (by decide) rfl ?_
                  refine k_iload (pc := 99) E 7 dX4_fallsOn_99 rfl ?_
                  refine k_istore (pc := 101) (lv' := [(6, gI v44), (5, gI (ior v41 (ishl 1 v44))), (0, .ref (a 3)), (2, gI x1), (3, gI x2), (4, gI x3), (7, gI v43), (8, gI v44)]) E dX4_fallsOn_101 (by decide) rfl ?_
                  refine k_lv (lv' := [(0, .ref (a 3)), (2, gI x1), (3, gI x2), (4, gI x3), (5, gI (ior v41 (ishl 1 v44))), (6, gI v44), (7, gI v43), (8, gI v44)]) [2, 3, 4, 5, 1, 0, 6, 7] rfl ?_
                  exact j57 (ior v41 (ishl 1 v44)) v44 v43 ⟨(by omega), (by omega), (by omega), (by first | assumption | omega), (by first | assumption | omega), (by first | assumption | omega)⟩ hT
                · replace hT := hT.trans (if_neg h77)
                  refine k_if_eq_f (pc := 81) (tgt := 90) E (by omega) dX4_fallsOn_81 (by decide) h77 ?_
                  refine k_iconst (pc := 84) E dX4_fallsOn_84 ?_
                  refine k_istore (pc := 85) (lv' := [(7, gI 0), (0, .ref (a 3)), (2, gI x1), (3, gI x2), (4, gI x3), (5, gI v41), (6, gI v42), (8, gI v44)]) E dX4_fallsOn_85 (by decide) rfl ?_
                  refine k_goto (pc := 87) (tgt := 103) E dX4_fallsOn_87 (by decide) ?_
                  refine k_lv (lv' := [(0, .ref (a 3)), (2, gI x1), (3, gI x2), (4, gI x3), (5, gI v41), (6, gI v42), (7, gI 0), (8, gI v44)]) [1, 2, 3, 4, 5, 6, 0, 7] rfl ?_
                  exact j57 v41 v42 0 ⟨(by omega), (by omega), (by omega), (by first | assumption | omega), (by first | assumption | omega), (by first | assumption | omega)⟩ hT
            · replace hT := hT.trans (if_neg h53)
              refine k_icmp_ge_t (pc := 40) (tgt := 112) E (by omega) (by omega) dX4_fallsOn_40 (by decide) h53 ?_
              refine k_lv (lv' := [(5, gI v41)]) [4] rfl ?_
              exact hk v41 v42 v43 v44 hT ⟨(by omega), (by omega), (by omega), (by omega), (by first | assumption | omega), (by first | assumption | omega), (by first | assumption | omega), (by first | assumption | omega), (by first | assumption | omega)⟩
    refine k_lv (lv' := [(0, .ref (a 3)), (2, gI x1), (3, gI x2), (4, gI x3), (5, gI 0), (6, gI x0), (7, gI v5), (8, gI (x0 + x1))]) [2, 4, 5, 6, 7, 8, 1, 0] rfl ?_
    refine L45 34 0 x0 v5 (x0 + x1) ⟨(by omega), (by omega), (by omega), (by omega), (by first | assumption | omega), (by first | assumption | omega), (by first | assumption | omega), (by first | assumption | omega), (by first | assumption | omega)⟩ (by omega) (fun v99 v100 v101 v102 hw hq => ?_)
    obtain ⟨hq103, hq104, hq105, hq106, hq107, hq108, hq109, hq110, hq111⟩ := hq
    replace hT := gl4y hT hw
    refine k_iload (pc := 112) E 0 dX4_fallsOn_112 rfl ?_
    exact k_rho (congrArg (fun q => (q, s0)) hT) (k_iret (pc := 114) E dX4_fallsOn_114 (by omega))
  replace hT := hz114
  by_cases h3 : (f_X4_stops x0 s0) = 0
  · replace hT := hT.trans (if_pos h3)
    refine k_if_ne_f (pc := 11) (tgt := 18) E (by omega) dX4_fallsOn_11 (by decide) h3 ?_
    refine k_iconst (pc := 14) E dX4_fallsOn_14 ?_
    refine k_goto (pc := 15) (tgt := 19) E dX4_fallsOn_15 (by decide) ?_
    refine k_lv (lv' := [(0, .ref (a 3)), (1, gI x0), (2, gI x1), (3, gI x2), (4, gI x3), (5, gI 0), (6, gI x0)]) [2, 3, 4, 5, 6, 1, 0] rfl ?_
    exact j4 1 ⟨(by omega), (by first | assumption | omega)⟩ hT
  · replace hT := hT.trans (if_neg h3)
    refine k_if_ne_t (pc := 11) (tgt := 18) E (by omega) dX4_fallsOn_11 (by decide) h3 ?_
    refine k_iconst (pc := 18) E dX4_fallsOn_18 ?_
    refine k_lv (lv' := [(0, .ref (a 3)), (1, gI x0), (2, gI x1), (3, gI x2), (4, gI x3), (5, gI 0), (6, gI x0)]) [2, 3, 4, 5, 6, 1, 0] rfl ?_
    exact j4 0 ⟨(by omega), (by first | assumption | omega)⟩ hT

def f_X4_pushed (x0 : Int) (x1 : Int) (x2 : Int) (s0 : gMem) : Int := (if (f_X8_has (s0 60 0) x0) = 0 then 0 else (gl ((if x1 = 2 then (ishl 1 x0) else gl (ior (ishl 1 x0) (f_X4_fallsOn x0 1 (s0 60 0) x2 s0)) (fun v22 => v22))) (fun v9 => (if x1 = 1 then v9 else gl (ior v9 (f_X4_fallsOn x0 (-1) (s0 60 0) x2 s0)) (fun v15 => v15)))))
theorem f_X4_pushed_e (x0 : Int) (x1 : Int) (x2 : Int) (s0 : gMem) : f_X4_pushed x0 x1 x2 s0 = (if (f_X8_has (s0 60 0) x0) = 0 then 0 else (gl ((if x1 = 2 then (ishl 1 x0) else gl (ior (ishl 1 x0) (f_X4_fallsOn x0 1 (s0 60 0) x2 s0)) (fun v22 => v22))) (fun v9 => (if x1 = 1 then v9 else gl (ior v9 (f_X4_fallsOn x0 (-1) (s0 60 0) x2 s0)) (fun v15 => v15))))) := rfl
set_option maxRecDepth 100000 in
set_option maxHeartbeats 4000000 in
theorem f_X4_pushed_p (x0 : Int) (x1 : Int) (x2 : Int) (s0 : gMem) (hx0 : in32 x0) (hx1 : in32 x1) (hx2 : in32 x2) (hm_s0 : gMR lgX s0) (hpre0 : 0 ≤ x0 ∧ x0 ≤ 15) : (in32 (f_X4_pushed x0 x1 x2 s0)) := by
  have hT := f_X4_pushed_e x0 x1 x2 s0
  have hr1 := (hm_s0 60 0).1 rfl
  have hp3 := f_X8_has_p (s0 60 0) x0 (by omega) (by omega) 
  by_cases h4 : (f_X8_has (s0 60 0) x0) = 0
  · replace hT := hT.trans (if_pos h4)
    rw [hT]
    exact (by omega)
  · replace hT := hT.trans (if_neg h4)
    have hb5 := ishl_rg 1 x0
    have hb6 : 0 ≤ x0 ∧ x0 ≤ 15 → _ := fun q => ishl_1 q.1 q.2
    obtain ⟨z17, hz17, hT⟩ := gl1x hT
    have j8 : ∀ (v9 : Int), ((in32 v9)) → z17 = v9 → (in32 (f_X4_pushed x0 x1 x2 s0)) := by
      intro v9 hq hz
      have hq16 := hq
      replace hT := gl1y hT hz
      by_cases h10 : x1 = 1
      · replace hT := hT.trans (if_pos h10)
        rw [hT]
        exact (by omega)
      · replace hT := hT.trans (if_neg h10)
        have hr11 := (hm_s0 60 0).1 rfl
        have hp13 := f_X4_fallsOn_p x0 (-1) (s0 60 0) x2 s0 (by omega) (by omega) (by omega) (by omega) hm_s0 (by first | assumption | omega) (by first | assumption | omega)
        have hb14 := ior_rg v9 (f_X4_fallsOn x0 (-1) (s0 60 0) x2 s0)
        obtain ⟨v15, hv15, hT⟩ := glx hT
        rw [hT]
        exact (by omega)
    replace hT := hz17
    by_cases h7 : x1 = 2
    · replace hT := hT.trans (if_pos h7)
      exact j8 (ishl 1 x0) (by omega) hT
    · replace hT := hT.trans (if_neg h7)
      have hr18 := (hm_s0 60 0).1 rfl
      have hp20 := f_X4_fallsOn_p x0 1 (s0 60 0) x2 s0 (by omega) (by omega) (by omega) (by omega) hm_s0 (by first | assumption | omega) (by first | assumption | omega)
      have hb21 := ior_rg (ishl 1 x0) (f_X4_fallsOn x0 1 (s0 60 0) x2 s0)
      obtain ⟨v22, hv22, hT⟩ := glx hT
      exact j8 v22 (by omega) hT
set_option maxRecDepth 100000 in
set_option maxHeartbeats 4000000 in
theorem c_X4_pushed (l : Launch) (D : va_G) (a : Nat → Nat) (cI cJ cS cT : ClassId) (s0 : gMem) (x0 : Int) (x1 : Int) (x2 : Int) (hx0 : in32 x0) (hx1 : in32 x1) (hx2 : in32 x2) (hpre0 : 0 ≤ x0 ∧ x0 ≤ 15) : gC l yX4_pushed cX4_pushed 5 (some .int) 3 192 D vwCl (gT cI cJ cS cT) (wdX a cI cJ cS cT) lgX kI in32 [.ref (a 3), gI x0, gI x1, gI x2] s0 ((f_X4_pushed x0 x1 x2 s0), s0) := by
  refine gC_of (by decide +kernel) (hwdX a cI cJ cS cT) (Nat.le_of_ble_eq_true rfl) ?_
  intro A p e R s m args below meth c hR E
  subst hR
  have hT := f_X4_pushed_e x0 x1 x2 s0
  refine k_lv0 (lv' := [(0, .ref (a 3)), (1, gI x0), (2, gI x1), (3, gI x2)]) rfl ?_
  refine k_mr (fun hm_s0 => ?_)
  refine k_aloadn (pc := 0) E 0 dX4_pushed_0 rfl rfl ?_
  refine k_getf (pc := 1) (q0 := 3) (f := 0) (v := .ref (a 4)) E inX4 rfl rfl (by decide) wm_147 rfl rfl dX4_pushed_1 ?_
  refine k_getfI (pc := 4) (q0 := 4) (f := 3) (k := 60) E inX6 rfl rfl (by decide) wm_114 rfl rfl rfl dX4_pushed_4 (fun hr1 => ?_)
  refine k_iloadn (pc := 7) E 1 dX4_pushed_7 rfl rfl ?_
  refine k_mr (fun hm_s0 => ?_)
  refine k_callSN (pc := 8) (np := 2) (As := [gI (s0 60 0), gI x0]) (st := []) E (c_X8_has l D a cI cJ cS cT s0 (s0 60 0) x0 (by omega) (by omega)) wm_552 wm_1 (List.mem_of_getElem? (i := 1) rfl) wm_551 (by decide +kernel) ⟨by decide, by decide⟩ rfl (Nat.le_of_ble_eq_true rfl) dX4_pushed_8 (ro_kk (fun hr2 => ?_))
  have hp3 := f_X8_has_p (s0 60 0) x0 (by omega) (by omega) 
  refine k_st (st' := [gI (f_X8_has (s0 60 0) x0)]) rfl ?_
  by_cases h4 : (f_X8_has (s0 60 0) x0) = 0
  · replace hT := hT.trans (if_pos h4)
    refine k_if_ne_f (pc := 11) (tgt := 16) E (by omega) dX4_pushed_11 (by decide) h4 ?_
    refine k_iconst (pc := 14) E dX4_pushed_14 ?_
    exact k_rho (congrArg (fun q => (q, s0)) hT) (k_iret (pc := 15) E dX4_pushed_15 (by omega))
  · replace hT := hT.trans (if_neg h4)
    refine k_if_ne_t (pc := 11) (tgt := 16) E (by omega) dX4_pushed_11 (by decide) h4 ?_
    refine k_iconst (pc := 16) E dX4_pushed_16 ?_
    refine k_iloadn (pc := 17) E 1 dX4_pushed_17 rfl rfl ?_
    refine k_ishl (pc := 18) E dX4_pushed_18 ?_
    have hb5 := ishl_rg 1 x0
    have hb6 : 0 ≤ x0 ∧ x0 ≤ 15 → _ := fun q => ishl_1 q.1 q.2
    refine k_istore (pc := 19) (lv' := [(4, gI (ishl 1 x0)), (0, .ref (a 3)), (1, gI x0), (2, gI x1), (3, gI x2)]) E dX4_pushed_19 (by decide) rfl ?_
    refine k_iloadn (pc := 21) E 3 dX4_pushed_21 rfl rfl ?_
    refine k_iconst (pc := 22) E dX4_pushed_22 ?_
    obtain ⟨z17, hz17, hT⟩ := gl1x hT
    have j8 : ∀ (v9 : Int), ((in32 v9)) → z17 = v9 → gK D vwCl (wdX a cI cJ cS cT) lgX A p l e { frames := 3, cells := 0, slots := 0, locals := 192 } s m args below meth c 5 (gQQ D vwCl (wdX a cI cJ cS cT) lgX A kI in32 below args s) ((f_X4_pushed x0 x1 x2 s0), s0) s0 45 [(0, .ref (a 3)), (1, gI x0), (2, gI x1), (3, gI x2), (4, gI v9)] [] := by
      intro v9 hq hz
      have hq16 := hq
      replace hT := gl1y hT hz
      refine k_iloadn (pc := 45) E 2 dX4_pushed_45 rfl rfl ?_
      refine k_iconst (pc := 46) E dX4_pushed_46 ?_
      by_cases h10 : x1 = 1
      · replace hT := hT.trans (if_pos h10)
        refine k_icmp_eq_t (pc := 47) (tgt := 69) E (by omega) (by omega) dX4_pushed_47 (by decide) h10 ?_
        refine k_iload (pc := 69) E 4 dX4_pushed_69 rfl ?_
        exact k_rho (congrArg (fun q => (q, s0)) hT) (k_iret (pc := 71) E dX4_pushed_71 (by omega))
      · replace hT := hT.trans (if_neg h10)
        refine k_icmp_eq_f (pc := 47) (tgt := 69) E (by omega) (by omega) dX4_pushed_47 (by decide) h10 ?_
        refine k_iload (pc := 50) E 4 dX4_pushed_50 rfl ?_
        refine k_aloadn (pc := 52) E 0 dX4_pushed_52 rfl rfl ?_
        refine k_iloadn (pc := 53) E 1 dX4_pushed_53 rfl rfl ?_
        refine k_iconst (pc := 54) E dX4_pushed_54 ?_
        refine k_aloadn (pc := 55) E 0 dX4_pushed_55 rfl rfl ?_
        refine k_getf (pc := 56) (q0 := 3) (f := 0) (v := .ref (a 4)) E inX4 rfl rfl (by decide) wm_147 rfl rfl dX4_pushed_56 ?_
        refine k_getfI (pc := 59) (q0 := 4) (f := 3) (k := 60) E inX6 rfl rfl (by decide) wm_114 rfl rfl rfl dX4_pushed_59 (fun hr11 => ?_)
        refine k_iloadn (pc := 62) E 3 dX4_pushed_62 rfl rfl ?_
        refine k_mr (fun hm_s0 => ?_)
        refine k_callV (pc := 63) (np := 4) (As := [gI x0, gI (-1), gI (s0 60 0), gI x2]) (st := [gI v9]) (q0 := 3) E (c_X4_fallsOn l D a cI cJ cS cT s0 x0 (-1) (s0 60 0) x2 (by omega) (by omega) (by omega) (by omega) (by first | assumption | omega) (by first | assumption | omega)) wm_677 wm_4 wm_674 wm_675 wm_676 (by decide +kernel) rfl rfl ⟨by decide, by decide⟩ rfl (Nat.le_of_ble_eq_true rfl) dX4_pushed_63 (ro_kk (fun hr12 => ?_))
        have hp13 := f_X4_fallsOn_p x0 (-1) (s0 60 0) x2 s0 (by omega) (by omega) (by omega) (by omega) hm_s0 (by first | assumption | omega) (by first | assumption | omega)
        refine k_st (st' := [gI (f_X4_fallsOn x0 (-1) (s0 60 0) x2 s0), gI v9]) rfl ?_
        refine k_ior (pc := 66) E dX4_pushed_66 ?_
        have hb14 := ior_rg v9 (f_X4_fallsOn x0 (-1) (s0 60 0) x2 s0)
        obtain ⟨v15, hv15, hT⟩ := glx hT
        refine k_st (st' := [gI v15]) (by rw [hv15]) ?_
        refine k_istore (pc := 67) (lv' := [(4, gI v15), (0, .ref (a 3)), (1, gI x0), (2, gI x1), (3, gI x2)]) E dX4_pushed_67 (by decide) rfl ?_
        refine k_iload (pc := 69) E 0 dX4_pushed_69 rfl ?_
        exact k_rho (congrArg (fun q => (q, s0)) hT) (k_iret (pc := 71) E dX4_pushed_71 (by omega))
    replace hT := hz17
    by_cases h7 : x1 = 2
    · replace hT := hT.trans (if_pos h7)
      refine k_icmp_eq_t (pc := 23) (tgt := 45) E (by omega) (by omega) dX4_pushed_23 (by decide) h7 ?_
      refine k_lv (lv' := [(0, .ref (a 3)), (1, gI x0), (2, gI x1), (3, gI x2), (4, gI (ishl 1 x0))]) [1, 2, 3, 4, 0] rfl ?_
      exact j8 (ishl 1 x0) (by omega) hT
    · replace hT := hT.trans (if_neg h7)
      refine k_icmp_eq_f (pc := 23) (tgt := 45) E (by omega) (by omega) dX4_pushed_23 (by decide) h7 ?_
      refine k_iload (pc := 26) E 0 dX4_pushed_26 rfl ?_
      refine k_aloadn (pc := 28) E 1 dX4_pushed_28 rfl rfl ?_
      refine k_iloadn (pc := 29) E 2 dX4_pushed_29 rfl rfl ?_
      refine k_iconst (pc := 30) E dX4_pushed_30 ?_
      refine k_aloadn (pc := 31) E 1 dX4_pushed_31 rfl rfl ?_
      refine k_getf (pc := 32) (q0 := 3) (f := 0) (v := .ref (a 4)) E inX4 rfl rfl (by decide) wm_147 rfl rfl dX4_pushed_32 ?_
      refine k_getfI (pc := 35) (q0 := 4) (f := 3) (k := 60) E inX6 rfl rfl (by decide) wm_114 rfl rfl rfl dX4_pushed_35 (fun hr18 => ?_)
      refine k_iloadn (pc := 38) E 4 dX4_pushed_38 rfl rfl ?_
      refine k_mr (fun hm_s0 => ?_)
      refine k_callV (pc := 39) (np := 4) (As := [gI x0, gI 1, gI (s0 60 0), gI x2]) (st := [gI (ishl 1 x0)]) (q0 := 3) E (c_X4_fallsOn l D a cI cJ cS cT s0 x0 1 (s0 60 0) x2 (by omega) (by omega) (by omega) (by omega) (by first | assumption | omega) (by first | assumption | omega)) wm_677 wm_4 wm_674 wm_675 wm_676 (by decide +kernel) rfl rfl ⟨by decide, by decide⟩ rfl (Nat.le_of_ble_eq_true rfl) dX4_pushed_39 (ro_kk (fun hr19 => ?_))
      have hp20 := f_X4_fallsOn_p x0 1 (s0 60 0) x2 s0 (by omega) (by omega) (by omega) (by omega) hm_s0 (by first | assumption | omega) (by first | assumption | omega)
      refine k_st (st' := [gI (f_X4_fallsOn x0 1 (s0 60 0) x2 s0), gI (ishl 1 x0)]) rfl ?_
      refine k_ior (pc := 42) E dX4_pushed_42 ?_
      have hb21 := ior_rg (ishl 1 x0) (f_X4_fallsOn x0 1 (s0 60 0) x2 s0)
      obtain ⟨v22, hv22, hT⟩ := glx hT
      refine k_st (st' := [gI v22]) (by rw [hv22]) ?_
      refine k_istore (pc := 43) (lv' := [(4, gI v22), (0, .ref (a 3)), (1, gI x0), (2, gI x1), (3, gI x2)]) E dX4_pushed_43 (by decide) rfl ?_
      refine k_lv (lv' := [(0, .ref (a 3)), (1, gI x0), (2, gI x1), (3, gI x2), (4, gI v22)]) [1, 2, 3, 4, 0] rfl ?_
      exact j8 v22 (by omega) hT

def f_X6_become_kept  (s0 : gMem) : gRes := gl (mcpy s0 40 0 45 0 16) (fun s1 => gl (mcpy s1 41 0 46 0 16) (fun s2 => gl (mset s2 75 0 (s2 59 0)) (fun s5 => gl (mset s5 76 0 (s5 60 0)) (fun s8 => gl (mset s8 77 0 (s8 61 0)) (fun s11 => gl (mset s11 78 0 (s11 62 0)) (fun s14 => gl (mset s14 79 0 (s14 63 0)) (fun s17 => (0, s17))))))))
theorem f_X6_become_kept_e  (s0 : gMem) : f_X6_become_kept s0 = gl (mcpy s0 40 0 45 0 16) (fun s1 => gl (mcpy s1 41 0 46 0 16) (fun s2 => gl (mset s2 75 0 (s2 59 0)) (fun s5 => gl (mset s5 76 0 (s5 60 0)) (fun s8 => gl (mset s8 77 0 (s8 61 0)) (fun s11 => gl (mset s11 78 0 (s11 62 0)) (fun s14 => gl (mset s14 79 0 (s14 63 0)) (fun s17 => (0, s17)))))))) := rfl
set_option maxRecDepth 100000 in
set_option maxHeartbeats 4000000 in
theorem f_X6_become_kept_p  (s0 : gMem)  (hm_s0 : gMR lgX s0) (hpre0 : KNx s0) (hpre1 : MOx s0) (hpre2 : GP s0) (hpre3 : ST s0) (hpre4 : EN s0) (hpre5 : RE s0) (hpre6 : LA s0) (hpre7 : kKN s0) (hpre8 : kMO s0) (hpre9 : kGP s0) (hpre10 : kST s0) (hpre11 : kEN s0) (hpre12 : kRE s0) (hpre13 : kLA s0) (rZ : Int) (sZ : gMem) (hres : f_X6_become_kept s0 = (rZ, sZ)) : (fr [45, 46, 75, 76, 77, 78, 79] s0 sZ) ∧ (gMR lgX sZ) ∧ (True) ∧ (KNx sZ) ∧ (MOx sZ) ∧ (GP sZ) ∧ (ST sZ) ∧ (EN sZ) ∧ (RE sZ) ∧ (LA sZ) ∧ (kKN sZ) ∧ (kMO sZ) ∧ (kGP sZ) ∧ (kST sZ) ∧ (kEN sZ) ∧ (kRE sZ) ∧ (kLA sZ) := by
  have hT := f_X6_become_kept_e  s0
  have hf_s0 : fr [45, 46, 75, 76, 77, 78, 79] s0 s0 := fr.rf _ _
  have hKNx_s0 := hpre0
  have hMOx_s0 := hpre1
  have hGP_s0 := hpre2
  have hST_s0 := hpre3
  have hEN_s0 := hpre4
  have hRE_s0 := hpre5
  have hLA_s0 := hpre6
  have hkKN_s0 := hpre7
  have hkMO_s0 := hpre8
  have hkGP_s0 := hpre9
  have hkST_s0 := hpre10
  have hkEN_s0 := hpre11
  have hkRE_s0 := hpre12
  have hkLA_s0 := hpre13
  obtain ⟨s1, hs1, hT⟩ := glx hT
  have hf_s1 : fr [45, 46, 75, 76, 77, 78, 79] s0 s1 := hs1 ▸ hf_s0.cpy (by decide)
  have hm_s1 : gMR lgX s1 := hs1 ▸ hm_s0.cpy32 rfl rfl
  have hg_s1 : fr [45] s0 s1 := hs1 ▸ (fr.rf _ _).cpy (by decide)
  have hKNx_s1 : KNx s1 := KNx_fr hKNx_s0 (fun k hk => hg_s1 k (dj (by decide) k hk))
  have hMOx_s1 : MOx s1 := MOx_fr hMOx_s0 (fun k hk => hg_s1 k (dj (by decide) k hk))
  have hGP_s1 : GP s1 := GP_fr hGP_s0 (fun k hk => hg_s1 k (dj (by decide) k hk))
  have hST_s1 : ST s1 := ST_fr hST_s0 (fun k hk => hg_s1 k (dj (by decide) k hk))
  have hEN_s1 : EN s1 := EN_fr hEN_s0 (fun k hk => hg_s1 k (dj (by decide) k hk))
  have hRE_s1 : RE s1 := RE_fr hRE_s0 (fun k hk => hg_s1 k (dj (by decide) k hk))
  have hLA_s1 : LA s1 := LA_fr hLA_s0 (fun k hk => hg_s1 k (dj (by decide) k hk))
  have hkKN_s1 : kKN s1 := by
    intro j
    rw [hs1, mcpy_at]
    split
    · exact hKNx_s0 _
    · exact hkKN_s0 j
  have hkMO_s1 : kMO s1 := kMO_fr hkMO_s0 (fun k hk => hg_s1 k (dj (by decide) k hk))
  have hkGP_s1 : kGP s1 := kGP_fr hkGP_s0 (fun k hk => hg_s1 k (dj (by decide) k hk))
  have hkST_s1 : kST s1 := kST_fr hkST_s0 (fun k hk => hg_s1 k (dj (by decide) k hk))
  have hkEN_s1 : kEN s1 := kEN_fr hkEN_s0 (fun k hk => hg_s1 k (dj (by decide) k hk))
  have hkRE_s1 : kRE s1 := kRE_fr hkRE_s0 (fun k hk => hg_s1 k (dj (by decide) k hk))
  have hkLA_s1 : kLA s1 := kLA_fr hkLA_s0 (fun k hk => hg_s1 k (dj (by decide) k hk))
  obtain ⟨s2, hs2, hT⟩ := glx hT
  have hf_s2 : fr [45, 46, 75, 76, 77, 78, 79] s0 s2 := hs2 ▸ hf_s1.cpy (by decide)
  have hm_s2 : gMR lgX s2 := hs2 ▸ hm_s1.cpy32 rfl rfl
  have hg_s2 : fr [46] s1 s2 := hs2 ▸ (fr.rf _ _).cpy (by decide)
  have hKNx_s2 : KNx s2 := KNx_fr hKNx_s1 (fun k hk => hg_s2 k (dj (by decide) k hk))
  have hMOx_s2 : MOx s2 := MOx_fr hMOx_s1 (fun k hk => hg_s2 k (dj (by decide) k hk))
  have hGP_s2 : GP s2 := GP_fr hGP_s1 (fun k hk => hg_s2 k (dj (by decide) k hk))
  have hST_s2 : ST s2 := ST_fr hST_s1 (fun k hk => hg_s2 k (dj (by decide) k hk))
  have hEN_s2 : EN s2 := EN_fr hEN_s1 (fun k hk => hg_s2 k (dj (by decide) k hk))
  have hRE_s2 : RE s2 := RE_fr hRE_s1 (fun k hk => hg_s2 k (dj (by decide) k hk))
  have hLA_s2 : LA s2 := LA_fr hLA_s1 (fun k hk => hg_s2 k (dj (by decide) k hk))
  have hkKN_s2 : kKN s2 := kKN_fr hkKN_s1 (fun k hk => hg_s2 k (dj (by decide) k hk))
  have hkMO_s2 : kMO s2 := by
    intro j
    rw [hs2, mcpy_at]
    split
    · exact hMOx_s1 _
    · exact hkMO_s1 j
  have hkGP_s2 : kGP s2 := kGP_fr hkGP_s1 (fun k hk => hg_s2 k (dj (by decide) k hk))
  have hkST_s2 : kST s2 := kST_fr hkST_s1 (fun k hk => hg_s2 k (dj (by decide) k hk))
  have hkEN_s2 : kEN s2 := kEN_fr hkEN_s1 (fun k hk => hg_s2 k (dj (by decide) k hk))
  have hkRE_s2 : kRE s2 := kRE_fr hkRE_s1 (fun k hk => hg_s2 k (dj (by decide) k hk))
  have hkLA_s2 : kLA s2 := kLA_fr hkLA_s1 (fun k hk => hg_s2 k (dj (by decide) k hk))
  have hr3 := (hm_s2 59 0).1 rfl
  have hi4 := hGP_s2 0
  obtain ⟨s5, hs5, hT⟩ := glx hT
  have hf_s5 : fr [45, 46, 75, 76, 77, 78, 79] s0 s5 := hs5 ▸ hf_s2.set (by decide)
  have hm_s5 : gMR lgX s5 := hs5 ▸ hm_s2.set32 rfl (by omega)
  have hg_s5 : fr [75] s2 s5 := hs5 ▸ (fr.rf _ _).set (by decide)
  have hKNx_s5 : KNx s5 := KNx_fr hKNx_s2 (fun k hk => hg_s5 k (dj (by decide) k hk))
  have hMOx_s5 : MOx s5 := MOx_fr hMOx_s2 (fun k hk => hg_s5 k (dj (by decide) k hk))
  have hGP_s5 : GP s5 := GP_fr hGP_s2 (fun k hk => hg_s5 k (dj (by decide) k hk))
  have hST_s5 : ST s5 := ST_fr hST_s2 (fun k hk => hg_s5 k (dj (by decide) k hk))
  have hEN_s5 : EN s5 := EN_fr hEN_s2 (fun k hk => hg_s5 k (dj (by decide) k hk))
  have hRE_s5 : RE s5 := RE_fr hRE_s2 (fun k hk => hg_s5 k (dj (by decide) k hk))
  have hLA_s5 : LA s5 := LA_fr hLA_s2 (fun k hk => hg_s5 k (dj (by decide) k hk))
  have hkKN_s5 : kKN s5 := kKN_fr hkKN_s2 (fun k hk => hg_s5 k (dj (by decide) k hk))
  have hkMO_s5 : kMO s5 := kMO_fr hkMO_s2 (fun k hk => hg_s5 k (dj (by decide) k hk))
  have hkGP_s5 : kGP s5 := hs5 ▸ kGP_set hkGP_s2 (by omega)
  have hkST_s5 : kST s5 := kST_fr hkST_s2 (fun k hk => hg_s5 k (dj (by decide) k hk))
  have hkEN_s5 : kEN s5 := kEN_fr hkEN_s2 (fun k hk => hg_s5 k (dj (by decide) k hk))
  have hkRE_s5 : kRE s5 := kRE_fr hkRE_s2 (fun k hk => hg_s5 k (dj (by decide) k hk))
  have hkLA_s5 : kLA s5 := kLA_fr hkLA_s2 (fun k hk => hg_s5 k (dj (by decide) k hk))
  have hr6 := (hm_s5 60 0).1 rfl
  have hi7 := hST_s5 0
  obtain ⟨s8, hs8, hT⟩ := glx hT
  have hf_s8 : fr [45, 46, 75, 76, 77, 78, 79] s0 s8 := hs8 ▸ hf_s5.set (by decide)
  have hm_s8 : gMR lgX s8 := hs8 ▸ hm_s5.set32 rfl (by omega)
  have hg_s8 : fr [76] s5 s8 := hs8 ▸ (fr.rf _ _).set (by decide)
  have hKNx_s8 : KNx s8 := KNx_fr hKNx_s5 (fun k hk => hg_s8 k (dj (by decide) k hk))
  have hMOx_s8 : MOx s8 := MOx_fr hMOx_s5 (fun k hk => hg_s8 k (dj (by decide) k hk))
  have hGP_s8 : GP s8 := GP_fr hGP_s5 (fun k hk => hg_s8 k (dj (by decide) k hk))
  have hST_s8 : ST s8 := ST_fr hST_s5 (fun k hk => hg_s8 k (dj (by decide) k hk))
  have hEN_s8 : EN s8 := EN_fr hEN_s5 (fun k hk => hg_s8 k (dj (by decide) k hk))
  have hRE_s8 : RE s8 := RE_fr hRE_s5 (fun k hk => hg_s8 k (dj (by decide) k hk))
  have hLA_s8 : LA s8 := LA_fr hLA_s5 (fun k hk => hg_s8 k (dj (by decide) k hk))
  have hkKN_s8 : kKN s8 := kKN_fr hkKN_s5 (fun k hk => hg_s8 k (dj (by decide) k hk))
  have hkMO_s8 : kMO s8 := kMO_fr hkMO_s5 (fun k hk => hg_s8 k (dj (by decide) k hk))
  have hkGP_s8 : kGP s8 := kGP_fr hkGP_s5 (fun k hk => hg_s8 k (dj (by decide) k hk))
  have hkST_s8 : kST s8 := hs8 ▸ kST_set hkST_s5 (by omega)
  have hkEN_s8 : kEN s8 := kEN_fr hkEN_s5 (fun k hk => hg_s8 k (dj (by decide) k hk))
  have hkRE_s8 : kRE s8 := kRE_fr hkRE_s5 (fun k hk => hg_s8 k (dj (by decide) k hk))
  have hkLA_s8 : kLA s8 := kLA_fr hkLA_s5 (fun k hk => hg_s8 k (dj (by decide) k hk))
  have hr9 := (hm_s8 61 0).1 rfl
  have hi10 := hEN_s8 0
  obtain ⟨s11, hs11, hT⟩ := glx hT
  have hf_s11 : fr [45, 46, 75, 76, 77, 78, 79] s0 s11 := hs11 ▸ hf_s8.set (by decide)
  have hm_s11 : gMR lgX s11 := hs11 ▸ hm_s8.set32 rfl (by omega)
  have hg_s11 : fr [77] s8 s11 := hs11 ▸ (fr.rf _ _).set (by decide)
  have hKNx_s11 : KNx s11 := KNx_fr hKNx_s8 (fun k hk => hg_s11 k (dj (by decide) k hk))
  have hMOx_s11 : MOx s11 := MOx_fr hMOx_s8 (fun k hk => hg_s11 k (dj (by decide) k hk))
  have hGP_s11 : GP s11 := GP_fr hGP_s8 (fun k hk => hg_s11 k (dj (by decide) k hk))
  have hST_s11 : ST s11 := ST_fr hST_s8 (fun k hk => hg_s11 k (dj (by decide) k hk))
  have hEN_s11 : EN s11 := EN_fr hEN_s8 (fun k hk => hg_s11 k (dj (by decide) k hk))
  have hRE_s11 : RE s11 := RE_fr hRE_s8 (fun k hk => hg_s11 k (dj (by decide) k hk))
  have hLA_s11 : LA s11 := LA_fr hLA_s8 (fun k hk => hg_s11 k (dj (by decide) k hk))
  have hkKN_s11 : kKN s11 := kKN_fr hkKN_s8 (fun k hk => hg_s11 k (dj (by decide) k hk))
  have hkMO_s11 : kMO s11 := kMO_fr hkMO_s8 (fun k hk => hg_s11 k (dj (by decide) k hk))
  have hkGP_s11 : kGP s11 := kGP_fr hkGP_s8 (fun k hk => hg_s11 k (dj (by decide) k hk))
  have hkST_s11 : kST s11 := kST_fr hkST_s8 (fun k hk => hg_s11 k (dj (by decide) k hk))
  have hkEN_s11 : kEN s11 := hs11 ▸ kEN_set hkEN_s8 (by omega)
  have hkRE_s11 : kRE s11 := kRE_fr hkRE_s8 (fun k hk => hg_s11 k (dj (by decide) k hk))
  have hkLA_s11 : kLA s11 := kLA_fr hkLA_s8 (fun k hk => hg_s11 k (dj (by decide) k hk))
  have hr12 := (hm_s11 62 0).1 rfl
  have hi13 := hRE_s11 0
  obtain ⟨s14, hs14, hT⟩ := glx hT
  have hf_s14 : fr [45, 46, 75, 76, 77, 78, 79] s0 s14 := hs14 ▸ hf_s11.set (by decide)
  have hm_s14 : gMR lgX s14 := hs14 ▸ hm_s11.set32 rfl (by omega)
  have hg_s14 : fr [78] s11 s14 := hs14 ▸ (fr.rf _ _).set (by decide)
  have hKNx_s14 : KNx s14 := KNx_fr hKNx_s11 (fun k hk => hg_s14 k (dj (by decide) k hk))
  have hMOx_s14 : MOx s14 := MOx_fr hMOx_s11 (fun k hk => hg_s14 k (dj (by decide) k hk))
  have hGP_s14 : GP s14 := GP_fr hGP_s11 (fun k hk => hg_s14 k (dj (by decide) k hk))
  have hST_s14 : ST s14 := ST_fr hST_s11 (fun k hk => hg_s14 k (dj (by decide) k hk))
  have hEN_s14 : EN s14 := EN_fr hEN_s11 (fun k hk => hg_s14 k (dj (by decide) k hk))
  have hRE_s14 : RE s14 := RE_fr hRE_s11 (fun k hk => hg_s14 k (dj (by decide) k hk))
  have hLA_s14 : LA s14 := LA_fr hLA_s11 (fun k hk => hg_s14 k (dj (by decide) k hk))
  have hkKN_s14 : kKN s14 := kKN_fr hkKN_s11 (fun k hk => hg_s14 k (dj (by decide) k hk))
  have hkMO_s14 : kMO s14 := kMO_fr hkMO_s11 (fun k hk => hg_s14 k (dj (by decide) k hk))
  have hkGP_s14 : kGP s14 := kGP_fr hkGP_s11 (fun k hk => hg_s14 k (dj (by decide) k hk))
  have hkST_s14 : kST s14 := kST_fr hkST_s11 (fun k hk => hg_s14 k (dj (by decide) k hk))
  have hkEN_s14 : kEN s14 := kEN_fr hkEN_s11 (fun k hk => hg_s14 k (dj (by decide) k hk))
  have hkRE_s14 : kRE s14 := hs14 ▸ kRE_set hkRE_s11 (by omega)
  have hkLA_s14 : kLA s14 := kLA_fr hkLA_s11 (fun k hk => hg_s14 k (dj (by decide) k hk))
  have hr15 := (hm_s14 63 0).1 rfl
  have hi16 := hLA_s14 0
  obtain ⟨s17, hs17, hT⟩ := glx hT
  have hf_s17 : fr [45, 46, 75, 76, 77, 78, 79] s0 s17 := hs17 ▸ hf_s14.set (by decide)
  have hm_s17 : gMR lgX s17 := hs17 ▸ hm_s14.set32 rfl (by omega)
  have hg_s17 : fr [79] s14 s17 := hs17 ▸ (fr.rf _ _).set (by decide)
  have hKNx_s17 : KNx s17 := KNx_fr hKNx_s14 (fun k hk => hg_s17 k (dj (by decide) k hk))
  have hMOx_s17 : MOx s17 := MOx_fr hMOx_s14 (fun k hk => hg_s17 k (dj (by decide) k hk))
  have hGP_s17 : GP s17 := GP_fr hGP_s14 (fun k hk => hg_s17 k (dj (by decide) k hk))
  have hST_s17 : ST s17 := ST_fr hST_s14 (fun k hk => hg_s17 k (dj (by decide) k hk))
  have hEN_s17 : EN s17 := EN_fr hEN_s14 (fun k hk => hg_s17 k (dj (by decide) k hk))
  have hRE_s17 : RE s17 := RE_fr hRE_s14 (fun k hk => hg_s17 k (dj (by decide) k hk))
  have hLA_s17 : LA s17 := LA_fr hLA_s14 (fun k hk => hg_s17 k (dj (by decide) k hk))
  have hkKN_s17 : kKN s17 := kKN_fr hkKN_s14 (fun k hk => hg_s17 k (dj (by decide) k hk))
  have hkMO_s17 : kMO s17 := kMO_fr hkMO_s14 (fun k hk => hg_s17 k (dj (by decide) k hk))
  have hkGP_s17 : kGP s17 := kGP_fr hkGP_s14 (fun k hk => hg_s17 k (dj (by decide) k hk))
  have hkST_s17 : kST s17 := kST_fr hkST_s14 (fun k hk => hg_s17 k (dj (by decide) k hk))
  have hkEN_s17 : kEN s17 := kEN_fr hkEN_s14 (fun k hk => hg_s17 k (dj (by decide) k hk))
  have hkRE_s17 : kRE s17 := kRE_fr hkRE_s14 (fun k hk => hg_s17 k (dj (by decide) k hk))
  have hkLA_s17 : kLA s17 := hs17 ▸ kLA_set hkLA_s14 (by omega)
  obtain ⟨rfl, rfl⟩ := Prod.mk.inj (hT.symm.trans hres)
  exact ⟨hf_s17, hm_s17, trivial, hKNx_s17, hMOx_s17, hGP_s17, hST_s17, hEN_s17, hRE_s17, hLA_s17, hkKN_s17, hkMO_s17, hkGP_s17, hkST_s17, hkEN_s17, hkRE_s17, hkLA_s17⟩
set_option maxRecDepth 100000 in
set_option maxHeartbeats 4000000 in
theorem c_X6_become_kept (l : Launch) (D : va_G) (a : Nat → Nat) (cI cJ cS cT : ClassId) (s0 : gMem)   (hpre0 : KNx s0) (hpre1 : MOx s0) (hpre2 : GP s0) (hpre3 : ST s0) (hpre4 : EN s0) (hpre5 : RE s0) (hpre6 : LA s0) (hpre7 : kKN s0) (hpre8 : kMO s0) (hpre9 : kGP s0) (hpre10 : kST s0) (hpre11 : kEN s0) (hpre12 : kRE s0) (hpre13 : kLA s0) : gC l yX6_become cX6_become 2 none 2 128 D vwCl (gT cI cJ cS cT) (wdX a cI cJ cS cT) lgX kV rgV [.ref (a 8), .ref (a 4)] s0 (f_X6_become_kept s0) := by
  refine gC_of (by decide +kernel) (hwdX a cI cJ cS cT) (Nat.le_of_ble_eq_true rfl) ?_
  intro A p e R s m args below meth c hR E
  subst hR
  have hT := f_X6_become_kept_e  s0
  have hf_s0 : fr [45, 46, 75, 76, 77, 78, 79] s0 s0 := fr.rf _ _
  refine k_lv0 (lv' := [(0, .ref (a 8)), (1, .ref (a 4))]) rfl ?_
  refine k_mr (fun hm_s0 => ?_)
  have hKNx_s0 := hpre0
  have hMOx_s0 := hpre1
  have hGP_s0 := hpre2
  have hST_s0 := hpre3
  have hEN_s0 := hpre4
  have hRE_s0 := hpre5
  have hLA_s0 := hpre6
  have hkKN_s0 := hpre7
  have hkMO_s0 := hpre8
  have hkGP_s0 := hpre9
  have hkST_s0 := hpre10
  have hkEN_s0 := hpre11
  have hkRE_s0 := hpre12
  have hkLA_s0 := hpre13
  refine k_aloadn (pc := 0) E 1 dX6_become_0 rfl rfl ?_
  refine k_getf (pc := 1) (q0 := 4) (f := 0) (v := .ref (a 40)) E inX6 rfl rfl (by decide) wm_102 rfl rfl dX6_become_1 ?_
  refine k_iconst (pc := 4) E dX6_become_4 ?_
  refine k_aloadn (pc := 5) E 0 dX6_become_5 rfl rfl ?_
  refine k_getf (pc := 6) (q0 := 8) (f := 0) (v := .ref (a 45)) E inX6 rfl rfl (by decide) wm_102 rfl rfl dX6_become_6 ?_
  refine k_iconst (pc := 9) E dX6_become_9 ?_
  refine k_bipush (pc := 10) E dX6_become_10 (by decide) ?_
  refine k_copyi (pc := 12) (q0 := 40) (q1 := 45) (k0 := 40) (k1 := 45) (n0 := 16) (n1 := 16) E wm_805 wm_467 wm_466 wm_16 rfl rfl rfl rfl rfl rfl (by decide) (by decide) (by omega) (by omega) (by omega) (by omega) (by omega) (by decide) (Nat.le_of_ble_eq_true rfl) dX6_become_12 ?_
  obtain ⟨s1, hs1, hT⟩ := glx hT
  refine k_sg hs1.symm ?_
  have hf_s1 : fr [45, 46, 75, 76, 77, 78, 79] s0 s1 := hs1 ▸ hf_s0.cpy (by decide)
  have hg_s1 : fr [45] s0 s1 := hs1 ▸ (fr.rf _ _).cpy (by decide)
  have hKNx_s1 : KNx s1 := KNx_fr hKNx_s0 (fun k hk => hg_s1 k (dj (by decide) k hk))
  have hMOx_s1 : MOx s1 := MOx_fr hMOx_s0 (fun k hk => hg_s1 k (dj (by decide) k hk))
  have hGP_s1 : GP s1 := GP_fr hGP_s0 (fun k hk => hg_s1 k (dj (by decide) k hk))
  have hST_s1 : ST s1 := ST_fr hST_s0 (fun k hk => hg_s1 k (dj (by decide) k hk))
  have hEN_s1 : EN s1 := EN_fr hEN_s0 (fun k hk => hg_s1 k (dj (by decide) k hk))
  have hRE_s1 : RE s1 := RE_fr hRE_s0 (fun k hk => hg_s1 k (dj (by decide) k hk))
  have hLA_s1 : LA s1 := LA_fr hLA_s0 (fun k hk => hg_s1 k (dj (by decide) k hk))
  have hkKN_s1 : kKN s1 := by
    intro j
    rw [hs1, mcpy_at]
    split
    · exact hKNx_s0 _
    · exact hkKN_s0 j
  have hkMO_s1 : kMO s1 := kMO_fr hkMO_s0 (fun k hk => hg_s1 k (dj (by decide) k hk))
  have hkGP_s1 : kGP s1 := kGP_fr hkGP_s0 (fun k hk => hg_s1 k (dj (by decide) k hk))
  have hkST_s1 : kST s1 := kST_fr hkST_s0 (fun k hk => hg_s1 k (dj (by decide) k hk))
  have hkEN_s1 : kEN s1 := kEN_fr hkEN_s0 (fun k hk => hg_s1 k (dj (by decide) k hk))
  have hkRE_s1 : kRE s1 := kRE_fr hkRE_s0 (fun k hk => hg_s1 k (dj (by decide) k hk))
  have hkLA_s1 : kLA s1 := kLA_fr hkLA_s0 (fun k hk => hg_s1 k (dj (by decide) k hk))
  refine k_aloadn (pc := 15) E 1 dX6_become_15 rfl rfl ?_
  refine k_getf (pc := 16) (q0 := 4) (f := 1) (v := .ref (a 41)) E inX6 rfl rfl (by decide) wm_105 rfl rfl dX6_become_16 ?_
  refine k_iconst (pc := 19) E dX6_become_19 ?_
  refine k_aloadn (pc := 20) E 0 dX6_become_20 rfl rfl ?_
  refine k_getf (pc := 21) (q0 := 8) (f := 1) (v := .ref (a 46)) E inX6 rfl rfl (by decide) wm_105 rfl rfl dX6_become_21 ?_
  refine k_iconst (pc := 24) E dX6_become_24 ?_
  refine k_bipush (pc := 25) E dX6_become_25 (by decide) ?_
  refine k_copyi (pc := 27) (q0 := 41) (q1 := 46) (k0 := 41) (k1 := 46) (n0 := 16) (n1 := 16) E wm_805 wm_467 wm_466 wm_16 rfl rfl rfl rfl rfl rfl (by decide) (by decide) (by omega) (by omega) (by omega) (by omega) (by omega) (by decide) (Nat.le_of_ble_eq_true rfl) dX6_become_27 ?_
  obtain ⟨s2, hs2, hT⟩ := glx hT
  refine k_sg hs2.symm ?_
  have hf_s2 : fr [45, 46, 75, 76, 77, 78, 79] s0 s2 := hs2 ▸ hf_s1.cpy (by decide)
  have hg_s2 : fr [46] s1 s2 := hs2 ▸ (fr.rf _ _).cpy (by decide)
  have hKNx_s2 : KNx s2 := KNx_fr hKNx_s1 (fun k hk => hg_s2 k (dj (by decide) k hk))
  have hMOx_s2 : MOx s2 := MOx_fr hMOx_s1 (fun k hk => hg_s2 k (dj (by decide) k hk))
  have hGP_s2 : GP s2 := GP_fr hGP_s1 (fun k hk => hg_s2 k (dj (by decide) k hk))
  have hST_s2 : ST s2 := ST_fr hST_s1 (fun k hk => hg_s2 k (dj (by decide) k hk))
  have hEN_s2 : EN s2 := EN_fr hEN_s1 (fun k hk => hg_s2 k (dj (by decide) k hk))
  have hRE_s2 : RE s2 := RE_fr hRE_s1 (fun k hk => hg_s2 k (dj (by decide) k hk))
  have hLA_s2 : LA s2 := LA_fr hLA_s1 (fun k hk => hg_s2 k (dj (by decide) k hk))
  have hkKN_s2 : kKN s2 := kKN_fr hkKN_s1 (fun k hk => hg_s2 k (dj (by decide) k hk))
  have hkMO_s2 : kMO s2 := by
    intro j
    rw [hs2, mcpy_at]
    split
    · exact hMOx_s1 _
    · exact hkMO_s1 j
  have hkGP_s2 : kGP s2 := kGP_fr hkGP_s1 (fun k hk => hg_s2 k (dj (by decide) k hk))
  have hkST_s2 : kST s2 := kST_fr hkST_s1 (fun k hk => hg_s2 k (dj (by decide) k hk))
  have hkEN_s2 : kEN s2 := kEN_fr hkEN_s1 (fun k hk => hg_s2 k (dj (by decide) k hk))
  have hkRE_s2 : kRE s2 := kRE_fr hkRE_s1 (fun k hk => hg_s2 k (dj (by decide) k hk))
  have hkLA_s2 : kLA s2 := kLA_fr hkLA_s1 (fun k hk => hg_s2 k (dj (by decide) k hk))
  refine k_aloadn (pc := 30) E 0 dX6_become_30 rfl rfl ?_
  refine k_aloadn (pc := 31) E 1 dX6_become_31 rfl rfl ?_
  refine k_getfI (pc := 32) (q0 := 4) (f := 2) (k := 59) E inX6 rfl rfl (by decide) wm_108 rfl rfl rfl dX6_become_32 (fun hr3 => ?_)
  have hi4 := hGP_s2 0
  refine k_putfI (pc := 35) (q0 := 8) (f := 2) (k := 75) E tyX6 tyX6_ok nmX6 inX6 rfl rfl (by decide) wm_108 rfl rfl rfl (Nat.le_of_ble_eq_true rfl) rfl rfl (by omega) dX6_become_35 ?_
  obtain ⟨s5, hs5, hT⟩ := glx hT
  refine k_sg hs5.symm ?_
  have hf_s5 : fr [45, 46, 75, 76, 77, 78, 79] s0 s5 := hs5 ▸ hf_s2.set (by decide)
  have hg_s5 : fr [75] s2 s5 := hs5 ▸ (fr.rf _ _).set (by decide)
  have hKNx_s5 : KNx s5 := KNx_fr hKNx_s2 (fun k hk => hg_s5 k (dj (by decide) k hk))
  have hMOx_s5 : MOx s5 := MOx_fr hMOx_s2 (fun k hk => hg_s5 k (dj (by decide) k hk))
  have hGP_s5 : GP s5 := GP_fr hGP_s2 (fun k hk => hg_s5 k (dj (by decide) k hk))
  have hST_s5 : ST s5 := ST_fr hST_s2 (fun k hk => hg_s5 k (dj (by decide) k hk))
  have hEN_s5 : EN s5 := EN_fr hEN_s2 (fun k hk => hg_s5 k (dj (by decide) k hk))
  have hRE_s5 : RE s5 := RE_fr hRE_s2 (fun k hk => hg_s5 k (dj (by decide) k hk))
  have hLA_s5 : LA s5 := LA_fr hLA_s2 (fun k hk => hg_s5 k (dj (by decide) k hk))
  have hkKN_s5 : kKN s5 := kKN_fr hkKN_s2 (fun k hk => hg_s5 k (dj (by decide) k hk))
  have hkMO_s5 : kMO s5 := kMO_fr hkMO_s2 (fun k hk => hg_s5 k (dj (by decide) k hk))
  have hkGP_s5 : kGP s5 := hs5 ▸ kGP_set hkGP_s2 (by omega)
  have hkST_s5 : kST s5 := kST_fr hkST_s2 (fun k hk => hg_s5 k (dj (by decide) k hk))
  have hkEN_s5 : kEN s5 := kEN_fr hkEN_s2 (fun k hk => hg_s5 k (dj (by decide) k hk))
  have hkRE_s5 : kRE s5 := kRE_fr hkRE_s2 (fun k hk => hg_s5 k (dj (by decide) k hk))
  have hkLA_s5 : kLA s5 := kLA_fr hkLA_s2 (fun k hk => hg_s5 k (dj (by decide) k hk))
  refine k_aloadn (pc := 38) E 0 dX6_become_38 rfl rfl ?_
  refine k_aloadn (pc := 39) E 1 dX6_become_39 rfl rfl ?_
  refine k_getfI (pc := 40) (q0 := 4) (f := 3) (k := 60) E inX6 rfl rfl (by decide) wm_112 rfl rfl rfl dX6_become_40 (fun hr6 => ?_)
  have hi7 := hST_s5 0
  refine k_putfI (pc := 43) (q0 := 8) (f := 3) (k := 76) E tyX6 tyX6_ok nmX6 inX6 rfl rfl (by decide) wm_112 rfl rfl rfl (Nat.le_of_ble_eq_true rfl) rfl rfl (by omega) dX6_become_43 ?_
  obtain ⟨s8, hs8, hT⟩ := glx hT
  refine k_sg hs8.symm ?_
  have hf_s8 : fr [45, 46, 75, 76, 77, 78, 79] s0 s8 := hs8 ▸ hf_s5.set (by decide)
  have hg_s8 : fr [76] s5 s8 := hs8 ▸ (fr.rf _ _).set (by decide)
  have hKNx_s8 : KNx s8 := KNx_fr hKNx_s5 (fun k hk => hg_s8 k (dj (by decide) k hk))
  have hMOx_s8 : MOx s8 := MOx_fr hMOx_s5 (fun k hk => hg_s8 k (dj (by decide) k hk))
  have hGP_s8 : GP s8 := GP_fr hGP_s5 (fun k hk => hg_s8 k (dj (by decide) k hk))
  have hST_s8 : ST s8 := ST_fr hST_s5 (fun k hk => hg_s8 k (dj (by decide) k hk))
  have hEN_s8 : EN s8 := EN_fr hEN_s5 (fun k hk => hg_s8 k (dj (by decide) k hk))
  have hRE_s8 : RE s8 := RE_fr hRE_s5 (fun k hk => hg_s8 k (dj (by decide) k hk))
  have hLA_s8 : LA s8 := LA_fr hLA_s5 (fun k hk => hg_s8 k (dj (by decide) k hk))
  have hkKN_s8 : kKN s8 := kKN_fr hkKN_s5 (fun k hk => hg_s8 k (dj (by decide) k hk))
  have hkMO_s8 : kMO s8 := kMO_fr hkMO_s5 (fun k hk => hg_s8 k (dj (by decide) k hk))
  have hkGP_s8 : kGP s8 := kGP_fr hkGP_s5 (fun k hk => hg_s8 k (dj (by decide) k hk))
  have hkST_s8 : kST s8 := hs8 ▸ kST_set hkST_s5 (by omega)
  have hkEN_s8 : kEN s8 := kEN_fr hkEN_s5 (fun k hk => hg_s8 k (dj (by decide) k hk))
  have hkRE_s8 : kRE s8 := kRE_fr hkRE_s5 (fun k hk => hg_s8 k (dj (by decide) k hk))
  have hkLA_s8 : kLA s8 := kLA_fr hkLA_s5 (fun k hk => hg_s8 k (dj (by decide) k hk))
  refine k_aloadn (pc := 46) E 0 dX6_become_46 rfl rfl ?_
  refine k_aloadn (pc := 47) E 1 dX6_become_47 rfl rfl ?_
  refine k_getfI (pc := 48) (q0 := 4) (f := 4) (k := 61) E inX6 rfl rfl (by decide) wm_115 rfl rfl rfl dX6_become_48 (fun hr9 => ?_)
  have hi10 := hEN_s8 0
  refine k_putfI (pc := 51) (q0 := 8) (f := 4) (k := 77) E tyX6 tyX6_ok nmX6 inX6 rfl rfl (by decide) wm_115 rfl rfl rfl (Nat.le_of_ble_eq_true rfl) rfl rfl (by omega) dX6_become_51 ?_
  obtain ⟨s11, hs11, hT⟩ := glx hT
  refine k_sg hs11.symm ?_
  have hf_s11 : fr [45, 46, 75, 76, 77, 78, 79] s0 s11 := hs11 ▸ hf_s8.set (by decide)
  have hg_s11 : fr [77] s8 s11 := hs11 ▸ (fr.rf _ _).set (by decide)
  have hKNx_s11 : KNx s11 := KNx_fr hKNx_s8 (fun k hk => hg_s11 k (dj (by decide) k hk))
  have hMOx_s11 : MOx s11 := MOx_fr hMOx_s8 (fun k hk => hg_s11 k (dj (by decide) k hk))
  have hGP_s11 : GP s11 := GP_fr hGP_s8 (fun k hk => hg_s11 k (dj (by decide) k hk))
  have hST_s11 : ST s11 := ST_fr hST_s8 (fun k hk => hg_s11 k (dj (by decide) k hk))
  have hEN_s11 : EN s11 := EN_fr hEN_s8 (fun k hk => hg_s11 k (dj (by decide) k hk))
  have hRE_s11 : RE s11 := RE_fr hRE_s8 (fun k hk => hg_s11 k (dj (by decide) k hk))
  have hLA_s11 : LA s11 := LA_fr hLA_s8 (fun k hk => hg_s11 k (dj (by decide) k hk))
  have hkKN_s11 : kKN s11 := kKN_fr hkKN_s8 (fun k hk => hg_s11 k (dj (by decide) k hk))
  have hkMO_s11 : kMO s11 := kMO_fr hkMO_s8 (fun k hk => hg_s11 k (dj (by decide) k hk))
  have hkGP_s11 : kGP s11 := kGP_fr hkGP_s8 (fun k hk => hg_s11 k (dj (by decide) k hk))
  have hkST_s11 : kST s11 := kST_fr hkST_s8 (fun k hk => hg_s11 k (dj (by decide) k hk))
  have hkEN_s11 : kEN s11 := hs11 ▸ kEN_set hkEN_s8 (by omega)
  have hkRE_s11 : kRE s11 := kRE_fr hkRE_s8 (fun k hk => hg_s11 k (dj (by decide) k hk))
  have hkLA_s11 : kLA s11 := kLA_fr hkLA_s8 (fun k hk => hg_s11 k (dj (by decide) k hk))
  refine k_aloadn (pc := 54) E 0 dX6_become_54 rfl rfl ?_
  refine k_aloadn (pc := 55) E 1 dX6_become_55 rfl rfl ?_
  refine k_getfI (pc := 56) (q0 := 4) (f := 5) (k := 62) E inX6 rfl rfl (by decide) wm_118 rfl rfl rfl dX6_become_56 (fun hr12 => ?_)
  have hi13 := hRE_s11 0
  refine k_putfI (pc := 59) (q0 := 8) (f := 5) (k := 78) E tyX6 tyX6_ok nmX6 inX6 rfl rfl (by decide) wm_118 rfl rfl rfl (Nat.le_of_ble_eq_true rfl) rfl rfl (by omega) dX6_become_59 ?_
  obtain ⟨s14, hs14, hT⟩ := glx hT
  refine k_sg hs14.symm ?_
  have hf_s14 : fr [45, 46, 75, 76, 77, 78, 79] s0 s14 := hs14 ▸ hf_s11.set (by decide)
  have hg_s14 : fr [78] s11 s14 := hs14 ▸ (fr.rf _ _).set (by decide)
  have hKNx_s14 : KNx s14 := KNx_fr hKNx_s11 (fun k hk => hg_s14 k (dj (by decide) k hk))
  have hMOx_s14 : MOx s14 := MOx_fr hMOx_s11 (fun k hk => hg_s14 k (dj (by decide) k hk))
  have hGP_s14 : GP s14 := GP_fr hGP_s11 (fun k hk => hg_s14 k (dj (by decide) k hk))
  have hST_s14 : ST s14 := ST_fr hST_s11 (fun k hk => hg_s14 k (dj (by decide) k hk))
  have hEN_s14 : EN s14 := EN_fr hEN_s11 (fun k hk => hg_s14 k (dj (by decide) k hk))
  have hRE_s14 : RE s14 := RE_fr hRE_s11 (fun k hk => hg_s14 k (dj (by decide) k hk))
  have hLA_s14 : LA s14 := LA_fr hLA_s11 (fun k hk => hg_s14 k (dj (by decide) k hk))
  have hkKN_s14 : kKN s14 := kKN_fr hkKN_s11 (fun k hk => hg_s14 k (dj (by decide) k hk))
  have hkMO_s14 : kMO s14 := kMO_fr hkMO_s11 (fun k hk => hg_s14 k (dj (by decide) k hk))
  have hkGP_s14 : kGP s14 := kGP_fr hkGP_s11 (fun k hk => hg_s14 k (dj (by decide) k hk))
  have hkST_s14 : kST s14 := kST_fr hkST_s11 (fun k hk => hg_s14 k (dj (by decide) k hk))
  have hkEN_s14 : kEN s14 := kEN_fr hkEN_s11 (fun k hk => hg_s14 k (dj (by decide) k hk))
  have hkRE_s14 : kRE s14 := hs14 ▸ kRE_set hkRE_s11 (by omega)
  have hkLA_s14 : kLA s14 := kLA_fr hkLA_s11 (fun k hk => hg_s14 k (dj (by decide) k hk))
  refine k_aloadn (pc := 62) E 0 dX6_become_62 rfl rfl ?_
  refine k_aloadn (pc := 63) E 1 dX6_become_63 rfl rfl ?_
  refine k_getfI (pc := 64) (q0 := 4) (f := 6) (k := 63) E inX6 rfl rfl (by decide) wm_122 rfl rfl rfl dX6_become_64 (fun hr15 => ?_)
  have hi16 := hLA_s14 0
  refine k_putfI (pc := 67) (q0 := 8) (f := 6) (k := 79) E tyX6 tyX6_ok nmX6 inX6 rfl rfl (by decide) wm_122 rfl rfl rfl (Nat.le_of_ble_eq_true rfl) rfl rfl (by omega) dX6_become_67 ?_
  obtain ⟨s17, hs17, hT⟩ := glx hT
  refine k_sg hs17.symm ?_
  have hf_s17 : fr [45, 46, 75, 76, 77, 78, 79] s0 s17 := hs17 ▸ hf_s14.set (by decide)
  have hg_s17 : fr [79] s14 s17 := hs17 ▸ (fr.rf _ _).set (by decide)
  have hKNx_s17 : KNx s17 := KNx_fr hKNx_s14 (fun k hk => hg_s17 k (dj (by decide) k hk))
  have hMOx_s17 : MOx s17 := MOx_fr hMOx_s14 (fun k hk => hg_s17 k (dj (by decide) k hk))
  have hGP_s17 : GP s17 := GP_fr hGP_s14 (fun k hk => hg_s17 k (dj (by decide) k hk))
  have hST_s17 : ST s17 := ST_fr hST_s14 (fun k hk => hg_s17 k (dj (by decide) k hk))
  have hEN_s17 : EN s17 := EN_fr hEN_s14 (fun k hk => hg_s17 k (dj (by decide) k hk))
  have hRE_s17 : RE s17 := RE_fr hRE_s14 (fun k hk => hg_s17 k (dj (by decide) k hk))
  have hLA_s17 : LA s17 := LA_fr hLA_s14 (fun k hk => hg_s17 k (dj (by decide) k hk))
  have hkKN_s17 : kKN s17 := kKN_fr hkKN_s14 (fun k hk => hg_s17 k (dj (by decide) k hk))
  have hkMO_s17 : kMO s17 := kMO_fr hkMO_s14 (fun k hk => hg_s17 k (dj (by decide) k hk))
  have hkGP_s17 : kGP s17 := kGP_fr hkGP_s14 (fun k hk => hg_s17 k (dj (by decide) k hk))
  have hkST_s17 : kST s17 := kST_fr hkST_s14 (fun k hk => hg_s17 k (dj (by decide) k hk))
  have hkEN_s17 : kEN s17 := kEN_fr hkEN_s14 (fun k hk => hg_s17 k (dj (by decide) k hk))
  have hkRE_s17 : kRE s17 := kRE_fr hkRE_s14 (fun k hk => hg_s17 k (dj (by decide) k hk))
  have hkLA_s17 : kLA s17 := hs17 ▸ kLA_set hkLA_s14 (by omega)
  exact k_rho hT (k_vret (pc := 70) E dX6_become_70)

def f_X6_become_now  (s0 : gMem) : gRes := gl (mcpy s0 45 0 40 0 16) (fun s1 => gl (mcpy s1 46 0 41 0 16) (fun s2 => gl (mset s2 59 0 (s2 75 0)) (fun s5 => gl (mset s5 60 0 (s5 76 0)) (fun s8 => gl (mset s8 61 0 (s8 77 0)) (fun s11 => gl (mset s11 62 0 (s11 78 0)) (fun s14 => gl (mset s14 63 0 (s14 79 0)) (fun s17 => (0, s17))))))))
theorem f_X6_become_now_e  (s0 : gMem) : f_X6_become_now s0 = gl (mcpy s0 45 0 40 0 16) (fun s1 => gl (mcpy s1 46 0 41 0 16) (fun s2 => gl (mset s2 59 0 (s2 75 0)) (fun s5 => gl (mset s5 60 0 (s5 76 0)) (fun s8 => gl (mset s8 61 0 (s8 77 0)) (fun s11 => gl (mset s11 62 0 (s11 78 0)) (fun s14 => gl (mset s14 63 0 (s14 79 0)) (fun s17 => (0, s17)))))))) := rfl
set_option maxRecDepth 100000 in
set_option maxHeartbeats 4000000 in
theorem f_X6_become_now_p  (s0 : gMem)  (hm_s0 : gMR lgX s0) (hpre0 : KNx s0) (hpre1 : MOx s0) (hpre2 : GP s0) (hpre3 : ST s0) (hpre4 : EN s0) (hpre5 : RE s0) (hpre6 : LA s0) (hpre7 : kKN s0) (hpre8 : kMO s0) (hpre9 : kGP s0) (hpre10 : kST s0) (hpre11 : kEN s0) (hpre12 : kRE s0) (hpre13 : kLA s0) (rZ : Int) (sZ : gMem) (hres : f_X6_become_now s0 = (rZ, sZ)) : (fr [40, 41, 59, 60, 61, 62, 63] s0 sZ) ∧ (gMR lgX sZ) ∧ (True) ∧ (KNx sZ) ∧ (MOx sZ) ∧ (GP sZ) ∧ (ST sZ) ∧ (EN sZ) ∧ (RE sZ) ∧ (LA sZ) ∧ (kKN sZ) ∧ (kMO sZ) ∧ (kGP sZ) ∧ (kST sZ) ∧ (kEN sZ) ∧ (kRE sZ) ∧ (kLA sZ) := by
  have hT := f_X6_become_now_e  s0
  have hf_s0 : fr [40, 41, 59, 60, 61, 62, 63] s0 s0 := fr.rf _ _
  have hKNx_s0 := hpre0
  have hMOx_s0 := hpre1
  have hGP_s0 := hpre2
  have hST_s0 := hpre3
  have hEN_s0 := hpre4
  have hRE_s0 := hpre5
  have hLA_s0 := hpre6
  have hkKN_s0 := hpre7
  have hkMO_s0 := hpre8
  have hkGP_s0 := hpre9
  have hkST_s0 := hpre10
  have hkEN_s0 := hpre11
  have hkRE_s0 := hpre12
  have hkLA_s0 := hpre13
  obtain ⟨s1, hs1, hT⟩ := glx hT
  have hf_s1 : fr [40, 41, 59, 60, 61, 62, 63] s0 s1 := hs1 ▸ hf_s0.cpy (by decide)
  have hm_s1 : gMR lgX s1 := hs1 ▸ hm_s0.cpy32 rfl rfl
  have hg_s1 : fr [40] s0 s1 := hs1 ▸ (fr.rf _ _).cpy (by decide)
  have hKNx_s1 : KNx s1 := by
    intro j
    rw [hs1, mcpy_at]
    split
    · exact hkKN_s0 _
    · exact hKNx_s0 j
  have hMOx_s1 : MOx s1 := MOx_fr hMOx_s0 (fun k hk => hg_s1 k (dj (by decide) k hk))
  have hGP_s1 : GP s1 := GP_fr hGP_s0 (fun k hk => hg_s1 k (dj (by decide) k hk))
  have hST_s1 : ST s1 := ST_fr hST_s0 (fun k hk => hg_s1 k (dj (by decide) k hk))
  have hEN_s1 : EN s1 := EN_fr hEN_s0 (fun k hk => hg_s1 k (dj (by decide) k hk))
  have hRE_s1 : RE s1 := RE_fr hRE_s0 (fun k hk => hg_s1 k (dj (by decide) k hk))
  have hLA_s1 : LA s1 := LA_fr hLA_s0 (fun k hk => hg_s1 k (dj (by decide) k hk))
  have hkKN_s1 : kKN s1 := kKN_fr hkKN_s0 (fun k hk => hg_s1 k (dj (by decide) k hk))
  have hkMO_s1 : kMO s1 := kMO_fr hkMO_s0 (fun k hk => hg_s1 k (dj (by decide) k hk))
  have hkGP_s1 : kGP s1 := kGP_fr hkGP_s0 (fun k hk => hg_s1 k (dj (by decide) k hk))
  have hkST_s1 : kST s1 := kST_fr hkST_s0 (fun k hk => hg_s1 k (dj (by decide) k hk))
  have hkEN_s1 : kEN s1 := kEN_fr hkEN_s0 (fun k hk => hg_s1 k (dj (by decide) k hk))
  have hkRE_s1 : kRE s1 := kRE_fr hkRE_s0 (fun k hk => hg_s1 k (dj (by decide) k hk))
  have hkLA_s1 : kLA s1 := kLA_fr hkLA_s0 (fun k hk => hg_s1 k (dj (by decide) k hk))
  obtain ⟨s2, hs2, hT⟩ := glx hT
  have hf_s2 : fr [40, 41, 59, 60, 61, 62, 63] s0 s2 := hs2 ▸ hf_s1.cpy (by decide)
  have hm_s2 : gMR lgX s2 := hs2 ▸ hm_s1.cpy32 rfl rfl
  have hg_s2 : fr [41] s1 s2 := hs2 ▸ (fr.rf _ _).cpy (by decide)
  have hKNx_s2 : KNx s2 := KNx_fr hKNx_s1 (fun k hk => hg_s2 k (dj (by decide) k hk))
  have hMOx_s2 : MOx s2 := by
    intro j
    rw [hs2, mcpy_at]
    split
    · exact hkMO_s1 _
    · exact hMOx_s1 j
  have hGP_s2 : GP s2 := GP_fr hGP_s1 (fun k hk => hg_s2 k (dj (by decide) k hk))
  have hST_s2 : ST s2 := ST_fr hST_s1 (fun k hk => hg_s2 k (dj (by decide) k hk))
  have hEN_s2 : EN s2 := EN_fr hEN_s1 (fun k hk => hg_s2 k (dj (by decide) k hk))
  have hRE_s2 : RE s2 := RE_fr hRE_s1 (fun k hk => hg_s2 k (dj (by decide) k hk))
  have hLA_s2 : LA s2 := LA_fr hLA_s1 (fun k hk => hg_s2 k (dj (by decide) k hk))
  have hkKN_s2 : kKN s2 := kKN_fr hkKN_s1 (fun k hk => hg_s2 k (dj (by decide) k hk))
  have hkMO_s2 : kMO s2 := kMO_fr hkMO_s1 (fun k hk => hg_s2 k (dj (by decide) k hk))
  have hkGP_s2 : kGP s2 := kGP_fr hkGP_s1 (fun k hk => hg_s2 k (dj (by decide) k hk))
  have hkST_s2 : kST s2 := kST_fr hkST_s1 (fun k hk => hg_s2 k (dj (by decide) k hk))
  have hkEN_s2 : kEN s2 := kEN_fr hkEN_s1 (fun k hk => hg_s2 k (dj (by decide) k hk))
  have hkRE_s2 : kRE s2 := kRE_fr hkRE_s1 (fun k hk => hg_s2 k (dj (by decide) k hk))
  have hkLA_s2 : kLA s2 := kLA_fr hkLA_s1 (fun k hk => hg_s2 k (dj (by decide) k hk))
  have hr3 := (hm_s2 75 0).1 rfl
  have hi4 := hkGP_s2 0
  obtain ⟨s5, hs5, hT⟩ := glx hT
  have hf_s5 : fr [40, 41, 59, 60, 61, 62, 63] s0 s5 := hs5 ▸ hf_s2.set (by decide)
  have hm_s5 : gMR lgX s5 := hs5 ▸ hm_s2.set32 rfl (by omega)
  have hg_s5 : fr [59] s2 s5 := hs5 ▸ (fr.rf _ _).set (by decide)
  have hKNx_s5 : KNx s5 := KNx_fr hKNx_s2 (fun k hk => hg_s5 k (dj (by decide) k hk))
  have hMOx_s5 : MOx s5 := MOx_fr hMOx_s2 (fun k hk => hg_s5 k (dj (by decide) k hk))
  have hGP_s5 : GP s5 := hs5 ▸ GP_set hGP_s2 (by omega)
  have hST_s5 : ST s5 := ST_fr hST_s2 (fun k hk => hg_s5 k (dj (by decide) k hk))
  have hEN_s5 : EN s5 := EN_fr hEN_s2 (fun k hk => hg_s5 k (dj (by decide) k hk))
  have hRE_s5 : RE s5 := RE_fr hRE_s2 (fun k hk => hg_s5 k (dj (by decide) k hk))
  have hLA_s5 : LA s5 := LA_fr hLA_s2 (fun k hk => hg_s5 k (dj (by decide) k hk))
  have hkKN_s5 : kKN s5 := kKN_fr hkKN_s2 (fun k hk => hg_s5 k (dj (by decide) k hk))
  have hkMO_s5 : kMO s5 := kMO_fr hkMO_s2 (fun k hk => hg_s5 k (dj (by decide) k hk))
  have hkGP_s5 : kGP s5 := kGP_fr hkGP_s2 (fun k hk => hg_s5 k (dj (by decide) k hk))
  have hkST_s5 : kST s5 := kST_fr hkST_s2 (fun k hk => hg_s5 k (dj (by decide) k hk))
  have hkEN_s5 : kEN s5 := kEN_fr hkEN_s2 (fun k hk => hg_s5 k (dj (by decide) k hk))
  have hkRE_s5 : kRE s5 := kRE_fr hkRE_s2 (fun k hk => hg_s5 k (dj (by decide) k hk))
  have hkLA_s5 : kLA s5 := kLA_fr hkLA_s2 (fun k hk => hg_s5 k (dj (by decide) k hk))
  have hr6 := (hm_s5 76 0).1 rfl
  have hi7 := hkST_s5 0
  obtain ⟨s8, hs8, hT⟩ := glx hT
  have hf_s8 : fr [40, 41, 59, 60, 61, 62, 63] s0 s8 := hs8 ▸ hf_s5.set (by decide)
  have hm_s8 : gMR lgX s8 := hs8 ▸ hm_s5.set32 rfl (by omega)
  have hg_s8 : fr [60] s5 s8 := hs8 ▸ (fr.rf _ _).set (by decide)
  have hKNx_s8 : KNx s8 := KNx_fr hKNx_s5 (fun k hk => hg_s8 k (dj (by decide) k hk))
  have hMOx_s8 : MOx s8 := MOx_fr hMOx_s5 (fun k hk => hg_s8 k (dj (by decide) k hk))
  have hGP_s8 : GP s8 := GP_fr hGP_s5 (fun k hk => hg_s8 k (dj (by decide) k hk))
  have hST_s8 : ST s8 := hs8 ▸ ST_set hST_s5 (by omega)
  have hEN_s8 : EN s8 := EN_fr hEN_s5 (fun k hk => hg_s8 k (dj (by decide) k hk))
  have hRE_s8 : RE s8 := RE_fr hRE_s5 (fun k hk => hg_s8 k (dj (by decide) k hk))
  have hLA_s8 : LA s8 := LA_fr hLA_s5 (fun k hk => hg_s8 k (dj (by decide) k hk))
  have hkKN_s8 : kKN s8 := kKN_fr hkKN_s5 (fun k hk => hg_s8 k (dj (by decide) k hk))
  have hkMO_s8 : kMO s8 := kMO_fr hkMO_s5 (fun k hk => hg_s8 k (dj (by decide) k hk))
  have hkGP_s8 : kGP s8 := kGP_fr hkGP_s5 (fun k hk => hg_s8 k (dj (by decide) k hk))
  have hkST_s8 : kST s8 := kST_fr hkST_s5 (fun k hk => hg_s8 k (dj (by decide) k hk))
  have hkEN_s8 : kEN s8 := kEN_fr hkEN_s5 (fun k hk => hg_s8 k (dj (by decide) k hk))
  have hkRE_s8 : kRE s8 := kRE_fr hkRE_s5 (fun k hk => hg_s8 k (dj (by decide) k hk))
  have hkLA_s8 : kLA s8 := kLA_fr hkLA_s5 (fun k hk => hg_s8 k (dj (by decide) k hk))
  have hr9 := (hm_s8 77 0).1 rfl
  have hi10 := hkEN_s8 0
  obtain ⟨s11, hs11, hT⟩ := glx hT
  have hf_s11 : fr [40, 41, 59, 60, 61, 62, 63] s0 s11 := hs11 ▸ hf_s8.set (by decide)
  have hm_s11 : gMR lgX s11 := hs11 ▸ hm_s8.set32 rfl (by omega)
  have hg_s11 : fr [61] s8 s11 := hs11 ▸ (fr.rf _ _).set (by decide)
  have hKNx_s11 : KNx s11 := KNx_fr hKNx_s8 (fun k hk => hg_s11 k (dj (by decide) k hk))
  have hMOx_s11 : MOx s11 := MOx_fr hMOx_s8 (fun k hk => hg_s11 k (dj (by decide) k hk))
  have hGP_s11 : GP s11 := GP_fr hGP_s8 (fun k hk => hg_s11 k (dj (by decide) k hk))
  have hST_s11 : ST s11 := ST_fr hST_s8 (fun k hk => hg_s11 k (dj (by decide) k hk))
  have hEN_s11 : EN s11 := hs11 ▸ EN_set hEN_s8 (by omega)
  have hRE_s11 : RE s11 := RE_fr hRE_s8 (fun k hk => hg_s11 k (dj (by decide) k hk))
  have hLA_s11 : LA s11 := LA_fr hLA_s8 (fun k hk => hg_s11 k (dj (by decide) k hk))
  have hkKN_s11 : kKN s11 := kKN_fr hkKN_s8 (fun k hk => hg_s11 k (dj (by decide) k hk))
  have hkMO_s11 : kMO s11 := kMO_fr hkMO_s8 (fun k hk => hg_s11 k (dj (by decide) k hk))
  have hkGP_s11 : kGP s11 := kGP_fr hkGP_s8 (fun k hk => hg_s11 k (dj (by decide) k hk))
  have hkST_s11 : kST s11 := kST_fr hkST_s8 (fun k hk => hg_s11 k (dj (by decide) k hk))
  have hkEN_s11 : kEN s11 := kEN_fr hkEN_s8 (fun k hk => hg_s11 k (dj (by decide) k hk))
  have hkRE_s11 : kRE s11 := kRE_fr hkRE_s8 (fun k hk => hg_s11 k (dj (by decide) k hk))
  have hkLA_s11 : kLA s11 := kLA_fr hkLA_s8 (fun k hk => hg_s11 k (dj (by decide) k hk))
  have hr12 := (hm_s11 78 0).1 rfl
  have hi13 := hkRE_s11 0
  obtain ⟨s14, hs14, hT⟩ := glx hT
  have hf_s14 : fr [40, 41, 59, 60, 61, 62, 63] s0 s14 := hs14 ▸ hf_s11.set (by decide)
  have hm_s14 : gMR lgX s14 := hs14 ▸ hm_s11.set32 rfl (by omega)
  have hg_s14 : fr [62] s11 s14 := hs14 ▸ (fr.rf _ _).set (by decide)
  have hKNx_s14 : KNx s14 := KNx_fr hKNx_s11 (fun k hk => hg_s14 k (dj (by decide) k hk))
  have hMOx_s14 : MOx s14 := MOx_fr hMOx_s11 (fun k hk => hg_s14 k (dj (by decide) k hk))
  have hGP_s14 : GP s14 := GP_fr hGP_s11 (fun k hk => hg_s14 k (dj (by decide) k hk))
  have hST_s14 : ST s14 := ST_fr hST_s11 (fun k hk => hg_s14 k (dj (by decide) k hk))
  have hEN_s14 : EN s14 := EN_fr hEN_s11 (fun k hk => hg_s14 k (dj (by decide) k hk))
  have hRE_s14 : RE s14 := hs14 ▸ RE_set hRE_s11 (by omega)
  have hLA_s14 : LA s14 := LA_fr hLA_s11 (fun k hk => hg_s14 k (dj (by decide) k hk))
  have hkKN_s14 : kKN s14 := kKN_fr hkKN_s11 (fun k hk => hg_s14 k (dj (by decide) k hk))
  have hkMO_s14 : kMO s14 := kMO_fr hkMO_s11 (fun k hk => hg_s14 k (dj (by decide) k hk))
  have hkGP_s14 : kGP s14 := kGP_fr hkGP_s11 (fun k hk => hg_s14 k (dj (by decide) k hk))
  have hkST_s14 : kST s14 := kST_fr hkST_s11 (fun k hk => hg_s14 k (dj (by decide) k hk))
  have hkEN_s14 : kEN s14 := kEN_fr hkEN_s11 (fun k hk => hg_s14 k (dj (by decide) k hk))
  have hkRE_s14 : kRE s14 := kRE_fr hkRE_s11 (fun k hk => hg_s14 k (dj (by decide) k hk))
  have hkLA_s14 : kLA s14 := kLA_fr hkLA_s11 (fun k hk => hg_s14 k (dj (by decide) k hk))
  have hr15 := (hm_s14 79 0).1 rfl
  have hi16 := hkLA_s14 0
  obtain ⟨s17, hs17, hT⟩ := glx hT
  have hf_s17 : fr [40, 41, 59, 60, 61, 62, 63] s0 s17 := hs17 ▸ hf_s14.set (by decide)
  have hm_s17 : gMR lgX s17 := hs17 ▸ hm_s14.set32 rfl (by omega)
  have hg_s17 : fr [63] s14 s17 := hs17 ▸ (fr.rf _ _).set (by decide)
  have hKNx_s17 : KNx s17 := KNx_fr hKNx_s14 (fun k hk => hg_s17 k (dj (by decide) k hk))
  have hMOx_s17 : MOx s17 := MOx_fr hMOx_s14 (fun k hk => hg_s17 k (dj (by decide) k hk))
  have hGP_s17 : GP s17 := GP_fr hGP_s14 (fun k hk => hg_s17 k (dj (by decide) k hk))
  have hST_s17 : ST s17 := ST_fr hST_s14 (fun k hk => hg_s17 k (dj (by decide) k hk))
  have hEN_s17 : EN s17 := EN_fr hEN_s14 (fun k hk => hg_s17 k (dj (by decide) k hk))
  have hRE_s17 : RE s17 := RE_fr hRE_s14 (fun k hk => hg_s17 k (dj (by decide) k hk))
  have hLA_s17 : LA s17 := hs17 ▸ LA_set hLA_s14 (by omega)
  have hkKN_s17 : kKN s17 := kKN_fr hkKN_s14 (fun k hk => hg_s17 k (dj (by decide) k hk))
  have hkMO_s17 : kMO s17 := kMO_fr hkMO_s14 (fun k hk => hg_s17 k (dj (by decide) k hk))
  have hkGP_s17 : kGP s17 := kGP_fr hkGP_s14 (fun k hk => hg_s17 k (dj (by decide) k hk))
  have hkST_s17 : kST s17 := kST_fr hkST_s14 (fun k hk => hg_s17 k (dj (by decide) k hk))
  have hkEN_s17 : kEN s17 := kEN_fr hkEN_s14 (fun k hk => hg_s17 k (dj (by decide) k hk))
  have hkRE_s17 : kRE s17 := kRE_fr hkRE_s14 (fun k hk => hg_s17 k (dj (by decide) k hk))
  have hkLA_s17 : kLA s17 := kLA_fr hkLA_s14 (fun k hk => hg_s17 k (dj (by decide) k hk))
  obtain ⟨rfl, rfl⟩ := Prod.mk.inj (hT.symm.trans hres)
  exact ⟨hf_s17, hm_s17, trivial, hKNx_s17, hMOx_s17, hGP_s17, hST_s17, hEN_s17, hRE_s17, hLA_s17, hkKN_s17, hkMO_s17, hkGP_s17, hkST_s17, hkEN_s17, hkRE_s17, hkLA_s17⟩
set_option maxRecDepth 100000 in
set_option maxHeartbeats 4000000 in
theorem c_X6_become_now (l : Launch) (D : va_G) (a : Nat → Nat) (cI cJ cS cT : ClassId) (s0 : gMem)   (hpre0 : KNx s0) (hpre1 : MOx s0) (hpre2 : GP s0) (hpre3 : ST s0) (hpre4 : EN s0) (hpre5 : RE s0) (hpre6 : LA s0) (hpre7 : kKN s0) (hpre8 : kMO s0) (hpre9 : kGP s0) (hpre10 : kST s0) (hpre11 : kEN s0) (hpre12 : kRE s0) (hpre13 : kLA s0) : gC l yX6_become cX6_become 2 none 2 128 D vwCl (gT cI cJ cS cT) (wdX a cI cJ cS cT) lgX kV rgV [.ref (a 4), .ref (a 8)] s0 (f_X6_become_now s0) := by
  refine gC_of (by decide +kernel) (hwdX a cI cJ cS cT) (Nat.le_of_ble_eq_true rfl) ?_
  intro A p e R s m args below meth c hR E
  subst hR
  have hT := f_X6_become_now_e  s0
  have hf_s0 : fr [40, 41, 59, 60, 61, 62, 63] s0 s0 := fr.rf _ _
  refine k_lv0 (lv' := [(0, .ref (a 4)), (1, .ref (a 8))]) rfl ?_
  refine k_mr (fun hm_s0 => ?_)
  have hKNx_s0 := hpre0
  have hMOx_s0 := hpre1
  have hGP_s0 := hpre2
  have hST_s0 := hpre3
  have hEN_s0 := hpre4
  have hRE_s0 := hpre5
  have hLA_s0 := hpre6
  have hkKN_s0 := hpre7
  have hkMO_s0 := hpre8
  have hkGP_s0 := hpre9
  have hkST_s0 := hpre10
  have hkEN_s0 := hpre11
  have hkRE_s0 := hpre12
  have hkLA_s0 := hpre13
  refine k_aloadn (pc := 0) E 1 dX6_become_0 rfl rfl ?_
  refine k_getf (pc := 1) (q0 := 8) (f := 0) (v := .ref (a 45)) E inX6 rfl rfl (by decide) wm_102 rfl rfl dX6_become_1 ?_
  refine k_iconst (pc := 4) E dX6_become_4 ?_
  refine k_aloadn (pc := 5) E 0 dX6_become_5 rfl rfl ?_
  refine k_getf (pc := 6) (q0 := 4) (f := 0) (v := .ref (a 40)) E inX6 rfl rfl (by decide) wm_102 rfl rfl dX6_become_6 ?_
  refine k_iconst (pc := 9) E dX6_become_9 ?_
  refine k_bipush (pc := 10) E dX6_become_10 (by decide) ?_
  refine k_copyi (pc := 12) (q0 := 45) (q1 := 40) (k0 := 45) (k1 := 40) (n0 := 16) (n1 := 16) E wm_805 wm_467 wm_466 wm_16 rfl rfl rfl rfl rfl rfl (by decide) (by decide) (by omega) (by omega) (by omega) (by omega) (by omega) (by decide) (Nat.le_of_ble_eq_true rfl) dX6_become_12 ?_
  obtain ⟨s1, hs1, hT⟩ := glx hT
  refine k_sg hs1.symm ?_
  have hf_s1 : fr [40, 41, 59, 60, 61, 62, 63] s0 s1 := hs1 ▸ hf_s0.cpy (by decide)
  have hg_s1 : fr [40] s0 s1 := hs1 ▸ (fr.rf _ _).cpy (by decide)
  have hKNx_s1 : KNx s1 := by
    intro j
    rw [hs1, mcpy_at]
    split
    · exact hkKN_s0 _
    · exact hKNx_s0 j
  have hMOx_s1 : MOx s1 := MOx_fr hMOx_s0 (fun k hk => hg_s1 k (dj (by decide) k hk))
  have hGP_s1 : GP s1 := GP_fr hGP_s0 (fun k hk => hg_s1 k (dj (by decide) k hk))
  have hST_s1 : ST s1 := ST_fr hST_s0 (fun k hk => hg_s1 k (dj (by decide) k hk))
  have hEN_s1 : EN s1 := EN_fr hEN_s0 (fun k hk => hg_s1 k (dj (by decide) k hk))
  have hRE_s1 : RE s1 := RE_fr hRE_s0 (fun k hk => hg_s1 k (dj (by decide) k hk))
  have hLA_s1 : LA s1 := LA_fr hLA_s0 (fun k hk => hg_s1 k (dj (by decide) k hk))
  have hkKN_s1 : kKN s1 := kKN_fr hkKN_s0 (fun k hk => hg_s1 k (dj (by decide) k hk))
  have hkMO_s1 : kMO s1 := kMO_fr hkMO_s0 (fun k hk => hg_s1 k (dj (by decide) k hk))
  have hkGP_s1 : kGP s1 := kGP_fr hkGP_s0 (fun k hk => hg_s1 k (dj (by decide) k hk))
  have hkST_s1 : kST s1 := kST_fr hkST_s0 (fun k hk => hg_s1 k (dj (by decide) k hk))
  have hkEN_s1 : kEN s1 := kEN_fr hkEN_s0 (fun k hk => hg_s1 k (dj (by decide) k hk))
  have hkRE_s1 : kRE s1 := kRE_fr hkRE_s0 (fun k hk => hg_s1 k (dj (by decide) k hk))
  have hkLA_s1 : kLA s1 := kLA_fr hkLA_s0 (fun k hk => hg_s1 k (dj (by decide) k hk))
  refine k_aloadn (pc := 15) E 1 dX6_become_15 rfl rfl ?_
  refine k_getf (pc := 16) (q0 := 8) (f := 1) (v := .ref (a 46)) E inX6 rfl rfl (by decide) wm_105 rfl rfl dX6_become_16 ?_
  refine k_iconst (pc := 19) E dX6_become_19 ?_
  refine k_aloadn (pc := 20) E 0 dX6_become_20 rfl rfl ?_
  refine k_getf (pc := 21) (q0 := 4) (f := 1) (v := .ref (a 41)) E inX6 rfl rfl (by decide) wm_105 rfl rfl dX6_become_21 ?_
  refine k_iconst (pc := 24) E dX6_become_24 ?_
  refine k_bipush (pc := 25) E dX6_become_25 (by decide) ?_
  refine k_copyi (pc := 27) (q0 := 46) (q1 := 41) (k0 := 46) (k1 := 41) (n0 := 16) (n1 := 16) E wm_805 wm_467 wm_466 wm_16 rfl rfl rfl rfl rfl rfl (by decide) (by decide) (by omega) (by omega) (by omega) (by omega) (by omega) (by decide) (Nat.le_of_ble_eq_true rfl) dX6_become_27 ?_
  obtain ⟨s2, hs2, hT⟩ := glx hT
  refine k_sg hs2.symm ?_
  have hf_s2 : fr [40, 41, 59, 60, 61, 62, 63] s0 s2 := hs2 ▸ hf_s1.cpy (by decide)
  have hg_s2 : fr [41] s1 s2 := hs2 ▸ (fr.rf _ _).cpy (by decide)
  have hKNx_s2 : KNx s2 := KNx_fr hKNx_s1 (fun k hk => hg_s2 k (dj (by decide) k hk))
  have hMOx_s2 : MOx s2 := by
    intro j
    rw [hs2, mcpy_at]
    split
    · exact hkMO_s1 _
    · exact hMOx_s1 j
  have hGP_s2 : GP s2 := GP_fr hGP_s1 (fun k hk => hg_s2 k (dj (by decide) k hk))
  have hST_s2 : ST s2 := ST_fr hST_s1 (fun k hk => hg_s2 k (dj (by decide) k hk))
  have hEN_s2 : EN s2 := EN_fr hEN_s1 (fun k hk => hg_s2 k (dj (by decide) k hk))
  have hRE_s2 : RE s2 := RE_fr hRE_s1 (fun k hk => hg_s2 k (dj (by decide) k hk))
  have hLA_s2 : LA s2 := LA_fr hLA_s1 (fun k hk => hg_s2 k (dj (by decide) k hk))
  have hkKN_s2 : kKN s2 := kKN_fr hkKN_s1 (fun k hk => hg_s2 k (dj (by decide) k hk))
  have hkMO_s2 : kMO s2 := kMO_fr hkMO_s1 (fun k hk => hg_s2 k (dj (by decide) k hk))
  have hkGP_s2 : kGP s2 := kGP_fr hkGP_s1 (fun k hk => hg_s2 k (dj (by decide) k hk))
  have hkST_s2 : kST s2 := kST_fr hkST_s1 (fun k hk => hg_s2 k (dj (by decide) k hk))
  have hkEN_s2 : kEN s2 := kEN_fr hkEN_s1 (fun k hk => hg_s2 k (dj (by decide) k hk))
  have hkRE_s2 : kRE s2 := kRE_fr hkRE_s1 (fun k hk => hg_s2 k (dj (by decide) k hk))
  have hkLA_s2 : kLA s2 := kLA_fr hkLA_s1 (fun k hk => hg_s2 k (dj (by decide) k hk))
  refine k_aloadn (pc := 30) E 0 dX6_become_30 rfl rfl ?_
  refine k_aloadn (pc := 31) E 1 dX6_become_31 rfl rfl ?_
  refine k_getfI (pc := 32) (q0 := 8) (f := 2) (k := 75) E inX6 rfl rfl (by decide) wm_108 rfl rfl rfl dX6_become_32 (fun hr3 => ?_)
  have hi4 := hkGP_s2 0
  refine k_putfI (pc := 35) (q0 := 4) (f := 2) (k := 59) E tyX6 tyX6_ok nmX6 inX6 rfl rfl (by decide) wm_108 rfl rfl rfl (Nat.le_of_ble_eq_true rfl) rfl rfl (by omega) dX6_become_35 ?_
  obtain ⟨s5, hs5, hT⟩ := glx hT
  refine k_sg hs5.symm ?_
  have hf_s5 : fr [40, 41, 59, 60, 61, 62, 63] s0 s5 := hs5 ▸ hf_s2.set (by decide)
  have hg_s5 : fr [59] s2 s5 := hs5 ▸ (fr.rf _ _).set (by decide)
  have hKNx_s5 : KNx s5 := KNx_fr hKNx_s2 (fun k hk => hg_s5 k (dj (by decide) k hk))
  have hMOx_s5 : MOx s5 := MOx_fr hMOx_s2 (fun k hk => hg_s5 k (dj (by decide) k hk))
  have hGP_s5 : GP s5 := hs5 ▸ GP_set hGP_s2 (by omega)
  have hST_s5 : ST s5 := ST_fr hST_s2 (fun k hk => hg_s5 k (dj (by decide) k hk))
  have hEN_s5 : EN s5 := EN_fr hEN_s2 (fun k hk => hg_s5 k (dj (by decide) k hk))
  have hRE_s5 : RE s5 := RE_fr hRE_s2 (fun k hk => hg_s5 k (dj (by decide) k hk))
  have hLA_s5 : LA s5 := LA_fr hLA_s2 (fun k hk => hg_s5 k (dj (by decide) k hk))
  have hkKN_s5 : kKN s5 := kKN_fr hkKN_s2 (fun k hk => hg_s5 k (dj (by decide) k hk))
  have hkMO_s5 : kMO s5 := kMO_fr hkMO_s2 (fun k hk => hg_s5 k (dj (by decide) k hk))
  have hkGP_s5 : kGP s5 := kGP_fr hkGP_s2 (fun k hk => hg_s5 k (dj (by decide) k hk))
  have hkST_s5 : kST s5 := kST_fr hkST_s2 (fun k hk => hg_s5 k (dj (by decide) k hk))
  have hkEN_s5 : kEN s5 := kEN_fr hkEN_s2 (fun k hk => hg_s5 k (dj (by decide) k hk))
  have hkRE_s5 : kRE s5 := kRE_fr hkRE_s2 (fun k hk => hg_s5 k (dj (by decide) k hk))
  have hkLA_s5 : kLA s5 := kLA_fr hkLA_s2 (fun k hk => hg_s5 k (dj (by decide) k hk))
  refine k_aloadn (pc := 38) E 0 dX6_become_38 rfl rfl ?_
  refine k_aloadn (pc := 39) E 1 dX6_become_39 rfl rfl ?_
  refine k_getfI (pc := 40) (q0 := 8) (f := 3) (k := 76) E inX6 rfl rfl (by decide) wm_112 rfl rfl rfl dX6_become_40 (fun hr6 => ?_)
  have hi7 := hkST_s5 0
  refine k_putfI (pc := 43) (q0 := 4) (f := 3) (k := 60) E tyX6 tyX6_ok nmX6 inX6 rfl rfl (by decide) wm_112 rfl rfl rfl (Nat.le_of_ble_eq_true rfl) rfl rfl (by omega) dX6_become_43 ?_
  obtain ⟨s8, hs8, hT⟩ := glx hT
  refine k_sg hs8.symm ?_
  have hf_s8 : fr [40, 41, 59, 60, 61, 62, 63] s0 s8 := hs8 ▸ hf_s5.set (by decide)
  have hg_s8 : fr [60] s5 s8 := hs8 ▸ (fr.rf _ _).set (by decide)
  have hKNx_s8 : KNx s8 := KNx_fr hKNx_s5 (fun k hk => hg_s8 k (dj (by decide) k hk))
  have hMOx_s8 : MOx s8 := MOx_fr hMOx_s5 (fun k hk => hg_s8 k (dj (by decide) k hk))
  have hGP_s8 : GP s8 := GP_fr hGP_s5 (fun k hk => hg_s8 k (dj (by decide) k hk))
  have hST_s8 : ST s8 := hs8 ▸ ST_set hST_s5 (by omega)
  have hEN_s8 : EN s8 := EN_fr hEN_s5 (fun k hk => hg_s8 k (dj (by decide) k hk))
  have hRE_s8 : RE s8 := RE_fr hRE_s5 (fun k hk => hg_s8 k (dj (by decide) k hk))
  have hLA_s8 : LA s8 := LA_fr hLA_s5 (fun k hk => hg_s8 k (dj (by decide) k hk))
  have hkKN_s8 : kKN s8 := kKN_fr hkKN_s5 (fun k hk => hg_s8 k (dj (by decide) k hk))
  have hkMO_s8 : kMO s8 := kMO_fr hkMO_s5 (fun k hk => hg_s8 k (dj (by decide) k hk))
  have hkGP_s8 : kGP s8 := kGP_fr hkGP_s5 (fun k hk => hg_s8 k (dj (by decide) k hk))
  have hkST_s8 : kST s8 := kST_fr hkST_s5 (fun k hk => hg_s8 k (dj (by decide) k hk))
  have hkEN_s8 : kEN s8 := kEN_fr hkEN_s5 (fun k hk => hg_s8 k (dj (by decide) k hk))
  have hkRE_s8 : kRE s8 := kRE_fr hkRE_s5 (fun k hk => hg_s8 k (dj (by decide) k hk))
  have hkLA_s8 : kLA s8 := kLA_fr hkLA_s5 (fun k hk => hg_s8 k (dj (by decide) k hk))
  refine k_aloadn (pc := 46) E 0 dX6_become_46 rfl rfl ?_
  refine k_aloadn (pc := 47) E 1 dX6_become_47 rfl rfl ?_
  refine k_getfI (pc := 48) (q0 := 8) (f := 4) (k := 77) E inX6 rfl rfl (by decide) wm_115 rfl rfl rfl dX6_become_48 (fun hr9 => ?_)
  have hi10 := hkEN_s8 0
  refine k_putfI (pc := 51) (q0 := 4) (f := 4) (k := 61) E tyX6 tyX6_ok nmX6 inX6 rfl rfl (by decide) wm_115 rfl rfl rfl (Nat.le_of_ble_eq_true rfl) rfl rfl (by omega) dX6_become_51 ?_
  obtain ⟨s11, hs11, hT⟩ := glx hT
  refine k_sg hs11.symm ?_
  have hf_s11 : fr [40, 41, 59, 60, 61, 62, 63] s0 s11 := hs11 ▸ hf_s8.set (by decide)
  have hg_s11 : fr [61] s8 s11 := hs11 ▸ (fr.rf _ _).set (by decide)
  have hKNx_s11 : KNx s11 := KNx_fr hKNx_s8 (fun k hk => hg_s11 k (dj (by decide) k hk))
  have hMOx_s11 : MOx s11 := MOx_fr hMOx_s8 (fun k hk => hg_s11 k (dj (by decide) k hk))
  have hGP_s11 : GP s11 := GP_fr hGP_s8 (fun k hk => hg_s11 k (dj (by decide) k hk))
  have hST_s11 : ST s11 := ST_fr hST_s8 (fun k hk => hg_s11 k (dj (by decide) k hk))
  have hEN_s11 : EN s11 := hs11 ▸ EN_set hEN_s8 (by omega)
  have hRE_s11 : RE s11 := RE_fr hRE_s8 (fun k hk => hg_s11 k (dj (by decide) k hk))
  have hLA_s11 : LA s11 := LA_fr hLA_s8 (fun k hk => hg_s11 k (dj (by decide) k hk))
  have hkKN_s11 : kKN s11 := kKN_fr hkKN_s8 (fun k hk => hg_s11 k (dj (by decide) k hk))
  have hkMO_s11 : kMO s11 := kMO_fr hkMO_s8 (fun k hk => hg_s11 k (dj (by decide) k hk))
  have hkGP_s11 : kGP s11 := kGP_fr hkGP_s8 (fun k hk => hg_s11 k (dj (by decide) k hk))
  have hkST_s11 : kST s11 := kST_fr hkST_s8 (fun k hk => hg_s11 k (dj (by decide) k hk))
  have hkEN_s11 : kEN s11 := kEN_fr hkEN_s8 (fun k hk => hg_s11 k (dj (by decide) k hk))
  have hkRE_s11 : kRE s11 := kRE_fr hkRE_s8 (fun k hk => hg_s11 k (dj (by decide) k hk))
  have hkLA_s11 : kLA s11 := kLA_fr hkLA_s8 (fun k hk => hg_s11 k (dj (by decide) k hk))
  refine k_aloadn (pc := 54) E 0 dX6_become_54 rfl rfl ?_
  refine k_aloadn (pc := 55) E 1 dX6_become_55 rfl rfl ?_
  refine k_getfI (pc := 56) (q0 := 8) (f := 5) (k := 78) E inX6 rfl rfl (by decide) wm_118 rfl rfl rfl dX6_become_56 (fun hr12 => ?_)
  have hi13 := hkRE_s11 0
  refine k_putfI (pc := 59) (q0 := 4) (f := 5) (k := 62) E tyX6 tyX6_ok nmX6 inX6 rfl rfl (by decide) wm_118 rfl rfl rfl (Nat.le_of_ble_eq_true rfl) rfl rfl (by omega) dX6_become_59 ?_
  obtain ⟨s14, hs14, hT⟩ := glx hT
  refine k_sg hs14.symm ?_
  have hf_s14 : fr [40, 41, 59, 60, 61, 62, 63] s0 s14 := hs14 ▸ hf_s11.set (by decide)
  have hg_s14 : fr [62] s11 s14 := hs14 ▸ (fr.rf _ _).set (by decide)
  have hKNx_s14 : KNx s14 := KNx_fr hKNx_s11 (fun k hk => hg_s14 k (dj (by decide) k hk))
  have hMOx_s14 : MOx s14 := MOx_fr hMOx_s11 (fun k hk => hg_s14 k (dj (by decide) k hk))
  have hGP_s14 : GP s14 := GP_fr hGP_s11 (fun k hk => hg_s14 k (dj (by decide) k hk))
  have hST_s14 : ST s14 := ST_fr hST_s11 (fun k hk => hg_s14 k (dj (by decide) k hk))
  have hEN_s14 : EN s14 := EN_fr hEN_s11 (fun k hk => hg_s14 k (dj (by decide) k hk))
  have hRE_s14 : RE s14 := hs14 ▸ RE_set hRE_s11 (by omega)
  have hLA_s14 : LA s14 := LA_fr hLA_s11 (fun k hk => hg_s14 k (dj (by decide) k hk))
  have hkKN_s14 : kKN s14 := kKN_fr hkKN_s11 (fun k hk => hg_s14 k (dj (by decide) k hk))
  have hkMO_s14 : kMO s14 := kMO_fr hkMO_s11 (fun k hk => hg_s14 k (dj (by decide) k hk))
  have hkGP_s14 : kGP s14 := kGP_fr hkGP_s11 (fun k hk => hg_s14 k (dj (by decide) k hk))
  have hkST_s14 : kST s14 := kST_fr hkST_s11 (fun k hk => hg_s14 k (dj (by decide) k hk))
  have hkEN_s14 : kEN s14 := kEN_fr hkEN_s11 (fun k hk => hg_s14 k (dj (by decide) k hk))
  have hkRE_s14 : kRE s14 := kRE_fr hkRE_s11 (fun k hk => hg_s14 k (dj (by decide) k hk))
  have hkLA_s14 : kLA s14 := kLA_fr hkLA_s11 (fun k hk => hg_s14 k (dj (by decide) k hk))
  refine k_aloadn (pc := 62) E 0 dX6_become_62 rfl rfl ?_
  refine k_aloadn (pc := 63) E 1 dX6_become_63 rfl rfl ?_
  refine k_getfI (pc := 64) (q0 := 8) (f := 6) (k := 79) E inX6 rfl rfl (by decide) wm_122 rfl rfl rfl dX6_become_64 (fun hr15 => ?_)
  have hi16 := hkLA_s14 0
  refine k_putfI (pc := 67) (q0 := 4) (f := 6) (k := 63) E tyX6 tyX6_ok nmX6 inX6 rfl rfl (by decide) wm_122 rfl rfl rfl (Nat.le_of_ble_eq_true rfl) rfl rfl (by omega) dX6_become_67 ?_
  obtain ⟨s17, hs17, hT⟩ := glx hT
  refine k_sg hs17.symm ?_
  have hf_s17 : fr [40, 41, 59, 60, 61, 62, 63] s0 s17 := hs17 ▸ hf_s14.set (by decide)
  have hg_s17 : fr [63] s14 s17 := hs17 ▸ (fr.rf _ _).set (by decide)
  have hKNx_s17 : KNx s17 := KNx_fr hKNx_s14 (fun k hk => hg_s17 k (dj (by decide) k hk))
  have hMOx_s17 : MOx s17 := MOx_fr hMOx_s14 (fun k hk => hg_s17 k (dj (by decide) k hk))
  have hGP_s17 : GP s17 := GP_fr hGP_s14 (fun k hk => hg_s17 k (dj (by decide) k hk))
  have hST_s17 : ST s17 := ST_fr hST_s14 (fun k hk => hg_s17 k (dj (by decide) k hk))
  have hEN_s17 : EN s17 := EN_fr hEN_s14 (fun k hk => hg_s17 k (dj (by decide) k hk))
  have hRE_s17 : RE s17 := RE_fr hRE_s14 (fun k hk => hg_s17 k (dj (by decide) k hk))
  have hLA_s17 : LA s17 := hs17 ▸ LA_set hLA_s14 (by omega)
  have hkKN_s17 : kKN s17 := kKN_fr hkKN_s14 (fun k hk => hg_s17 k (dj (by decide) k hk))
  have hkMO_s17 : kMO s17 := kMO_fr hkMO_s14 (fun k hk => hg_s17 k (dj (by decide) k hk))
  have hkGP_s17 : kGP s17 := kGP_fr hkGP_s14 (fun k hk => hg_s17 k (dj (by decide) k hk))
  have hkST_s17 : kST s17 := kST_fr hkST_s14 (fun k hk => hg_s17 k (dj (by decide) k hk))
  have hkEN_s17 : kEN s17 := kEN_fr hkEN_s14 (fun k hk => hg_s17 k (dj (by decide) k hk))
  have hkRE_s17 : kRE s17 := kRE_fr hkRE_s14 (fun k hk => hg_s17 k (dj (by decide) k hk))
  have hkLA_s17 : kLA s17 := kLA_fr hkLA_s14 (fun k hk => hg_s17 k (dj (by decide) k hk))
  exact k_rho hT (k_vret (pc := 70) E dX6_become_70)
