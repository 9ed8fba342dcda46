theorem wm_58 : Cond.fieldLink RX8 124 "AGapEveryTwenty$Reader" "code" "[I" ∈ gBIG := gm (List.mem_of_getElem? (i := 112) (by decide +kernel)) (by decide +kernel)
theorem wm_59 : Cond.fieldLink RX3 18 "AGapEveryTwenty$Reader" "begins" "[I" ∈ gBIG := gm (List.mem_of_getElem? (i := 113) (by decide +kernel)) (by decide +kernel)
theorem wm_60 : Cond.fieldLink RX8 128 "AGapEveryTwenty$Reader" "begins" "[I" ∈ gBIG := gm (List.mem_of_getElem? (i := 114) (by decide +kernel)) (by decide +kernel)
theorem wm_329 : Cond.methodLink RX8 120 yX3_readText ∈ gBIG := gm (List.mem_of_getElem? (i := 383) (by decide +kernel)) (by decide +kernel)
theorem wm_330 : Cond.instanceMethod yX3_readText ∈ gBIG := gm (List.mem_of_getElem? (i := 384) (by decide +kernel)) (by decide +kernel)
theorem wm_331 : Cond.selects RX3 yX3_readText yX3_readText ∈ gBIG := gm (List.mem_of_getElem? (i := 385) (by decide +kernel)) (by decide +kernel)
theorem wm_332 : Cond.code yX3_readText cX3_readText 2 (some .int) ∈ gBIG := gm (List.mem_of_getElem? (i := 386) (by decide +kernel)) (by decide +kernel)
theorem wm_461 : Cond.methodLink RX8 131 yX7_add ∈ gBIG := gm (List.mem_of_getElem? (i := 515) (by decide +kernel)) (by decide +kernel)
theorem wm_462 : Cond.instanceMethod yX7_add ∈ gBIG := gm (List.mem_of_getElem? (i := 516) (by decide +kernel)) (by decide +kernel)
theorem wm_463 : Cond.selects RX7 yX7_add yX7_add ∈ gBIG := gm (List.mem_of_getElem? (i := 517) (by decide +kernel)) (by decide +kernel)
theorem wm_464 : Cond.code yX7_add cX7_add 3 (some .int) ∈ gBIG := gm (List.mem_of_getElem? (i := 518) (by decide +kernel)) (by decide +kernel)
theorem wm_836 : Cond.constantLong RX8 307 (-2) ∈ gBIG := gm (List.mem_of_getElem? (i := 890) (by decide +kernel)) (by decide +kernel)
theorem wm_837 : Cond.constantLong RX8 309 (-12) ∈ gBIG := gm (List.mem_of_getElem? (i := 891) (by decide +kernel)) (by decide +kernel)
theorem wm_838 : Cond.constantLong RX8 311 (-11) ∈ gBIG := gm (List.mem_of_getElem? (i := 892) (by decide +kernel)) (by decide +kernel)
theorem wm_839 : Cond.methodLink RX8 313 yX8_isOf ∈ gBIG := gm (List.mem_of_getElem? (i := 893) (by decide +kernel)) (by decide +kernel)
theorem wm_840 : Cond.static yX8_isOf ∈ gBIG := gm (List.mem_of_getElem? (i := 894) (by decide +kernel)) (by decide +kernel)
theorem wm_841 : Cond.code yX8_isOf cX8_isOf 4 (some .boolean) ∈ gBIG := gm (List.mem_of_getElem? (i := 895) (by decide +kernel)) (by decide +kernel)
theorem wm_842 : Cond.fieldLink RX8 318 "AGapEveryTwenty" "KIND_ABOVE" "[I" ∈ gBIG := gm (List.mem_of_getElem? (i := 896) (by decide +kernel)) (by decide +kernel)
theorem wm_844 : Cond.constantLong RX8 316 (-13) ∈ gBIG := gm (List.mem_of_getElem? (i := 898) (by decide +kernel)) (by decide +kernel)
/-! reading a text: the class: the whole of it; what lies at a place -/
def TKW (s : gMem) : Prop := (0 ≤ s 55 0 ∧ s 55 0 ≤ 267) ∧ (s 55 0 = 2 → 0 ≤ s 57 0 ∧ s 57 0 ≤ 9999) ∧ (0 ≤ s 52 0 ∧ s 52 0 ≤ 160) ∧ (0 ≤ s 56 0 ∧ s 56 0 ≤ 160)
theorem TK_W {s : gMem} (h : TK s) : TKW s := ⟨h.1, h.2.1, h.2.2.1, h.2.2.2.2.2.1⟩

def w_X3_readText_21  : Nat → Int → gMem → Int × gMem
  | 0, v33, s34 => (v33, s34)
  | n35 + 1, v33, s34 => (if v33 < 3 then gl (mset s34 35 v33 (s34 53 0)) (fun s38 => gb (f_X3_want (256 + v33) s38) (fun r47 s48 => gb (f_X3_readOr_5 0 s48) (fun r54 s55 => gb (f_X3_want 59 s55) (fun r60 s61 => (w_X3_readText_21 n35 (v33 + 1) s61))))) else (v33, s34))
theorem w_X3_readText_21_s  (n35 : Nat) (v33 : Int) (s34 : gMem) : w_X3_readText_21  (n35 + 1) v33 s34 = (if v33 < 3 then gl (mset s34 35 v33 (s34 53 0)) (fun s38 => gb (f_X3_want (256 + v33) s38) (fun r47 s48 => gb (f_X3_readOr_5 0 s48) (fun r54 s55 => gb (f_X3_want 59 s55) (fun r60 s61 => (w_X3_readText_21 n35 (v33 + 1) s61))))) else (v33, s34)) := rfl
def f_X3_readText  (s0 : gMem) : gRes := gl (mset s0 54 0 0) (fun s1 => gl (mset s1 53 0 0) (fun s9 => gl (mset s9 58 0 (-1)) (fun s17 => gb (f_X3_next  s17) (fun r26 s27 => (gl2 (w_X3_readText_21 5 0 s27) (fun v110 s111 => gl (mset s111 35 3 (s111 53 0)) (fun s117 => gb (f_X3_want 0 s117) (fun r126 s127 => ((s127 58 0), s127)))))))))
theorem f_X3_readText_e  (s0 : gMem) : f_X3_readText s0 = gl (mset s0 54 0 0) (fun s1 => gl (mset s1 53 0 0) (fun s9 => gl (mset s9 58 0 (-1)) (fun s17 => gb (f_X3_next  s17) (fun r26 s27 => (gl2 (w_X3_readText_21 5 0 s27) (fun v110 s111 => gl (mset s111 35 3 (s111 53 0)) (fun s117 => gb (f_X3_want 0 s117) (fun r126 s127 => ((s127 58 0), s127))))))))) := rfl
set_option maxRecDepth 100000 in
set_option maxHeartbeats 4000000 in
theorem f_X3_readText_p  (s0 : gMem)  (hm_s0 : gMR lgX s0) (hpre0 : RCO s0) (hpre1 : RBE s0) (hpre2 : TKW s0) (rZ : Int) (sZ : gMem) (hres : f_X3_readText s0 = (rZ, sZ)) : (fr [34, 35, 53, 54, 55, 56, 57, 58] s0 sZ) ∧ (gMR lgX sZ) ∧ (in32 rZ) ∧ (RCO sZ) ∧ (RBE sZ) ∧ (TK sZ) ∧ (-1 ≤ rZ ∧ rZ ≤ 160) := by
  have hT := f_X3_readText_e  s0
  have hf_s0 : fr [34, 35, 53, 54, 55, 56, 57, 58] s0 s0 := fr.rf _ _
  have hRCO_s0 := hpre0
  have hRBE_s0 := hpre1
  obtain ⟨kw1, kw2, kw3, kw4⟩ := id hpre2
  obtain ⟨s1, hs1, hT⟩ := glx hT
  have hf_s1 : fr [34, 35, 53, 54, 55, 56, 57, 58] s0 s1 := hs1 ▸ hf_s0.set (by decide)
  have hm_s1 : gMR lgX s1 := hs1 ▸ hm_s0.set32 rfl (by omega)
  have hg_s1 : fr [54] s0 s1 := hs1 ▸ (fr.rf _ _).set (by decide)
  have hRCO_s1 : RCO s1 := RCO_fr hRCO_s0 (fun k hk => hg_s1 k (dj (by decide) k hk))
  have hRBE_s1 : RBE s1 := RBE_fr hRBE_s0 (fun k hk => hg_s1 k (dj (by decide) k hk))
  have ht2 : s1 52 0 = s0 52 0 := by rw [hs1]; exact mset_ne _ _ _ _ _ (by decide)
  have ht3 : s1 53 0 = s0 53 0 := by rw [hs1]; exact mset_ne _ _ _ _ _ (by decide)
  have ht4 : s1 54 0 = 0 := by rw [hs1]; exact mset_eq _ _ _ _
  have ht5 : s1 55 0 = s0 55 0 := by rw [hs1]; exact mset_ne _ _ _ _ _ (by decide)
  have ht6 : s1 56 0 = s0 56 0 := by rw [hs1]; exact mset_ne _ _ _ _ _ (by decide)
  have ht7 : s1 57 0 = s0 57 0 := by rw [hs1]; exact mset_ne _ _ _ _ _ (by decide)
  have ht8 : s1 58 0 = s0 58 0 := by rw [hs1]; exact mset_ne _ _ _ _ _ (by decide)
  obtain ⟨s9, hs9, hT⟩ := glx hT
  have hf_s9 : fr [34, 35, 53, 54, 55, 56, 57, 58] s0 s9 := hs9 ▸ hf_s1.set (by decide)
  have hm_s9 : gMR lgX s9 := hs9 ▸ hm_s1.set32 rfl (by omega)
  have hg_s9 : fr [53] s1 s9 := hs9 ▸ (fr.rf _ _).set (by decide)
  have hRCO_s9 : RCO s9 := RCO_fr hRCO_s1 (fun k hk => hg_s9 k (dj (by decide) k hk))
  have hRBE_s9 : RBE s9 := RBE_fr hRBE_s1 (fun k hk => hg_s9 k (dj (by decide) k hk))
  have ht10 : s9 52 0 = s1 52 0 := by rw [hs9]; exact mset_ne _ _ _ _ _ (by decide)
  have ht11 : s9 53 0 = 0 := by rw [hs9]; exact mset_eq _ _ _ _
  have ht12 : s9 54 0 = s1 54 0 := by rw [hs9]; exact mset_ne _ _ _ _ _ (by decide)
  have ht13 : s9 55 0 = s1 55 0 := by rw [hs9]; exact mset_ne _ _ _ _ _ (by decide)
  have ht14 : s9 56 0 = s1 56 0 := by rw [hs9]; exact mset_ne _ _ _ _ _ (by decide)
  have ht15 : s9 57 0 = s1 57 0 := by rw [hs9]; exact mset_ne _ _ _ _ _ (by decide)
  have ht16 : s9 58 0 = s1 58 0 := by rw [hs9]; exact mset_ne _ _ _ _ _ (by decide)
  obtain ⟨s17, hs17, hT⟩ := glx hT
  have hf_s17 : fr [34, 35, 53, 54, 55, 56, 57, 58] s0 s17 := hs17 ▸ hf_s9.set (by decide)
  have hm_s17 : gMR lgX s17 := hs17 ▸ hm_s9.set32 rfl (by omega)
  have hg_s17 : fr [58] s9 s17 := hs17 ▸ (fr.rf _ _).set (by decide)
  have hRCO_s17 : RCO s17 := RCO_fr hRCO_s9 (fun k hk => hg_s17 k (dj (by decide) k hk))
  have hRBE_s17 : RBE s17 := RBE_fr hRBE_s9 (fun k hk => hg_s17 k (dj (by decide) k hk))
  have ht18 : s17 52 0 = s9 52 0 := by rw [hs17]; exact mset_ne _ _ _ _ _ (by decide)
  have ht19 : s17 53 0 = s9 53 0 := by rw [hs17]; exact mset_ne _ _ _ _ _ (by decide)
  have ht20 : s17 54 0 = s9 54 0 := by rw [hs17]; exact mset_ne _ _ _ _ _ (by decide)
  have ht21 : s17 55 0 = s9 55 0 := by rw [hs17]; exact mset_ne _ _ _ _ _ (by decide)
  have ht22 : s17 56 0 = s9 56 0 := by rw [hs17]; exact mset_ne _ _ _ _ _ (by decide)
  have ht23 : s17 57 0 = s9 57 0 := by rw [hs17]; exact mset_ne _ _ _ _ _ (by decide)
  have ht24 : s17 58 0 = (-1) := by rw [hs17]; exact mset_eq _ _ _ _
  obtain ⟨r26, s27, hs27⟩ : ∃ rr ss, (f_X3_next  s17) = (rr, ss) := ⟨_, _, rfl⟩
  replace hT := gby hT hs27
  have hp28 := f_X3_next_p  s17  hm_s17 (by unfold TK; omega) r26 s27 hs27
  obtain ⟨hfc_s27, hm_s27, hp29, hTK_s27⟩ := hp28
  have hf_s27 : fr [34, 35, 53, 54, 55, 56, 57, 58] s0 s27 := hf_s17.call (by decide) hfc_s27
  have hRCO_s27 : RCO s27 := RCO_fr hRCO_s17 (fun k hk => hfc_s27 k (dj (by decide) k hk))
  have hRBE_s27 : RBE s27 := RBE_fr hRBE_s17 (fun k hk => hfc_s27 k (dj (by decide) k hk))
  have ht30 : s27 52 0 = s17 52 0 := by rw [hfc_s27 52 (by decide)]
  have ht31 : s27 53 0 = s17 53 0 := by rw [hfc_s27 53 (by decide)]
  have ht32 : s27 58 0 = s17 58 0 := by rw [hfc_s27 58 (by decide)]
  have L68 : ∀ (n69 : Nat) (v66 : Int) (s67 : gMem), ((in32 v66) ∧ (fr [34, 35, 53, 54, 55, 56, 57, 58] s0 s67) ∧ (gMR lgX s67) ∧ (RCO s67) ∧ (RBE s67) ∧ (s67 52 0 = s27 52 0) ∧ (0 ≤ v66 ∧ v66 ≤ 3) ∧ (TK s67)) → 3 - v66 < (n69 : Int) → (∀ (w70 : Int) (s71 : gMem), (w_X3_readText_21 n69 v66 s67) = (w70, s71) → ((in32 w70) ∧ (fr [34, 35, 53, 54, 55, 56, 57, 58] s0 s71) ∧ (gMR lgX s71) ∧ (RCO s71) ∧ (RBE s71) ∧ (s71 52 0 = s27 52 0) ∧ (0 ≤ w70 ∧ w70 ≤ 3) ∧ (TK s71)) → (fr [34, 35, 53, 54, 55, 56, 57, 58] s0 sZ) ∧ (gMR lgX sZ) ∧ (in32 rZ) ∧ (RCO sZ) ∧ (RBE sZ) ∧ (TK sZ) ∧ (-1 ≤ rZ ∧ rZ ≤ 160)) → (fr [34, 35, 53, 54, 55, 56, 57, 58] s0 sZ) ∧ (gMR lgX sZ) ∧ (in32 rZ) ∧ (RCO sZ) ∧ (RBE sZ) ∧ (TK sZ) ∧ (-1 ≤ rZ ∧ rZ ≤ 160) := by
    intro n69; induction n69 with
    | zero =>
      intro v66 s67 hq hm hk
      exfalso
      obtain ⟨hq102, hf_s67, hm_s67, hRCO_s67, hRBE_s67, hq103, hq104, hq105⟩ := hq
      omega
    | succ n69 ih =>
      intro v66 s67 hq hm hk
      obtain ⟨hq106, hf_s67, hm_s67, hRCO_s67, hRBE_s67, hq107, hq108, hq109⟩ := hq
      have hT := w_X3_readText_21_s  n69 v66 s67
      by_cases h72 : v66 < 3
      · replace hT := hT.trans (if_pos h72)
        obtain ⟨kta1, kta2, kta3, kta4, kta5, kta6, kta7⟩ := id (by assumption : TK s67)
        have hr73 := (hm_s67 53 0).1 rfl
        obtain ⟨s74, hs74, hT⟩ := glx hT
        have hf_s74 : fr [34, 35, 53, 54, 55, 56, 57, 58] s0 s74 := hs74 ▸ hf_s67.set (by decide)
        have hm_s74 : gMR lgX s74 := hs74 ▸ hm_s67.set32 rfl (by omega)
        have hg_s74 : fr [35] s67 s74 := hs74 ▸ (fr.rf _ _).set (by decide)
        have hRCO_s74 : RCO s74 := RCO_fr hRCO_s67 (fun k hk => hg_s74 k (dj (by decide) k hk))
        have hRBE_s74 : RBE s74 := hs74 ▸ RBE_set hRBE_s67 (by omega)
        have ht75 : s74 52 0 = s67 52 0 := by rw [hs74]; exact mset_ne _ _ _ _ _ (by decide)
        have ht76 : s74 53 0 = s67 53 0 := by rw [hs74]; exact mset_ne _ _ _ _ _ (by decide)
        have ht77 : s74 54 0 = s67 54 0 := by rw [hs74]; exact mset_ne _ _ _ _ _ (by decide)
        have ht78 : s74 55 0 = s67 55 0 := by rw [hs74]; exact mset_ne _ _ _ _ _ (by decide)
        have ht79 : s74 56 0 = s67 56 0 := by rw [hs74]; exact mset_ne _ _ _ _ _ (by decide)
        have ht80 : s74 57 0 = s67 57 0 := by rw [hs74]; exact mset_ne _ _ _ _ _ (by decide)
        have ht81 : s74 58 0 = s67 58 0 := by rw [hs74]; exact mset_ne _ _ _ _ _ (by decide)
        obtain ⟨r83, s84, hs84⟩ : ∃ rr ss, (f_X3_want (256 + v66) s74) = (rr, ss) := ⟨_, _, rfl⟩
        replace hT := gby hT hs84
        have hp85 := f_X3_want_p (256 + v66) s74 (by omega) hm_s74 (by unfold TK; omega) r83 s84 hs84
        obtain ⟨hfc_s84, hm_s84, hp86, hTK_s84⟩ := hp85
        have hf_s84 : fr [34, 35, 53, 54, 55, 56, 57, 58] s0 s84 := hf_s74.call (by decide) hfc_s84
        have hRCO_s84 : RCO s84 := RCO_fr hRCO_s74 (fun k hk => hfc_s84 k (dj (by decide) k hk))
        have hRBE_s84 : RBE s84 := RBE_fr hRBE_s74 (fun k hk => hfc_s84 k (dj (by decide) k hk))
        have ht87 : s84 52 0 = s74 52 0 := by rw [hfc_s84 52 (by decide)]
        have ht88 : s84 53 0 = s74 53 0 := by rw [hfc_s84 53 (by decide)]
        obtain ⟨r90, s91, hs91⟩ : ∃ rr ss, (f_X3_readOr_5 0 s84) = (rr, ss) := ⟨_, _, rfl⟩
        replace hT := gby hT hs91
        have hp92 := f_X3_readOr_5_p 0 s84 (by omega) hm_s84 (by assumption) hRCO_s84 (by first | assumption | omega) r90 s91 hs91
        obtain ⟨hfc_s91, hm_s91, hp93, hTK_s91, hRCO_s91⟩ := hp92
        have hf_s91 : fr [34, 35, 53, 54, 55, 56, 57, 58] s0 s91 := hf_s84.call (by decide) hfc_s91
        have hRBE_s91 : RBE s91 := RBE_fr hRBE_s84 (fun k hk => hfc_s91 k (dj (by decide) k hk))
        have ht94 : s91 52 0 = s84 52 0 := by rw [hfc_s91 52 (by decide)]
        obtain ⟨r96, s97, hs97⟩ : ∃ rr ss, (f_X3_want 59 s91) = (rr, ss) := ⟨_, _, rfl⟩
        replace hT := gby hT hs97
        have hp98 := f_X3_want_p 59 s91 (by omega) hm_s91 (by assumption) r96 s97 hs97
        obtain ⟨hfc_s97, hm_s97, hp99, hTK_s97⟩ := hp98
        have hf_s97 : fr [34, 35, 53, 54, 55, 56, 57, 58] s0 s97 := hf_s91.call (by decide) hfc_s97
        have hRCO_s97 : RCO s97 := RCO_fr hRCO_s91 (fun k hk => hfc_s97 k (dj (by decide) k hk))
        have hRBE_s97 : RBE s97 := RBE_fr hRBE_s91 (fun k hk => hfc_s97 k (dj (by decide) k hk))
        have ht100 : s97 52 0 = s91 52 0 := by rw [hfc_s97 52 (by decide)]
        have ht101 : s97 53 0 = s91 53 0 := by rw [hfc_s97 53 (by decide)]
        exact ih (v66 + 1) s97 ⟨(by omega), hf_s97, hm_s97, hRCO_s97, hRBE_s97, (by first | assumption | omega), (by first | assumption | omega), (by first | assumption | omega)⟩ (by omega) (fun w70 s71 hw hi => hk w70 s71 (hT.trans hw) hi)
      · replace hT := hT.trans (if_neg h72)
        exact hk v66 s67 hT ⟨(by omega), hf_s67, hm_s67, hRCO_s67, hRBE_s67, (by first | assumption | omega), (by first | assumption | omega), (by first | assumption | omega)⟩
  refine L68 5 0 s27 ⟨(by omega), hf_s27, hm_s27, hRCO_s27, hRBE_s27, (by first | assumption | omega), (by first | assumption | omega), (by first | assumption | omega)⟩ (by omega) (fun v110 s111 hw hq => ?_)
  obtain ⟨hq112, hf_s111, hm_s111, hRCO_s111, hRBE_s111, hq113, hq114, hq115⟩ := hq
  replace hT := gl2y hT hw
  obtain ⟨ktb1, ktb2, ktb3, ktb4, ktb5, ktb6, ktb7⟩ := id (by assumption : TK s111)
  have hr116 := (hm_s111 53 0).1 rfl
  obtain ⟨s117, hs117, hT⟩ := glx hT
  have hf_s117 : fr [34, 35, 53, 54, 55, 56, 57, 58] s0 s117 := hs117 ▸ hf_s111.set (by decide)
  have hm_s117 : gMR lgX s117 := hs117 ▸ hm_s111.set32 rfl (by omega)
  have hg_s117 : fr [35] s111 s117 := hs117 ▸ (fr.rf _ _).set (by decide)
  have hRCO_s117 : RCO s117 := RCO_fr hRCO_s111 (fun k hk => hg_s117 k (dj (by decide) k hk))
  have hRBE_s117 : RBE s117 := hs117 ▸ RBE_set hRBE_s111 (by omega)
  have ht118 : s117 52 0 = s111 52 0 := by rw [hs117]; exact mset_ne _ _ _ _ _ (by decide)
  have ht119 : s117 53 0 = s111 53 0 := by rw [hs117]; exact mset_ne _ _ _ _ _ (by decide)
  have ht120 : s117 54 0 = s111 54 0 := by rw [hs117]; exact mset_ne _ _ _ _ _ (by decide)
  have ht121 : s117 55 0 = s111 55 0 := by rw [hs117]; exact mset_ne _ _ _ _ _ (by decide)
  have ht122 : s117 56 0 = s111 56 0 := by rw [hs117]; exact mset_ne _ _ _ _ _ (by decide)
  have ht123 : s117 57 0 = s111 57 0 := by rw [hs117]; exact mset_ne _ _ _ _ _ (by decide)
  have ht124 : s117 58 0 = s111 58 0 := by rw [hs117]; exact mset_ne _ _ _ _ _ (by decide)
  obtain ⟨r126, s127, hs127⟩ : ∃ rr ss, (f_X3_want 0 s117) = (rr, ss) := ⟨_, _, rfl⟩
  replace hT := gby hT hs127
  have hp128 := f_X3_want_p 0 s117 (by omega) hm_s117 (by unfold TK; omega) r126 s127 hs127
  obtain ⟨hfc_s127, hm_s127, hp129, hTK_s127⟩ := hp128
  have hf_s127 : fr [34, 35, 53, 54, 55, 56, 57, 58] s0 s127 := hf_s117.call (by decide) hfc_s127
  have hRCO_s127 : RCO s127 := RCO_fr hRCO_s117 (fun k hk => hfc_s127 k (dj (by decide) k hk))
  have hRBE_s127 : RBE s127 := RBE_fr hRBE_s117 (fun k hk => hfc_s127 k (dj (by decide) k hk))
  have ht130 : s127 52 0 = s117 52 0 := by rw [hfc_s127 52 (by decide)]
  have ht131 : s127 53 0 = s117 53 0 := by rw [hfc_s127 53 (by decide)]
  obtain ⟨ktc1, ktc2, ktc3, ktc4, ktc5, ktc6, ktc7⟩ := id (by assumption : TK s127)
  have hr132 := (hm_s127 58 0).1 rfl
  obtain ⟨rfl, rfl⟩ := Prod.mk.inj (hT.symm.trans hres)
  exact ⟨hf_s127, hm_s127, (by omega), hRCO_s127, hRBE_s127, (by first | assumption | omega), (by first | assumption | omega)⟩
set_option maxRecDepth 100000 in
set_option maxHeartbeats 4000000 in
theorem c_X3_readText (l : Launch) (D : va_G) (a : Nat → Nat) (cI cJ cS cT : ClassId) (adK adV : Nat → Nat) (kA : Nat) (s0 : gMem)   (hpre0 : RCO s0) (hpre1 : RBE s0) (hpre2 : TKW s0) : gCS l yX3_readText cX3_readText 2 (some .int) 50 3200 D vwCl (gT cI cJ cS cT) (wdX a cI cJ cS cT) lgX kI in32 [.ref (a 2)] s0 (f_X3_readText s0) adK adV kA := by
  refine gCS_of (by decide +kernel) (hwdX a cI cJ cS cT) (Nat.le_of_ble_eq_true rfl) ?_
  intro A p e R s m args below meth c hR E HX
  subst hR
  have hT := f_X3_readText_e  s0
  have hf_s0 : fr [34, 35, 53, 54, 55, 56, 57, 58] s0 s0 := fr.rf _ _
  refine k_lv0 (lv' := [(0, .ref (a 2))]) rfl ?_
  refine k_mr (fun hm_s0 => ?_)
  have hRCO_s0 := hpre0
  have hRBE_s0 := hpre1
  obtain ⟨kw1, kw2, kw3, kw4⟩ := id hpre2
  refine k_aloadn (pc := 0) E 0 dX3_readText_0 rfl rfl ?_
  refine k_iconst (pc := 1) E dX3_readText_1 ?_
  refine k_putfI (pc := 2) (q0 := 2) (f := 5) (k := 54) E tyX3 tyX3_ok nmX3 inX3 rfl rfl (by decide) wm_64 rfl rfl rfl (Nat.le_of_ble_eq_true rfl) rfl rfl (by omega) dX3_readText_2 ?_
  obtain ⟨s1, hs1, hT⟩ := glx hT
  refine k_sg hs1.symm ?_
  have hf_s1 : fr [34, 35, 53, 54, 55, 56, 57, 58] s0 s1 := hs1 ▸ hf_s0.set (by decide)
  have hg_s1 : fr [54] s0 s1 := hs1 ▸ (fr.rf _ _).set (by decide)
  have hRCO_s1 : RCO s1 := RCO_fr hRCO_s0 (fun k hk => hg_s1 k (dj (by decide) k hk))
  have hRBE_s1 : RBE s1 := RBE_fr hRBE_s0 (fun k hk => hg_s1 k (dj (by decide) k hk))
  have ht2 : s1 52 0 = s0 52 0 := by rw [hs1]; exact mset_ne _ _ _ _ _ (by decide)
  have ht3 : s1 53 0 = s0 53 0 := by rw [hs1]; exact mset_ne _ _ _ _ _ (by decide)
  have ht4 : s1 54 0 = 0 := by rw [hs1]; exact mset_eq _ _ _ _
  have ht5 : s1 55 0 = s0 55 0 := by rw [hs1]; exact mset_ne _ _ _ _ _ (by decide)
  have ht6 : s1 56 0 = s0 56 0 := by rw [hs1]; exact mset_ne _ _ _ _ _ (by decide)
  have ht7 : s1 57 0 = s0 57 0 := by rw [hs1]; exact mset_ne _ _ _ _ _ (by decide)
  have ht8 : s1 58 0 = s0 58 0 := by rw [hs1]; exact mset_ne _ _ _ _ _ (by decide)
  refine k_aloadn (pc := 5) E 0 dX3_readText_5 rfl rfl ?_
  refine k_iconst (pc := 6) E dX3_readText_6 ?_
  refine k_putfI (pc := 7) (q0 := 2) (f := 4) (k := 53) E tyX3 tyX3_ok nmX3 inX3 rfl rfl (by decide) wm_63 rfl rfl rfl (Nat.le_of_ble_eq_true rfl) rfl rfl (by omega) dX3_readText_7 ?_
  obtain ⟨s9, hs9, hT⟩ := glx hT
  refine k_sg hs9.symm ?_
  have hf_s9 : fr [34, 35, 53, 54, 55, 56, 57, 58] s0 s9 := hs9 ▸ hf_s1.set (by decide)
  have hg_s9 : fr [53] s1 s9 := hs9 ▸ (fr.rf _ _).set (by decide)
  have hRCO_s9 : RCO s9 := RCO_fr hRCO_s1 (fun k hk => hg_s9 k (dj (by decide) k hk))
  have hRBE_s9 : RBE s9 := RBE_fr hRBE_s1 (fun k hk => hg_s9 k (dj (by decide) k hk))
  have ht10 : s9 52 0 = s1 52 0 := by rw [hs9]; exact mset_ne _ _ _ _ _ (by decide)
  have ht11 : s9 53 0 = 0 := by rw [hs9]; exact mset_eq _ _ _ _
  have ht12 : s9 54 0 = s1 54 0 := by rw [hs9]; exact mset_ne _ _ _ _ _ (by decide)
  have ht13 : s9 55 0 = s1 55 0 := by rw [hs9]; exact mset_ne _ _ _ _ _ (by decide)
  have ht14 : s9 56 0 = s1 56 0 := by rw [hs9]; exact mset_ne _ _ _ _ _ (by decide)
  have ht15 : s9 57 0 = s1 57 0 := by rw [hs9]; exact mset_ne _ _ _ _ _ (by decide)
  have ht16 : s9 58 0 = s1 58 0 := by rw [hs9]; exact mset_ne _ _ _ _ _ (by decide)
  refine k_aloadn (pc := 10) E 0 dX3_readText_10 rfl rfl ?_
  refine k_iconst (pc := 11) E dX3_readText_11 ?_
  refine k_putfI (pc := 12) (q0 := 2) (f := 9) (k := 58) E tyX3 tyX3_ok nmX3 inX3 rfl rfl (by decide) wm_68 rfl rfl rfl (Nat.le_of_ble_eq_true rfl) rfl rfl (by omega) dX3_readText_12 ?_
  obtain ⟨s17, hs17, hT⟩ := glx hT
  refine k_sg hs17.symm ?_
  have hf_s17 : fr [34, 35, 53, 54, 55, 56, 57, 58] s0 s17 := hs17 ▸ hf_s9.set (by decide)
  have hg_s17 : fr [58] s9 s17 := hs17 ▸ (fr.rf _ _).set (by decide)
  have hRCO_s17 : RCO s17 := RCO_fr hRCO_s9 (fun k hk => hg_s17 k (dj (by decide) k hk))
  have hRBE_s17 : RBE s17 := RBE_fr hRBE_s9 (fun k hk => hg_s17 k (dj (by decide) k hk))
  have ht18 : s17 52 0 = s9 52 0 := by rw [hs17]; exact mset_ne _ _ _ _ _ (by decide)
  have ht19 : s17 53 0 = s9 53 0 := by rw [hs17]; exact mset_ne _ _ _ _ _ (by decide)
  have ht20 : s17 54 0 = s9 54 0 := by rw [hs17]; exact mset_ne _ _ _ _ _ (by decide)
  have ht21 : s17 55 0 = s9 55 0 := by rw [hs17]; exact mset_ne _ _ _ _ _ (by decide)
  have ht22 : s17 56 0 = s9 56 0 := by rw [hs17]; exact mset_ne _ _ _ _ _ (by decide)
  have ht23 : s17 57 0 = s9 57 0 := by rw [hs17]; exact mset_ne _ _ _ _ _ (by decide)
  have ht24 : s17 58 0 = (-1) := by rw [hs17]; exact mset_eq _ _ _ _
  refine k_aloadn (pc := 15) E 0 dX3_readText_15 rfl rfl ?_
  refine k_mr (fun hm_s17 => ?_)
  refine k_callVX (pc := 16) (np := 0) (As := []) (st := []) (q0 := 2) E HX rfl rfl (c_X3_next l D a cI cJ cS cT adK adV kA s17  (by unfold TK; omega)) wm_336 wm_3 wm_333 wm_335 wp_0 (by decide +kernel) ⟨by decide, by decide⟩ rfl (Nat.le_of_ble_eq_true rfl) dX3_readText_16 (fun r26 s27 hs27 hr25 => ?_)
  replace hT := gby hT hs27
  have hp28 := f_X3_next_p  s17  hm_s17 (by unfold TK; omega) r26 s27 hs27
  obtain ⟨hfc_s27, hm_s27, hp29, hTK_s27⟩ := hp28
  have hf_s27 : fr [34, 35, 53, 54, 55, 56, 57, 58] s0 s27 := hf_s17.call (by decide) hfc_s27
  have hRCO_s27 : RCO s27 := RCO_fr hRCO_s17 (fun k hk => hfc_s27 k (dj (by decide) k hk))
  have hRBE_s27 : RBE s27 := RBE_fr hRBE_s17 (fun k hk => hfc_s27 k (dj (by decide) k hk))
  have ht30 : s27 52 0 = s17 52 0 := by rw [hfc_s27 52 (by decide)]
  have ht31 : s27 53 0 = s17 53 0 := by rw [hfc_s27 53 (by decide)]
  have ht32 : s27 58 0 = s17 58 0 := by rw [hfc_s27 58 (by decide)]
  refine k_st (st' := []) rfl ?_
  refine k_iconst (pc := 19) E dX3_readText_19 ?_
  refine k_istoren (pc := 20) (lv' := [(1, gI 0), (0, .ref (a 2))]) E dX3_readText_20 rfl (by decide) rfl ?_
  have L68 : ∀ (n69 : Nat) (v66 : Int) (s67 : gMem), ((in32 v66) ∧ (fr [34, 35, 53, 54, 55, 56, 57, 58] s0 s67) ∧ (RCO s67) ∧ (RBE s67) ∧ (s67 52 0 = s27 52 0) ∧ (0 ≤ v66 ∧ v66 ≤ 3) ∧ (TK s67)) → 3 - v66 < (n69 : Int) → (∀ (w70 : Int) (s71 : gMem), (w_X3_readText_21 n69 v66 s67) = (w70, s71) → ((in32 w70) ∧ (fr [34, 35, 53, 54, 55, 56, 57, 58] s0 s71) ∧ (RCO s71) ∧ (RBE s71) ∧ (s71 52 0 = s27 52 0) ∧ (0 ≤ w70 ∧ w70 ≤ 3) ∧ (TK s71)) → gK D vwCl (wdX a cI cJ cS cT) lgX A p l e { frames := 50, cells := 0, slots := 0, locals := 3200 } s m args below meth c 2 (gQQ D vwCl (wdX a cI cJ cS cT) lgX A kI in32 below args s) (f_X3_readText s0) s71 62 [(0, .ref (a 2))] []) → gK D vwCl (wdX a cI cJ cS cT) lgX A p l e { frames := 50, cells := 0, slots := 0, locals := 3200 } s m args below meth c 2 (gQQ D vwCl (wdX a cI cJ cS cT) lgX A kI in32 below args s) (f_X3_readText s0) s67 21 [(0, .ref (a 2)), (1, gI v66)] [] := by
    intro n69; induction n69 with
    | zero =>
      intro v66 s67 hq hm hk
      exfalso
      obtain ⟨hq102, hf_s67, hRCO_s67, hRBE_s67, hq103, hq104, hq105⟩ := hq
      omega
    | succ n69 ih =>
      intro v66 s67 hq hm hk
      obtain ⟨hq106, hf_s67, hRCO_s67, hRBE_s67, hq107, hq108, hq109⟩ := hq
      have hT := w_X3_readText_21_s  n69 v66 s67
      refine k_iloadn (pc := 21) E 1 dX3_readText_21 rfl rfl ?_
      refine k_iconst (pc := 22) E dX3_readText_22 ?_
      by_cases h72 : v66 < 3
      · replace hT := hT.trans (if_pos h72)
        refine k_icmp_ge_f (pc := 23) (tgt := 62) E (by omega) (by omega) dX3_readText_23 (by decide) h72 ?_
        obtain ⟨kta1, kta2, kta3, kta4, kta5, kta6, kta7⟩ := id (by assumption : TK s67)
        refine k_aloadn (pc := 26) E 0 dX3_readText_26 rfl rfl ?_
        refine k_getf (pc := 27) (q0 := 2) (f := 2) (v := .ref (a 35)) E inX3 rfl rfl (by decide) wm_59 rfl rfl dX3_readText_27 ?_
        refine k_iloadn (pc := 30) E 1 dX3_readText_30 rfl rfl ?_
        refine k_aloadn (pc := 31) E 0 dX3_readText_31 rfl rfl ?_
        refine k_getfI (pc := 32) (q0 := 2) (f := 4) (k := 53) E inX3 rfl rfl (by decide) wm_63 rfl rfl rfl dX3_readText_32 (fun hr73 => ?_)
        refine k_iastore (pc := 35) (q0 := 35) (t0 := 0) (k := 35) (n := 4) E rfl rfl rfl rfl (by decide) (by omega) (by omega) (by omega) dX3_readText_35 ?_
        obtain ⟨s74, hs74, hT⟩ := glx hT
        refine k_sg hs74.symm ?_
        have hf_s74 : fr [34, 35, 53, 54, 55, 56, 57, 58] s0 s74 := hs74 ▸ hf_s67.set (by decide)
        have hg_s74 : fr [35] s67 s74 := hs74 ▸ (fr.rf _ _).set (by decide)
        have hRCO_s74 : RCO s74 := RCO_fr hRCO_s67 (fun k hk => hg_s74 k (dj (by decide) k hk))
        have hRBE_s74 : RBE s74 := hs74 ▸ RBE_set hRBE_s67 (by omega)
        have ht75 : s74 52 0 = s67 52 0 := by rw [hs74]; exact mset_ne _ _ _ _ _ (by decide)
        have ht76 : s74 53 0 = s67 53 0 := by rw [hs74]; exact mset_ne _ _ _ _ _ (by decide)
        have ht77 : s74 54 0 = s67 54 0 := by rw [hs74]; exact mset_ne _ _ _ _ _ (by decide)
        have ht78 : s74 55 0 = s67 55 0 := by rw [hs74]; exact mset_ne _ _ _ _ _ (by decide)
        have ht79 : s74 56 0 = s67 56 0 := by rw [hs74]; exact mset_ne _ _ _ _ _ (by decide)
        have ht80 : s74 57 0 = s67 57 0 := by rw [hs74]; exact mset_ne _ _ _ _ _ (by decide)
        have ht81 : s74 58 0 = s67 58 0 := by rw [hs74]; exact mset_ne _ _ _ _ _ (by decide)
        refine k_aloadn (pc := 36) E 0 dX3_readText_36 rfl rfl ?_
        refine k_sipush (pc := 37) E dX3_readText_37 (by decide) ?_
        refine k_iloadn (pc := 40) E 1 dX3_readText_40 rfl rfl ?_
        refine k_iadd (pc := 41) E dX3_readText_41 ?_
        refine k_mr (fun hm_s74 => ?_)
        refine k_callVX (pc := 42) (np := 1) (As := [gI (256 + v66)]) (st := []) (q0 := 2) E HX rfl rfl (c_X3_want l D a cI cJ cS cT adK adV kA s74 (256 + v66) (by omega) (by unfold TK; omega)) wm_424 wm_3 wm_421 wm_423 wp_4 (by decide +kernel) ⟨by decide, by decide⟩ rfl (Nat.le_of_ble_eq_true rfl) dX3_readText_42 (fun r83 s84 hs84 hr82 => ?_)
        replace hT := gby hT hs84
        have hp85 := f_X3_want_p (256 + v66) s74 (by omega) hm_s74 (by unfold TK; omega) r83 s84 hs84
        obtain ⟨hfc_s84, hm_s84, hp86, hTK_s84⟩ := hp85
        have hf_s84 : fr [34, 35, 53, 54, 55, 56, 57, 58] s0 s84 := hf_s74.call (by decide) hfc_s84
        have hRCO_s84 : RCO s84 := RCO_fr hRCO_s74 (fun k hk => hfc_s84 k (dj (by decide) k hk))
        have hRBE_s84 : RBE s84 := RBE_fr hRBE_s74 (fun k hk => hfc_s84 k (dj (by decide) k hk))
        have ht87 : s84 52 0 = s74 52 0 := by rw [hfc_s84 52 (by decide)]
        have ht88 : s84 53 0 = s74 53 0 := by rw [hfc_s84 53 (by decide)]
        refine k_st (st' := []) rfl ?_
        refine k_aloadn (pc := 45) E 0 dX3_readText_45 rfl rfl ?_
        refine k_iconst (pc := 46) E dX3_readText_46 ?_
        refine k_mr (fun hm_s84 => ?_)
        refine k_callVX (pc := 47) (np := 1) (As := [gI 0]) (st := []) (q0 := 2) E HX rfl rfl (c_X3_readOr_5 l D a cI cJ cS cT adK adV kA s84 0 (by omega) (by assumption) hRCO_s84 (by first | assumption | omega)) wm_432 wm_3 wm_429 wm_431 wp_6 (by decide +kernel) ⟨by decide, by decide⟩ rfl (Nat.le_of_ble_eq_true rfl) dX3_readText_47 (fun r90 s91 hs91 hr89 => ?_)
        replace hT := gby hT hs91
        have hp92 := f_X3_readOr_5_p 0 s84 (by omega) hm_s84 (by assumption) hRCO_s84 (by first | assumption | omega) r90 s91 hs91
        obtain ⟨hfc_s91, hm_s91, hp93, hTK_s91, hRCO_s91⟩ := hp92
        have hf_s91 : fr [34, 35, 53, 54, 55, 56, 57, 58] s0 s91 := hf_s84.call (by decide) hfc_s91
        have hRBE_s91 : RBE s91 := RBE_fr hRBE_s84 (fun k hk => hfc_s91 k (dj (by decide) k hk))
        have ht94 : s91 52 0 = s84 52 0 := by rw [hfc_s91 52 (by decide)]
        refine k_st (st' := []) rfl ?_
        refine k_aloadn (pc := 50) E 0 dX3_readText_50 rfl rfl ?_
        refine k_bipush (pc := 51) E dX3_readText_51 (by decide) ?_
        refine k_mr (fun hm_s91 => ?_)
        refine k_callVX (pc := 53) (np := 1) (As := [gI 59]) (st := []) (q0 := 2) E HX rfl rfl (c_X3_want l D a cI cJ cS cT adK adV kA s91 59 (by omega) (by assumption)) wm_424 wm_3 wm_421 wm_423 wp_4 (by decide +kernel) ⟨by decide, by decide⟩ rfl (Nat.le_of_ble_eq_true rfl) dX3_readText_53 (fun r96 s97 hs97 hr95 => ?_)
        replace hT := gby hT hs97
        have hp98 := f_X3_want_p 59 s91 (by omega) hm_s91 (by assumption) r96 s97 hs97
        obtain ⟨hfc_s97, hm_s97, hp99, hTK_s97⟩ := hp98
        have hf_s97 : fr [34, 35, 53, 54, 55, 56, 57, 58] s0 s97 := hf_s91.call (by decide) hfc_s97
        have hRCO_s97 : RCO s97 := RCO_fr hRCO_s91 (fun k hk => hfc_s97 k (dj (by decide) k hk))
        have hRBE_s97 : RBE s97 := RBE_fr hRBE_s91 (fun k hk => hfc_s97 k (dj (by decide) k hk))
        have ht100 : s97 52 0 = s91 52 0 := by rw [hfc_s97 52 (by decide)]
        have ht101 : s97 53 0 = s91 53 0 := by rw [hfc_s97 53 (by decide)]
        refine k_st (st' := []) rfl ?_
        refine k_iinc (pc := 56) (lv' := [(1, gI (v66 + 1)), (0, .ref (a 2))]) E 1 dX3_readText_56 rfl (by decide) rfl ?_
        refine k_goto (pc := 59) (tgt := 21) E dX3_readText_59 (by decide) ?_
        refine k_lv (lv' := [(0, .ref (a 2)), (1, gI (v66 + 1))]) [1, 0] rfl ?_
        exact ih (v66 + 1) s97 ⟨(by omega), hf_s97, hRCO_s97, hRBE_s97, (by first | assumption | omega), (by first | assumption | omega), (by first | assumption | omega)⟩ (by omega) (fun w70 s71 hw hi => hk w70 s71 (hT.trans hw) hi)
      · replace hT := hT.trans (if_neg h72)
        refine k_icmp_ge_t (pc := 23) (tgt := 62) E (by omega) (by omega) dX3_readText_23 (by decide) h72 ?_
        refine k_lv (lv' := [(0, .ref (a 2))]) [0] rfl ?_
        exact hk v66 s67 hT ⟨(by omega), hf_s67, hRCO_s67, hRBE_s67, (by first | assumption | omega), (by first | assumption | omega), (by first | assumption | omega)⟩
  refine k_lv (lv' := [(0, .ref (a 2)), (1, gI 0)]) [1, 0] rfl ?_
  refine L68 5 0 s27 ⟨(by omega), hf_s27, hRCO_s27, hRBE_s27, (by first | assumption | omega), (by first | assumption | omega), (by first | assumption | omega)⟩ (by omega) (fun v110 s111 hw hq => ?_)
  obtain ⟨hq112, hf_s111, hRCO_s111, hRBE_s111, hq113, hq114, hq115⟩ := hq
  replace hT := gl2y hT hw
  obtain ⟨ktb1, ktb2, ktb3, ktb4, ktb5, ktb6, ktb7⟩ := id (by assumption : TK s111)
  refine k_aloadn (pc := 62) E 0 dX3_readText_62 rfl rfl ?_
  refine k_getf (pc := 63) (q0 := 2) (f := 2) (v := .ref (a 35)) E inX3 rfl rfl (by decide) wm_59 rfl rfl dX3_readText_63 ?_
  refine k_iconst (pc := 66) E dX3_readText_66 ?_
  refine k_aloadn (pc := 67) E 0 dX3_readText_67 rfl rfl ?_
  refine k_getfI (pc := 68) (q0 := 2) (f := 4) (k := 53) E inX3 rfl rfl (by decide) wm_63 rfl rfl rfl dX3_readText_68 (fun hr116 => ?_)
  refine k_iastore (pc := 71) (q0 := 35) (t0 := 0) (k := 35) (n := 4) E rfl rfl rfl rfl (by decide) (by omega) (by omega) (by omega) dX3_readText_71 ?_
  obtain ⟨s117, hs117, hT⟩ := glx hT
  refine k_sg hs117.symm ?_
  have hf_s117 : fr [34, 35, 53, 54, 55, 56, 57, 58] s0 s117 := hs117 ▸ hf_s111.set (by decide)
  have hg_s117 : fr [35] s111 s117 := hs117 ▸ (fr.rf _ _).set (by decide)
  have hRCO_s117 : RCO s117 := RCO_fr hRCO_s111 (fun k hk => hg_s117 k (dj (by decide) k hk))
  have hRBE_s117 : RBE s117 := hs117 ▸ RBE_set hRBE_s111 (by omega)
  have ht118 : s117 52 0 = s111 52 0 := by rw [hs117]; exact mset_ne _ _ _ _ _ (by decide)
  have ht119 : s117 53 0 = s111 53 0 := by rw [hs117]; exact mset_ne _ _ _ _ _ (by decide)
  have ht120 : s117 54 0 = s111 54 0 := by rw [hs117]; exact mset_ne _ _ _ _ _ (by decide)
  have ht121 : s117 55 0 = s111 55 0 := by rw [hs117]; exact mset_ne _ _ _ _ _ (by decide)
  have ht122 : s117 56 0 = s111 56 0 := by rw [hs117]; exact mset_ne _ _ _ _ _ (by decide)
  have ht123 : s117 57 0 = s111 57 0 := by rw [hs117]; exact mset_ne _ _ _ _ _ (by decide)
  have ht124 : s117 58 0 = s111 58 0 := by rw [hs117]; exact mset_ne _ _ _ _ _ (by decide)
  refine k_aloadn (pc := 72) E 0 dX3_readText_72 rfl rfl ?_
  refine k_iconst (pc := 73) E dX3_readText_73 ?_
  refine k_mr (fun hm_s117 => ?_)
  refine k_callVX (pc := 74) (np := 1) (As := [gI 0]) (st := []) (q0 := 2) E HX rfl rfl (c_X3_want l D a cI cJ cS cT adK adV kA s117 0 (by omega) (by unfold TK; omega)) wm_424 wm_3 wm_421 wm_423 wp_4 (by decide +kernel) ⟨by decide, by decide⟩ rfl (Nat.le_of_ble_eq_true rfl) dX3_readText_74 (fun r126 s127 hs127 hr125 => ?_)
  replace hT := gby hT hs127
  have hp128 := f_X3_want_p 0 s117 (by omega) hm_s117 (by unfold TK; omega) r126 s127 hs127
  obtain ⟨hfc_s127, hm_s127, hp129, hTK_s127⟩ := hp128
  have hf_s127 : fr [34, 35, 53, 54, 55, 56, 57, 58] s0 s127 := hf_s117.call (by decide) hfc_s127
  have hRCO_s127 : RCO s127 := RCO_fr hRCO_s117 (fun k hk => hfc_s127 k (dj (by decide) k hk))
  have hRBE_s127 : RBE s127 := RBE_fr hRBE_s117 (fun k hk => hfc_s127 k (dj (by decide) k hk))
  have ht130 : s127 52 0 = s117 52 0 := by rw [hfc_s127 52 (by decide)]
  have ht131 : s127 53 0 = s117 53 0 := by rw [hfc_s127 53 (by decide)]
  refine k_st (st' := []) rfl ?_
  obtain ⟨ktc1, ktc2, ktc3, ktc4, ktc5, ktc6, ktc7⟩ := id (by assumption : TK s127)
  refine k_aloadn (pc := 77) E 0 dX3_readText_77 rfl rfl ?_
  refine k_getfI (pc := 78) (q0 := 2) (f := 9) (k := 58) E inX3 rfl rfl (by decide) wm_68 rfl rfl rfl dX3_readText_78 (fun hr132 => ?_)
  exact k_rho hT (k_iret (pc := 81) E dX3_readText_81 (by omega))

def f_X8_text  (s0 : gMem) : gRes := (if (s0 51 0) < 6 then gb (f_X3_readText  s0) (fun r5 s6 => gl (mset s6 52 0 0) (fun s12 => (if r5 < 0 then gb (f_X7_add  s12) (fun r20 s21 => (r20, s21)) else (((-100) - r5), s12)))) else ((-4), s0))
theorem f_X8_text_e  (s0 : gMem) : f_X8_text s0 = (if (s0 51 0) < 6 then gb (f_X3_readText  s0) (fun r5 s6 => gl (mset s6 52 0 0) (fun s12 => (if r5 < 0 then gb (f_X7_add  s12) (fun r20 s21 => (r20, s21)) else (((-100) - r5), s12)))) else ((-4), s0)) := rfl
set_option maxRecDepth 100000 in
set_option maxHeartbeats 4000000 in
theorem f_X8_text_p  (s0 : gMem)  (hm_s0 : gMR lgX s0) (hpre0 : CD s0) (hpre1 : BG s0) (hpre2 : RCO s0) (hpre3 : RBE s0) (hpre4 : MY s0) (hpre5 : RS s0) (hpre6 : TKW s0) (rZ : Int) (sZ : gMem) (hres : f_X8_text s0 = (rZ, sZ)) : (fr [19, 20, 21, 22, 23, 24, 26, 27, 28, 29, 30, 31, 34, 35, 51, 52, 53, 54, 55, 56, 57, 58] s0 sZ) ∧ (gMR lgX sZ) ∧ (in32 rZ) ∧ (CD sZ) ∧ (BG sZ) ∧ (RCO sZ) ∧ (RBE sZ) ∧ (MY sZ) ∧ (RS sZ) ∧ (TKW sZ) := by
  have hT := f_X8_text_e  s0
  have hf_s0 : fr [19, 20, 21, 22, 23, 24, 26, 27, 28, 29, 30, 31, 34, 35, 51, 52, 53, 54, 55, 56, 57, 58] s0 s0 := fr.rf _ _
  have hCD_s0 := hpre0
  have hBG_s0 := hpre1
  have hRCO_s0 := hpre2
  have hRBE_s0 := hpre3
  have hMY_s0 := hpre4
  have hRS_s0 := hpre5
  have kmy := hpre4 0
  have hr1 := (hm_s0 51 0).1 rfl
  have hi2 := hMY_s0 0
  by_cases h3 : (s0 51 0) < 6
  · replace hT := hT.trans (if_pos h3)
    obtain ⟨r5, s6, hs6⟩ : ∃ rr ss, (f_X3_readText  s0) = (rr, ss) := ⟨_, _, rfl⟩
    replace hT := gby hT hs6
    have hp7 := f_X3_readText_p  s0  hm_s0 hRCO_s0 hRBE_s0 hpre6 r5 s6 hs6
    obtain ⟨hfc_s6, hm_s6, hp8, hRCO_s6, hRBE_s6, hTK_s6, hp9⟩ := hp7
    have hf_s6 : fr [19, 20, 21, 22, 23, 24, 26, 27, 28, 29, 30, 31, 34, 35, 51, 52, 53, 54, 55, 56, 57, 58] s0 s6 := hf_s0.call (by decide) hfc_s6
    have hCD_s6 : CD s6 := CD_fr hCD_s0 (fun k hk => hfc_s6 k (dj (by decide) k hk))
    have hBG_s6 : BG s6 := BG_fr hBG_s0 (fun k hk => hfc_s6 k (dj (by decide) k hk))
    have hMY_s6 : MY s6 := MY_fr hMY_s0 (fun k hk => hfc_s6 k (dj (by decide) k hk))
    have hRS_s6 : RS s6 := RS_fr hRS_s0 (fun k hk => hfc_s6 k (dj (by decide) k hk))
    have ht10 : s6 51 0 = s0 51 0 := by rw [hfc_s6 51 (by decide)]
    have ht11 : s6 52 0 = s0 52 0 := by rw [hfc_s6 52 (by decide)]
    obtain ⟨kt1, kt2, kt3, kt4, kt5, kt6, kt7⟩ := id (by assumption : TK s6)
    obtain ⟨s12, hs12, hT⟩ := glx hT
    have hf_s12 : fr [19, 20, 21, 22, 23, 24, 26, 27, 28, 29, 30, 31, 34, 35, 51, 52, 53, 54, 55, 56, 57, 58] s0 s12 := hs12 ▸ hf_s6.set (by decide)
    have hm_s12 : gMR lgX s12 := hs12 ▸ hm_s6.set32 rfl (by omega)
    have hg_s12 : fr [52] s6 s12 := hs12 ▸ (fr.rf _ _).set (by decide)
    have hCD_s12 : CD s12 := CD_fr hCD_s6 (fun k hk => hg_s12 k (dj (by decide) k hk))
    have hBG_s12 : BG s12 := BG_fr hBG_s6 (fun k hk => hg_s12 k (dj (by decide) k hk))
    have hRCO_s12 : RCO s12 := RCO_fr hRCO_s6 (fun k hk => hg_s12 k (dj (by decide) k hk))
    have hRBE_s12 : RBE s12 := RBE_fr hRBE_s6 (fun k hk => hg_s12 k (dj (by decide) k hk))
    have hMY_s12 : MY s12 := MY_fr hMY_s6 (fun k hk => hg_s12 k (dj (by decide) k hk))
    have hRS_s12 : RS s12 := hs12 ▸ RS_set hRS_s6 (by omega)
    have ht13 : s12 51 0 = s6 51 0 := by rw [hs12]; exact mset_ne _ _ _ _ _ (by decide)
    have ht14 : s12 52 0 = 0 := by rw [hs12]; exact mset_eq _ _ _ _
    have ht15 : s12 55 0 = s6 55 0 := by rw [hs12]; exact mset_ne _ _ _ _ _ (by decide)
    have ht16 : s12 56 0 = s6 56 0 := by rw [hs12]; exact mset_ne _ _ _ _ _ (by decide)
    have ht17 : s12 57 0 = s6 57 0 := by rw [hs12]; exact mset_ne _ _ _ _ _ (by decide)
    by_cases h18 : r5 < 0
    · replace hT := hT.trans (if_pos h18)
      obtain ⟨r20, s21, hs21⟩ : ∃ rr ss, (f_X7_add  s12) = (rr, ss) := ⟨_, _, rfl⟩
      replace hT := gby hT hs21
      have hp22 := f_X7_add_p  s12  hm_s12 hCD_s12 hBG_s12 hRCO_s12 hRBE_s12 hMY_s12 (by first | assumption | omega) r20 s21 hs21
      obtain ⟨hfc_s21, hm_s21, hp23, hCD_s21, hBG_s21, hMY_s21, hp24, hp25⟩ := hp22
      have hf_s21 : fr [19, 20, 21, 22, 23, 24, 26, 27, 28, 29, 30, 31, 34, 35, 51, 52, 53, 54, 55, 56, 57, 58] s0 s21 := hf_s12.call (by decide) hfc_s21
      have hRCO_s21 : RCO s21 := RCO_fr hRCO_s12 (fun k hk => hfc_s21 k (dj (by decide) k hk))
      have hRBE_s21 : RBE s21 := RBE_fr hRBE_s12 (fun k hk => hfc_s21 k (dj (by decide) k hk))
      have hRS_s21 : RS s21 := RS_fr hRS_s12 (fun k hk => hfc_s21 k (dj (by decide) k hk))
      have ht26 : s21 52 0 = s12 52 0 := by rw [hfc_s21 52 (by decide)]
      have ht27 : s21 55 0 = s12 55 0 := by rw [hfc_s21 55 (by decide)]
      have ht28 : s21 56 0 = s12 56 0 := by rw [hfc_s21 56 (by decide)]
      have ht29 : s21 57 0 = s12 57 0 := by rw [hfc_s21 57 (by decide)]
      obtain ⟨rfl, rfl⟩ := Prod.mk.inj (hT.symm.trans hres)
      exact ⟨hf_s21, hm_s21, (by omega), hCD_s21, hBG_s21, hRCO_s21, hRBE_s21, hMY_s21, hRS_s21, (by first | assumption | (unfold TKW; omega))⟩
    · replace hT := hT.trans (if_neg h18)
      obtain ⟨rfl, rfl⟩ := Prod.mk.inj (hT.symm.trans hres)
      exact ⟨hf_s12, hm_s12, (by omega), hCD_s12, hBG_s12, hRCO_s12, hRBE_s12, hMY_s12, hRS_s12, (by first | assumption | (unfold TKW; omega))⟩
  · replace hT := hT.trans (if_neg h3)
    obtain ⟨rfl, rfl⟩ := Prod.mk.inj (hT.symm.trans hres)
    exact ⟨hf_s0, hm_s0, (by omega), hCD_s0, hBG_s0, hRCO_s0, hRBE_s0, hMY_s0, hRS_s0, (by first | assumption | (unfold TKW; omega))⟩
set_option maxRecDepth 100000 in
set_option maxHeartbeats 4000000 in
theorem c_X8_text (l : Launch) (D : va_G) (a : Nat → Nat) (cI cJ cS cT : ClassId) (adK adV : Nat → Nat) (kA : Nat) (s0 : gMem)   (hpre0 : CD s0) (hpre1 : BG s0) (hpre2 : RCO s0) (hpre3 : RBE s0) (hpre4 : MY s0) (hpre5 : RS s0) (hpre6 : TKW s0) : gCS l yX8_text cX8_text 2 (some .int) 51 3264 D vwCl (gT cI cJ cS cT) (wdX a cI cJ cS cT) lgX kI in32 [.ref (a 0)] s0 (f_X8_text s0) adK adV kA := by
  refine gCS_of (by decide +kernel) (hwdX a cI cJ cS cT) (Nat.le_of_ble_eq_true rfl) ?_
  intro A p e R s m args below meth c hR E HX
  subst hR
  have hT := f_X8_text_e  s0
  have hf_s0 : fr [19, 20, 21, 22, 23, 24, 26, 27, 28, 29, 30, 31, 34, 35, 51, 52, 53, 54, 55, 56, 57, 58] s0 s0 := fr.rf _ _
  refine k_lv0 (lv' := [(0, .ref (a 0))]) rfl ?_
  refine k_mr (fun hm_s0 => ?_)
  have hCD_s0 := hpre0
  have hBG_s0 := hpre1
  have hRCO_s0 := hpre2
  have hRBE_s0 := hpre3
  have hMY_s0 := hpre4
  have hRS_s0 := hpre5
  have kmy := hpre4 0
  refine k_aloadn (pc := 0) E 0 dX8_text_0 rfl rfl ?_
  refine k_getf (pc := 1) (q0 := 0) (f := 0) (v := .ref (a 1)) E inX8 rfl rfl (by decide) wm_272 rfl rfl dX8_text_1 ?_
  refine k_getfI (pc := 4) (q0 := 1) (f := 3) (k := 51) E inX7 rfl rfl (by decide) wm_39 rfl rfl rfl dX8_text_4 (fun hr1 => ?_)
  have hi2 := hMY_s0 0
  refine k_bipush (pc := 7) E dX8_text_7 (by decide) ?_
  by_cases h3 : (s0 51 0) < 6
  · replace hT := hT.trans (if_pos h3)
    refine k_icmp_lt_t (pc := 9) (tgt := 15) E (by omega) (by omega) dX8_text_9 (by decide) h3 ?_
    refine k_aloadn (pc := 15) E 0 dX8_text_15 rfl rfl ?_
    refine k_getf (pc := 16) (q0 := 0) (f := 1) (v := .ref (a 2)) E inX8 rfl rfl (by decide) wm_273 rfl rfl dX8_text_16 ?_
    refine k_mr (fun hm_s0 => ?_)
    refine k_callVX (pc := 19) (np := 0) (As := []) (st := []) (q0 := 2) E HX rfl rfl (c_X3_readText l D a cI cJ cS cT adK adV kA s0  hRCO_s0 hRBE_s0 hpre6) wm_332 wm_3 wm_329 wm_330 wm_331 (by decide +kernel) ⟨by decide, by decide⟩ rfl (Nat.le_of_ble_eq_true rfl) dX8_text_19 (fun r5 s6 hs6 hr4 => ?_)
    replace hT := gby hT hs6
    have hp7 := f_X3_readText_p  s0  hm_s0 hRCO_s0 hRBE_s0 hpre6 r5 s6 hs6
    obtain ⟨hfc_s6, hm_s6, hp8, hRCO_s6, hRBE_s6, hTK_s6, hp9⟩ := hp7
    have hf_s6 : fr [19, 20, 21, 22, 23, 24, 26, 27, 28, 29, 30, 31, 34, 35, 51, 52, 53, 54, 55, 56, 57, 58] s0 s6 := hf_s0.call (by decide) hfc_s6
    have hCD_s6 : CD s6 := CD_fr hCD_s0 (fun k hk => hfc_s6 k (dj (by decide) k hk))
    have hBG_s6 : BG s6 := BG_fr hBG_s0 (fun k hk => hfc_s6 k (dj (by decide) k hk))
    have hMY_s6 : MY s6 := MY_fr hMY_s0 (fun k hk => hfc_s6 k (dj (by decide) k hk))
    have hRS_s6 : RS s6 := RS_fr hRS_s0 (fun k hk => hfc_s6 k (dj (by decide) k hk))
    have ht10 : s6 51 0 = s0 51 0 := by rw [hfc_s6 51 (by decide)]
    have ht11 : s6 52 0 = s0 52 0 := by rw [hfc_s6 52 (by decide)]
    refine k_st (st' := [gI r5]) rfl ?_
    obtain ⟨kt1, kt2, kt3, kt4, kt5, kt6, kt7⟩ := id (by assumption : TK s6)
    refine k_istoren (pc := 22) (lv' := [(1, gI r5), (0, .ref (a 0))]) E dX8_text_22 rfl (by decide) rfl ?_
    refine k_aloadn (pc := 23) E 1 dX8_text_23 rfl rfl ?_
    refine k_getf (pc := 24) (q0 := 0) (f := 1) (v := .ref (a 2)) E inX8 rfl rfl (by decide) wm_273 rfl rfl dX8_text_24 ?_
    refine k_iconst (pc := 27) E dX8_text_27 ?_
    refine k_putfI (pc := 28) (q0 := 2) (f := 3) (k := 52) E tyX3 tyX3_ok nmX3 inX3 rfl rfl (by decide) wm_62 rfl rfl rfl (Nat.le_of_ble_eq_true rfl) rfl rfl (by omega) dX8_text_28 ?_
    obtain ⟨s12, hs12, hT⟩ := glx hT
    refine k_sg hs12.symm ?_
    have hf_s12 : fr [19, 20, 21, 22, 23, 24, 26, 27, 28, 29, 30, 31, 34, 35, 51, 52, 53, 54, 55, 56, 57, 58] s0 s12 := hs12 ▸ hf_s6.set (by decide)
    have hg_s12 : fr [52] s6 s12 := hs12 ▸ (fr.rf _ _).set (by decide)
    have hCD_s12 : CD s12 := CD_fr hCD_s6 (fun k hk => hg_s12 k (dj (by decide) k hk))
    have hBG_s12 : BG s12 := BG_fr hBG_s6 (fun k hk => hg_s12 k (dj (by decide) k hk))
    have hRCO_s12 : RCO s12 := RCO_fr hRCO_s6 (fun k hk => hg_s12 k (dj (by decide) k hk))
    have hRBE_s12 : RBE s12 := RBE_fr hRBE_s6 (fun k hk => hg_s12 k (dj (by decide) k hk))
    have hMY_s12 : MY s12 := MY_fr hMY_s6 (fun k hk => hg_s12 k (dj (by decide) k hk))
    have hRS_s12 : RS s12 := hs12 ▸ RS_set hRS_s6 (by omega)
    have ht13 : s12 51 0 = s6 51 0 := by rw [hs12]; exact mset_ne _ _ _ _ _ (by decide)
    have ht14 : s12 52 0 = 0 := by rw [hs12]; exact mset_eq _ _ _ _
    have ht15 : s12 55 0 = s6 55 0 := by rw [hs12]; exact mset_ne _ _ _ _ _ (by decide)
    have ht16 : s12 56 0 = s6 56 0 := by rw [hs12]; exact mset_ne _ _ _ _ _ (by decide)
    have ht17 : s12 57 0 = s6 57 0 := by rw [hs12]; exact mset_ne _ _ _ _ _ (by decide)
    refine k_iloadn (pc := 31) E 0 dX8_text_31 rfl rfl ?_
    by_cases h18 : r5 < 0
    · replace hT := hT.trans (if_pos h18)
      refine k_if_lt_t (pc := 32) (tgt := 42) E (by omega) dX8_text_32 (by decide) h18 ?_
      refine k_aloadn (pc := 42) E 1 dX8_text_42 rfl rfl ?_
      refine k_getf (pc := 43) (q0 := 0) (f := 0) (v := .ref (a 1)) E inX8 rfl rfl (by decide) wm_272 rfl rfl dX8_text_43 ?_
      refine k_aloadn (pc := 46) E 1 dX8_text_46 rfl rfl ?_
      refine k_getf (pc := 47) (q0 := 0) (f := 1) (v := .ref (a 2)) E inX8 rfl rfl (by decide) wm_273 rfl rfl dX8_text_47 ?_
      refine k_getf (pc := 50) (q0 := 2) (f := 1) (v := .ref (a 34)) E inX3 rfl rfl (by decide) wm_58 rfl rfl dX8_text_50 ?_
      refine k_aloadn (pc := 53) E 1 dX8_text_53 rfl rfl ?_
      refine k_getf (pc := 54) (q0 := 0) (f := 1) (v := .ref (a 2)) E inX8 rfl rfl (by decide) wm_273 rfl rfl dX8_text_54 ?_
      refine k_getf (pc := 57) (q0 := 2) (f := 2) (v := .ref (a 35)) E inX3 rfl rfl (by decide) wm_60 rfl rfl dX8_text_57 ?_
      refine k_mr (fun hm_s12 => ?_)
      refine k_callV (pc := 60) (np := 2) (As := [.ref (a 34), .ref (a 35)]) (st := []) (q0 := 1) E (c_X7_add l D a cI cJ cS cT s12  hCD_s12 hBG_s12 hRCO_s12 hRBE_s12 hMY_s12 (by first | assumption | omega)) wm_464 wm_2 wm_461 wm_462 wm_463 (by decide +kernel) rfl rfl ⟨by decide, by decide⟩ rfl (Nat.le_of_ble_eq_true rfl) dX8_text_60 (fun r20 s21 hs21 hr19 => ?_)
      replace hT := gby hT hs21
      have hp22 := f_X7_add_p  s12  hm_s12 hCD_s12 hBG_s12 hRCO_s12 hRBE_s12 hMY_s12 (by first | assumption | omega) r20 s21 hs21
      obtain ⟨hfc_s21, hm_s21, hp23, hCD_s21, hBG_s21, hMY_s21, hp24, hp25⟩ := hp22
      have hf_s21 : fr [19, 20, 21, 22, 23, 24, 26, 27, 28, 29, 30, 31, 34, 35, 51, 52, 53, 54, 55, 56, 57, 58] s0 s21 := hf_s12.call (by decide) hfc_s21
      have hRCO_s21 : RCO s21 := RCO_fr hRCO_s12 (fun k hk => hfc_s21 k (dj (by decide) k hk))
      have hRBE_s21 : RBE s21 := RBE_fr hRBE_s12 (fun k hk => hfc_s21 k (dj (by decide) k hk))
      have hRS_s21 : RS s21 := RS_fr hRS_s12 (fun k hk => hfc_s21 k (dj (by decide) k hk))
      have ht26 : s21 52 0 = s12 52 0 := by rw [hfc_s21 52 (by decide)]
      have ht27 : s21 55 0 = s12 55 0 := by rw [hfc_s21 55 (by decide)]
      have ht28 : s21 56 0 = s12 56 0 := by rw [hfc_s21 56 (by decide)]
      have ht29 : s21 57 0 = s12 57 0 := by rw [hfc_s21 57 (by decide)]
      refine k_st (st' := [gI r20]) rfl ?_
      exact k_rho hT (k_iret (pc := 63) E dX8_text_63 (by omega))
    · replace hT := hT.trans (if_neg h18)
      refine k_if_lt_f (pc := 32) (tgt := 42) E (by omega) dX8_text_32 (by decide) h18 ?_
      refine k_bipush (pc := 35) E dX8_text_35 (by decide) ?_
      refine k_iloadn (pc := 37) E 0 dX8_text_37 rfl rfl ?_
      refine k_isub (pc := 38) E dX8_text_38 ?_
      refine k_goto (pc := 39) (tgt := 63) E dX8_text_39 (by decide) ?_
      exact k_rho hT (k_iret (pc := 63) E dX8_text_63 (by omega))
  · replace hT := hT.trans (if_neg h3)
    refine k_icmp_lt_f (pc := 9) (tgt := 15) E (by omega) (by omega) dX8_text_9 (by decide) h3 ?_
    refine k_bipush (pc := 12) E dX8_text_12 (by decide) ?_
    exact k_rho hT (k_iret (pc := 14) E dX8_text_14 (by omega))

def w_X8_isOf_4 (c1 : Int) : Nat → Int → Int → Int × Int
  | 0, v1, v2 => (v1, v2)
  | n3 + 1, v1, v2 => (if v2 < 6 then (if v1 < 0 then (v1, v2) else (if v1 < 6 then (if v1 = c1 then (v1, v2) else (w_X8_isOf_4 c1 n3 (xkd v1) (v2 + 1))) else (v1, v2))) else (v1, v2))
theorem w_X8_isOf_4_s (c1 : Int) (n3 : Nat) (v1 : Int) (v2 : Int)  : w_X8_isOf_4 c1 (n3 + 1) v1 v2 = (if v2 < 6 then (if v1 < 0 then (v1, v2) else (if v1 < 6 then (if v1 = c1 then (v1, v2) else (w_X8_isOf_4 c1 n3 (xkd v1) (v2 + 1))) else (v1, v2))) else (v1, v2)) := rfl
def f_X8_isOf (x0 : Int) (x1 : Int) : Int := (gl2 (w_X8_isOf_4 x1 7 x0 0) (fun v26 v27 => (if v26 = x1 then 1 else 0)))
theorem f_X8_isOf_e (x0 : Int) (x1 : Int) : f_X8_isOf x0 x1 = (gl2 (w_X8_isOf_4 x1 7 x0 0) (fun v26 v27 => (if v26 = x1 then 1 else 0))) := rfl
set_option maxRecDepth 100000 in
set_option maxHeartbeats 4000000 in
theorem f_X8_isOf_p (x0 : Int) (x1 : Int) (hx0 : in32 x0) (hx1 : in32 x1)  : (((f_X8_isOf x0 x1) = 0 ∨ (f_X8_isOf x0 x1) = 1)) := by
  have hT := f_X8_isOf_e x0 x1
  have L11 : ∀ (n12 : Nat) (v9 : Int) (v10 : Int), ((in32 v9) ∧ (in32 v10) ∧ (0 ≤ v10 ∧ v10 ≤ 6)) → 6 - v10 < (n12 : Int) → (∀ (w13 : Int) (w14 : Int), (w_X8_isOf_4 x1 n12 v9 v10) = (w13, w14) → ((in32 w13) ∧ (in32 w14) ∧ (0 ≤ w14 ∧ w14 ≤ 6)) → (((f_X8_isOf x0 x1) = 0 ∨ (f_X8_isOf x0 x1) = 1))) → (((f_X8_isOf x0 x1) = 0 ∨ (f_X8_isOf x0 x1) = 1)) := by
    intro n12; induction n12 with
    | zero =>
      intro v9 v10 hq hm hk
      exfalso
      obtain ⟨hq20, hq21, hq22⟩ := hq
      omega
    | succ n12 ih =>
      intro v9 v10 hq hm hk
      obtain ⟨hq23, hq24, hq25⟩ := hq
      have hT := w_X8_isOf_4_s x1 n12 v9 v10
      by_cases h15 : v10 < 6
      · replace hT := hT.trans (if_pos h15)
        by_cases h16 : v9 < 0
        · replace hT := hT.trans (if_pos h16)
          exact hk v9 v10 hT ⟨(by omega), (by omega), (by first | assumption | omega)⟩
        · replace hT := hT.trans (if_neg h16)
          by_cases h17 : v9 < 6
          · replace hT := hT.trans (if_pos h17)
            by_cases h18 : v9 = x1
            · replace hT := hT.trans (if_pos h18)
              exact hk v9 v10 hT ⟨(by omega), (by omega), (by first | assumption | omega)⟩
            · replace hT := hT.trans (if_neg h18)
              have hp19 := xkd_p v9 (by omega)
              exact ih (xkd v9) (v10 + 1) ⟨(by omega), (by omega), (by first | assumption | omega)⟩ (by omega) (fun w13 w14 hw hi => hk w13 w14 (hT.trans hw) hi)
          · replace hT := hT.trans (if_neg h17)
            exact hk v9 v10 hT ⟨(by omega), (by omega), (by first | assumption | omega)⟩
      · replace hT := hT.trans (if_neg h15)
        exact hk v9 v10 hT ⟨(by omega), (by omega), (by first | assumption | omega)⟩
  refine L11 7 x0 0 ⟨(by omega), (by omega), (by first | assumption | omega)⟩ (by omega) (fun v26 v27 hw hq => ?_)
  obtain ⟨hq28, hq29, hq30⟩ := hq
  replace hT := gl2y hT hw
  by_cases h31 : v26 = x1
  · replace hT := hT.trans (if_pos h31)
    rw [hT]
    exact (by first | exact Or.inl rfl | exact Or.inr rfl | omega)
  · replace hT := hT.trans (if_neg h31)
    rw [hT]
    exact (by first | exact Or.inl rfl | exact Or.inr rfl | omega)
set_option maxRecDepth 100000 in
set_option maxHeartbeats 4000000 in
theorem c_X8_isOf (l : Launch) (D : va_G) (a : Nat → Nat) (cI cJ cS cT : ClassId) (adK adV : Nat → Nat) (kA : Nat) (s0 : gMem) (x0 : Int) (x1 : Int) (hx0 : in32 x0) (hx1 : in32 x1)  : gCS l yX8_isOf cX8_isOf 4 (some .boolean) 1 64 D vwCl (gT cI cJ cS cT) (wdX a cI cJ cS cT) lgX kI rgZ [gI x0, gI x1] s0 ((f_X8_isOf x0 x1), s0) adK adV kA := by
  refine gCS_of (by decide +kernel) (hwdX a cI cJ cS cT) (Nat.le_of_ble_eq_true rfl) ?_
  intro A p e R s m args below meth c hR E HX
  subst hR
  have hT := f_X8_isOf_e x0 x1
  refine k_lv0 (lv' := [(0, gI x0), (1, gI x1)]) rfl ?_
  refine k_iloadn (pc := 0) E 0 dX8_isOf_0 rfl rfl ?_
  refine k_istoren (pc := 1) (lv' := [(2, gI x0), (0, gI x0), (1, gI x1)]) E dX8_isOf_1 rfl (by decide) rfl ?_
  refine k_iconst (pc := 2) E dX8_isOf_2 ?_
  refine k_istoren (pc := 3) (lv' := [(3, gI 0), (2, gI x0), (0, gI x0), (1, gI x1)]) E dX8_isOf_3 rfl (by decide) rfl ?_
  have L11 : ∀ (n12 : Nat) (v9 : Int) (v10 : Int), ((in32 v9) ∧ (in32 v10) ∧ (0 ≤ v10 ∧ v10 ≤ 6)) → 6 - v10 < (n12 : Int) → (∀ (w13 : Int) (w14 : Int), (w_X8_isOf_4 x1 n12 v9 v10) = (w13, w14) → ((in32 w13) ∧ (in32 w14) ∧ (0 ≤ w14 ∧ w14 ≤ 6)) → gK D vwCl (wdX a cI cJ cS cT) lgX A p l e { frames := 1, cells := 0, slots := 0, locals := 64 } s m args below meth c 4 (gQQ D vwCl (wdX a cI cJ cS cT) lgX A kI rgZ below args s) ((f_X8_isOf x0 x1), s0) s0 37 [(1, gI x1), (2, gI w13)] []) → gK D vwCl (wdX a cI cJ cS cT) lgX A p l e { frames := 1, cells := 0, slots := 0, locals := 64 } s m args below meth c 4 (gQQ D vwCl (wdX a cI cJ cS cT) lgX A kI rgZ below args s) ((f_X8_isOf x0 x1), s0) s0 4 [(1, gI x1), (2, gI v9), (3, gI v10)] [] := by
    intro n12; induction n12 with
    | zero =>
      intro v9 v10 hq hm hk
      exfalso
      obtain ⟨hq20, hq21, hq22⟩ := hq
      omega
    | succ n12 ih =>
      intro v9 v10 hq hm hk
      obtain ⟨hq23, hq24, hq25⟩ := hq
      have hT := w_X8_isOf_4_s x1 n12 v9 v10
      refine k_iloadn (pc := 4) E 2 dX8_isOf_4 rfl rfl ?_
      refine k_bipush (pc := 5) E dX8_isOf_5 (by decide) ?_
      by_cases h15 : v10 < 6
      · replace hT := hT.trans (if_pos h15)
        refine k_icmp_ge_f (pc := 7) (tgt := 37) E (by omega) (by omega) dX8_isOf_7 (by decide) h15 ?_
        refine k_iloadn (pc := 10) E 1 dX8_isOf_10 rfl rfl ?_
        by_cases h16 : v9 < 0
        · replace hT := hT.trans (if_pos h16)
          refine k_if_lt_t (pc := 11) (tgt := 37) E (by omega) dX8_isOf_11 (by decide) h16 ?_
          refine k_lv (lv' := [(1, gI x1), (2, gI v9)]) [0, 1] rfl ?_
          exact hk v9 v10 hT ⟨(by omega), (by omega), (by first | assumption | omega)⟩
        · replace hT := hT.trans (if_neg h16)
          refine k_if_lt_f (pc := 11) (tgt := 37) E (by omega) dX8_isOf_11 (by decide) h16 ?_
          refine k_iloadn (pc := 14) E 1 dX8_isOf_14 rfl rfl ?_
          refine k_bipush (pc := 15) E dX8_isOf_15 (by decide) ?_
          by_cases h17 : v9 < 6
          · replace hT := hT.trans (if_pos h17)
            refine k_icmp_ge_f (pc := 17) (tgt := 37) E (by omega) (by omega) dX8_isOf_17 (by decide) h17 ?_
            refine k_iloadn (pc := 20) E 1 dX8_isOf_20 rfl rfl ?_
            refine k_iloadn (pc := 21) E 0 dX8_isOf_21 rfl rfl ?_
            by_cases h18 : v9 = x1
            · replace hT := hT.trans (if_pos h18)
              refine k_icmp_eq_t (pc := 22) (tgt := 37) E (by omega) (by omega) dX8_isOf_22 (by decide) h18 ?_
              refine k_lv (lv' := [(1, gI x1), (2, gI v9)]) [0, 1] rfl ?_
              exact hk v9 v10 hT ⟨(by omega), (by omega), (by first | assumption | omega)⟩
            · replace hT := hT.trans (if_neg h18)
              refine k_icmp_eq_f (pc := 22) (tgt := 37) E (by omega) (by omega) dX8_isOf_22 (by decide) h18 ?_
              refine k_gets (pc := 25) E HX.2.2.2.2.1 wm_842 rfl dX8_isOf_25 ?_
              refine k_iloadn (pc := 28) E 1 dX8_isOf_28 rfl rfl ?_
              refine k_ti (pc := 29) (v := gI (xkd v9)) E HX.2.2.2.2.2 (by decide) (by omega) (by omega) rfl dX8_isOf_29 ?_
              have hp19 := xkd_p v9 (by omega)
              refine k_istoren (pc := 30) (lv' := [(2, gI (xkd v9)), (1, gI x1), (3, gI v10)]) E dX8_isOf_30 rfl (by decide) rfl ?_
              refine k_iinc (pc := 31) (lv' := [(3, gI (v10 + 1)), (2, gI (xkd v9)), (1, gI x1)]) E 2 dX8_isOf_31 rfl (by decide) rfl ?_
              refine k_goto (pc := 34) (tgt := 4) E dX8_isOf_34 (by decide) ?_
              refine k_lv (lv' := [(1, gI x1), (2, gI (xkd v9)), (3, gI (v10 + 1))]) [2, 1, 0] rfl ?_
              exact ih (xkd v9) (v10 + 1) ⟨(by omega), (by omega), (by first | assumption | omega)⟩ (by omega) (fun w13 w14 hw hi => hk w13 w14 (hT.trans hw) hi)
          · replace hT := hT.trans (if_neg h17)
            refine k_icmp_ge_t (pc := 17) (tgt := 37) E (by omega) (by omega) dX8_isOf_17 (by decide) h17 ?_
            refine k_lv (lv' := [(1, gI x1), (2, gI v9)]) [0, 1] rfl ?_
            exact hk v9 v10 hT ⟨(by omega), (by omega), (by first | assumption | omega)⟩
      · replace hT := hT.trans (if_neg h15)
        refine k_icmp_ge_t (pc := 7) (tgt := 37) E (by omega) (by omega) dX8_isOf_7 (by decide) h15 ?_
        refine k_lv (lv' := [(1, gI x1), (2, gI v9)]) [0, 1] rfl ?_
        exact hk v9 v10 hT ⟨(by omega), (by omega), (by first | assumption | omega)⟩
  refine k_lv (lv' := [(1, gI x1), (2, gI x0), (3, gI 0)]) [3, 1, 0] rfl ?_
  refine L11 7 x0 0 ⟨(by omega), (by omega), (by first | assumption | omega)⟩ (by omega) (fun v26 v27 hw hq => ?_)
  obtain ⟨hq28, hq29, hq30⟩ := hq
  replace hT := gl2y hT hw
  refine k_iloadn (pc := 37) E 1 dX8_isOf_37 rfl rfl ?_
  refine k_iloadn (pc := 38) E 0 dX8_isOf_38 rfl rfl ?_
  by_cases h31 : v26 = x1
  · replace hT := hT.trans (if_pos h31)
    refine k_icmp_ne_f (pc := 39) (tgt := 46) E (by omega) (by omega) dX8_isOf_39 (by decide) h31 ?_
    refine k_iconst (pc := 42) E dX8_isOf_42 ?_
    refine k_goto (pc := 43) (tgt := 47) E dX8_isOf_43 (by decide) ?_
    exact k_rho (congrArg (fun q => (q, s0)) hT) (k_zret (pc := 47) E dX8_isOf_47 (by first | exact Or.inl rfl | exact Or.inr rfl | omega))
  · replace hT := hT.trans (if_neg h31)
    refine k_icmp_ne_t (pc := 39) (tgt := 46) E (by omega) (by omega) dX8_isOf_39 (by decide) h31 ?_
    refine k_iconst (pc := 46) E dX8_isOf_46 ?_
    exact k_rho (congrArg (fun q => (q, s0)) hT) (k_zret (pc := 47) E dX8_isOf_47 (by first | exact Or.inl rfl | exact Or.inr rfl | omega))

def f_X8_taken (x0 : Int) (x1 : Int) (s0 : gMem) : Int := (if (f_X8_outside x1 7) = 0 then (if (f_X8_outside x0 32) = 0 then (gl ((if x0 < 16 then 0 else 1)) (fun (v9 : Int) => (gl ((if v9 = 0 then x0 else (x0 - 16))) (fun (v12 : Int) => (gj (fun j14c => (if v9 = 0 then j14c else (if (f_X8_has (s0 60 0) v12) = 0 then (-11) else j14c))) ((gl ((if x1 = 6 then 1 else 0)) (fun (v17 : Int) => (if v9 = v17 then (gj (fun j20c => (if v9 = 0 then (if (f_X8_isOf (s0 40 v12) x1) = 0 then (-13) else j20c) else j20c)) ((if v9 = 0 then v12 else gl (f_J6_bitCount_0f7a4 (iand (s0 60 0) ((ishl 2 v12) - 1))) (fun v27 => v27)))) else (-13)))))))))) else (-12)) else (-2))
theorem f_X8_taken_e (x0 : Int) (x1 : Int) (s0 : gMem) : f_X8_taken x0 x1 s0 = (if (f_X8_outside x1 7) = 0 then (if (f_X8_outside x0 32) = 0 then (gl ((if x0 < 16 then 0 else 1)) (fun (v9 : Int) => (gl ((if v9 = 0 then x0 else (x0 - 16))) (fun (v12 : Int) => (gj (fun j14c => (if v9 = 0 then j14c else (if (f_X8_has (s0 60 0) v12) = 0 then (-11) else j14c))) ((gl ((if x1 = 6 then 1 else 0)) (fun (v17 : Int) => (if v9 = v17 then (gj (fun j20c => (if v9 = 0 then (if (f_X8_isOf (s0 40 v12) x1) = 0 then (-13) else j20c) else j20c)) ((if v9 = 0 then v12 else gl (f_J6_bitCount_0f7a4 (iand (s0 60 0) ((ishl 2 v12) - 1))) (fun v27 => v27)))) else (-13)))))))))) else (-12)) else (-2)) := rfl
set_option maxRecDepth 100000 in
set_option maxHeartbeats 4000000 in
theorem f_X8_taken_p (x0 : Int) (x1 : Int) (s0 : gMem) (hx0 : in32 x0) (hx1 : in32 x1) (hm_s0 : gMR lgX s0) (hpre0 : KNx s0) : (in64 (f_X8_taken x0 x1 s0)) := by
  have hT := f_X8_taken_e x0 x1 s0
  have hp2 := f_X8_outside_p x1 7 (by omega) (by omega) 
  by_cases h3 : (f_X8_outside x1 7) = 0
  · replace hT := hT.trans (if_pos h3)
    have hp5 := f_X8_outside_p x0 32 (by omega) (by omega) 
    by_cases h6 : (f_X8_outside x0 32) = 0
    · replace hT := hT.trans (if_pos h6)
      obtain ⟨z42, hz42, hT⟩ := gl1x hT
      have j8 : ∀ (v9 : Int), ((in32 v9)) → z42 = v9 → (in64 (f_X8_taken x0 x1 s0)) := by
        intro v9 hq hz
        have hq41 := hq
        replace hT := gl1y hT hz
        obtain ⟨z40, hz40, hT⟩ := gl1x hT
        have j11 : ∀ (v12 : Int), ((in32 v12)) → z40 = v12 → (in64 (f_X8_taken x0 x1 s0)) := by
          intro v12 hq hz
          have hq39 := hq
          replace hT := gl1y hT hz
          obtain ⟨j14c, hj14c, hT⟩ := gjx hT
          have j14 : (True) → (f_X8_taken x0 x1 s0) = j14c  → (in64 (f_X8_taken x0 x1 s0)) := by
            intro  hq hT
            rw [hj14c] at hT
            obtain ⟨z34, hz34, hT⟩ := gl1x hT
            have j16 : ∀ (v17 : Int), ((in32 v17)) → z34 = v17 → (in64 (f_X8_taken x0 x1 s0)) := by
              intro v17 hq hz
              have hq33 := hq
              replace hT := gl1y hT hz
              by_cases h18 : v9 = v17
              · replace hT := hT.trans (if_pos h18)
                obtain ⟨j20c, hj20c, hT⟩ := gjx hT
                have j20 : (True) → (f_X8_taken x0 x1 s0) = j20c  → (in64 (f_X8_taken x0 x1 s0)) := by
                  intro  hq hT
                  rw [hj20c] at hT
                  by_cases h21 : v9 = 0
                  · replace hT := hT.trans (if_pos h21)
                    rw [hT]
                    exact (by omega)
                  · replace hT := hT.trans (if_neg h21)
                    have hr22 := (hm_s0 60 0).1 rfl
                    have hb23 := ishl_rg 2 v12
                    have hb24 := iand_rg (s0 60 0) ((ishl 2 v12) - 1)
                    have hp26 := f_J6_bitCount_0f7a4_p (iand (s0 60 0) ((ishl 2 v12) - 1)) (by omega) 
                    obtain ⟨v27, hv27, hT⟩ := glx hT
                    rw [← hv27] at hp26
                    clear hv27
                    rw [hT]
                    exact (by omega)
                by_cases h19 : v9 = 0
                · replace hT := hT.trans (if_pos h19)
                  have hr28 := (hm_s0 40 v12).1 rfl
                  have hi29 := hpre0 v12
                  have hp31 := f_X8_isOf_p (s0 40 v12) x1 (by omega) (by omega) 
                  by_cases h32 : (f_X8_isOf (s0 40 v12) x1) = 0
                  · replace hT := hT.trans (if_pos h32)
                    rw [hT]
                    exact (by omega)
                  · replace hT := hT.trans (if_neg h32)
                    exact j20  trivial hT
                · replace hT := hT.trans (if_neg h19)
                  exact j20  trivial hT
              · replace hT := hT.trans (if_neg h18)
                rw [hT]
                exact (by omega)
            replace hT := hz34
            by_cases h15 : x1 = 6
            · replace hT := hT.trans (if_pos h15)
              exact j16 1 (by omega) hT
            · replace hT := hT.trans (if_neg h15)
              exact j16 0 (by omega) hT
          by_cases h13 : v9 = 0
          · replace hT := hT.trans (if_pos h13)
            exact j14  trivial hT
          · replace hT := hT.trans (if_neg h13)
            have hr35 := (hm_s0 60 0).1 rfl
            have hp37 := f_X8_has_p (s0 60 0) v12 (by omega) (by omega) 
            by_cases h38 : (f_X8_has (s0 60 0) v12) = 0
            · replace hT := hT.trans (if_pos h38)
              rw [hT]
              exact (by omega)
            · replace hT := hT.trans (if_neg h38)
              exact j14  trivial hT
        replace hT := hz40
        by_cases h10 : v9 = 0
        · replace hT := hT.trans (if_pos h10)
          exact j11 x0 (by omega) hT
        · replace hT := hT.trans (if_neg h10)
          exact j11 (x0 - 16) (by omega) hT
      replace hT := hz42
      by_cases h7 : x0 < 16
      · replace hT := hT.trans (if_pos h7)
        exact j8 0 (by omega) hT
      · replace hT := hT.trans (if_neg h7)
        exact j8 1 (by omega) hT
    · replace hT := hT.trans (if_neg h6)
      rw [hT]
      exact (by omega)
  · replace hT := hT.trans (if_neg h3)
    rw [hT]
    exact (by omega)
set_option maxRecDepth 100000 in
set_option maxHeartbeats 4000000 in
theorem c_X8_taken (l : Launch) (D : va_G) (a : Nat → Nat) (cI cJ cS cT : ClassId) (adK adV : Nat → Nat) (kA : Nat) (s0 : gMem) (x0 : Int) (x1 : Int) (hx0 : in32 x0) (hx1 : in32 x1) (hpre0 : KNx s0) : gCS l yX8_taken cX8_taken 5 (some .long) 2 128 D vwCl (gT cI cJ cS cT) (wdX a cI cJ cS cT) lgX kJ in64 [.ref (a 0), gI x0, gI x1] s0 ((f_X8_taken x0 x1 s0), s0) adK adV kA := by
  refine gCS_of (by decide +kernel) (hwdX a cI cJ cS cT) (Nat.le_of_ble_eq_true rfl) ?_
  intro A p e R s m args below meth c hR E HX
  subst hR
  have hT := f_X8_taken_e x0 x1 s0
  refine k_lv0 (lv' := [(0, .ref (a 0)), (1, gI x0), (2, gI x1)]) rfl ?_
  refine k_mr (fun hm_s0 => ?_)
  refine k_iloadn (pc := 0) E 2 dX8_taken_0 rfl rfl ?_
  refine k_bipush (pc := 1) E dX8_taken_1 (by decide) ?_
  refine k_mr (fun hm_s0 => ?_)
  refine k_callS (pc := 3) (np := 2) (As := [gI x1, gI 7]) (st := []) E (c_X8_outside l D a cI cJ cS cT s0 x1 7 (by omega) (by omega)) wm_310 wm_1 wm_308 wm_309 (by decide +kernel) ⟨by decide, by decide⟩ rfl (Nat.le_of_ble_eq_true rfl) dX8_taken_3 (ro_kk (fun hr1 => ?_))
  have hp2 := f_X8_outside_p x1 7 (by omega) (by omega) 
  refine k_st (st' := [gI (f_X8_outside x1 7)]) rfl ?_
  by_cases h3 : (f_X8_outside x1 7) = 0
  · replace hT := hT.trans (if_pos h3)
    refine k_if_eq_t (pc := 6) (tgt := 13) E (by omega) dX8_taken_6 (by decide) h3 ?_
    refine k_iloadn (pc := 13) E 1 dX8_taken_13 rfl rfl ?_
    refine k_bipush (pc := 14) E dX8_taken_14 (by decide) ?_
    refine k_mr (fun hm_s0 => ?_)
    refine k_callS (pc := 16) (np := 2) (As := [gI x0, gI 32]) (st := []) E (c_X8_outside l D a cI cJ cS cT s0 x0 32 (by omega) (by omega)) wm_310 wm_1 wm_308 wm_309 (by decide +kernel) ⟨by decide, by decide⟩ rfl (Nat.le_of_ble_eq_true rfl) dX8_taken_16 (ro_kk (fun hr4 => ?_))
    have hp5 := f_X8_outside_p x0 32 (by omega) (by omega) 
    refine k_st (st' := [gI (f_X8_outside x0 32)]) rfl ?_
    by_cases h6 : (f_X8_outside x0 32) = 0
    · replace hT := hT.trans (if_pos h6)
      refine k_if_eq_t (pc := 19) (tgt := 26) E (by omega) dX8_taken_19 (by decide) h6 ?_
      refine k_iloadn (pc := 26) E 1 dX8_taken_26 rfl rfl ?_
      refine k_bipush (pc := 27) E dX8_taken_27 (by decide) ?_
      obtain ⟨z42, hz42, hT⟩ := gl1x hT
      have j8 : ∀ (v9 : Int), ((in32 v9)) → z42 = v9 → gK D vwCl (wdX a cI cJ cS cT) lgX A p l e { frames := 2, cells := 0, slots := 0, locals := 128 } s m args below meth c 5 (gQQ D vwCl (wdX a cI cJ cS cT) lgX A kJ in64 below args s) ((f_X8_taken x0 x1 s0), s0) s0 37 [(0, .ref (a 0)), (1, gI x0), (2, gI x1)] [gI v9] := by
        intro v9 hq hz
        have hq41 := hq
        replace hT := gl1y hT hz
        refine k_istoren (pc := 37) (lv' := [(3, gI v9), (0, .ref (a 0)), (1, gI x0), (2, gI x1)]) E dX8_taken_37 rfl (by decide) rfl ?_
        refine k_iloadn (pc := 38) E 0 dX8_taken_38 rfl rfl ?_
        obtain ⟨z40, hz40, hT⟩ := gl1x hT
        have j11 : ∀ (v12 : Int), ((in32 v12)) → z40 = v12 → gK D vwCl (wdX a cI cJ cS cT) lgX A p l e { frames := 2, cells := 0, slots := 0, locals := 128 } s m args below meth c 5 (gQQ D vwCl (wdX a cI cJ cS cT) lgX A kJ in64 below args s) ((f_X8_taken x0 x1 s0), s0) s0 50 [(0, .ref (a 0)), (2, gI x1), (3, gI v9)] [gI v12] := by
          intro v12 hq hz
          have hq39 := hq
          replace hT := gl1y hT hz
          refine k_istore (pc := 50) (lv' := [(4, gI v12), (0, .ref (a 0)), (2, gI x1), (3, gI v9)]) E dX8_taken_50 (by decide) rfl ?_
          refine k_iloadn (pc := 52) E 3 dX8_taken_52 rfl rfl ?_
          obtain ⟨j14c, hj14c, hT⟩ := gjx hT
          have j14 : (True) → (f_X8_taken x0 x1 s0) = j14c  → gK D vwCl (wdX a cI cJ cS cT) lgX A p l e { frames := 2, cells := 0, slots := 0, locals := 128 } s m args below meth c 5 (gQQ D vwCl (wdX a cI cJ cS cT) lgX A kJ in64 below args s) ((f_X8_taken x0 x1 s0), s0) s0 78 [(0, .ref (a 0)), (2, gI x1), (3, gI v9), (4, gI v12)] [] := by
            intro  hq hT
            rw [hj14c] at hT
            refine k_iloadn (pc := 78) E 2 dX8_taken_78 rfl rfl ?_
            refine k_iloadn (pc := 79) E 1 dX8_taken_79 rfl rfl ?_
            refine k_bipush (pc := 80) E dX8_taken_80 (by decide) ?_
            obtain ⟨z34, hz34, hT⟩ := gl1x hT
            have j16 : ∀ (v17 : Int), ((in32 v17)) → z34 = v17 → gK D vwCl (wdX a cI cJ cS cT) lgX A p l e { frames := 2, cells := 0, slots := 0, locals := 128 } s m args below meth c 5 (gQQ D vwCl (wdX a cI cJ cS cT) lgX A kJ in64 below args s) ((f_X8_taken x0 x1 s0), s0) s0 90 [(0, .ref (a 0)), (2, gI x1), (3, gI v9), (4, gI v12)] [gI v17, gI v9] := by
              intro v17 hq hz
              have hq33 := hq
              replace hT := gl1y hT hz
              by_cases h18 : v9 = v17
              · replace hT := hT.trans (if_pos h18)
                refine k_icmp_ne_f (pc := 90) (tgt := 117) E (by omega) (by omega) dX8_taken_90 (by decide) h18 ?_
                refine k_iloadn (pc := 93) E 2 dX8_taken_93 rfl rfl ?_
                obtain ⟨j20c, hj20c, hT⟩ := gjx hT
                have j20 : (True) → (f_X8_taken x0 x1 s0) = j20c  → gK D vwCl (wdX a cI cJ cS cT) lgX A p l e { frames := 2, cells := 0, slots := 0, locals := 128 } s m args below meth c 5 (gQQ D vwCl (wdX a cI cJ cS cT) lgX A kJ in64 below args s) ((f_X8_taken x0 x1 s0), s0) s0 121 [(0, .ref (a 0)), (3, gI v9), (4, gI v12)] [] := by
                  intro  hq hT
                  rw [hj20c] at hT
                  refine k_iloadn (pc := 121) E 1 dX8_taken_121 rfl rfl ?_
                  by_cases h21 : v9 = 0
                  · replace hT := hT.trans (if_pos h21)
                    refine k_if_eq_t (pc := 122) (tgt := 149) E (by omega) dX8_taken_122 (by decide) h21 ?_
                    refine k_iload (pc := 149) E 2 dX8_taken_149 rfl ?_
                    refine k_i2l (pc := 151) E dX8_taken_151 (by omega) ?_
                    exact k_rho (congrArg (fun q => (q, s0)) hT) (k_lret (pc := 152) E dX8_taken_152 (by omega))
                  · replace hT := hT.trans (if_neg h21)
                    refine k_if_eq_f (pc := 122) (tgt := 149) E (by omega) dX8_taken_122 (by decide) h21 ?_
                    refine k_aloadn (pc := 125) E 0 dX8_taken_125 rfl rfl ?_
                    refine k_getf (pc := 126) (q0 := 0) (f := 2) (v := .ref (a 3)) E inX8 rfl rfl (by decide) wm_274 rfl rfl dX8_taken_126 ?_
                    refine k_getf (pc := 129) (q0 := 3) (f := 0) (v := .ref (a 4)) E inX4 rfl rfl (by decide) wm_149 rfl rfl dX8_taken_129 ?_
                    refine k_getfI (pc := 132) (q0 := 4) (f := 3) (k := 60) E inX6 rfl rfl (by decide) wm_113 rfl rfl rfl dX8_taken_132 (fun hr22 => ?_)
                    refine k_iconst (pc := 135) E dX8_taken_135 ?_
                    refine k_iload (pc := 136) E 2 dX8_taken_136 rfl ?_
                    refine k_ishl (pc := 138) E dX8_taken_138 ?_
                    have hb23 := ishl_rg 2 v12
                    refine k_iconst (pc := 139) E dX8_taken_139 ?_
                    refine k_isub (pc := 140) E dX8_taken_140 ?_
                    refine k_iand (pc := 141) E dX8_taken_141 ?_
                    have hb24 := iand_rg (s0 60 0) ((ishl 2 v12) - 1)
                    refine k_callS (pc := 142) (np := 1) (As := [gI (iand (s0 60 0) ((ishl 2 v12) - 1))]) (st := []) E (c_J6_bitCount_0f7a4 l D a cI cJ cS cT s0 (iand (s0 60 0) ((ishl 2 v12) - 1)) (by omega)) wm_487 wm_17 wm_686 wm_486 (by decide +kernel) ⟨by decide, by decide⟩ rfl (Nat.le_of_ble_eq_true rfl) dX8_taken_142 (ro_kk (fun hr25 => ?_))
                    have hp26 := f_J6_bitCount_0f7a4_p (iand (s0 60 0) ((ishl 2 v12) - 1)) (by omega) 
                    obtain ⟨v27, hv27, hT⟩ := glx hT
                    refine k_st (st' := [gI v27]) (by rw [hv27]; rfl) ?_
                    rw [← hv27] at hr25 hp26
                    clear hv27
                    refine k_i2l (pc := 145) E dX8_taken_145 (by omega) ?_
                    refine k_goto (pc := 146) (tgt := 152) E dX8_taken_146 (by decide) ?_
                    exact k_rho (congrArg (fun q => (q, s0)) hT) (k_lret (pc := 152) E dX8_taken_152 (by omega))
                by_cases h19 : v9 = 0
                · replace hT := hT.trans (if_pos h19)
                  refine k_if_ne_f (pc := 94) (tgt := 121) E (by omega) dX8_taken_94 (by decide) h19 ?_
                  refine k_aloadn (pc := 97) E 0 dX8_taken_97 rfl rfl ?_
                  refine k_getf (pc := 98) (q0 := 0) (f := 2) (v := .ref (a 3)) E inX8 rfl rfl (by decide) wm_274 rfl rfl dX8_taken_98 ?_
                  refine k_getf (pc := 101) (q0 := 3) (f := 0) (v := .ref (a 4)) E inX4 rfl rfl (by decide) wm_149 rfl rfl dX8_taken_101 ?_
                  refine k_getf (pc := 104) (q0 := 4) (f := 0) (v := .ref (a 40)) E inX6 rfl rfl (by decide) wm_104 rfl rfl dX8_taken_104 ?_
                  refine k_iload (pc := 107) E 3 dX8_taken_107 rfl ?_
                  refine k_iaload (pc := 109) (q0 := 40) (t0 := 0) (k := 40) (n := 16) E rfl rfl rfl (by decide) (by omega) (by omega) dX8_taken_109 (fun hr28 => ?_)
                  have hi29 := hpre0 v12
                  refine k_iloadn (pc := 110) E 1 dX8_taken_110 rfl rfl ?_
                  refine k_callSX (pc := 111) (np := 2) (As := [gI (s0 40 v12), gI x1]) (st := []) E HX (c_X8_isOf l D a cI cJ cS cT adK adV kA s0 (s0 40 v12) x1 (by omega) (by omega)) wm_841 wm_1 wm_839 wm_840 (by decide +kernel) ⟨by decide, by decide⟩ rfl (Nat.le_of_ble_eq_true rfl) dX8_taken_111 (ro_kk (fun hr30 => ?_))
                  refine k_st (st' := [gI (f_X8_isOf (s0 40 v12) x1)]) rfl ?_
                  by_cases h32 : (f_X8_isOf (s0 40 v12) x1) = 0
                  · replace hT := hT.trans (if_pos h32)
                    refine k_if_ne_f (pc := 114) (tgt := 121) E (by omega) dX8_taken_114 (by decide) h32 ?_
                    refine k_ldc2 (pc := 117) (n := (-13)) E dX8_taken_117 wm_844 (by decide) ?_
                    exact k_rho (congrArg (fun q => (q, s0)) hT) (k_lret (pc := 120) E dX8_taken_120 (by omega))
                  · replace hT := hT.trans (if_neg h32)
                    refine k_if_ne_t (pc := 114) (tgt := 121) E (by omega) dX8_taken_114 (by decide) h32 ?_
                    refine k_lv (lv' := [(0, .ref (a 0)), (3, gI v9), (4, gI v12)]) [0, 2, 3] rfl ?_
                    exact j20  trivial hT
                · replace hT := hT.trans (if_neg h19)
                  refine k_if_ne_t (pc := 94) (tgt := 121) E (by omega) dX8_taken_94 (by decide) h19 ?_
                  refine k_lv (lv' := [(0, .ref (a 0)), (3, gI v9), (4, gI v12)]) [0, 2, 3] rfl ?_
                  exact j20  trivial hT
              · replace hT := hT.trans (if_neg h18)
                refine k_icmp_ne_t (pc := 90) (tgt := 117) E (by omega) (by omega) dX8_taken_90 (by decide) h18 ?_
                refine k_ldc2 (pc := 117) (n := (-13)) E dX8_taken_117 wm_844 (by decide) ?_
                exact k_rho (congrArg (fun q => (q, s0)) hT) (k_lret (pc := 120) E dX8_taken_120 (by omega))
            replace hT := hz34
            by_cases h15 : x1 = 6
            · replace hT := hT.trans (if_pos h15)
              refine k_icmp_ne_f (pc := 82) (tgt := 89) E (by omega) (by omega) dX8_taken_82 (by decide) h15 ?_
              refine k_iconst (pc := 85) E dX8_taken_85 ?_
              refine k_goto (pc := 86) (tgt := 90) E dX8_taken_86 (by decide) ?_
              exact j16 1 (by omega) hT
            · replace hT := hT.trans (if_neg h15)
              refine k_icmp_ne_t (pc := 82) (tgt := 89) E (by omega) (by omega) dX8_taken_82 (by decide) h15 ?_
              refine k_iconst (pc := 89) E dX8_taken_89 ?_
              exact j16 0 (by omega) hT
          by_cases h13 : v9 = 0
          · replace hT := hT.trans (if_pos h13)
            refine k_if_eq_t (pc := 53) (tgt := 78) E (by omega) dX8_taken_53 (by decide) h13 ?_
            refine k_lv (lv' := [(0, .ref (a 0)), (2, gI x1), (3, gI v9), (4, gI v12)]) [1, 2, 3, 0] rfl ?_
            exact j14  trivial hT
          · replace hT := hT.trans (if_neg h13)
            refine k_if_eq_f (pc := 53) (tgt := 78) E (by omega) dX8_taken_53 (by decide) h13 ?_
            refine k_aloadn (pc := 56) E 1 dX8_taken_56 rfl rfl ?_
            refine k_getf (pc := 57) (q0 := 0) (f := 2) (v := .ref (a 3)) E inX8 rfl rfl (by decide) wm_274 rfl rfl dX8_taken_57 ?_
            refine k_getf (pc := 60) (q0 := 3) (f := 0) (v := .ref (a 4)) E inX4 rfl rfl (by decide) wm_149 rfl rfl dX8_taken_60 ?_
            refine k_getfI (pc := 63) (q0 := 4) (f := 3) (k := 60) E inX6 rfl rfl (by decide) wm_113 rfl rfl rfl dX8_taken_63 (fun hr35 => ?_)
            refine k_iload (pc := 66) E 0 dX8_taken_66 rfl ?_
            refine k_mr (fun hm_s0 => ?_)
            refine k_callS (pc := 68) (np := 2) (As := [gI (s0 60 0), gI v12]) (st := []) E (c_X8_has l D a cI cJ cS cT s0 (s0 60 0) v12 (by omega) (by omega)) wm_552 wm_1 wm_651 wm_551 (by decide +kernel) ⟨by decide, by decide⟩ rfl (Nat.le_of_ble_eq_true rfl) dX8_taken_68 (ro_kk (fun hr36 => ?_))
            have hp37 := f_X8_has_p (s0 60 0) v12 (by omega) (by omega) 
            refine k_st (st' := [gI (f_X8_has (s0 60 0) v12)]) rfl ?_
            by_cases h38 : (f_X8_has (s0 60 0) v12) = 0
            · replace hT := hT.trans (if_pos h38)
              refine k_if_ne_f (pc := 71) (tgt := 78) E (by omega) dX8_taken_71 (by decide) h38 ?_
              refine k_ldc2 (pc := 74) (n := (-11)) E dX8_taken_74 wm_838 (by decide) ?_
              exact k_rho (congrArg (fun q => (q, s0)) hT) (k_lret (pc := 77) E dX8_taken_77 (by omega))
            · replace hT := hT.trans (if_neg h38)
              refine k_if_ne_t (pc := 71) (tgt := 78) E (by omega) dX8_taken_71 (by decide) h38 ?_
              refine k_lv (lv' := [(0, .ref (a 0)), (2, gI x1), (3, gI v9), (4, gI v12)]) [1, 2, 3, 0] rfl ?_
              exact j14  trivial hT
        replace hT := hz40
        by_cases h10 : v9 = 0
        · replace hT := hT.trans (if_pos h10)
          refine k_if_eq_t (pc := 39) (tgt := 49) E (by omega) dX8_taken_39 (by decide) h10 ?_
          refine k_iloadn (pc := 49) E 2 dX8_taken_49 rfl rfl ?_
          refine k_lv (lv' := [(0, .ref (a 0)), (2, gI x1), (3, gI v9)]) [1, 3, 0] rfl ?_
          exact j11 x0 (by omega) hT
        · replace hT := hT.trans (if_neg h10)
          refine k_if_eq_f (pc := 39) (tgt := 49) E (by omega) dX8_taken_39 (by decide) h10 ?_
          refine k_iloadn (pc := 42) E 2 dX8_taken_42 rfl rfl ?_
          refine k_bipush (pc := 43) E dX8_taken_43 (by decide) ?_
          refine k_isub (pc := 45) E dX8_taken_45 ?_
          refine k_goto (pc := 46) (tgt := 50) E dX8_taken_46 (by decide) ?_
          refine k_lv (lv' := [(0, .ref (a 0)), (2, gI x1), (3, gI v9)]) [1, 3, 0] rfl ?_
          exact j11 (x0 - 16) (by omega) hT
      replace hT := hz42
      by_cases h7 : x0 < 16
      · replace hT := hT.trans (if_pos h7)
        refine k_icmp_lt_t (pc := 29) (tgt := 36) E (by omega) (by omega) dX8_taken_29 (by decide) h7 ?_
        refine k_iconst (pc := 36) E dX8_taken_36 ?_
        exact j8 0 (by omega) hT
      · replace hT := hT.trans (if_neg h7)
        refine k_icmp_lt_f (pc := 29) (tgt := 36) E (by omega) (by omega) dX8_taken_29 (by decide) h7 ?_
        refine k_iconst (pc := 32) E dX8_taken_32 ?_
        refine k_goto (pc := 33) (tgt := 37) E dX8_taken_33 (by decide) ?_
        exact j8 1 (by omega) hT
    · replace hT := hT.trans (if_neg h6)
      refine k_if_eq_f (pc := 19) (tgt := 26) E (by omega) dX8_taken_19 (by decide) h6 ?_
      refine k_ldc2 (pc := 22) (n := (-12)) E dX8_taken_22 wm_837 (by decide) ?_
      exact k_rho (congrArg (fun q => (q, s0)) hT) (k_lret (pc := 25) E dX8_taken_25 (by omega))
  · replace hT := hT.trans (if_neg h3)
    refine k_if_eq_f (pc := 6) (tgt := 13) E (by omega) dX8_taken_6 (by decide) h3 ?_
    refine k_ldc2 (pc := 9) (n := (-2)) E dX8_taken_9 wm_836 (by decide) ?_
    exact k_rho (congrArg (fun q => (q, s0)) hT) (k_lret (pc := 12) E dX8_taken_12 (by omega))
