def w_X9_fallsTo_26 (c2 : Int) (c3 : Int) (s0 : gMem) : Nat → Int → Int → Int → Int → Int × Int × Int × Int
  | 0, v6, v7, v8, v9 => (v6, v7, v8, v9)
  | n10 + 1, v6, v7, v8, v9 => (if v9 = 0 then (v6, v7, v8, v9) else (if (f_X9_isPlace v8) = 0 then (v6, v7, v8, v9) else (if (s0 2 3) < v7 then (v6, v7, v8, v9) else (gl3 ((if (f_X9_isIn c3 v8) = 0 then (v6, (v7 + 1), v9) else (gl ((if (f_X9_doesStop v8 s0) = 0 then 1 else 0)) (fun v36 => (gl ((if v36 = 0 then v6 else v8)) (fun v39 => (v39, 0, v36))))))) (fun v22 v23 v24 => (w_X9_fallsTo_26 c2 c3 s0 n10 v22 v23 (v8 + c2) v24))))))
theorem w_X9_fallsTo_26_s (c2 : Int) (c3 : Int) (s0 : gMem) (n10 : Nat) (v6 : Int) (v7 : Int) (v8 : Int) (v9 : Int)  : w_X9_fallsTo_26 c2 c3 s0 (n10 + 1) v6 v7 v8 v9 = (if v9 = 0 then (v6, v7, v8, v9) else (if (f_X9_isPlace v8) = 0 then (v6, v7, v8, v9) else (if (s0 2 3) < v7 then (v6, v7, v8, v9) else (gl3 ((if (f_X9_isIn c3 v8) = 0 then (v6, (v7 + 1), v9) else (gl ((if (f_X9_doesStop v8 s0) = 0 then 1 else 0)) (fun v36 => (gl ((if v36 = 0 then v6 else v8)) (fun v39 => (v39, 0, v36))))))) (fun v22 v23 v24 => (w_X9_fallsTo_26 c2 c3 s0 n10 v22 v23 (v8 + c2) v24)))))) := rfl
def f_X9_fallsTo (x0 : Int) (x1 : Int) (x2 : Int) (s0 : gMem) : Int := (gl ((if (f_X9_doesStop x0 s0) = 0 then 1 else 0)) (fun v5 => (gl4 (w_X9_fallsTo_26 x1 x2 s0 34 x0 0 (x0 + x1) v5) (fun v109 v110 v111 v112 => v109))))
theorem f_X9_fallsTo_e (x0 : Int) (x1 : Int) (x2 : Int) (s0 : gMem) : f_X9_fallsTo x0 x1 x2 s0 = (gl ((if (f_X9_doesStop x0 s0) = 0 then 1 else 0)) (fun v5 => (gl4 (w_X9_fallsTo_26 x1 x2 s0 34 x0 0 (x0 + x1) v5) (fun v109 v110 v111 v112 => v109)))) := rfl
set_option maxRecDepth 100000 in
set_option maxHeartbeats 4000000 in
theorem f_X9_fallsTo_p (x0 : Int) (x1 : Int) (x2 : Int) (s0 : gMem) (hx0 : in32 x0) (hx1 : in32 x1) (hx2 : in32 x2) (hm_s0 : gMR lgM s0) (hpre0 : TD s0) (hpre1 : 0 ≤ x0 ∧ x0 ≤ 15) (hpre2 : x1 = 1 ∨ x1 = -1) : (in32 (f_X9_fallsTo x0 x1 x2 s0)) ∧ (0 ≤ (f_X9_fallsTo x0 x1 x2 s0) ∧ (f_X9_fallsTo x0 x1 x2 s0) ≤ 15) := by
  have hT := f_X9_fallsTo_e x0 x1 x2 s0
  have kq0 : x1 * (x0 + x1) = x1 * x0 + 1 ∧ x1 * x0 ≤ 15 ∧ -15 ≤ x1 * x0 := by rcases hpre2 with h | h <;> rw [h] <;> omega
  have hp2 := f_X9_doesStop_p x0 s0 (by omega) hm_s0 (by first | assumption | omega)
  obtain ⟨z124, hz124, hT⟩ := gl1x hT
  have j4 : ∀ (v5 : Int), ((in32 v5) ∧ (v5 = 0 ∨ v5 = 1)) → z124 = v5 → (in32 (f_X9_fallsTo x0 x1 x2 s0)) ∧ (0 ≤ (f_X9_fallsTo x0 x1 x2 s0) ∧ (f_X9_fallsTo x0 x1 x2 s0) ≤ 15) := by
    intro v5 hq hz
    obtain ⟨hq122, hq123⟩ := hq
    replace hT := gl1y hT hz
    have L50 : ∀ (n51 : Nat) (v46 : Int) (v47 : Int) (v48 : Int) (v49 : Int), ((in32 v46) ∧ (in32 v47) ∧ (in32 v48) ∧ (in32 v49) ∧ (0 ≤ v46 ∧ v46 ≤ 15) ∧ (0 ≤ v47 ∧ v47 ≤ 3) ∧ (-1 ≤ v48 ∧ v48 ≤ 16) ∧ (v49 = 0 ∨ v49 = 1) ∧ (x1 * v48 ≤ 16)) → 17 - x1 * v48 < (n51 : Int) → (∀ (w52 : Int) (w53 : Int) (w54 : Int) (w55 : Int), (w_X9_fallsTo_26 x1 x2 s0 n51 v46 v47 v48 v49) = (w52, w53, w54, w55) → ((in32 w52) ∧ (in32 w53) ∧ (in32 w54) ∧ (in32 w55) ∧ (0 ≤ w52 ∧ w52 ≤ 15) ∧ (0 ≤ w53 ∧ w53 ≤ 3) ∧ (-1 ≤ w54 ∧ w54 ≤ 16) ∧ (w55 = 0 ∨ w55 = 1) ∧ (x1 * w54 ≤ 16)) → (in32 (f_X9_fallsTo x0 x1 x2 s0)) ∧ (0 ≤ (f_X9_fallsTo x0 x1 x2 s0) ∧ (f_X9_fallsTo x0 x1 x2 s0) ≤ 15)) → (in32 (f_X9_fallsTo x0 x1 x2 s0)) ∧ (0 ≤ (f_X9_fallsTo x0 x1 x2 s0) ∧ (f_X9_fallsTo x0 x1 x2 s0) ≤ 15) := by
      intro n51; induction n51 with
      | zero =>
        intro v46 v47 v48 v49 hq hm hk
        exfalso
        obtain ⟨hq91, hq92, hq93, hq94, hq95, hq96, hq97, hq98, hq99⟩ := hq
        omega
      | succ n51 ih =>
        intro v46 v47 v48 v49 hq hm hk
        obtain ⟨hq100, hq101, hq102, hq103, hq104, hq105, hq106, hq107, hq108⟩ := hq
        have hT := w_X9_fallsTo_26_s x1 x2 s0 n51 v46 v47 v48 v49
        by_cases h56 : v49 = 0
        · replace hT := hT.trans (if_pos h56)
          exact hk v46 v47 v48 v49 hT ⟨(by omega), (by omega), (by omega), (by omega), (by first | assumption | omega), (by first | assumption | omega), (by first | assumption | omega), (by first | assumption | omega), (by first | assumption | omega)⟩
        · replace hT := hT.trans (if_neg h56)
          have hp58 := f_X9_isPlace_p v48 (by omega) 
          by_cases h59 : (f_X9_isPlace v48) = 0
          · replace hT := hT.trans (if_pos h59)
            exact hk v46 v47 v48 v49 hT ⟨(by omega), (by omega), (by omega), (by omega), (by first | assumption | omega), (by first | assumption | omega), (by first | assumption | omega), (by first | assumption | omega), (by first | assumption | omega)⟩
          · replace hT := hT.trans (if_neg h59)
            have hr60 := (hm_s0 2 3).1 rfl
            have hi61 := hpre0 3
            by_cases h62 : (s0 2 3) < v47
            · replace hT := hT.trans (if_pos h62)
              exact hk v46 v47 v48 v49 hT ⟨(by omega), (by omega), (by omega), (by omega), (by first | assumption | omega), (by first | assumption | omega), (by first | assumption | omega), (by first | assumption | omega), (by first | assumption | omega)⟩
            · replace hT := hT.trans (if_neg h62)
              have hp64 := f_X9_isIn_p x2 v48 (by omega) (by omega) 
              obtain ⟨z76, hz76, hT⟩ := gl3x hT
              have j66 : ∀ (v67 : Int) (v68 : Int) (v69 : Int), ((in32 v67) ∧ (in32 v68) ∧ (in32 v69) ∧ (0 ≤ v67 ∧ v67 ≤ 15) ∧ (0 ≤ v68 ∧ v68 ≤ 3) ∧ (v69 = 0 ∨ v69 = 1)) → z76 = (v67, v68, v69) → (in32 (f_X9_fallsTo x0 x1 x2 s0)) ∧ (0 ≤ (f_X9_fallsTo x0 x1 x2 s0) ∧ (f_X9_fallsTo x0 x1 x2 s0) ≤ 15) := by
                intro v67 v68 v69 hq hz
                obtain ⟨hq70, hq71, hq72, hq73, hq74, hq75⟩ := hq
                replace hT := gl3y hT hz
                have kq : x1 * (v48 + x1) = x1 * v48 + 1 ∧ x1 * v48 ≤ 15 := by rcases hpre2 with h | h <;> rw [h] <;> omega
                exact ih v67 v68 (v48 + x1) v69 ⟨(by omega), (by omega), (by omega), (by omega), (by first | assumption | omega), (by first | assumption | omega), (by first | assumption | omega), (by first | assumption | omega), (by first | assumption | omega)⟩ (by omega) (fun w52 w53 w54 w55 hw hi => hk w52 w53 w54 w55 (hT.trans hw) hi)
              replace hT := hz76
              by_cases h65 : (f_X9_isIn x2 v48) = 0
              · replace hT := hT.trans (if_pos h65)
                exact j66 v46 (v47 + 1) v49 ⟨(by omega), (by omega), (by omega), (by first | assumption | omega), (by first | assumption | omega), (by first | assumption | omega)⟩ hT
              · replace hT := hT.trans (if_neg h65)
                have hp78 := f_X9_doesStop_p v48 s0 (by omega) hm_s0 (by first | assumption | omega)
                obtain ⟨z90, hz90, hT⟩ := gl1x hT
                have j80 : ∀ (v81 : Int), ((in32 v81) ∧ (v81 = 0 ∨ v81 = 1)) → z90 = v81 → (in32 (f_X9_fallsTo x0 x1 x2 s0)) ∧ (0 ≤ (f_X9_fallsTo x0 x1 x2 s0) ∧ (f_X9_fallsTo x0 x1 x2 s0) ≤ 15) := by
                  intro v81 hq hz
                  obtain ⟨hq88, hq89⟩ := hq
                  replace hT := gl1y hT hz
                  obtain ⟨z87, hz87, hT⟩ := gl1x hT
                  have j83 : ∀ (v84 : Int), ((in32 v84) ∧ (0 ≤ v84 ∧ v84 ≤ 15)) → z87 = v84 → (in32 (f_X9_fallsTo x0 x1 x2 s0)) ∧ (0 ≤ (f_X9_fallsTo x0 x1 x2 s0) ∧ (f_X9_fallsTo x0 x1 x2 s0) ≤ 15) := by
                    intro v84 hq hz
                    obtain ⟨hq85, hq86⟩ := hq
                    replace hT := gl1y hT hz
                    exact j66 v84 0 v81 ⟨(by omega), (by omega), (by omega), (by first | assumption | omega), (by first | assumption | omega), (by first | assumption | omega)⟩ hT
                  replace hT := hz87
                  by_cases h82 : v81 = 0
                  · replace hT := hT.trans (if_pos h82)
                    exact j83 v46 ⟨(by omega), (by first | assumption | omega)⟩ hT
                  · replace hT := hT.trans (if_neg h82)
                    exact j83 v48 ⟨(by omega), (by first | assumption | omega)⟩ hT
                replace hT := hz90
                by_cases h79 : (f_X9_doesStop v48 s0) = 0
                · replace hT := hT.trans (if_pos h79)
                  exact j80 1 ⟨(by omega), (by first | assumption | omega)⟩ hT
                · replace hT := hT.trans (if_neg h79)
                  exact j80 0 ⟨(by omega), (by first | assumption | omega)⟩ hT
    refine L50 34 x0 0 (x0 + x1) v5 ⟨(by omega), (by omega), (by omega), (by omega), (by first | assumption | omega), (by first | assumption | omega), (by first | assumption | omega), (by first | assumption | omega), (by first | assumption | omega)⟩ (by omega) (fun v109 v110 v111 v112 hw hq => ?_)
    obtain ⟨hq113, hq114, hq115, hq116, hq117, hq118, hq119, hq120, hq121⟩ := hq
    replace hT := gl4y hT hw
    rw [hT]
    exact ⟨(by omega), (by first | assumption | omega)⟩
  replace hT := hz124
  by_cases h3 : (f_X9_doesStop x0 s0) = 0
  · replace hT := hT.trans (if_pos h3)
    exact j4 1 ⟨(by omega), (by first | assumption | omega)⟩ hT
  · replace hT := hT.trans (if_neg h3)
    exact j4 0 ⟨(by omega), (by first | assumption | omega)⟩ hT
set_option maxRecDepth 100000 in
set_option maxHeartbeats 4000000 in
theorem c_X9_fallsTo (l : Launch) (D : va_G) (a : Nat → Nat) (cI cJ cS cT : ClassId) (s0 : gMem) (x0 : Int) (x1 : Int) (x2 : Int) (hx0 : in32 x0) (hx1 : in32 x1) (hx2 : in32 x2) (hpre0 : TD s0) (hpre1 : 0 ≤ x0 ∧ x0 ≤ 15) (hpre2 : x1 = 1 ∨ x1 = -1) : gC l yX9_fallsTo cX9_fallsTo 8 (some .int) 3 192 D vwCl (gT cI cJ cS cT) (wdM a cI cJ) lgM kI in32 [.ref (a 0), gI x0, gI x1, gI x2] s0 ((f_X9_fallsTo x0 x1 x2 s0), s0) := by
  refine gC_of (by decide +kernel) (hwdM a cI cJ) (Nat.le_of_ble_eq_true rfl) ?_
  intro A p e R s m args below meth c hR E
  subst hR
  have hT := f_X9_fallsTo_e x0 x1 x2 s0
  refine k_lv0 (lv' := [(0, .ref (a 0)), (1, gI x0), (2, gI x1), (3, gI x2)]) rfl ?_
  refine k_mr (fun hm_s0 => ?_)
  have kq0 : x1 * (x0 + x1) = x1 * x0 + 1 ∧ x1 * x0 ≤ 15 ∧ -15 ≤ x1 * x0 := by rcases hpre2 with h | h <;> rw [h] <;> omega
  refine k_iloadn (pc := 0) E 1 dX9_fallsTo_0 rfl rfl ?_
  refine k_istore (pc := 1) (lv' := [(4, gI x0), (0, .ref (a 0)), (1, gI x0), (2, gI x1), (3, gI x2)]) E dX9_fallsTo_1 (by decide) rfl ?_
  refine k_iconst (pc := 3) E dX9_fallsTo_3 ?_
  refine k_istore (pc := 4) (lv' := [(5, gI 0), (4, gI x0), (0, .ref (a 0)), (1, gI x0), (2, gI x1), (3, gI x2)]) E dX9_fallsTo_4 (by decide) rfl ?_
  refine k_iloadn (pc := 6) E 3 dX9_fallsTo_6 rfl rfl ?_
  refine k_iloadn (pc := 7) E 4 dX9_fallsTo_7 rfl rfl ?_
  refine k_iadd (pc := 8) E dX9_fallsTo_8 ?_
  refine k_istore (pc := 9) (lv' := [(6, gI (x0 + x1)), (5, gI 0), (4, gI x0), (0, .ref (a 0)), (1, gI x0), (2, gI x1), (3, gI x2)]) E dX9_fallsTo_9 (by decide) rfl ?_
  refine k_aloadn (pc := 11) E 3 dX9_fallsTo_11 rfl rfl ?_
  refine k_iloadn (pc := 12) E 4 dX9_fallsTo_12 rfl rfl ?_
  refine k_mr (fun hm_s0 => ?_)
  refine k_callV (pc := 13) (np := 1) (As := [gI x0]) (st := []) (q0 := 0) E (c_X9_doesStop l D a cI cJ cS cT s0 x0 (by omega) (by first | assumption | omega)) wm_1077 wm_11 wm_1074 wm_1076 wp_38 (by decide +kernel) rfl rfl ⟨by decide, by decide⟩ rfl (Nat.le_of_ble_eq_true rfl) dX9_fallsTo_13 (ro_kk (fun hr1 => ?_))
  have hp2 := f_X9_doesStop_p x0 s0 (by omega) hm_s0 (by first | assumption | omega)
  refine k_st (st' := [gI (f_X9_doesStop x0 s0)]) rfl ?_
  obtain ⟨z124, hz124, hT⟩ := gl1x hT
  have j4 : ∀ (v5 : Int), ((in32 v5) ∧ (v5 = 0 ∨ v5 = 1)) → z124 = v5 → gK D vwCl (wdM a cI cJ) lgM A p l e { frames := 3, cells := 0, slots := 0, locals := 192 } s m args below meth c 8 (gQQ D vwCl (wdM a cI cJ) lgM A kI in32 below args s) ((f_X9_fallsTo x0 x1 x2 s0), s0) s0 24 [(0, .ref (a 0)), (2, gI x1), (3, gI x2), (4, gI x0), (5, gI 0), (6, gI (x0 + x1))] [gI v5] := by
    intro v5 hq hz
    obtain ⟨hq122, hq123⟩ := hq
    replace hT := gl1y hT hz
    refine k_istore (pc := 24) (lv' := [(7, gI v5), (0, .ref (a 0)), (2, gI x1), (3, gI x2), (4, gI x0), (5, gI 0), (6, gI (x0 + x1))]) E dX9_fallsTo_24 (by decide) rfl ?_
    have L50 : ∀ (n51 : Nat) (v46 : Int) (v47 : Int) (v48 : Int) (v49 : Int), ((in32 v46) ∧ (in32 v47) ∧ (in32 v48) ∧ (in32 v49) ∧ (0 ≤ v46 ∧ v46 ≤ 15) ∧ (0 ≤ v47 ∧ v47 ≤ 3) ∧ (-1 ≤ v48 ∧ v48 ≤ 16) ∧ (v49 = 0 ∨ v49 = 1) ∧ (x1 * v48 ≤ 16)) → 17 - x1 * v48 < (n51 : Int) → (∀ (w52 : Int) (w53 : Int) (w54 : Int) (w55 : Int), (w_X9_fallsTo_26 x1 x2 s0 n51 v46 v47 v48 v49) = (w52, w53, w54, w55) → ((in32 w52) ∧ (in32 w53) ∧ (in32 w54) ∧ (in32 w55) ∧ (0 ≤ w52 ∧ w52 ≤ 15) ∧ (0 ≤ w53 ∧ w53 ≤ 3) ∧ (-1 ≤ w54 ∧ w54 ≤ 16) ∧ (w55 = 0 ∨ w55 = 1) ∧ (x1 * w54 ≤ 16)) → gK D vwCl (wdM a cI cJ) lgM A p l e { frames := 3, cells := 0, slots := 0, locals := 192 } s m args below meth c 8 (gQQ D vwCl (wdM a cI cJ) lgM A kI in32 below args s) ((f_X9_fallsTo x0 x1 x2 s0), s0) s0 107 [(4, gI w52)] []) → gK D vwCl (wdM a cI cJ) lgM A p l e { frames := 3, cells := 0, slots := 0, locals := 192 } s m args below meth c 8 (gQQ D vwCl (wdM a cI cJ) lgM A kI in32 below args s) ((f_X9_fallsTo x0 x1 x2 s0), s0) s0 26 [(0, .ref (a 0)), (2, gI x1), (3, gI x2), (4, gI v46), (5, gI v47), (6, gI v48), (7, gI v49)] [] := by
      intro n51; induction n51 with
      | zero =>
        intro v46 v47 v48 v49 hq hm hk
        exfalso
        obtain ⟨hq91, hq92, hq93, hq94, hq95, hq96, hq97, hq98, hq99⟩ := hq
        omega
      | succ n51 ih =>
        intro v46 v47 v48 v49 hq hm hk
        obtain ⟨hq100, hq101, hq102, hq103, hq104, hq105, hq106, hq107, hq108⟩ := hq
        have hT := w_X9_fallsTo_26_s x1 x2 s0 n51 v46 v47 v48 v49
        refine k_iload (pc := 26) E 6 dX9_fallsTo_26 rfl ?_
        by_cases h56 : v49 = 0
        · replace hT := hT.trans (if_pos h56)
          refine k_if_eq_t (pc := 28) (tgt := 107) E (by omega) dX9_fallsTo_28 (by decide) h56 ?_
          refine k_lv (lv' := [(4, gI v46)]) [3] rfl ?_
          exact hk v46 v47 v48 v49 hT ⟨(by omega), (by omega), (by omega), (by omega), (by first | assumption | omega), (by first | assumption | omega), (by first | assumption | omega), (by first | assumption | omega), (by first | assumption | omega)⟩
        · replace hT := hT.trans (if_neg h56)
          refine k_if_eq_f (pc := 28) (tgt := 107) E (by omega) dX9_fallsTo_28 (by decide) h56 ?_
          refine k_iload (pc := 31) E 5 dX9_fallsTo_31 rfl ?_
          refine k_mr (fun hm_s0 => ?_)
          refine k_callS (pc := 33) (np := 1) (As := [gI v48]) (st := []) E (c_X9_isPlace l D a cI cJ cS cT s0 v48 (by omega)) wm_1040 wm_11 wm_1038 wm_1039 (by decide +kernel) ⟨by decide, by decide⟩ rfl (Nat.le_of_ble_eq_true rfl) dX9_fallsTo_33 (ro_kk (fun hr57 => ?_))
          have hp58 := f_X9_isPlace_p v48 (by omega) 
          refine k_st (st' := [gI (f_X9_isPlace v48)]) rfl ?_
          by_cases h59 : (f_X9_isPlace v48) = 0
          · replace hT := hT.trans (if_pos h59)
            refine k_if_eq_t (pc := 36) (tgt := 107) E (by omega) dX9_fallsTo_36 (by decide) h59 ?_
            refine k_lv (lv' := [(4, gI v46)]) [3] rfl ?_
            exact hk v46 v47 v48 v49 hT ⟨(by omega), (by omega), (by omega), (by omega), (by first | assumption | omega), (by first | assumption | omega), (by first | assumption | omega), (by first | assumption | omega), (by first | assumption | omega)⟩
          · replace hT := hT.trans (if_neg h59)
            refine k_if_eq_f (pc := 36) (tgt := 107) E (by omega) dX9_fallsTo_36 (by decide) h59 ?_
            refine k_iload (pc := 39) E 4 dX9_fallsTo_39 rfl ?_
            refine k_aloadn (pc := 41) E 0 dX9_fallsTo_41 rfl rfl ?_
            refine k_getf (pc := 42) (q0 := 0) (f := 2) (v := .ref (a 3)) E inX9 rfl rfl (by decide) wm_900 rfl rfl dX9_fallsTo_42 ?_
            refine k_iconst (pc := 45) E dX9_fallsTo_45 ?_
            refine k_iaload (pc := 46) (q0 := 3) (t0 := 0) (k := 2) (n := 4) E rfl rfl rfl (by decide) (by omega) (by omega) dX9_fallsTo_46 (fun hr60 => ?_)
            have hi61 := hpre0 3
            by_cases h62 : (s0 2 3) < v47
            · replace hT := hT.trans (if_pos h62)
              refine k_icmp_gt_t (pc := 47) (tgt := 107) E (by omega) (by omega) dX9_fallsTo_47 (by decide) h62 ?_
              refine k_lv (lv' := [(4, gI v46)]) [3] rfl ?_
              exact hk v46 v47 v48 v49 hT ⟨(by omega), (by omega), (by omega), (by omega), (by first | assumption | omega), (by first | assumption | omega), (by first | assumption | omega), (by first | assumption | omega), (by first | assumption | omega)⟩
            · replace hT := hT.trans (if_neg h62)
              refine k_icmp_gt_f (pc := 47) (tgt := 107) E (by omega) (by omega) dX9_fallsTo_47 (by decide) h62 ?_
              refine k_iloadn (pc := 50) E 2 dX9_fallsTo_50 rfl rfl ?_
              refine k_iload (pc := 51) E 5 dX9_fallsTo_51 rfl ?_
              refine k_mr (fun hm_s0 => ?_)
              refine k_callS (pc := 53) (np := 2) (As := [gI x2, gI v48]) (st := []) E (c_X9_isIn l D a cI cJ cS cT s0 x2 v48 (by omega) (by omega)) wm_1088 wm_11 wm_1086 wm_1087 (by decide +kernel) ⟨by decide, by decide⟩ rfl (Nat.le_of_ble_eq_true rfl) dX9_fallsTo_53 (ro_kk (fun hr63 => ?_))
              have hp64 := f_X9_isIn_p x2 v48 (by omega) (by omega) 
              refine k_st (st' := [gI (f_X9_isIn x2 v48)]) rfl ?_
              obtain ⟨z76, hz76, hT⟩ := gl3x hT
              have j66 : ∀ (v67 : Int) (v68 : Int) (v69 : Int), ((in32 v67) ∧ (in32 v68) ∧ (in32 v69) ∧ (0 ≤ v67 ∧ v67 ≤ 15) ∧ (0 ≤ v68 ∧ v68 ≤ 3) ∧ (v69 = 0 ∨ v69 = 1)) → z76 = (v67, v68, v69) → gK D vwCl (wdM a cI cJ) lgM A p l e { frames := 3, cells := 0, slots := 0, locals := 192 } s m args below meth c 8 (gQQ D vwCl (wdM a cI cJ) lgM A kI in32 below args s) ((f_X9_fallsTo x0 x1 x2 s0), s0) s0 98 [(0, .ref (a 0)), (2, gI x1), (3, gI x2), (4, gI v67), (5, gI v68), (6, gI v48), (7, gI v69)] [] := by
                intro v67 v68 v69 hq hz
                obtain ⟨hq70, hq71, hq72, hq73, hq74, hq75⟩ := hq
                replace hT := gl3y hT hz
                refine k_iload (pc := 98) E 5 dX9_fallsTo_98 rfl ?_
                refine k_iloadn (pc := 100) E 1 dX9_fallsTo_100 rfl rfl ?_
                have kq : x1 * (v48 + x1) = x1 * v48 + 1 ∧ x1 * v48 ≤ 15 := by rcases hpre2 with h | h <;> rw [h] <;> omega
                refine k_iadd (pc := 101) E dX9_fallsTo_101 ?_
                refine k_istore (pc := 102) (lv' := [(6, gI (v48 + x1)), (0, .ref (a 0)), (2, gI x1), (3, gI x2), (4, gI v67), (5, gI v68), (7, gI v69)]) E dX9_fallsTo_102 (by decide) rfl ?_
                refine k_goto (pc := 104) (tgt := 26) E dX9_fallsTo_104 (by decide) ?_
                refine k_lv (lv' := [(0, .ref (a 0)), (2, gI x1), (3, gI x2), (4, gI v67), (5, gI v68), (6, gI (v48 + x1)), (7, gI v69)]) [1, 2, 3, 4, 5, 0, 6] rfl ?_
                exact ih v67 v68 (v48 + x1) v69 ⟨(by omega), (by omega), (by omega), (by omega), (by first | assumption | omega), (by first | assumption | omega), (by first | assumption | omega), (by first | assumption | omega), (by first | assumption | omega)⟩ (by omega) (fun w52 w53 w54 w55 hw hi => hk w52 w53 w54 w55 (hT.trans hw) hi)
              replace hT := hz76
              by_cases h65 : (f_X9_isIn x2 v48) = 0
              · replace hT := hT.trans (if_pos h65)
                refine k_if_eq_t (pc := 56) (tgt := 95) E (by omega) dX9_fallsTo_56 (by decide) h65 ?_
                refine k_iinc (pc := 95) (lv' := [(5, gI (v47 + 1)), (0, .ref (a 0)), (2, gI x1), (3, gI x2), (4, gI v46), (6, gI v48), (7, gI v49)]) E 4 dX9_fallsTo_95 rfl (by decide) rfl ?_
                refine k_lv (lv' := [(0, .ref (a 0)), (2, gI x1), (3, gI x2), (4, gI v46), (5, gI (v47 + 1)), (6, gI v48), (7, gI v49)]) [1, 2, 3, 4, 0, 5, 6] rfl ?_
                exact j66 v46 (v47 + 1) v49 ⟨(by omega), (by omega), (by omega), (by first | assumption | omega), (by first | assumption | omega), (by first | assumption | omega)⟩ hT
              · replace hT := hT.trans (if_neg h65)
                refine k_if_eq_f (pc := 56) (tgt := 95) E (by omega) dX9_fallsTo_56 (by decide) h65 ?_
                refine k_aloadn (pc := 59) E 0 dX9_fallsTo_59 rfl rfl ?_
                refine k_iload (pc := 60) E 5 dX9_fallsTo_60 rfl ?_
                refine k_mr (fun hm_s0 => ?_)
                refine k_callV (pc := 62) (np := 1) (As := [gI v48]) (st := []) (q0 := 0) E (c_X9_doesStop l D a cI cJ cS cT s0 v48 (by omega) (by first | assumption | omega)) wm_1077 wm_11 wm_1074 wm_1076 wp_38 (by decide +kernel) rfl rfl ⟨by decide, by decide⟩ rfl (Nat.le_of_ble_eq_true rfl) dX9_fallsTo_62 (ro_kk (fun hr77 => ?_))
                have hp78 := f_X9_doesStop_p v48 s0 (by omega) hm_s0 (by first | assumption | omega)
                refine k_st (st' := [gI (f_X9_doesStop v48 s0)]) rfl ?_
                obtain ⟨z90, hz90, hT⟩ := gl1x hT
                have j80 : ∀ (v81 : Int), ((in32 v81) ∧ (v81 = 0 ∨ v81 = 1)) → z90 = v81 → gK D vwCl (wdM a cI cJ) lgM A p l e { frames := 3, cells := 0, slots := 0, locals := 192 } s m args below meth c 8 (gQQ D vwCl (wdM a cI cJ) lgM A kI in32 below args s) ((f_X9_fallsTo x0 x1 x2 s0), s0) s0 73 [(0, .ref (a 0)), (2, gI x1), (3, gI x2), (4, gI v46), (6, gI v48)] [gI v81] := by
                  intro v81 hq hz
                  obtain ⟨hq88, hq89⟩ := hq
                  replace hT := gl1y hT hz
                  refine k_istore (pc := 73) (lv' := [(7, gI v81), (0, .ref (a 0)), (2, gI x1), (3, gI x2), (4, gI v46), (6, gI v48)]) E dX9_fallsTo_73 (by decide) rfl ?_
                  refine k_iload (pc := 75) E 0 dX9_fallsTo_75 rfl ?_
                  obtain ⟨z87, hz87, hT⟩ := gl1x hT
                  have j83 : ∀ (v84 : Int), ((in32 v84) ∧ (0 ≤ v84 ∧ v84 ≤ 15)) → z87 = v84 → gK D vwCl (wdM a cI cJ) lgM A p l e { frames := 3, cells := 0, slots := 0, locals := 192 } s m args below meth c 8 (gQQ D vwCl (wdM a cI cJ) lgM A kI in32 below args s) ((f_X9_fallsTo x0 x1 x2 s0), s0) s0 87 [(0, .ref (a 0)), (2, gI x1), (3, gI x2), (6, gI v48), (7, gI v81)] [gI v84] := by
                    intro v84 hq hz
                    obtain ⟨hq85, hq86⟩ := hq
                    replace hT := gl1y hT hz
                    refine k_istore (pc := 87) (lv' := [(4, gI v84), (0, .ref (a 0)), (2, gI x1), (3, gI x2), (6, gI v48), (7, gI v81)]) E dX9_fallsTo_87 (by decide) rfl ?_
                    refine k_iconst (pc := 89) E dX9_fallsTo_89 ?_
                    refine k_istore (pc := 90) (lv' := [(5, gI 0), (4, gI v84), (0, .ref (a 0)), (2, gI x1), (3, gI x2), (6, gI v48), (7, gI v81)]) E dX9_fallsTo_90 (by decide) rfl ?_
                    refine k_goto (pc := 92) (tgt := 98) E dX9_fallsTo_92 (by decide) ?_
                    refine k_lv (lv' := [(0, .ref (a 0)), (2, gI x1), (3, gI x2), (4, gI v84), (5, gI 0), (6, gI v48), (7, gI v81)]) [2, 3, 4, 1, 0, 5, 6] rfl ?_
                    exact j66 v84 0 v81 ⟨(by omega), (by omega), (by omega), (by first | assumption | omega), (by first | assumption | omega), (by first | assumption | omega)⟩ hT
                  replace hT := hz87
                  by_cases h82 : v81 = 0
                  · replace hT := hT.trans (if_pos h82)
                    refine k_if_eq_t (pc := 77) (tgt := 85) E (by omega) dX9_fallsTo_77 (by decide) h82 ?_
                    refine k_iload (pc := 85) E 4 dX9_fallsTo_85 rfl ?_
                    refine k_lv (lv' := [(0, .ref (a 0)), (2, gI x1), (3, gI x2), (6, gI v48), (7, gI v81)]) [1, 2, 3, 5, 0] rfl ?_
                    exact j83 v46 ⟨(by omega), (by first | assumption | omega)⟩ hT
                  · replace hT := hT.trans (if_neg h82)
                    refine k_if_eq_f (pc := 77) (tgt := 85) E (by omega) dX9_fallsTo_77 (by decide) h82 ?_
                    refine k_iload (pc := 80) E 5 dX9_fallsTo_80 rfl ?_
                    refine k_goto (pc := 82) (tgt := 87) E dX9_fallsTo_82 (by decide) ?_
                    refine k_lv (lv' := [(0, .ref (a 0)), (2, gI x1), (3, gI x2), (6, gI v48), (7, gI v81)]) [1, 2, 3, 5, 0] rfl ?_
                    exact j83 v48 ⟨(by omega), (by first | assumption | omega)⟩ hT
                replace hT := hz90
                by_cases h79 : (f_X9_doesStop v48 s0) = 0
                · replace hT := hT.trans (if_pos h79)
                  refine k_if_ne_f (pc := 65) (tgt := 72) E (by omega) dX9_fallsTo_65 (by decide) h79 ?_
                  refine k_iconst (pc := 68) E dX9_fallsTo_68 ?_
                  refine k_goto (pc := 69) (tgt := 73) E dX9_fallsTo_69 (by decide) ?_
                  refine k_lv (lv' := [(0, .ref (a 0)), (2, gI x1), (3, gI x2), (4, gI v46), (6, gI v48)]) [0, 1, 2, 3, 5] rfl ?_
                  exact j80 1 ⟨(by omega), (by first | assumption | omega)⟩ hT
                · replace hT := hT.trans (if_neg h79)
                  refine k_if_ne_t (pc := 65) (tgt := 72) E (by omega) dX9_fallsTo_65 (by decide) h79 ?_
                  refine k_iconst (pc := 72) E dX9_fallsTo_72 ?_
                  refine k_lv (lv' := [(0, .ref (a 0)), (2, gI x1), (3, gI x2), (4, gI v46), (6, gI v48)]) [0, 1, 2, 3, 5] rfl ?_
                  exact j80 0 ⟨(by omega), (by first | assumption | omega)⟩ hT
    refine k_lv (lv' := [(0, .ref (a 0)), (2, gI x1), (3, gI x2), (4, gI x0), (5, gI 0), (6, gI (x0 + x1)), (7, gI v5)]) [1, 2, 3, 4, 5, 6, 0] rfl ?_
    refine L50 34 x0 0 (x0 + x1) v5 ⟨(by omega), (by omega), (by omega), (by omega), (by first | assumption | omega), (by first | assumption | omega), (by first | assumption | omega), (by first | assumption | omega), (by first | assumption | omega)⟩ (by omega) (fun v109 v110 v111 v112 hw hq => ?_)
    obtain ⟨hq113, hq114, hq115, hq116, hq117, hq118, hq119, hq120, hq121⟩ := hq
    replace hT := gl4y hT hw
    refine k_iload (pc := 107) E 0 dX9_fallsTo_107 rfl ?_
    exact k_rho (congrArg (fun q => (q, s0)) hT) (k_iret (pc := 109) E dX9_fallsTo_109 (by omega))
  replace hT := hz124
  by_cases h3 : (f_X9_doesStop x0 s0) = 0
  · replace hT := hT.trans (if_pos h3)
    refine k_if_ne_f (pc := 16) (tgt := 23) E (by omega) dX9_fallsTo_16 (by decide) h3 ?_
    refine k_iconst (pc := 19) E dX9_fallsTo_19 ?_
    refine k_goto (pc := 20) (tgt := 24) E dX9_fallsTo_20 (by decide) ?_
    refine k_lv (lv' := [(0, .ref (a 0)), (2, gI x1), (3, gI x2), (4, gI x0), (5, gI 0), (6, gI (x0 + x1))]) [3, 5, 6, 2, 1, 0] rfl ?_
    exact j4 1 ⟨(by omega), (by first | assumption | omega)⟩ hT
  · replace hT := hT.trans (if_neg h3)
    refine k_if_ne_t (pc := 16) (tgt := 23) E (by omega) dX9_fallsTo_16 (by decide) h3 ?_
    refine k_iconst (pc := 23) E dX9_fallsTo_23 ?_
    refine k_lv (lv' := [(0, .ref (a 0)), (2, gI x1), (3, gI x2), (4, gI x0), (5, gI 0), (6, gI (x0 + x1))]) [3, 5, 6, 2, 1, 0] rfl ?_
    exact j4 0 ⟨(by omega), (by first | assumption | omega)⟩ hT

def w_X9_between__5 (c1 : Int) (c2 : Int) : Nat → Int → Int → Int × Int
  | 0, v1, v2 => (v1, v2)
  | n3 + 1, v1, v2 => (if c1 < v2 then (v1, v2) else gl (ior v1 (iand c2 (ishl 1 v2))) (fun v9 => (w_X9_between__5 c1 c2 n3 v9 (v2 + 1))))
theorem w_X9_between__5_s (c1 : Int) (c2 : Int) (n3 : Nat) (v1 : Int) (v2 : Int)  : w_X9_between__5 c1 c2 (n3 + 1) v1 v2 = (if c1 < v2 then (v1, v2) else gl (ior v1 (iand c2 (ishl 1 v2))) (fun v9 => (w_X9_between__5 c1 c2 n3 v9 (v2 + 1)))) := rfl
def f_X9_between_ (x0 : Int) (x1 : Int) (x2 : Int) : Int := (gl2 (w_X9_between__5 x1 x2 17 0 x0) (fun v28 v29 => v28))
theorem f_X9_between__e (x0 : Int) (x1 : Int) (x2 : Int) : f_X9_between_ x0 x1 x2 = (gl2 (w_X9_between__5 x1 x2 17 0 x0) (fun v28 v29 => v28)) := rfl
set_option maxRecDepth 100000 in
set_option maxHeartbeats 4000000 in
theorem f_X9_between__p (x0 : Int) (x1 : Int) (x2 : Int) (hx0 : in32 x0) (hx1 : in32 x1) (hx2 : in32 x2) (hpre0 : 0 ≤ x0 ∧ x0 ≤ 15 ∧ x1 ≤ 15) : (in32 (f_X9_between_ x0 x1 x2)) := by
  have hT := f_X9_between__e x0 x1 x2
  have L12 : ∀ (n13 : Nat) (v10 : Int) (v11 : Int), ((in32 v10) ∧ (in32 v11) ∧ (0 ≤ v11 ∧ v11 ≤ 16)) → 16 - v11 < (n13 : Int) → (∀ (w14 : Int) (w15 : Int), (w_X9_between__5 x1 x2 n13 v10 v11) = (w14, w15) → ((in32 w14) ∧ (in32 w15) ∧ (0 ≤ w15 ∧ w15 ≤ 16)) → (in32 (f_X9_between_ x0 x1 x2))) → (in32 (f_X9_between_ x0 x1 x2)) := by
    intro n13; induction n13 with
    | zero =>
      intro v10 v11 hq hm hk
      exfalso
      obtain ⟨hq22, hq23, hq24⟩ := hq
      omega
    | succ n13 ih =>
      intro v10 v11 hq hm hk
      obtain ⟨hq25, hq26, hq27⟩ := hq
      have hT := w_X9_between__5_s x1 x2 n13 v10 v11
      by_cases h16 : x1 < v11
      · replace hT := hT.trans (if_pos h16)
        exact hk v10 v11 hT ⟨(by omega), (by omega), (by first | assumption | omega)⟩
      · replace hT := hT.trans (if_neg h16)
        have hb17 := ishl_rg 1 v11
        have hb18 : 0 ≤ v11 ∧ v11 ≤ 15 → _ := fun q => ishl_1 q.1 q.2
        have hb19 := iand_rg x2 (ishl 1 v11)
        have hb20 := ior_rg v10 (iand x2 (ishl 1 v11))
        obtain ⟨v21, hv21, hT⟩ := glx hT
        exact ih v21 (v11 + 1) ⟨(by omega), (by omega), (by first | assumption | omega)⟩ (by omega) (fun w14 w15 hw hi => hk w14 w15 (hT.trans hw) hi)
  refine L12 17 0 x0 ⟨(by omega), (by omega), (by first | assumption | omega)⟩ (by omega) (fun v28 v29 hw hq => ?_)
  obtain ⟨hq30, hq31, hq32⟩ := hq
  replace hT := gl2y hT hw
  rw [hT]
  exact (by omega)
set_option maxRecDepth 100000 in
set_option maxHeartbeats 4000000 in
theorem c_X9_between_ (l : Launch) (D : va_G) (a : Nat → Nat) (cI cJ cS cT : ClassId) (s0 : gMem) (x0 : Int) (x1 : Int) (x2 : Int) (hx0 : in32 x0) (hx1 : in32 x1) (hx2 : in32 x2) (hpre0 : 0 ≤ x0 ∧ x0 ≤ 15 ∧ x1 ≤ 15) : gC l yX9_between_ cX9_between_ 5 (some .int) 1 64 D vwCl (gT cI cJ cS cT) (wdM a cI cJ) lgM kI in32 [gI x0, gI x1, gI x2] s0 ((f_X9_between_ x0 x1 x2), s0) := by
  refine gC_of (by decide +kernel) (hwdM a cI cJ) (Nat.le_of_ble_eq_true rfl) ?_
  intro A p e R s m args below meth c hR E
  subst hR
  have hT := f_X9_between__e x0 x1 x2
  refine k_lv0 (lv' := [(0, gI x0), (1, gI x1), (2, gI x2)]) rfl ?_
  refine k_iconst (pc := 0) E dX9_between__0 ?_
  refine k_istoren (pc := 1) (lv' := [(3, gI 0), (0, gI x0), (1, gI x1), (2, gI x2)]) E dX9_between__1 rfl (by decide) rfl ?_
  refine k_iloadn (pc := 2) E 1 dX9_between__2 rfl rfl ?_
  refine k_istore (pc := 3) (lv' := [(4, gI x0), (3, gI 0), (0, gI x0), (1, gI x1), (2, gI x2)]) E dX9_between__3 (by decide) rfl ?_
  have L12 : ∀ (n13 : Nat) (v10 : Int) (v11 : Int), ((in32 v10) ∧ (in32 v11) ∧ (0 ≤ v11 ∧ v11 ≤ 16)) → 16 - v11 < (n13 : Int) → (∀ (w14 : Int) (w15 : Int), (w_X9_between__5 x1 x2 n13 v10 v11) = (w14, w15) → ((in32 w14) ∧ (in32 w15) ∧ (0 ≤ w15 ∧ w15 ≤ 16)) → gK D vwCl (wdM a cI cJ) lgM A p l e { frames := 1, cells := 0, slots := 0, locals := 64 } s m args below meth c 5 (gQQ D vwCl (wdM a cI cJ) lgM A kI in32 below args s) ((f_X9_between_ x0 x1 x2), s0) s0 26 [(3, gI w14)] []) → gK D vwCl (wdM a cI cJ) lgM A p l e { frames := 1, cells := 0, slots := 0, locals := 64 } s m args below meth c 5 (gQQ D vwCl (wdM a cI cJ) lgM A kI in32 below args s) ((f_X9_between_ x0 x1 x2), s0) s0 5 [(1, gI x1), (2, gI x2), (3, gI v10), (4, gI v11)] [] := by
    intro n13; induction n13 with
    | zero =>
      intro v10 v11 hq hm hk
      exfalso
      obtain ⟨hq22, hq23, hq24⟩ := hq
      omega
    | succ n13 ih =>
      intro v10 v11 hq hm hk
      obtain ⟨hq25, hq26, hq27⟩ := hq
      have hT := w_X9_between__5_s x1 x2 n13 v10 v11
      refine k_iload (pc := 5) E 3 dX9_between__5 rfl ?_
      refine k_iloadn (pc := 7) E 0 dX9_between__7 rfl rfl ?_
      by_cases h16 : x1 < v11
      · replace hT := hT.trans (if_pos h16)
        refine k_icmp_gt_t (pc := 8) (tgt := 26) E (by omega) (by omega) dX9_between__8 (by decide) h16 ?_
        refine k_lv (lv' := [(3, gI v10)]) [2] rfl ?_
        exact hk v10 v11 hT ⟨(by omega), (by omega), (by first | assumption | omega)⟩
      · replace hT := hT.trans (if_neg h16)
        refine k_icmp_gt_f (pc := 8) (tgt := 26) E (by omega) (by omega) dX9_between__8 (by decide) h16 ?_
        refine k_iloadn (pc := 11) E 2 dX9_between__11 rfl rfl ?_
        refine k_iloadn (pc := 12) E 1 dX9_between__12 rfl rfl ?_
        refine k_iconst (pc := 13) E dX9_between__13 ?_
        refine k_iload (pc := 14) E 3 dX9_between__14 rfl ?_
        refine k_ishl (pc := 16) E dX9_between__16 ?_
        have hb17 := ishl_rg 1 v11
        have hb18 : 0 ≤ v11 ∧ v11 ≤ 15 → _ := fun q => ishl_1 q.1 q.2
        refine k_iand (pc := 17) E dX9_between__17 ?_
        have hb19 := iand_rg x2 (ishl 1 v11)
        refine k_ior (pc := 18) E dX9_between__18 ?_
        have hb20 := ior_rg v10 (iand x2 (ishl 1 v11))
        obtain ⟨v21, hv21, hT⟩ := glx hT
        refine k_st (st' := [gI v21]) (by rw [hv21]) ?_
        refine k_istoren (pc := 19) (lv' := [(3, gI v21), (1, gI x1), (2, gI x2), (4, gI v11)]) E dX9_between__19 rfl (by decide) rfl ?_
        refine k_iinc (pc := 20) (lv' := [(4, gI (v11 + 1)), (3, gI v21), (1, gI x1), (2, gI x2)]) E 3 dX9_between__20 rfl (by decide) rfl ?_
        refine k_goto (pc := 23) (tgt := 5) E dX9_between__23 (by decide) ?_
        refine k_lv (lv' := [(1, gI x1), (2, gI x2), (3, gI v21), (4, gI (v11 + 1))]) [2, 3, 1, 0] rfl ?_
        exact ih v21 (v11 + 1) ⟨(by omega), (by omega), (by first | assumption | omega)⟩ (by omega) (fun w14 w15 hw hi => hk w14 w15 (hT.trans hw) hi)
  refine k_lv (lv' := [(1, gI x1), (2, gI x2), (3, gI 0), (4, gI x0)]) [3, 4, 1, 0] rfl ?_
  refine L12 17 0 x0 ⟨(by omega), (by omega), (by first | assumption | omega)⟩ (by omega) (fun v28 v29 hw hq => ?_)
  obtain ⟨hq30, hq31, hq32⟩ := hq
  replace hT := gl2y hT hw
  refine k_iloadn (pc := 26) E 0 dX9_between__26 rfl rfl ?_
  exact k_rho (congrArg (fun q => (q, s0)) hT) (k_iret (pc := 27) E dX9_between__27 (by omega))

def f_X9_pushed (x0 : Int) (x1 : Int) (s0 : gMem) : Int := (if (f_X9_isIn (s0 2 1) x0) = 0 then 0 else (gl ((if x1 = 1 then x0 else (f_X9_fallsTo x0 (-1) (s0 2 1) s0))) (fun v8 => (gl ((if x1 = 2 then x0 else (f_X9_fallsTo x0 1 (s0 2 1) s0))) (fun v11 => (f_X9_between_ v8 v11 (s0 2 1)))))))
theorem f_X9_pushed_e (x0 : Int) (x1 : Int) (s0 : gMem) : f_X9_pushed x0 x1 s0 = (if (f_X9_isIn (s0 2 1) x0) = 0 then 0 else (gl ((if x1 = 1 then x0 else (f_X9_fallsTo x0 (-1) (s0 2 1) s0))) (fun v8 => (gl ((if x1 = 2 then x0 else (f_X9_fallsTo x0 1 (s0 2 1) s0))) (fun v11 => (f_X9_between_ v8 v11 (s0 2 1))))))) := rfl
set_option maxRecDepth 100000 in
set_option maxHeartbeats 4000000 in
theorem f_X9_pushed_p (x0 : Int) (x1 : Int) (s0 : gMem) (hx0 : in32 x0) (hx1 : in32 x1) (hm_s0 : gMR lgM s0) (hpre0 : TD s0) (hpre1 : 0 ≤ x0 ∧ x0 ≤ 15) : (in32 (f_X9_pushed x0 x1 s0)) := by
  have hT := f_X9_pushed_e x0 x1 s0
  have hr1 := (hm_s0 2 1).1 rfl
  have hi2 := hpre0 1
  have hp4 := f_X9_isIn_p (s0 2 1) x0 (by omega) (by omega) 
  by_cases h5 : (f_X9_isIn (s0 2 1) x0) = 0
  · replace hT := hT.trans (if_pos h5)
    rw [hT]
    exact (by omega)
  · replace hT := hT.trans (if_neg h5)
    obtain ⟨z21, hz21, hT⟩ := gl1x hT
    have j7 : ∀ (v8 : Int), ((in32 v8) ∧ (0 ≤ v8 ∧ v8 ≤ 15)) → z21 = v8 → (in32 (f_X9_pushed x0 x1 s0)) := by
      intro v8 hq hz
      obtain ⟨hq19, hq20⟩ := hq
      replace hT := gl1y hT hz
      obtain ⟨z16, hz16, hT⟩ := gl1x hT
      have j10 : ∀ (v11 : Int), ((in32 v11) ∧ (0 ≤ v11 ∧ v11 ≤ 15)) → z16 = v11 → (in32 (f_X9_pushed x0 x1 s0)) := by
        intro v11 hq hz
        obtain ⟨hq14, hq15⟩ := hq
        replace hT := gl1y hT hz
        have hp13 := f_X9_between__p v8 v11 (s0 2 1) (by omega) (by omega) (by omega) (by first | assumption | omega)
        rw [hT]
        exact (by omega)
      replace hT := hz16
      by_cases h9 : x1 = 2
      · replace hT := hT.trans (if_pos h9)
        exact j10 x0 ⟨(by omega), (by first | assumption | omega)⟩ hT
      · replace hT := hT.trans (if_neg h9)
        have hp18 := f_X9_fallsTo_p x0 1 (s0 2 1) s0 (by omega) (by omega) (by omega) hm_s0 hpre0 (by first | assumption | omega) (by first | assumption | omega)
        exact j10 (f_X9_fallsTo x0 1 (s0 2 1) s0) ⟨(by omega), (by first | assumption | omega)⟩ hT
    replace hT := hz21
    by_cases h6 : x1 = 1
    · replace hT := hT.trans (if_pos h6)
      exact j7 x0 ⟨(by omega), (by first | assumption | omega)⟩ hT
    · replace hT := hT.trans (if_neg h6)
      have hp23 := f_X9_fallsTo_p x0 (-1) (s0 2 1) s0 (by omega) (by omega) (by omega) hm_s0 hpre0 (by first | assumption | omega) (by first | assumption | omega)
      exact j7 (f_X9_fallsTo x0 (-1) (s0 2 1) s0) ⟨(by omega), (by first | assumption | omega)⟩ hT
set_option maxRecDepth 100000 in
set_option maxHeartbeats 4000000 in
theorem c_X9_pushed (l : Launch) (D : va_G) (a : Nat → Nat) (cI cJ cS cT : ClassId) (s0 : gMem) (x0 : Int) (x1 : Int) (hx0 : in32 x0) (hx1 : in32 x1) (hpre0 : TD s0) (hpre1 : 0 ≤ x0 ∧ x0 ≤ 15) : gC l yX9_pushed cX9_pushed 6 (some .int) 4 256 D vwCl (gT cI cJ cS cT) (wdM a cI cJ) lgM kI in32 [.ref (a 0), gI x0, gI x1] s0 ((f_X9_pushed x0 x1 s0), s0) := by
  refine gC_of (by decide +kernel) (hwdM a cI cJ) (Nat.le_of_ble_eq_true rfl) ?_
  intro A p e R s m args below meth c hR E
  subst hR
  have hT := f_X9_pushed_e x0 x1 s0
  refine k_lv0 (lv' := [(0, .ref (a 0)), (1, gI x0), (2, gI x1)]) rfl ?_
  refine k_mr (fun hm_s0 => ?_)
  refine k_aloadn (pc := 0) E 0 dX9_pushed_0 rfl rfl ?_
  refine k_getf (pc := 1) (q0 := 0) (f := 2) (v := .ref (a 3)) E inX9 rfl rfl (by decide) wm_900 rfl rfl dX9_pushed_1 ?_
  refine k_iconst (pc := 4) E dX9_pushed_4 ?_
  refine k_iaload (pc := 5) (q0 := 3) (t0 := 0) (k := 2) (n := 4) E rfl rfl rfl (by decide) (by omega) (by omega) dX9_pushed_5 (fun hr1 => ?_)
  have hi2 := hpre0 1
  refine k_istoren (pc := 6) (lv' := [(3, gI (s0 2 1)), (0, .ref (a 0)), (1, gI x0), (2, gI x1)]) E dX9_pushed_6 rfl (by decide) rfl ?_
  refine k_iloadn (pc := 7) E 0 dX9_pushed_7 rfl rfl ?_
  refine k_iloadn (pc := 8) E 2 dX9_pushed_8 rfl rfl ?_
  refine k_mr (fun hm_s0 => ?_)
  refine k_callS (pc := 9) (np := 2) (As := [gI (s0 2 1), gI x0]) (st := []) E (c_X9_isIn l D a cI cJ cS cT s0 (s0 2 1) x0 (by omega) (by omega)) wm_1088 wm_11 wm_1086 wm_1087 (by decide +kernel) ⟨by decide, by decide⟩ rfl (Nat.le_of_ble_eq_true rfl) dX9_pushed_9 (ro_kk (fun hr3 => ?_))
  have hp4 := f_X9_isIn_p (s0 2 1) x0 (by omega) (by omega) 
  refine k_st (st' := [gI (f_X9_isIn (s0 2 1) x0)]) rfl ?_
  by_cases h5 : (f_X9_isIn (s0 2 1) x0) = 0
  · replace hT := hT.trans (if_pos h5)
    refine k_if_ne_f (pc := 12) (tgt := 17) E (by omega) dX9_pushed_12 (by decide) h5 ?_
    refine k_iconst (pc := 15) E dX9_pushed_15 ?_
    exact k_rho (congrArg (fun q => (q, s0)) hT) (k_iret (pc := 16) E dX9_pushed_16 (by omega))
  · replace hT := hT.trans (if_neg h5)
    refine k_if_ne_t (pc := 12) (tgt := 17) E (by omega) dX9_pushed_12 (by decide) h5 ?_
    refine k_iloadn (pc := 17) E 3 dX9_pushed_17 rfl rfl ?_
    refine k_iconst (pc := 18) E dX9_pushed_18 ?_
    obtain ⟨z21, hz21, hT⟩ := gl1x hT
    have j7 : ∀ (v8 : Int), ((in32 v8) ∧ (0 ≤ v8 ∧ v8 ≤ 15)) → z21 = v8 → gK D vwCl (wdM a cI cJ) lgM A p l e { frames := 4, cells := 0, slots := 0, locals := 256 } s m args below meth c 6 (gQQ D vwCl (wdM a cI cJ) lgM A kI in32 below args s) ((f_X9_pushed x0 x1 s0), s0) s0 33 [(0, .ref (a 0)), (1, gI x0), (2, gI x1), (3, gI (s0 2 1))] [gI v8] := by
      intro v8 hq hz
      obtain ⟨hq19, hq20⟩ := hq
      replace hT := gl1y hT hz
      refine k_istore (pc := 33) (lv' := [(4, gI v8), (0, .ref (a 0)), (1, gI x0), (2, gI x1), (3, gI (s0 2 1))]) E dX9_pushed_33 (by decide) rfl ?_
      refine k_iloadn (pc := 35) E 3 dX9_pushed_35 rfl rfl ?_
      refine k_iconst (pc := 36) E dX9_pushed_36 ?_
      obtain ⟨z16, hz16, hT⟩ := gl1x hT
      have j10 : ∀ (v11 : Int), ((in32 v11) ∧ (0 ≤ v11 ∧ v11 ≤ 15)) → z16 = v11 → gK D vwCl (wdM a cI cJ) lgM A p l e { frames := 4, cells := 0, slots := 0, locals := 256 } s m args below meth c 6 (gQQ D vwCl (wdM a cI cJ) lgM A kI in32 below args s) ((f_X9_pushed x0 x1 s0), s0) s0 51 [(3, gI (s0 2 1)), (4, gI v8)] [gI v11] := by
        intro v11 hq hz
        obtain ⟨hq14, hq15⟩ := hq
        replace hT := gl1y hT hz
        refine k_istore (pc := 51) (lv' := [(5, gI v11), (3, gI (s0 2 1)), (4, gI v8)]) E dX9_pushed_51 (by decide) rfl ?_
        refine k_iload (pc := 53) E 2 dX9_pushed_53 rfl ?_
        refine k_iload (pc := 55) E 0 dX9_pushed_55 rfl ?_
        refine k_iloadn (pc := 57) E 1 dX9_pushed_57 rfl rfl ?_
        refine k_callS (pc := 58) (np := 3) (As := [gI v8, gI v11, gI (s0 2 1)]) (st := []) E (c_X9_between_ l D a cI cJ cS cT s0 v8 v11 (s0 2 1) (by omega) (by omega) (by omega) (by first | assumption | omega)) wm_1182 wm_11 wm_1180 wm_1181 (by decide +kernel) ⟨by decide, by decide⟩ rfl (Nat.le_of_ble_eq_true rfl) dX9_pushed_58 (ro_kk (fun hr12 => ?_))
        refine k_st (st' := [gI (f_X9_between_ v8 v11 (s0 2 1))]) rfl ?_
        exact k_rho (congrArg (fun q => (q, s0)) hT) (k_iret (pc := 61) E dX9_pushed_61 (by omega))
      replace hT := hz16
      by_cases h9 : x1 = 2
      · replace hT := hT.trans (if_pos h9)
        refine k_icmp_ne_f (pc := 37) (tgt := 44) E (by omega) (by omega) dX9_pushed_37 (by decide) h9 ?_
        refine k_iloadn (pc := 40) E 2 dX9_pushed_40 rfl rfl ?_
        refine k_goto (pc := 41) (tgt := 51) E dX9_pushed_41 (by decide) ?_
        refine k_lv (lv' := [(3, gI (s0 2 1)), (4, gI v8)]) [4, 0] rfl ?_
        exact j10 x0 ⟨(by omega), (by first | assumption | omega)⟩ hT
      · replace hT := hT.trans (if_neg h9)
        refine k_icmp_ne_t (pc := 37) (tgt := 44) E (by omega) (by omega) dX9_pushed_37 (by decide) h9 ?_
        refine k_aloadn (pc := 44) E 1 dX9_pushed_44 rfl rfl ?_
        refine k_iloadn (pc := 45) E 2 dX9_pushed_45 rfl rfl ?_
        refine k_iconst (pc := 46) E dX9_pushed_46 ?_
        refine k_iloadn (pc := 47) E 4 dX9_pushed_47 rfl rfl ?_
        refine k_mr (fun hm_s0 => ?_)
        refine k_callV (pc := 48) (np := 3) (As := [gI x0, gI 1, gI (s0 2 1)]) (st := []) (q0 := 0) E (c_X9_fallsTo l D a cI cJ cS cT s0 x0 1 (s0 2 1) (by omega) (by omega) (by omega) hpre0 (by first | assumption | omega) (by first | assumption | omega)) wm_1179 wm_11 wm_1176 wm_1178 wp_48 (by decide +kernel) rfl rfl ⟨by decide, by decide⟩ rfl (Nat.le_of_ble_eq_true rfl) dX9_pushed_48 (ro_kk (fun hr17 => ?_))
        have hp18 := f_X9_fallsTo_p x0 1 (s0 2 1) s0 (by omega) (by omega) (by omega) hm_s0 hpre0 (by first | assumption | omega) (by first | assumption | omega)
        refine k_st (st' := [gI (f_X9_fallsTo x0 1 (s0 2 1) s0)]) rfl ?_
        refine k_lv (lv' := [(3, gI (s0 2 1)), (4, gI v8)]) [4, 0] rfl ?_
        exact j10 (f_X9_fallsTo x0 1 (s0 2 1) s0) ⟨(by omega), (by first | assumption | omega)⟩ hT
    replace hT := hz21
    by_cases h6 : x1 = 1
    · replace hT := hT.trans (if_pos h6)
      refine k_icmp_ne_f (pc := 19) (tgt := 26) E (by omega) (by omega) dX9_pushed_19 (by decide) h6 ?_
      refine k_iloadn (pc := 22) E 2 dX9_pushed_22 rfl rfl ?_
      refine k_goto (pc := 23) (tgt := 33) E dX9_pushed_23 (by decide) ?_
      refine k_lv (lv' := [(0, .ref (a 0)), (1, gI x0), (2, gI x1), (3, gI (s0 2 1))]) [1, 2, 3, 0] rfl ?_
      exact j7 x0 ⟨(by omega), (by first | assumption | omega)⟩ hT
    · replace hT := hT.trans (if_neg h6)
      refine k_icmp_ne_t (pc := 19) (tgt := 26) E (by omega) (by omega) dX9_pushed_19 (by decide) h6 ?_
      refine k_aloadn (pc := 26) E 1 dX9_pushed_26 rfl rfl ?_
      refine k_iloadn (pc := 27) E 2 dX9_pushed_27 rfl rfl ?_
      refine k_iconst (pc := 28) E dX9_pushed_28 ?_
      refine k_iloadn (pc := 29) E 0 dX9_pushed_29 rfl rfl ?_
      refine k_mr (fun hm_s0 => ?_)
      refine k_callV (pc := 30) (np := 3) (As := [gI x0, gI (-1), gI (s0 2 1)]) (st := []) (q0 := 0) E (c_X9_fallsTo l D a cI cJ cS cT s0 x0 (-1) (s0 2 1) (by omega) (by omega) (by omega) hpre0 (by first | assumption | omega) (by first | assumption | omega)) wm_1179 wm_11 wm_1176 wm_1178 wp_48 (by decide +kernel) rfl rfl ⟨by decide, by decide⟩ rfl (Nat.le_of_ble_eq_true rfl) dX9_pushed_30 (ro_kk (fun hr22 => ?_))
      have hp23 := f_X9_fallsTo_p x0 (-1) (s0 2 1) s0 (by omega) (by omega) (by omega) hm_s0 hpre0 (by first | assumption | omega) (by first | assumption | omega)
      refine k_st (st' := [gI (f_X9_fallsTo x0 (-1) (s0 2 1) s0)]) rfl ?_
      refine k_lv (lv' := [(0, .ref (a 0)), (1, gI x0), (2, gI x1), (3, gI (s0 2 1))]) [1, 2, 3, 0] rfl ?_
      exact j7 (f_X9_fallsTo x0 (-1) (s0 2 1) s0) ⟨(by omega), (by first | assumption | omega)⟩ hT

def f_X9_push (x0 : Int) (x1 : Int) (s0 : gMem) : Int := (if (f_X9_isPlace x0) = 0 then (-5) else (if (f_X9_isSide x1) = 0 then (-7) else (f_X9_pushed x0 x1 s0)))
theorem f_X9_push_e (x0 : Int) (x1 : Int) (s0 : gMem) : f_X9_push x0 x1 s0 = (if (f_X9_isPlace x0) = 0 then (-5) else (if (f_X9_isSide x1) = 0 then (-7) else (f_X9_pushed x0 x1 s0))) := rfl
set_option maxRecDepth 100000 in
set_option maxHeartbeats 4000000 in
theorem f_X9_push_p (x0 : Int) (x1 : Int) (s0 : gMem) (hx0 : in32 x0) (hx1 : in32 x1) (hm_s0 : gMR lgM s0) (hpre0 : TD s0) : (in32 (f_X9_push x0 x1 s0)) := by
  have hT := f_X9_push_e x0 x1 s0
  have hp2 := f_X9_isPlace_p x0 (by omega) 
  by_cases h3 : (f_X9_isPlace x0) = 0
  · replace hT := hT.trans (if_pos h3)
    rw [hT]
    exact (by omega)
  · replace hT := hT.trans (if_neg h3)
    have hp5 := f_X9_isSide_p x1 (by omega) 
    by_cases h6 : (f_X9_isSide x1) = 0
    · replace hT := hT.trans (if_pos h6)
      rw [hT]
      exact (by omega)
    · replace hT := hT.trans (if_neg h6)
      have hp8 := f_X9_pushed_p x0 x1 s0 (by omega) (by omega) hm_s0 hpre0 (by first | assumption | omega)
      rw [hT]
      exact (by omega)
set_option maxRecDepth 100000 in
set_option maxHeartbeats 4000000 in
theorem c_X9_push (l : Launch) (D : va_G) (a : Nat → Nat) (cI cJ cS cT : ClassId) (s0 : gMem) (x0 : Int) (x1 : Int) (hx0 : in32 x0) (hx1 : in32 x1) (hpre0 : TD s0) : gC l yX9_push cX9_push 3 (some .int) 5 320 D vwCl (gT cI cJ cS cT) (wdM a cI cJ) lgM kI in32 [.ref (a 0), gI x0, gI x1] s0 ((f_X9_push x0 x1 s0), s0) := by
  refine gC_of (by decide +kernel) (hwdM a cI cJ) (Nat.le_of_ble_eq_true rfl) ?_
  intro A p e R s m args below meth c hR E
  subst hR
  have hT := f_X9_push_e x0 x1 s0
  refine k_lv0 (lv' := [(0, .ref (a 0)), (1, gI x0), (2, gI x1)]) rfl ?_
  refine k_mr (fun hm_s0 => ?_)
  refine k_iloadn (pc := 0) E 1 dX9_push_0 rfl rfl ?_
  refine k_mr (fun hm_s0 => ?_)
  refine k_callS (pc := 1) (np := 1) (As := [gI x0]) (st := []) E (c_X9_isPlace l D a cI cJ cS cT s0 x0 (by omega)) wm_1040 wm_11 wm_1038 wm_1039 (by decide +kernel) ⟨by decide, by decide⟩ rfl (Nat.le_of_ble_eq_true rfl) dX9_push_1 (ro_kk (fun hr1 => ?_))
  have hp2 := f_X9_isPlace_p x0 (by omega) 
  refine k_st (st' := [gI (f_X9_isPlace x0)]) rfl ?_
  by_cases h3 : (f_X9_isPlace x0) = 0
  · replace hT := hT.trans (if_pos h3)
    refine k_if_ne_f (pc := 4) (tgt := 10) E (by omega) dX9_push_4 (by decide) h3 ?_
    refine k_bipush (pc := 7) E dX9_push_7 (by decide) ?_
    exact k_rho (congrArg (fun q => (q, s0)) hT) (k_iret (pc := 9) E dX9_push_9 (by omega))
  · replace hT := hT.trans (if_neg h3)
    refine k_if_ne_t (pc := 4) (tgt := 10) E (by omega) dX9_push_4 (by decide) h3 ?_
    refine k_iloadn (pc := 10) E 2 dX9_push_10 rfl rfl ?_
    refine k_mr (fun hm_s0 => ?_)
    refine k_callS (pc := 11) (np := 1) (As := [gI x1]) (st := []) E (c_X9_isSide l D a cI cJ cS cT s0 x1 (by omega)) wm_1171 wm_11 wm_1169 wm_1170 (by decide +kernel) ⟨by decide, by decide⟩ rfl (Nat.le_of_ble_eq_true rfl) dX9_push_11 (ro_kk (fun hr4 => ?_))
    have hp5 := f_X9_isSide_p x1 (by omega) 
    refine k_st (st' := [gI (f_X9_isSide x1)]) rfl ?_
    by_cases h6 : (f_X9_isSide x1) = 0
    · replace hT := hT.trans (if_pos h6)
      refine k_if_eq_t (pc := 14) (tgt := 26) E (by omega) dX9_push_14 (by decide) h6 ?_
      refine k_bipush (pc := 26) E dX9_push_26 (by decide) ?_
      exact k_rho (congrArg (fun q => (q, s0)) hT) (k_iret (pc := 28) E dX9_push_28 (by omega))
    · replace hT := hT.trans (if_neg h6)
      refine k_if_eq_f (pc := 14) (tgt := 26) E (by omega) dX9_push_14 (by decide) h6 ?_
      refine k_aloadn (pc := 17) E 0 dX9_push_17 rfl rfl ?_
      refine k_iloadn (pc := 18) E 1 dX9_push_18 rfl rfl ?_
      refine k_iloadn (pc := 19) E 2 dX9_push_19 rfl rfl ?_
      refine k_callV (pc := 20) (np := 2) (As := [gI x0, gI x1]) (st := []) (q0 := 0) E (c_X9_pushed l D a cI cJ cS cT s0 x0 x1 (by omega) (by omega) hpre0 (by first | assumption | omega)) wm_1175 wm_11 wm_1172 wm_1174 wp_47 (by decide +kernel) rfl rfl ⟨by decide, by decide⟩ rfl (Nat.le_of_ble_eq_true rfl) dX9_push_20 (ro_kk (fun hr7 => ?_))
      refine k_st (st' := [gI (f_X9_pushed x0 x1 s0)]) rfl ?_
      refine k_goto (pc := 23) (tgt := 28) E dX9_push_23 (by decide) ?_
      exact k_rho (congrArg (fun q => (q, s0)) hT) (k_iret (pc := 28) E dX9_push_28 (by omega))

def w_X9_far_19 (c1 : Int) (s0 : gMem) : Nat → Int → Int → Int → Int × Int × Int
  | 0, v4, v5, v6 => (v4, v5, v6)
  | n7 + 1, v4, v5, v6 => (if v6 < 16 then (gl2 ((if (f_X9_isIn (s0 2 1) v6) = 0 then (v4, v5) else gl (f_X9_ones (f_X9_pushed v6 1 s0)) (fun v24 => (gl ((if v5 < v24 then v6 else v4)) (fun v27 => (gl ((if v5 < v24 then v24 else v5)) (fun v30 => (v27, v30)))))))) (fun v15 v16 => (w_X9_far_19 c1 s0 n7 v15 v16 (v6 + 1)))) else (v4, v5, v6))
theorem w_X9_far_19_s (c1 : Int) (s0 : gMem) (n7 : Nat) (v4 : Int) (v5 : Int) (v6 : Int)  : w_X9_far_19 c1 s0 (n7 + 1) v4 v5 v6 = (if v6 < 16 then (gl2 ((if (f_X9_isIn (s0 2 1) v6) = 0 then (v4, v5) else gl (f_X9_ones (f_X9_pushed v6 1 s0)) (fun v24 => (gl ((if v5 < v24 then v6 else v4)) (fun v27 => (gl ((if v5 < v24 then v24 else v5)) (fun v30 => (v27, v30)))))))) (fun v15 v16 => (w_X9_far_19 c1 s0 n7 v15 v16 (v6 + 1)))) else (v4, v5, v6)) := rfl
def f_X9_far (x0 : Int) (s0 : gMem) : Int := (if (f_X9_in x0 0 1) = 0 then (-2) else (gl3 (w_X9_far_19 x0 s0 17 (-1) (-1) 0) (fun v78 v79 v80 => (if x0 = 0 then v78 else v79))))
theorem f_X9_far_e (x0 : Int) (s0 : gMem) : f_X9_far x0 s0 = (if (f_X9_in x0 0 1) = 0 then (-2) else (gl3 (w_X9_far_19 x0 s0 17 (-1) (-1) 0) (fun v78 v79 v80 => (if x0 = 0 then v78 else v79)))) := rfl
set_option maxRecDepth 100000 in
set_option maxHeartbeats 4000000 in
theorem f_X9_far_p (x0 : Int) (s0 : gMem) (hx0 : in32 x0) (hm_s0 : gMR lgM s0) (hpre0 : TD s0) : (in32 (f_X9_far x0 s0)) := by
  have hT := f_X9_far_e x0 s0
  have hp2 := f_X9_in_p x0 0 1 (by omega) (by omega) (by omega) 
  by_cases h3 : (f_X9_in x0 0 1) = 0
  · replace hT := hT.trans (if_pos h3)
    rw [hT]
    exact (by omega)
  · replace hT := hT.trans (if_neg h3)
    have L38 : ∀ (n39 : Nat) (v35 : Int) (v36 : Int) (v37 : Int), ((in32 v35) ∧ (in32 v36) ∧ (in32 v37) ∧ (0 ≤ v37 ∧ v37 ≤ 16)) → 16 - v37 < (n39 : Int) → (∀ (w40 : Int) (w41 : Int) (w42 : Int), (w_X9_far_19 x0 s0 n39 v35 v36 v37) = (w40, w41, w42) → ((in32 w40) ∧ (in32 w41) ∧ (in32 w42) ∧ (0 ≤ w42 ∧ w42 ≤ 16)) → (in32 (f_X9_far x0 s0))) → (in32 (f_X9_far x0 s0)) := by
      intro n39; induction n39 with
      | zero =>
        intro v35 v36 v37 hq hm hk
        exfalso
        obtain ⟨hq70, hq71, hq72, hq73⟩ := hq
        omega
      | succ n39 ih =>
        intro v35 v36 v37 hq hm hk
        obtain ⟨hq74, hq75, hq76, hq77⟩ := hq
        have hT := w_X9_far_19_s x0 s0 n39 v35 v36 v37
        by_cases h43 : v37 < 16
        · replace hT := hT.trans (if_pos h43)
          have hr44 := (hm_s0 2 1).1 rfl
          have hi45 := hpre0 1
          have hp47 := f_X9_isIn_p (s0 2 1) v37 (by omega) (by omega) 
          obtain ⟨z54, hz54, hT⟩ := gl2x hT
          have j49 : ∀ (v50 : Int) (v51 : Int), ((in32 v50) ∧ (in32 v51)) → z54 = (v50, v51) → (in32 (f_X9_far x0 s0)) := by
            intro v50 v51 hq hz
            obtain ⟨hq52, hq53⟩ := hq
            replace hT := gl2y hT hz
            exact ih v50 v51 (v37 + 1) ⟨(by omega), (by omega), (by omega), (by first | assumption | omega)⟩ (by omega) (fun w40 w41 w42 hw hi => hk w40 w41 w42 (hT.trans hw) hi)
          replace hT := hz54
          by_cases h48 : (f_X9_isIn (s0 2 1) v37) = 0
          · replace hT := hT.trans (if_pos h48)
            exact j49 v35 v36 ⟨(by omega), (by omega)⟩ hT
          · replace hT := hT.trans (if_neg h48)
            have hp56 := f_X9_pushed_p v37 1 s0 (by omega) (by omega) hm_s0 hpre0 (by first | assumption | omega)
            have hp58 := f_X9_ones_p (f_X9_pushed v37 1 s0) (by omega) 
            obtain ⟨v59, hv59, hT⟩ := glx hT
            obtain ⟨z69, hz69, hT⟩ := gl1x hT
            have j61 : ∀ (v62 : Int), ((in32 v62)) → z69 = v62 → (in32 (f_X9_far x0 s0)) := by
              intro v62 hq hz
              have hq68 := hq
              replace hT := gl1y hT hz
              obtain ⟨z67, hz67, hT⟩ := gl1x hT
              have j64 : ∀ (v65 : Int), ((in32 v65)) → z67 = v65 → (in32 (f_X9_far x0 s0)) := by
                intro v65 hq hz
                have hq66 := hq
                replace hT := gl1y hT hz
                exact j49 v62 v65 ⟨(by omega), (by omega)⟩ hT
              replace hT := hz67
              by_cases h63 : v36 < v59
              · replace hT := hT.trans (if_pos h63)
                exact j64 v59 (by omega) hT
              · replace hT := hT.trans (if_neg h63)
                exact j64 v36 (by omega) hT
            replace hT := hz69
            by_cases h60 : v36 < v59
            · replace hT := hT.trans (if_pos h60)
              exact j61 v37 (by omega) hT
            · replace hT := hT.trans (if_neg h60)
              exact j61 v35 (by omega) hT
        · replace hT := hT.trans (if_neg h43)
          exact hk v35 v36 v37 hT ⟨(by omega), (by omega), (by omega), (by first | assumption | omega)⟩
    refine L38 17 (-1) (-1) 0 ⟨(by omega), (by omega), (by omega), (by first | assumption | omega)⟩ (by omega) (fun v78 v79 v80 hw hq => ?_)
    obtain ⟨hq81, hq82, hq83, hq84⟩ := hq
    replace hT := gl3y hT hw
    by_cases h85 : x0 = 0
    · replace hT := hT.trans (if_pos h85)
      rw [hT]
      exact (by omega)
    · replace hT := hT.trans (if_neg h85)
      rw [hT]
      exact (by omega)
set_option maxRecDepth 100000 in
set_option maxHeartbeats 4000000 in
theorem c_X9_far (l : Launch) (D : va_G) (a : Nat → Nat) (cI cJ cS cT : ClassId) (s0 : gMem) (x0 : Int) (hx0 : in32 x0) (hpre0 : TD s0) : gC l yX9_far cX9_far 6 (some .int) 5 320 D vwCl (gT cI cJ cS cT) (wdM a cI cJ) lgM kI in32 [.ref (a 0), gI x0] s0 ((f_X9_far x0 s0), s0) := by
  refine gC_of (by decide +kernel) (hwdM a cI cJ) (Nat.le_of_ble_eq_true rfl) ?_
  intro A p e R s m args below meth c hR E
  subst hR
  have hT := f_X9_far_e x0 s0
  refine k_lv0 (lv' := [(0, .ref (a 0)), (1, gI x0)]) rfl ?_
  refine k_mr (fun hm_s0 => ?_)
  refine k_iloadn (pc := 0) E 1 dX9_far_0 rfl rfl ?_
  refine k_iconst (pc := 1) E dX9_far_1 ?_
  refine k_iconst (pc := 2) E dX9_far_2 ?_
  refine k_mr (fun hm_s0 => ?_)
  refine k_callS (pc := 3) (np := 3) (As := [gI x0, gI 0, gI 1]) (st := []) E (c_X9_in l D a cI cJ cS cT s0 x0 0 1 (by omega) (by omega) (by omega)) wm_861 wm_11 wm_859 wm_860 (by decide +kernel) ⟨by decide, by decide⟩ rfl (Nat.le_of_ble_eq_true rfl) dX9_far_3 (ro_kk (fun hr1 => ?_))
  have hp2 := f_X9_in_p x0 0 1 (by omega) (by omega) (by omega) 
  refine k_st (st' := [gI (f_X9_in x0 0 1)]) rfl ?_
  by_cases h3 : (f_X9_in x0 0 1) = 0
  · replace hT := hT.trans (if_pos h3)
    refine k_if_ne_f (pc := 6) (tgt := 12) E (by omega) dX9_far_6 (by decide) h3 ?_
    refine k_bipush (pc := 9) E dX9_far_9 (by decide) ?_
    exact k_rho (congrArg (fun q => (q, s0)) hT) (k_iret (pc := 11) E dX9_far_11 (by omega))
  · replace hT := hT.trans (if_neg h3)
    refine k_if_ne_t (pc := 6) (tgt := 12) E (by omega) dX9_far_6 (by decide) h3 ?_
    refine k_iconst (pc := 12) E dX9_far_12 ?_
    refine k_istoren (pc := 13) (lv' := [(2, gI (-1)), (0, .ref (a 0)), (1, gI x0)]) E dX9_far_13 rfl (by decide) rfl ?_
    refine k_iconst (pc := 14) E dX9_far_14 ?_
    refine k_istoren (pc := 15) (lv' := [(3, gI (-1)), (2, gI (-1)), (0, .ref (a 0)), (1, gI x0)]) E dX9_far_15 rfl (by decide) rfl ?_
    refine k_iconst (pc := 16) E dX9_far_16 ?_
    refine k_istore (pc := 17) (lv' := [(4, gI 0), (3, gI (-1)), (2, gI (-1)), (0, .ref (a 0)), (1, gI x0)]) E dX9_far_17 (by decide) rfl ?_
    have L38 : ∀ (n39 : Nat) (v35 : Int) (v36 : Int) (v37 : Int), ((in32 v35) ∧ (in32 v36) ∧ (in32 v37) ∧ (0 ≤ v37 ∧ v37 ≤ 16)) → 16 - v37 < (n39 : Int) → (∀ (w40 : Int) (w41 : Int) (w42 : Int), (w_X9_far_19 x0 s0 n39 v35 v36 v37) = (w40, w41, w42) → ((in32 w40) ∧ (in32 w41) ∧ (in32 w42) ∧ (0 ≤ w42 ∧ w42 ≤ 16)) → gK D vwCl (wdM a cI cJ) lgM A p l e { frames := 5, cells := 0, slots := 0, locals := 320 } s m args below meth c 6 (gQQ D vwCl (wdM a cI cJ) lgM A kI in32 below args s) ((f_X9_far x0 s0), s0) s0 84 [(1, gI x0), (2, gI w40), (3, gI w41)] []) → gK D vwCl (wdM a cI cJ) lgM A p l e { frames := 5, cells := 0, slots := 0, locals := 320 } s m args below meth c 6 (gQQ D vwCl (wdM a cI cJ) lgM A kI in32 below args s) ((f_X9_far x0 s0), s0) s0 19 [(0, .ref (a 0)), (1, gI x0), (2, gI v35), (3, gI v36), (4, gI v37)] [] := by
      intro n39; induction n39 with
      | zero =>
        intro v35 v36 v37 hq hm hk
        exfalso
        obtain ⟨hq70, hq71, hq72, hq73⟩ := hq
        omega
      | succ n39 ih =>
        intro v35 v36 v37 hq hm hk
        obtain ⟨hq74, hq75, hq76, hq77⟩ := hq
        have hT := w_X9_far_19_s x0 s0 n39 v35 v36 v37
        refine k_iload (pc := 19) E 4 dX9_far_19 rfl ?_
        refine k_bipush (pc := 21) E dX9_far_21 (by decide) ?_
        by_cases h43 : v37 < 16
        · replace hT := hT.trans (if_pos h43)
          refine k_icmp_ge_f (pc := 23) (tgt := 84) E (by omega) (by omega) dX9_far_23 (by decide) h43 ?_
          refine k_aloadn (pc := 26) E 0 dX9_far_26 rfl rfl ?_
          refine k_getf (pc := 27) (q0 := 0) (f := 2) (v := .ref (a 3)) E inX9 rfl rfl (by decide) wm_900 rfl rfl dX9_far_27 ?_
          refine k_iconst (pc := 30) E dX9_far_30 ?_
          refine k_iaload (pc := 31) (q0 := 3) (t0 := 0) (k := 2) (n := 4) E rfl rfl rfl (by decide) (by omega) (by omega) dX9_far_31 (fun hr44 => ?_)
          have hi45 := hpre0 1
          refine k_iload (pc := 32) E 4 dX9_far_32 rfl ?_
          refine k_mr (fun hm_s0 => ?_)
          refine k_callS (pc := 34) (np := 2) (As := [gI (s0 2 1), gI v37]) (st := []) E (c_X9_isIn l D a cI cJ cS cT s0 (s0 2 1) v37 (by omega) (by omega)) wm_1088 wm_11 wm_1086 wm_1087 (by decide +kernel) ⟨by decide, by decide⟩ rfl (Nat.le_of_ble_eq_true rfl) dX9_far_34 (ro_kk (fun hr46 => ?_))
          have hp47 := f_X9_isIn_p (s0 2 1) v37 (by omega) (by omega) 
          refine k_st (st' := [gI (f_X9_isIn (s0 2 1) v37)]) rfl ?_
          obtain ⟨z54, hz54, hT⟩ := gl2x hT
          have j49 : ∀ (v50 : Int) (v51 : Int), ((in32 v50) ∧ (in32 v51)) → z54 = (v50, v51) → gK D vwCl (wdM a cI cJ) lgM A p l e { frames := 5, cells := 0, slots := 0, locals := 320 } s m args below meth c 6 (gQQ D vwCl (wdM a cI cJ) lgM A kI in32 below args s) ((f_X9_far x0 s0), s0) s0 78 [(0, .ref (a 0)), (1, gI x0), (2, gI v50), (3, gI v51), (4, gI v37)] [] := by
            intro v50 v51 hq hz
            obtain ⟨hq52, hq53⟩ := hq
            replace hT := gl2y hT hz
            refine k_iinc (pc := 78) (lv' := [(4, gI (v37 + 1)), (0, .ref (a 0)), (1, gI x0), (2, gI v50), (3, gI v51)]) E 4 dX9_far_78 rfl (by decide) rfl ?_
            refine k_goto (pc := 81) (tgt := 19) E dX9_far_81 (by decide) ?_
            refine k_lv (lv' := [(0, .ref (a 0)), (1, gI x0), (2, gI v50), (3, gI v51), (4, gI (v37 + 1))]) [1, 2, 3, 4, 0] rfl ?_
            exact ih v50 v51 (v37 + 1) ⟨(by omega), (by omega), (by omega), (by first | assumption | omega)⟩ (by omega) (fun w40 w41 w42 hw hi => hk w40 w41 w42 (hT.trans hw) hi)
          replace hT := hz54
          by_cases h48 : (f_X9_isIn (s0 2 1) v37) = 0
          · replace hT := hT.trans (if_pos h48)
            refine k_if_eq_t (pc := 37) (tgt := 78) E (by omega) dX9_far_37 (by decide) h48 ?_
            exact j49 v35 v36 ⟨(by omega), (by omega)⟩ hT
          · replace hT := hT.trans (if_neg h48)
            refine k_if_eq_f (pc := 37) (tgt := 78) E (by omega) dX9_far_37 (by decide) h48 ?_
            refine k_aloadn (pc := 40) E 0 dX9_far_40 rfl rfl ?_
            refine k_iload (pc := 41) E 4 dX9_far_41 rfl ?_
            refine k_iconst (pc := 43) E dX9_far_43 ?_
            refine k_callV (pc := 44) (np := 2) (As := [gI v37, gI 1]) (st := []) (q0 := 0) E (c_X9_pushed l D a cI cJ cS cT s0 v37 1 (by omega) (by omega) hpre0 (by first | assumption | omega)) wm_1175 wm_11 wm_1172 wm_1174 wp_47 (by decide +kernel) rfl rfl ⟨by decide, by decide⟩ rfl (Nat.le_of_ble_eq_true rfl) dX9_far_44 (ro_kk (fun hr55 => ?_))
            refine k_st (st' := [gI (f_X9_pushed v37 1 s0)]) rfl ?_
            refine k_mr (fun hm_s0 => ?_)
            refine k_callS (pc := 47) (np := 1) (As := [gI (f_X9_pushed v37 1 s0)]) (st := []) E (c_X9_ones l D a cI cJ cS cT s0 (f_X9_pushed v37 1 s0) (by omega)) wm_1047 wm_11 wm_1045 wm_1046 (by decide +kernel) ⟨by decide, by decide⟩ rfl (Nat.le_of_ble_eq_true rfl) dX9_far_47 (ro_kk (fun hr57 => ?_))
            have hp58 := f_X9_ones_p (f_X9_pushed v37 1 s0) (by omega) 
            refine k_st (st' := [gI (f_X9_ones (f_X9_pushed v37 1 s0))]) rfl ?_
            obtain ⟨v59, hv59, hT⟩ := glx hT
            refine k_st (st' := [gI v59]) (by rw [hv59]) ?_
            refine k_istore (pc := 50) (lv' := [(5, gI v59), (0, .ref (a 0)), (1, gI x0), (2, gI v35), (3, gI v36), (4, gI v37)]) E dX9_far_50 (by decide) rfl ?_
            refine k_iload (pc := 52) E 0 dX9_far_52 rfl ?_
            refine k_iloadn (pc := 54) E 4 dX9_far_54 rfl rfl ?_
            obtain ⟨z69, hz69, hT⟩ := gl1x hT
            have j61 : ∀ (v62 : Int), ((in32 v62)) → z69 = v62 → gK D vwCl (wdM a cI cJ) lgM A p l e { frames := 5, cells := 0, slots := 0, locals := 320 } s m args below meth c 6 (gQQ D vwCl (wdM a cI cJ) lgM A kI in32 below args s) ((f_X9_far x0 s0), s0) s0 64 [(0, .ref (a 0)), (1, gI x0), (3, gI v36), (4, gI v37), (5, gI v59)] [gI v62] := by
              intro v62 hq hz
              have hq68 := hq
              replace hT := gl1y hT hz
              refine k_istoren (pc := 64) (lv' := [(2, gI v62), (0, .ref (a 0)), (1, gI x0), (3, gI v36), (4, gI v37), (5, gI v59)]) E dX9_far_64 rfl (by decide) rfl ?_
              refine k_iload (pc := 65) E 5 dX9_far_65 rfl ?_
              refine k_iloadn (pc := 67) E 3 dX9_far_67 rfl rfl ?_
              obtain ⟨z67, hz67, hT⟩ := gl1x hT
              have j64 : ∀ (v65 : Int), ((in32 v65)) → z67 = v65 → gK D vwCl (wdM a cI cJ) lgM A p l e { frames := 5, cells := 0, slots := 0, locals := 320 } s m args below meth c 6 (gQQ D vwCl (wdM a cI cJ) lgM A kI in32 below args s) ((f_X9_far x0 s0), s0) s0 77 [(0, .ref (a 0)), (1, gI x0), (2, gI v62), (4, gI v37)] [gI v65] := by
                intro v65 hq hz
                have hq66 := hq
                replace hT := gl1y hT hz
                refine k_istoren (pc := 77) (lv' := [(3, gI v65), (0, .ref (a 0)), (1, gI x0), (2, gI v62), (4, gI v37)]) E dX9_far_77 rfl (by decide) rfl ?_
                refine k_lv (lv' := [(0, .ref (a 0)), (1, gI x0), (2, gI v62), (3, gI v65), (4, gI v37)]) [1, 2, 3, 0, 4] rfl ?_
                exact j49 v62 v65 ⟨(by omega), (by omega)⟩ hT
              replace hT := hz67
              by_cases h63 : v36 < v59
              · replace hT := hT.trans (if_pos h63)
                refine k_icmp_le_f (pc := 68) (tgt := 76) E (by omega) (by omega) dX9_far_68 (by decide) h63 ?_
                refine k_iload (pc := 71) E 5 dX9_far_71 rfl ?_
                refine k_goto (pc := 73) (tgt := 77) E dX9_far_73 (by decide) ?_
                refine k_lv (lv' := [(0, .ref (a 0)), (1, gI x0), (2, gI v62), (4, gI v37)]) [1, 2, 0, 4] rfl ?_
                exact j64 v59 (by omega) hT
              · replace hT := hT.trans (if_neg h63)
                refine k_icmp_le_t (pc := 68) (tgt := 76) E (by omega) (by omega) dX9_far_68 (by decide) h63 ?_
                refine k_iloadn (pc := 76) E 3 dX9_far_76 rfl rfl ?_
                refine k_lv (lv' := [(0, .ref (a 0)), (1, gI x0), (2, gI v62), (4, gI v37)]) [1, 2, 0, 4] rfl ?_
                exact j64 v36 (by omega) hT
            replace hT := hz69
            by_cases h60 : v36 < v59
            · replace hT := hT.trans (if_pos h60)
              refine k_icmp_le_f (pc := 55) (tgt := 63) E (by omega) (by omega) dX9_far_55 (by decide) h60 ?_
              refine k_iload (pc := 58) E 5 dX9_far_58 rfl ?_
              refine k_goto (pc := 60) (tgt := 64) E dX9_far_60 (by decide) ?_
              refine k_lv (lv' := [(0, .ref (a 0)), (1, gI x0), (3, gI v36), (4, gI v37), (5, gI v59)]) [1, 2, 4, 5, 0] rfl ?_
              exact j61 v37 (by omega) hT
            · replace hT := hT.trans (if_neg h60)
              refine k_icmp_le_t (pc := 55) (tgt := 63) E (by omega) (by omega) dX9_far_55 (by decide) h60 ?_
              refine k_iloadn (pc := 63) E 3 dX9_far_63 rfl rfl ?_
              refine k_lv (lv' := [(0, .ref (a 0)), (1, gI x0), (3, gI v36), (4, gI v37), (5, gI v59)]) [1, 2, 4, 5, 0] rfl ?_
              exact j61 v35 (by omega) hT
        · replace hT := hT.trans (if_neg h43)
          refine k_icmp_ge_t (pc := 23) (tgt := 84) E (by omega) (by omega) dX9_far_23 (by decide) h43 ?_
          refine k_lv (lv' := [(1, gI x0), (2, gI v35), (3, gI v36)]) [1, 2, 3] rfl ?_
          exact hk v35 v36 v37 hT ⟨(by omega), (by omega), (by omega), (by first | assumption | omega)⟩
    refine k_lv (lv' := [(0, .ref (a 0)), (1, gI x0), (2, gI (-1)), (3, gI (-1)), (4, gI 0)]) [3, 4, 2, 1, 0] rfl ?_
    refine L38 17 (-1) (-1) 0 ⟨(by omega), (by omega), (by omega), (by first | assumption | omega)⟩ (by omega) (fun v78 v79 v80 hw hq => ?_)
    obtain ⟨hq81, hq82, hq83, hq84⟩ := hq
    replace hT := gl3y hT hw
    refine k_iloadn (pc := 84) E 0 dX9_far_84 rfl rfl ?_
    by_cases h85 : x0 = 0
    · replace hT := hT.trans (if_pos h85)
      refine k_if_ne_f (pc := 85) (tgt := 92) E (by omega) dX9_far_85 (by decide) h85 ?_
      refine k_iloadn (pc := 88) E 1 dX9_far_88 rfl rfl ?_
      refine k_goto (pc := 89) (tgt := 93) E dX9_far_89 (by decide) ?_
      exact k_rho (congrArg (fun q => (q, s0)) hT) (k_iret (pc := 93) E dX9_far_93 (by omega))
    · replace hT := hT.trans (if_neg h85)
      refine k_if_ne_t (pc := 85) (tgt := 92) E (by omega) dX9_far_85 (by decide) h85 ?_
      refine k_iloadn (pc := 92) E 2 dX9_far_92 rfl rfl ?_
      exact k_rho (congrArg (fun q => (q, s0)) hT) (k_iret (pc := 93) E dX9_far_93 (by omega))

def f_X9_tip (x0 : Int) (x1 : Int) (s0 : gMem) : gRes := (if (f_X9_isPlace x0) = 0 then ((-5), s0) else (if (f_X9_isSide x1) = 0 then ((-7), s0) else gl (mset s0 2 1 (iand (s0 2 1) (ixor (f_X9_pushed x0 x1 s0) (-1)))) (fun s13 => ((f_X9_ones (f_X9_pushed x0 x1 s0)), s13))))
theorem f_X9_tip_e (x0 : Int) (x1 : Int) (s0 : gMem) : f_X9_tip x0 x1 s0 = (if (f_X9_isPlace x0) = 0 then ((-5), s0) else (if (f_X9_isSide x1) = 0 then ((-7), s0) else gl (mset s0 2 1 (iand (s0 2 1) (ixor (f_X9_pushed x0 x1 s0) (-1)))) (fun s13 => ((f_X9_ones (f_X9_pushed x0 x1 s0)), s13)))) := rfl
set_option maxRecDepth 100000 in
set_option maxHeartbeats 4000000 in
theorem f_X9_tip_p (x0 : Int) (x1 : Int) (s0 : gMem) (hx0 : in32 x0) (hx1 : in32 x1) (hm_s0 : gMR lgM s0) (hpre0 : TD s0) (rZ : Int) (sZ : gMem) (hres : f_X9_tip x0 x1 s0 = (rZ, sZ)) : (fr [2] s0 sZ) ∧ (gMR lgM sZ) ∧ (in32 rZ) ∧ (TD sZ) := by
  have hT := f_X9_tip_e x0 x1 s0
  have hf_s0 : fr [2] s0 s0 := fr.rf _ _
  have hTD_s0 := hpre0
  have hp2 := f_X9_isPlace_p x0 (by omega) 
  by_cases h3 : (f_X9_isPlace x0) = 0
  · replace hT := hT.trans (if_pos h3)
    obtain ⟨rfl, rfl⟩ := Prod.mk.inj (hT.symm.trans hres)
    exact ⟨hf_s0, hm_s0, (by omega), hTD_s0⟩
  · replace hT := hT.trans (if_neg h3)
    have hp5 := f_X9_isSide_p x1 (by omega) 
    by_cases h6 : (f_X9_isSide x1) = 0
    · replace hT := hT.trans (if_pos h6)
      obtain ⟨rfl, rfl⟩ := Prod.mk.inj (hT.symm.trans hres)
      exact ⟨hf_s0, hm_s0, (by omega), hTD_s0⟩
    · replace hT := hT.trans (if_neg h6)
      have hp8 := f_X9_pushed_p x0 x1 s0 (by omega) (by omega) hm_s0 hTD_s0 (by first | assumption | omega)
      have hr9 := (hm_s0 2 1).1 rfl
      have hi10 := hTD_s0 1
      have hb11 := ixor_rg (f_X9_pushed x0 x1 s0) (-1)
      have hb12 := iand_rg (s0 2 1) (ixor (f_X9_pushed x0 x1 s0) (-1))
      have kn := iand_nn (ixor (f_X9_pushed x0 x1 s0) (-1)) (x := s0 2 1) (by omega) (by omega)
      obtain ⟨s13, hs13, hT⟩ := glx hT
      have hf_s13 : fr [2] s0 s13 := hs13 ▸ hf_s0.set (by decide)
      have hm_s13 : gMR lgM s13 := hs13 ▸ hm_s0.set32 rfl (by omega)
      have hTD_s13 : TD s13 := hs13 ▸ TD_set hTD_s0 (by omega)
      have hp15 := f_X9_ones_p (f_X9_pushed x0 x1 s0) (by omega) 
      obtain ⟨rfl, rfl⟩ := Prod.mk.inj (hT.symm.trans hres)
      exact ⟨hf_s13, hm_s13, (by omega), hTD_s13⟩
set_option maxRecDepth 100000 in
set_option maxHeartbeats 4000000 in
theorem c_X9_tip (l : Launch) (D : va_G) (a : Nat → Nat) (cI cJ cS cT : ClassId) (s0 : gMem) (x0 : Int) (x1 : Int) (hx0 : in32 x0) (hx1 : in32 x1) (hpre0 : TD s0) : gC l yX9_tip cX9_tip 4 (some .int) 5 320 D vwCl (gT cI cJ cS cT) (wdM a cI cJ) lgM kI in32 [.ref (a 0), gI x0, gI x1] s0 (f_X9_tip x0 x1 s0) := by
  refine gC_of (by decide +kernel) (hwdM a cI cJ) (Nat.le_of_ble_eq_true rfl) ?_
  intro A p e R s m args below meth c hR E
  subst hR
  have hT := f_X9_tip_e x0 x1 s0
  have hf_s0 : fr [2] s0 s0 := fr.rf _ _
  refine k_lv0 (lv' := [(0, .ref (a 0)), (1, gI x0), (2, gI x1)]) rfl ?_
  refine k_mr (fun hm_s0 => ?_)
  have hTD_s0 := hpre0
  refine k_iloadn (pc := 0) E 1 dX9_tip_0 rfl rfl ?_
  refine k_mr (fun hm_s0 => ?_)
  refine k_callS (pc := 1) (np := 1) (As := [gI x0]) (st := []) E (c_X9_isPlace l D a cI cJ cS cT s0 x0 (by omega)) wm_1040 wm_11 wm_1038 wm_1039 (by decide +kernel) ⟨by decide, by decide⟩ rfl (Nat.le_of_ble_eq_true rfl) dX9_tip_1 (ro_kk (fun hr1 => ?_))
  have hp2 := f_X9_isPlace_p x0 (by omega) 
  refine k_st (st' := [gI (f_X9_isPlace x0)]) rfl ?_
  by_cases h3 : (f_X9_isPlace x0) = 0
  · replace hT := hT.trans (if_pos h3)
    refine k_if_ne_f (pc := 4) (tgt := 10) E (by omega) dX9_tip_4 (by decide) h3 ?_
    refine k_bipush (pc := 7) E dX9_tip_7 (by decide) ?_
    exact k_rho hT (k_iret (pc := 9) E dX9_tip_9 (by omega))
  · replace hT := hT.trans (if_neg h3)
    refine k_if_ne_t (pc := 4) (tgt := 10) E (by omega) dX9_tip_4 (by decide) h3 ?_
    refine k_iloadn (pc := 10) E 2 dX9_tip_10 rfl rfl ?_
    refine k_mr (fun hm_s0 => ?_)
    refine k_callS (pc := 11) (np := 1) (As := [gI x1]) (st := []) E (c_X9_isSide l D a cI cJ cS cT s0 x1 (by omega)) wm_1171 wm_11 wm_1169 wm_1170 (by decide +kernel) ⟨by decide, by decide⟩ rfl (Nat.le_of_ble_eq_true rfl) dX9_tip_11 (ro_kk (fun hr4 => ?_))
    have hp5 := f_X9_isSide_p x1 (by omega) 
    refine k_st (st' := [gI (f_X9_isSide x1)]) rfl ?_
    by_cases h6 : (f_X9_isSide x1) = 0
    · replace hT := hT.trans (if_pos h6)
      refine k_if_ne_f (pc := 14) (tgt := 20) E (by omega) dX9_tip_14 (by decide) h6 ?_
      refine k_bipush (pc := 17) E dX9_tip_17 (by decide) ?_
      exact k_rho hT (k_iret (pc := 19) E dX9_tip_19 (by omega))
    · replace hT := hT.trans (if_neg h6)
      refine k_if_ne_t (pc := 14) (tgt := 20) E (by omega) dX9_tip_14 (by decide) h6 ?_
      refine k_aloadn (pc := 20) E 0 dX9_tip_20 rfl rfl ?_
      refine k_iloadn (pc := 21) E 1 dX9_tip_21 rfl rfl ?_
      refine k_iloadn (pc := 22) E 2 dX9_tip_22 rfl rfl ?_
      refine k_callV (pc := 23) (np := 2) (As := [gI x0, gI x1]) (st := []) (q0 := 0) E (c_X9_pushed l D a cI cJ cS cT s0 x0 x1 (by omega) (by omega) hTD_s0 (by first | assumption | omega)) wm_1175 wm_11 wm_1172 wm_1174 wp_47 (by decide +kernel) rfl rfl ⟨by decide, by decide⟩ rfl (Nat.le_of_ble_eq_true rfl) dX9_tip_23 (ro_kk (fun hr7 => ?_))
      refine k_st (st' := [gI (f_X9_pushed x0 x1 s0)]) rfl ?_
      refine k_istoren (pc := 26) (lv' := [(3, gI (f_X9_pushed x0 x1 s0)), (0, .ref (a 0)), (1, gI x0), (2, gI x1)]) E dX9_tip_26 rfl (by decide) rfl ?_
      refine k_aloadn (pc := 27) E 1 dX9_tip_27 rfl rfl ?_
      refine k_getf (pc := 28) (q0 := 0) (f := 2) (v := .ref (a 3)) E inX9 rfl rfl (by decide) wm_900 rfl rfl dX9_tip_28 ?_
      refine k_iconst (pc := 31) E dX9_tip_31 ?_
      refine k_dup2 (pc := 32) E dX9_tip_32 rfl rfl ?_
      refine k_iaload (pc := 33) (q0 := 3) (t0 := 0) (k := 2) (n := 4) E rfl rfl rfl (by decide) (by omega) (by omega) dX9_tip_33 (fun hr9 => ?_)
      have hi10 := hTD_s0 1
      refine k_iloadn (pc := 34) E 0 dX9_tip_34 rfl rfl ?_
      refine k_iconst (pc := 35) E dX9_tip_35 ?_
      refine k_ixor (pc := 36) E dX9_tip_36 ?_
      have hb11 := ixor_rg (f_X9_pushed x0 x1 s0) (-1)
      refine k_iand (pc := 37) E dX9_tip_37 ?_
      have hb12 := iand_rg (s0 2 1) (ixor (f_X9_pushed x0 x1 s0) (-1))
      have kn := iand_nn (ixor (f_X9_pushed x0 x1 s0) (-1)) (x := s0 2 1) (by omega) (by omega)
      refine k_iastore (pc := 38) (q0 := 3) (t0 := 0) (k := 2) (n := 4) E rfl rfl rfl rfl (by decide) (by omega) (by omega) (by omega) dX9_tip_38 ?_
      obtain ⟨s13, hs13, hT⟩ := glx hT
      refine k_sg hs13.symm ?_
      have hf_s13 : fr [2] s0 s13 := hs13 ▸ hf_s0.set (by decide)
      have hTD_s13 : TD s13 := hs13 ▸ TD_set hTD_s0 (by omega)
      refine k_iloadn (pc := 39) E 0 dX9_tip_39 rfl rfl ?_
      refine k_mr (fun hm_s13 => ?_)
      refine k_callS (pc := 40) (np := 1) (As := [gI (f_X9_pushed x0 x1 s0)]) (st := []) E (c_X9_ones l D a cI cJ cS cT s13 (f_X9_pushed x0 x1 s0) (by omega)) wm_1047 wm_11 wm_1045 wm_1046 (by decide +kernel) ⟨by decide, by decide⟩ rfl (Nat.le_of_ble_eq_true rfl) dX9_tip_40 (ro_kk (fun hr14 => ?_))
      have hp15 := f_X9_ones_p (f_X9_pushed x0 x1 s0) (by omega) 
      refine k_st (st' := [gI (f_X9_ones (f_X9_pushed x0 x1 s0))]) rfl ?_
      exact k_rho hT (k_iret (pc := 43) E dX9_tip_43 (by omega))

def w_X9_lowest_16 (c0 : Int) (c2 : Int) (c4 : Int) : Nat → Int → Int → Int × Int
  | 0, v2, v3 => (v2, v3)
  | n4 + 1, v2, v3 => (if v3 = 0 then (v2, v3) else (w_X9_lowest_16 c0 c2 c4 n4 v3 (v2 % v3)))
theorem w_X9_lowest_16_s (c0 : Int) (c2 : Int) (c4 : Int) (n4 : Nat) (v2 : Int) (v3 : Int)  : w_X9_lowest_16 c0 c2 c4 (n4 + 1) v2 v3 = (if v3 = 0 then (v2, v3) else (w_X9_lowest_16 c0 c2 c4 n4 v3 (v2 % v3))) := rfl
def f_X9_lowest (x0 : Int) (x1 : Int) (x2 : Int) : Int := (if x0 = 0 then x2 else (gl2 (w_X9_lowest_16 x0 x1 x2 21 x0 x1) (fun v27 v28 => (gl ((if x2 = 0 then x0 else x1)) (fun v35 => (v35 / v27))))))
theorem f_X9_lowest_e (x0 : Int) (x1 : Int) (x2 : Int) : f_X9_lowest x0 x1 x2 = (if x0 = 0 then x2 else (gl2 (w_X9_lowest_16 x0 x1 x2 21 x0 x1) (fun v27 v28 => (gl ((if x2 = 0 then x0 else x1)) (fun v35 => (v35 / v27)))))) := rfl
set_option maxRecDepth 100000 in
set_option maxHeartbeats 4000000 in
theorem f_X9_lowest_p (x0 : Int) (x1 : Int) (x2 : Int) (hx0 : in64 x0) (hx1 : in64 x1) (hx2 : in32 x2) (hpre0 : 0 ≤ x0 ∧ x0 ≤ 20) (hpre1 : 0 < x1 ∧ x1 ≤ 20) : (in64 (f_X9_lowest x0 x1 x2)) := by
  have hT := f_X9_lowest_e x0 x1 x2
  by_cases h1 : x0 = 0
  · replace hT := hT.trans (if_pos h1)
    rw [hT]
    exact (by omega)
  · replace hT := hT.trans (if_neg h1)
    have L11 : ∀ (n12 : Nat) (v9 : Int) (v10 : Int), ((in64 v9) ∧ (in64 v10) ∧ (0 < v9) ∧ (0 ≤ v10)) → v10 < (n12 : Int) → (∀ (w13 : Int) (w14 : Int), (w_X9_lowest_16 x0 x1 x2 n12 v9 v10) = (w13, w14) → ((in64 w13) ∧ (in64 w14) ∧ (0 < w13) ∧ (0 ≤ w14)) → (in64 (f_X9_lowest x0 x1 x2))) → (in64 (f_X9_lowest x0 x1 x2)) := by
      intro n12; induction n12 with
      | zero =>
        intro v9 v10 hq hm hk
        exfalso
        obtain ⟨hq19, hq20, hq21, hq22⟩ := hq
        omega
      | succ n12 ih =>
        intro v9 v10 hq hm hk
        obtain ⟨hq23, hq24, hq25, hq26⟩ := hq
        have hT := w_X9_lowest_16_s x0 x1 x2 n12 v9 v10
        by_cases h15 : v10 = 0
        · replace hT := hT.trans (if_pos h15)
          exact hk v9 v10 hT ⟨(by omega), (by omega), (by first | assumption | omega), (by first | assumption | omega)⟩
        · replace hT := hT.trans (if_neg h15)
          have hd16 : (0 : Int) ≤ v9 := (by omega)
          have hd17 : (0 : Int) < v10 := (by omega)
          have hb18 := rm_rg (x := v9) hd17
          exact ih v10 (v9 % v10) ⟨(by omega), (by omega), (by first | assumption | omega), (by first | assumption | omega)⟩ (by omega) (fun w13 w14 hw hi => hk w13 w14 (hT.trans hw) hi)
    refine L11 21 x0 x1 ⟨(by omega), (by omega), (by first | assumption | omega), (by first | assumption | omega)⟩ (by omega) (fun v27 v28 hw hq => ?_)
    obtain ⟨hq29, hq30, hq31, hq32⟩ := hq
    replace hT := gl2y hT hw
    obtain ⟨z40, hz40, hT⟩ := gl1x hT
    have j34 : ∀ (v35 : Int), ((in64 v35)) → z40 = v35 → (in64 (f_X9_lowest x0 x1 x2)) := by
      intro v35 hq hz
      have hq39 := hq
      replace hT := gl1y hT hz
      have hd36 : (0 : Int) ≤ v35 := (by omega)
      have hd37 : (0 : Int) < v27 := (by omega)
      have hb38 := dv_rg hd36 hd37
      rw [hT]
      exact (by omega)
    replace hT := hz40
    by_cases h33 : x2 = 0
    · replace hT := hT.trans (if_pos h33)
      exact j34 x0 (by omega) hT
    · replace hT := hT.trans (if_neg h33)
      exact j34 x1 (by omega) hT
set_option maxRecDepth 100000 in
set_option maxHeartbeats 4000000 in
theorem c_X9_lowest (l : Launch) (D : va_G) (a : Nat → Nat) (cI cJ cS cT : ClassId) (s0 : gMem) (x0 : Int) (x1 : Int) (x2 : Int) (hx0 : in64 x0) (hx1 : in64 x1) (hx2 : in32 x2) (hpre0 : 0 ≤ x0 ∧ x0 ≤ 20) (hpre1 : 0 < x1 ∧ x1 ≤ 20) : gC l yX9_lowest cX9_lowest 11 (some .long) 1 64 D vwCl (gT cI cJ cS cT) (wdM a cI cJ) lgM kJ in64 [gL x0, gL x1, gI x2] s0 ((f_X9_lowest x0 x1 x2), s0) := by
  refine gC_of (by decide +kernel) (hwdM a cI cJ) (Nat.le_of_ble_eq_true rfl) ?_
  intro A p e R s m args below meth c hR E
  subst hR
  have hT := f_X9_lowest_e x0 x1 x2
  refine k_lv0 (lv' := [(0, gL x0), (2, gL x1), (4, gI x2)]) rfl ?_
  refine k_lloadn (pc := 0) E 0 dX9_lowest_0 rfl rfl ?_
  refine k_lconst0 (pc := 1) E dX9_lowest_1 ?_
  by_cases h1 : x0 = 0
  · replace hT := hT.trans (if_pos h1)
    refine k_lcmp (pc := 2) E dX9_lowest_2 (by omega) (by omega) ?_
    refine k_if_ne_f (pc := 3) (tgt := 10) E (by (repeat' split) <;> omega) dX9_lowest_3 (by decide) (by (repeat' split) <;> omega) ?_
    refine k_iload (pc := 6) E 2 dX9_lowest_6 rfl ?_
    refine k_i2l (pc := 8) E dX9_lowest_8 (by omega) ?_
    exact k_rho (congrArg (fun q => (q, s0)) hT) (k_lret (pc := 9) E dX9_lowest_9 (by omega))
  · replace hT := hT.trans (if_neg h1)
    refine k_lcmp (pc := 2) E dX9_lowest_2 (by omega) (by omega) ?_
    refine k_if_ne_t (pc := 3) (tgt := 10) E (by (repeat' split) <;> omega) dX9_lowest_3 (by decide) (by (repeat' split) <;> omega) ?_
    refine k_lloadn (pc := 10) E 0 dX9_lowest_10 rfl rfl ?_
    refine k_lstore (pc := 11) (lv' := [(5, gL x0), (0, gL x0), (2, gL x1), (4, gI x2)]) E dX9_lowest_11 (by decide) rfl ?_
    refine k_lloadn (pc := 13) E 2 dX9_lowest_13 rfl rfl ?_
    refine k_lstore (pc := 14) (lv' := [(7, gL x1), (5, gL x0), (0, gL x0), (2, gL x1), (4, gI x2)]) E dX9_lowest_14 (by decide) rfl ?_
    have L11 : ∀ (n12 : Nat) (v9 : Int) (v10 : Int), ((in64 v9) ∧ (in64 v10) ∧ (0 < v9) ∧ (0 ≤ v10)) → v10 < (n12 : Int) → (∀ (w13 : Int) (w14 : Int), (w_X9_lowest_16 x0 x1 x2 n12 v9 v10) = (w13, w14) → ((in64 w13) ∧ (in64 w14) ∧ (0 < w13) ∧ (0 ≤ w14)) → gK D vwCl (wdM a cI cJ) lgM A p l e { frames := 1, cells := 0, slots := 0, locals := 64 } s m args below meth c 11 (gQQ D vwCl (wdM a cI cJ) lgM A kJ in64 below args s) ((f_X9_lowest x0 x1 x2), s0) s0 41 [(0, gL x0), (2, gL x1), (4, gI x2), (5, gL w13)] []) → gK D vwCl (wdM a cI cJ) lgM A p l e { frames := 1, cells := 0, slots := 0, locals := 64 } s m args below meth c 11 (gQQ D vwCl (wdM a cI cJ) lgM A kJ in64 below args s) ((f_X9_lowest x0 x1 x2), s0) s0 16 [(0, gL x0), (2, gL x1), (4, gI x2), (5, gL v9), (7, gL v10)] [] := by
      intro n12; induction n12 with
      | zero =>
        intro v9 v10 hq hm hk
        exfalso
        obtain ⟨hq19, hq20, hq21, hq22⟩ := hq
        omega
      | succ n12 ih =>
        intro v9 v10 hq hm hk
        obtain ⟨hq23, hq24, hq25, hq26⟩ := hq
        have hT := w_X9_lowest_16_s x0 x1 x2 n12 v9 v10
        refine k_lload (pc := 16) E 4 dX9_lowest_16 rfl ?_
        refine k_lconst0 (pc := 18) E dX9_lowest_18 ?_
        by_cases h15 : v10 = 0
        · replace hT := hT.trans (if_pos h15)
          refine k_lcmp (pc := 19) E dX9_lowest_19 (by omega) (by omega) ?_
          refine k_if_eq_t (pc := 20) (tgt := 41) E (by (repeat' split) <;> omega) dX9_lowest_20 (by decide) (by (repeat' split) <;> omega) ?_
          refine k_lv (lv' := [(0, gL x0), (2, gL x1), (4, gI x2), (5, gL v9)]) [0, 1, 2, 3] rfl ?_
          exact hk v9 v10 hT ⟨(by omega), (by omega), (by first | assumption | omega), (by first | assumption | omega)⟩
        · replace hT := hT.trans (if_neg h15)
          refine k_lcmp (pc := 19) E dX9_lowest_19 (by omega) (by omega) ?_
          refine k_if_eq_f (pc := 20) (tgt := 41) E (by (repeat' split) <;> omega) dX9_lowest_20 (by decide) (by (repeat' split) <;> omega) ?_
          refine k_lload (pc := 23) E 3 dX9_lowest_23 rfl ?_
          refine k_lload (pc := 25) E 4 dX9_lowest_25 rfl ?_
          have hd16 : (0 : Int) ≤ v9 := (by omega)
          have hd17 : (0 : Int) < v10 := (by omega)
          refine k_lremN (pc := 27) E (by omega) (by omega) hd16 hd17 dX9_lowest_27 ?_
          have hb18 := rm_rg (x := v9) hd17
          refine k_lstore (pc := 28) (lv' := [(9, gL (v9 % v10)), (0, gL x0), (2, gL x1), (4, gI x2), (5, gL v9), (7, gL v10)]) E dX9_lowest_28 (by decide) rfl ?_
          refine k_lload (pc := 30) E 5 dX9_lowest_30 rfl ?_
          refine k_lstore (pc := 32) (lv' := [(5, gL v10), (9, gL (v9 % v10)), (0, gL x0), (2, gL x1), (4, gI x2), (7, gL v10)]) E dX9_lowest_32 (by decide) rfl ?_
          refine k_lload (pc := 34) E 1 dX9_lowest_34 rfl ?_
          refine k_lstore (pc := 36) (lv' := [(7, gL (v9 % v10)), (5, gL v10), (9, gL (v9 % v10)), (0, gL x0), (2, gL x1), (4, gI x2)]) E dX9_lowest_36 (by decide) rfl ?_
          refine k_goto (pc := 38) (tgt := 16) E dX9_lowest_38 (by decide) ?_
          refine k_lv (lv' := [(0, gL x0), (2, gL x1), (4, gI x2), (5, gL v10), (7, gL (v9 % v10))]) [3, 4, 5, 1, 0] rfl ?_
          exact ih v10 (v9 % v10) ⟨(by omega), (by omega), (by first | assumption | omega), (by first | assumption | omega)⟩ (by omega) (fun w13 w14 hw hi => hk w13 w14 (hT.trans hw) hi)
    refine k_lv (lv' := [(0, gL x0), (2, gL x1), (4, gI x2), (5, gL x0), (7, gL x1)]) [2, 3, 4, 1, 0] rfl ?_
    refine L11 21 x0 x1 ⟨(by omega), (by omega), (by first | assumption | omega), (by first | assumption | omega)⟩ (by omega) (fun v27 v28 hw hq => ?_)
    obtain ⟨hq29, hq30, hq31, hq32⟩ := hq
    replace hT := gl2y hT hw
    refine k_iload (pc := 41) E 2 dX9_lowest_41 rfl ?_
    obtain ⟨z40, hz40, hT⟩ := gl1x hT
    have j34 : ∀ (v35 : Int), ((in64 v35)) → z40 = v35 → gK D vwCl (wdM a cI cJ) lgM A p l e { frames := 1, cells := 0, slots := 0, locals := 64 } s m args below meth c 11 (gQQ D vwCl (wdM a cI cJ) lgM A kJ in64 below args s) ((f_X9_lowest x0 x1 x2), s0) s0 51 [(5, gL v27)] [gL v35] := by
      intro v35 hq hz
      have hq39 := hq
      replace hT := gl1y hT hz
      refine k_lload (pc := 51) E 0 dX9_lowest_51 rfl ?_
      have hd36 : (0 : Int) ≤ v35 := (by omega)
      have hd37 : (0 : Int) < v27 := (by omega)
      refine k_ldivN (pc := 53) E (by omega) (by omega) hd36 hd37 dX9_lowest_53 ?_
      have hb38 := dv_rg hd36 hd37
      exact k_rho (congrArg (fun q => (q, s0)) hT) (k_lret (pc := 54) E dX9_lowest_54 (by omega))
    replace hT := hz40
    by_cases h33 : x2 = 0
    · replace hT := hT.trans (if_pos h33)
      refine k_if_ne_f (pc := 43) (tgt := 50) E (by omega) dX9_lowest_43 (by decide) h33 ?_
      refine k_lloadn (pc := 46) E 0 dX9_lowest_46 rfl rfl ?_
      refine k_goto (pc := 47) (tgt := 51) E dX9_lowest_47 (by decide) ?_
      refine k_lv (lv' := [(5, gL v27)]) [3] rfl ?_
      exact j34 x0 (by omega) hT
    · replace hT := hT.trans (if_neg h33)
      refine k_if_ne_t (pc := 43) (tgt := 50) E (by omega) dX9_lowest_43 (by decide) h33 ?_
      refine k_lloadn (pc := 50) E 1 dX9_lowest_50 rfl rfl ?_
      refine k_lv (lv' := [(5, gL v27)]) [3] rfl ?_
      exact j34 x1 (by omega) hT

def f_X9_sheetWrong (x0 : Int) (s0 : gMem) : Int := (if (f_X9_in x0 0 3) = 0 then (-2) else (if (s0 12 x0) = (-1) then (-11) else (if (s0 13 x0) = 16 then 0 else (-2))))
theorem f_X9_sheetWrong_e (x0 : Int) (s0 : gMem) : f_X9_sheetWrong x0 s0 = (if (f_X9_in x0 0 3) = 0 then (-2) else (if (s0 12 x0) = (-1) then (-11) else (if (s0 13 x0) = 16 then 0 else (-2)))) := rfl
set_option maxRecDepth 100000 in
set_option maxHeartbeats 4000000 in
theorem f_X9_sheetWrong_p (x0 : Int) (s0 : gMem) (hx0 : in32 x0) (hm_s0 : gMR lgM s0) (hpre0 : SO s0) (hpre1 : SZ s0) : (in32 (f_X9_sheetWrong x0 s0)) ∧ ((f_X9_sheetWrong x0 s0) = 0 → 0 ≤ x0 ∧ x0 ≤ 3) := by
  have hT := f_X9_sheetWrong_e x0 s0
  have hp2 := f_X9_in_p x0 0 3 (by omega) (by omega) (by omega) 
  by_cases h3 : (f_X9_in x0 0 3) = 0
  · replace hT := hT.trans (if_pos h3)
    rw [hT]
    exact ⟨(by omega), (by first | assumption | omega)⟩
  · replace hT := hT.trans (if_neg h3)
    have hr4 := (hm_s0 12 x0).1 rfl
    have hi5 := hpre0 x0
    by_cases h6 : (s0 12 x0) = (-1)
    · replace hT := hT.trans (if_pos h6)
      rw [hT]
      exact ⟨(by omega), (by first | assumption | omega)⟩
    · replace hT := hT.trans (if_neg h6)
      have hr7 := (hm_s0 13 x0).1 rfl
      have hi8 := hpre1 x0
      by_cases h9 : (s0 13 x0) = 16
      · replace hT := hT.trans (if_pos h9)
        rw [hT]
        exact ⟨(by omega), (by first | assumption | omega)⟩
      · replace hT := hT.trans (if_neg h9)
        rw [hT]
        exact ⟨(by omega), (by first | assumption | omega)⟩
set_option maxRecDepth 100000 in
set_option maxHeartbeats 4000000 in
theorem c_X9_sheetWrong (l : Launch) (D : va_G) (a : Nat → Nat) (cI cJ cS cT : ClassId) (s0 : gMem) (x0 : Int) (hx0 : in32 x0) (hpre0 : SO s0) (hpre1 : SZ s0) : gC l yX9_sheetWrong cX9_sheetWrong 2 (some .int) 2 128 D vwCl (gT cI cJ cS cT) (wdM a cI cJ) lgM kI in32 [.ref (a 0), gI x0] s0 ((f_X9_sheetWrong x0 s0), s0) := by
  refine gC_of (by decide +kernel) (hwdM a cI cJ) (Nat.le_of_ble_eq_true rfl) ?_
  intro A p e R s m args below meth c hR E
  subst hR
  have hT := f_X9_sheetWrong_e x0 s0
  refine k_lv0 (lv' := [(0, .ref (a 0)), (1, gI x0)]) rfl ?_
  refine k_mr (fun hm_s0 => ?_)
  refine k_iloadn (pc := 0) E 1 dX9_sheetWrong_0 rfl rfl ?_
  refine k_iconst (pc := 1) E dX9_sheetWrong_1 ?_
  refine k_iconst (pc := 2) E dX9_sheetWrong_2 ?_
  refine k_mr (fun hm_s0 => ?_)
  refine k_callS (pc := 3) (np := 3) (As := [gI x0, gI 0, gI 3]) (st := []) E (c_X9_in l D a cI cJ cS cT s0 x0 0 3 (by omega) (by omega) (by omega)) wm_861 wm_11 wm_859 wm_860 (by decide +kernel) ⟨by decide, by decide⟩ rfl (Nat.le_of_ble_eq_true rfl) dX9_sheetWrong_3 (ro_kk (fun hr1 => ?_))
  have hp2 := f_X9_in_p x0 0 3 (by omega) (by omega) (by omega) 
  refine k_st (st' := [gI (f_X9_in x0 0 3)]) rfl ?_
  by_cases h3 : (f_X9_in x0 0 3) = 0
  · replace hT := hT.trans (if_pos h3)
    refine k_if_ne_f (pc := 6) (tgt := 12) E (by omega) dX9_sheetWrong_6 (by decide) h3 ?_
    refine k_bipush (pc := 9) E dX9_sheetWrong_9 (by decide) ?_
    exact k_rho (congrArg (fun q => (q, s0)) hT) (k_iret (pc := 11) E dX9_sheetWrong_11 (by omega))
  · replace hT := hT.trans (if_neg h3)
    refine k_if_ne_t (pc := 6) (tgt := 12) E (by omega) dX9_sheetWrong_6 (by decide) h3 ?_
    refine k_aloadn (pc := 12) E 0 dX9_sheetWrong_12 rfl rfl ?_
    refine k_getf (pc := 13) (q0 := 0) (f := 12) (v := .ref (a 8)) E inX9 rfl rfl (by decide) wm_910 rfl rfl dX9_sheetWrong_13 ?_
    refine k_iloadn (pc := 16) E 1 dX9_sheetWrong_16 rfl rfl ?_
    refine k_iaload (pc := 17) (q0 := 8) (t0 := 0) (k := 12) (n := 4) E rfl rfl rfl (by decide) (by omega) (by omega) dX9_sheetWrong_17 (fun hr4 => ?_)
    have hi5 := hpre0 x0
    refine k_iconst (pc := 18) E dX9_sheetWrong_18 ?_
    by_cases h6 : (s0 12 x0) = (-1)
    · replace hT := hT.trans (if_pos h6)
      refine k_icmp_ne_f (pc := 19) (tgt := 25) E (by omega) (by omega) dX9_sheetWrong_19 (by decide) h6 ?_
      refine k_bipush (pc := 22) E dX9_sheetWrong_22 (by decide) ?_
      exact k_rho (congrArg (fun q => (q, s0)) hT) (k_iret (pc := 24) E dX9_sheetWrong_24 (by omega))
    · replace hT := hT.trans (if_neg h6)
      refine k_icmp_ne_t (pc := 19) (tgt := 25) E (by omega) (by omega) dX9_sheetWrong_19 (by decide) h6 ?_
      refine k_aloadn (pc := 25) E 0 dX9_sheetWrong_25 rfl rfl ?_
      refine k_getf (pc := 26) (q0 := 0) (f := 13) (v := .ref (a 9)) E inX9 rfl rfl (by decide) wm_911 rfl rfl dX9_sheetWrong_26 ?_
      refine k_iloadn (pc := 29) E 1 dX9_sheetWrong_29 rfl rfl ?_
      refine k_iaload (pc := 30) (q0 := 9) (t0 := 0) (k := 13) (n := 4) E rfl rfl rfl (by decide) (by omega) (by omega) dX9_sheetWrong_30 (fun hr7 => ?_)
      have hi8 := hpre1 x0
      refine k_bipush (pc := 31) E dX9_sheetWrong_31 (by decide) ?_
      by_cases h9 : (s0 13 x0) = 16
      · replace hT := hT.trans (if_pos h9)
        refine k_icmp_ne_f (pc := 33) (tgt := 40) E (by omega) (by omega) dX9_sheetWrong_33 (by decide) h9 ?_
        refine k_iconst (pc := 36) E dX9_sheetWrong_36 ?_
        refine k_goto (pc := 37) (tgt := 42) E dX9_sheetWrong_37 (by decide) ?_
        exact k_rho (congrArg (fun q => (q, s0)) hT) (k_iret (pc := 42) E dX9_sheetWrong_42 (by omega))
      · replace hT := hT.trans (if_neg h9)
        refine k_icmp_ne_t (pc := 33) (tgt := 40) E (by omega) (by omega) dX9_sheetWrong_33 (by decide) h9 ?_
        refine k_bipush (pc := 40) E dX9_sheetWrong_40 (by decide) ?_
        exact k_rho (congrArg (fun q => (q, s0)) hT) (k_iret (pc := 42) E dX9_sheetWrong_42 (by omega))

def t_X9_unlike_2 (c1 : Int) (c2 : Int) (s0 : gMem) : Nat → Int → Int
  | 0, v1 => 0
  | n2 + 1, v1 => (if v1 < 16 then (gl ((if (f_X9_isIn c2 v1) = 0 then 0 else 1)) (fun v9 => (if (s0 14 ((40 * c1) + v1)) = v9 then (t_X9_unlike_2 c1 c2 s0 n2 (v1 + 1)) else v1))) else (-1))
theorem t_X9_unlike_2_s (c1 : Int) (c2 : Int) (s0 : gMem) (n2 : Nat) (v1 : Int)  : t_X9_unlike_2 c1 c2 s0 (n2 + 1) v1 = (if v1 < 16 then (gl ((if (f_X9_isIn c2 v1) = 0 then 0 else 1)) (fun v9 => (if (s0 14 ((40 * c1) + v1)) = v9 then (t_X9_unlike_2 c1 c2 s0 n2 (v1 + 1)) else v1))) else (-1)) := rfl
def f_X9_unlike (x0 : Int) (x1 : Int) (s0 : gMem) : Int := (t_X9_unlike_2 x0 x1 s0 17 0)
theorem f_X9_unlike_e (x0 : Int) (x1 : Int) (s0 : gMem) : f_X9_unlike x0 x1 s0 = (t_X9_unlike_2 x0 x1 s0 17 0) := rfl
set_option maxRecDepth 100000 in
set_option maxHeartbeats 4000000 in
theorem f_X9_unlike_p (x0 : Int) (x1 : Int) (s0 : gMem) (hx0 : in32 x0) (hx1 : in32 x1) (hm_s0 : gMR lgM s0) (hpre0 : 0 ≤ x0 ∧ x0 ≤ 3) : (in32 (f_X9_unlike x0 x1 s0)) := by
  have hT := f_X9_unlike_e x0 x1 s0
  have L14 : ∀ (n15 : Nat) (v13 : Int), ((in32 v13) ∧ (0 ≤ v13 ∧ v13 ≤ 16)) → 16 - v13 < (n15 : Int) → (f_X9_unlike x0 x1 s0) = (t_X9_unlike_2 x0 x1 s0 n15 v13) → (in32 (f_X9_unlike x0 x1 s0)) := by
    intro n15; induction n15 with
    | zero =>
      intro v13 hq hm hT
      exfalso
      obtain ⟨hq27, hq28⟩ := hq
      omega
    | succ n15 ih =>
      intro v13 hq hm hT
      obtain ⟨hq29, hq30⟩ := hq
      replace hT := hT.trans (t_X9_unlike_2_s x0 x1 s0 n15 v13)
      by_cases h17 : v13 < 16
      · replace hT := hT.trans (if_pos h17)
        have hr18 := (hm_s0 14 ((40 * x0) + v13)).1 rfl
        have hp20 := f_X9_isIn_p x1 v13 (by omega) (by omega) 
        obtain ⟨z26, hz26, hT⟩ := gl1x hT
        have j22 : ∀ (v23 : Int), ((in32 v23)) → z26 = v23 → (in32 (f_X9_unlike x0 x1 s0)) := by
          intro v23 hq hz
          have hq25 := hq
          replace hT := gl1y hT hz
          by_cases h24 : (s0 14 ((40 * x0) + v13)) = v23
          · replace hT := hT.trans (if_pos h24)
            exact ih (v13 + 1) ⟨(by omega), (by first | assumption | omega)⟩ (by omega) hT
          · replace hT := hT.trans (if_neg h24)
            rw [hT]
            exact (by omega)
        replace hT := hz26
        by_cases h21 : (f_X9_isIn x1 v13) = 0
        · replace hT := hT.trans (if_pos h21)
          exact j22 0 (by omega) hT
        · replace hT := hT.trans (if_neg h21)
          exact j22 1 (by omega) hT
      · replace hT := hT.trans (if_neg h17)
        rw [hT]
        exact (by omega)
  exact L14 17 0 ⟨(by omega), (by first | assumption | omega)⟩ (by omega) hT
set_option maxRecDepth 100000 in
set_option maxHeartbeats 4000000 in
theorem c_X9_unlike (l : Launch) (D : va_G) (a : Nat → Nat) (cI cJ cS cT : ClassId) (s0 : gMem) (x0 : Int) (x1 : Int) (hx0 : in32 x0) (hx1 : in32 x1) (hpre0 : 0 ≤ x0 ∧ x0 ≤ 3) : gC l yX9_unlike cX9_unlike 4 (some .int) 2 128 D vwCl (gT cI cJ cS cT) (wdM a cI cJ) lgM kI in32 [.ref (a 0), gI x0, gI x1] s0 ((f_X9_unlike x0 x1 s0), s0) := by
  refine gC_of (by decide +kernel) (hwdM a cI cJ) (Nat.le_of_ble_eq_true rfl) ?_
  intro A p e R s m args below meth c hR E
  subst hR
  have hT := f_X9_unlike_e x0 x1 s0
  refine k_lv0 (lv' := [(0, .ref (a 0)), (1, gI x0), (2, gI x1)]) rfl ?_
  refine k_mr (fun hm_s0 => ?_)
  refine k_iconst (pc := 0) E dX9_unlike_0 ?_
  refine k_istoren (pc := 1) (lv' := [(3, gI 0), (0, .ref (a 0)), (1, gI x0), (2, gI x1)]) E dX9_unlike_1 rfl (by decide) rfl ?_
  have L14 : ∀ (n15 : Nat) (v13 : Int), ((in32 v13) ∧ (0 ≤ v13 ∧ v13 ≤ 16)) → 16 - v13 < (n15 : Int) → (f_X9_unlike x0 x1 s0) = (t_X9_unlike_2 x0 x1 s0 n15 v13) → gK D vwCl (wdM a cI cJ) lgM A p l e { frames := 2, cells := 0, slots := 0, locals := 128 } s m args below meth c 4 (gQQ D vwCl (wdM a cI cJ) lgM A kI in32 below args s) ((f_X9_unlike x0 x1 s0), s0) s0 2 [(0, .ref (a 0)), (1, gI x0), (2, gI x1), (3, gI v13)] [] := by
    intro n15; induction n15 with
    | zero =>
      intro v13 hq hm hT
      exfalso
      obtain ⟨hq27, hq28⟩ := hq
      omega
    | succ n15 ih =>
      intro v13 hq hm hT
      obtain ⟨hq29, hq30⟩ := hq
      replace hT := hT.trans (t_X9_unlike_2_s x0 x1 s0 n15 v13)
      refine k_iloadn (pc := 2) E 3 dX9_unlike_2 rfl rfl ?_
      refine k_bipush (pc := 3) E dX9_unlike_3 (by decide) ?_
      by_cases h17 : v13 < 16
      · replace hT := hT.trans (if_pos h17)
        refine k_icmp_ge_f (pc := 5) (tgt := 43) E (by omega) (by omega) dX9_unlike_5 (by decide) h17 ?_
        refine k_aloadn (pc := 8) E 0 dX9_unlike_8 rfl rfl ?_
        refine k_getf (pc := 9) (q0 := 0) (f := 14) (v := .ref (a 10)) E inX9 rfl rfl (by decide) wm_912 rfl rfl dX9_unlike_9 ?_
        refine k_bipush (pc := 12) E dX9_unlike_12 (by decide) ?_
        refine k_iloadn (pc := 14) E 1 dX9_unlike_14 rfl rfl ?_
        refine k_imul (pc := 15) E dX9_unlike_15 ?_
        refine k_iloadn (pc := 16) E 3 dX9_unlike_16 rfl rfl ?_
        refine k_iadd (pc := 17) E dX9_unlike_17 ?_
        refine k_iaload (pc := 18) (q0 := 10) (t0 := 0) (k := 14) (n := 160) E rfl rfl rfl (by decide) (by omega) (by omega) dX9_unlike_18 (fun hr18 => ?_)
        refine k_iloadn (pc := 19) E 2 dX9_unlike_19 rfl rfl ?_
        refine k_iloadn (pc := 20) E 3 dX9_unlike_20 rfl rfl ?_
        refine k_mr (fun hm_s0 => ?_)
        refine k_callS (pc := 21) (np := 2) (As := [gI x1, gI v13]) (st := [gI (s0 14 ((40 * x0) + v13))]) E (c_X9_isIn l D a cI cJ cS cT s0 x1 v13 (by omega) (by omega)) wm_1088 wm_11 wm_1086 wm_1087 (by decide +kernel) ⟨by decide, by decide⟩ rfl (Nat.le_of_ble_eq_true rfl) dX9_unlike_21 (ro_kk (fun hr19 => ?_))
        have hp20 := f_X9_isIn_p x1 v13 (by omega) (by omega) 
        refine k_st (st' := [gI (f_X9_isIn x1 v13), gI (s0 14 ((40 * x0) + v13))]) rfl ?_
        obtain ⟨z26, hz26, hT⟩ := gl1x hT
        have j22 : ∀ (v23 : Int), ((in32 v23)) → z26 = v23 → gK D vwCl (wdM a cI cJ) lgM A p l e { frames := 2, cells := 0, slots := 0, locals := 128 } s m args below meth c 4 (gQQ D vwCl (wdM a cI cJ) lgM A kI in32 below args s) ((f_X9_unlike x0 x1 s0), s0) s0 32 [(0, .ref (a 0)), (1, gI x0), (2, gI x1), (3, gI v13)] [gI v23, gI (s0 14 ((40 * x0) + v13))] := by
          intro v23 hq hz
          have hq25 := hq
          replace hT := gl1y hT hz
          by_cases h24 : (s0 14 ((40 * x0) + v13)) = v23
          · replace hT := hT.trans (if_pos h24)
            refine k_icmp_eq_t (pc := 32) (tgt := 37) E (by omega) (by omega) dX9_unlike_32 (by decide) h24 ?_
            refine k_iinc (pc := 37) (lv' := [(3, gI (v13 + 1)), (0, .ref (a 0)), (1, gI x0), (2, gI x1)]) E 3 dX9_unlike_37 rfl (by decide) rfl ?_
            refine k_goto (pc := 40) (tgt := 2) E dX9_unlike_40 (by decide) ?_
            refine k_lv (lv' := [(0, .ref (a 0)), (1, gI x0), (2, gI x1), (3, gI (v13 + 1))]) [1, 2, 3, 0] rfl ?_
            exact ih (v13 + 1) ⟨(by omega), (by first | assumption | omega)⟩ (by omega) hT
          · replace hT := hT.trans (if_neg h24)
            refine k_icmp_eq_f (pc := 32) (tgt := 37) E (by omega) (by omega) dX9_unlike_32 (by decide) h24 ?_
            refine k_iloadn (pc := 35) E 3 dX9_unlike_35 rfl rfl ?_
            exact k_rho (congrArg (fun q => (q, s0)) hT) (k_iret (pc := 36) E dX9_unlike_36 (by omega))
        replace hT := hz26
        by_cases h21 : (f_X9_isIn x1 v13) = 0
        · replace hT := hT.trans (if_pos h21)
          refine k_if_eq_t (pc := 24) (tgt := 31) E (by omega) dX9_unlike_24 (by decide) h21 ?_
          refine k_iconst (pc := 31) E dX9_unlike_31 ?_
          exact j22 0 (by omega) hT
        · replace hT := hT.trans (if_neg h21)
          refine k_if_eq_f (pc := 24) (tgt := 31) E (by omega) dX9_unlike_24 (by decide) h21 ?_
          refine k_iconst (pc := 27) E dX9_unlike_27 ?_
          refine k_goto (pc := 28) (tgt := 32) E dX9_unlike_28 (by decide) ?_
          exact j22 1 (by omega) hT
      · replace hT := hT.trans (if_neg h17)
        refine k_icmp_ge_t (pc := 5) (tgt := 43) E (by omega) (by omega) dX9_unlike_5 (by decide) h17 ?_
        refine k_iconst (pc := 43) E dX9_unlike_43 ?_
        exact k_rho (congrArg (fun q => (q, s0)) hT) (k_iret (pc := 44) E dX9_unlike_44 (by omega))
  refine k_lv (lv' := [(0, .ref (a 0)), (1, gI x0), (2, gI x1), (3, gI 0)]) [1, 2, 3, 0] rfl ?_
  exact L14 17 0 ⟨(by omega), (by first | assumption | omega)⟩ (by omega) hT

def f_X9_judge (x0 : Int) (x1 : Int) (x2 : Int) (s0 : gMem) : Int := (if (f_X9_sheetWrong x0 s0) = 0 then (if (f_X9_isPlace x1) = 0 then (-5) else (if (f_X9_isSide x2) = 0 then (-7) else (f_X9_unlike x0 (f_X9_pushed x1 x2 s0) s0))) else (f_X9_sheetWrong x0 s0))
theorem f_X9_judge_e (x0 : Int) (x1 : Int) (x2 : Int) (s0 : gMem) : f_X9_judge x0 x1 x2 s0 = (if (f_X9_sheetWrong x0 s0) = 0 then (if (f_X9_isPlace x1) = 0 then (-5) else (if (f_X9_isSide x2) = 0 then (-7) else (f_X9_unlike x0 (f_X9_pushed x1 x2 s0) s0))) else (f_X9_sheetWrong x0 s0)) := rfl
set_option maxRecDepth 100000 in
set_option maxHeartbeats 4000000 in
theorem f_X9_judge_p (x0 : Int) (x1 : Int) (x2 : Int) (s0 : gMem) (hx0 : in32 x0) (hx1 : in32 x1) (hx2 : in32 x2) (hm_s0 : gMR lgM s0) (hpre0 : TD s0) (hpre1 : SO s0) (hpre2 : SZ s0) : (in32 (f_X9_judge x0 x1 x2 s0)) := by
  have hT := f_X9_judge_e x0 x1 x2 s0
  have hp2 := f_X9_sheetWrong_p x0 s0 (by omega) hm_s0 hpre1 hpre2
  by_cases h3 : (f_X9_sheetWrong x0 s0) = 0
  · replace hT := hT.trans (if_pos h3)
    have hp5 := f_X9_isPlace_p x1 (by omega) 
    by_cases h6 : (f_X9_isPlace x1) = 0
    · replace hT := hT.trans (if_pos h6)
      rw [hT]
      exact (by omega)
    · replace hT := hT.trans (if_neg h6)
      have hp8 := f_X9_isSide_p x2 (by omega) 
      by_cases h9 : (f_X9_isSide x2) = 0
      · replace hT := hT.trans (if_pos h9)
        rw [hT]
        exact (by omega)
      · replace hT := hT.trans (if_neg h9)
        have hp11 := f_X9_pushed_p x1 x2 s0 (by omega) (by omega) hm_s0 hpre0 (by first | assumption | omega)
        have hp13 := f_X9_unlike_p x0 (f_X9_pushed x1 x2 s0) s0 (by omega) (by omega) hm_s0 (by first | assumption | omega)
        rw [hT]
        exact (by omega)
  · replace hT := hT.trans (if_neg h3)
    rw [hT]
    exact (by omega)
set_option maxRecDepth 100000 in
set_option maxHeartbeats 4000000 in
theorem c_X9_judge (l : Launch) (D : va_G) (a : Nat → Nat) (cI cJ cS cT : ClassId) (s0 : gMem) (x0 : Int) (x1 : Int) (x2 : Int) (hx0 : in32 x0) (hx1 : in32 x1) (hx2 : in32 x2) (hpre0 : TD s0) (hpre1 : SO s0) (hpre2 : SZ s0) : gC l yX9_judge cX9_judge 5 (some .int) 5 320 D vwCl (gT cI cJ cS cT) (wdM a cI cJ) lgM kI in32 [.ref (a 0), gI x0, gI x1, gI x2] s0 ((f_X9_judge x0 x1 x2 s0), s0) := by
  refine gC_of (by decide +kernel) (hwdM a cI cJ) (Nat.le_of_ble_eq_true rfl) ?_
  intro A p e R s m args below meth c hR E
  subst hR
  have hT := f_X9_judge_e x0 x1 x2 s0
  refine k_lv0 (lv' := [(0, .ref (a 0)), (1, gI x0), (2, gI x1), (3, gI x2)]) rfl ?_
  refine k_mr (fun hm_s0 => ?_)
  refine k_aloadn (pc := 0) E 0 dX9_judge_0 rfl rfl ?_
  refine k_iloadn (pc := 1) E 1 dX9_judge_1 rfl rfl ?_
  refine k_mr (fun hm_s0 => ?_)
  refine k_callV (pc := 2) (np := 1) (As := [gI x0]) (st := []) (q0 := 0) E (c_X9_sheetWrong l D a cI cJ cS cT s0 x0 (by omega) hpre1 hpre2) wm_1224 wm_11 wm_1221 wm_1223 wp_51 (by decide +kernel) rfl rfl ⟨by decide, by decide⟩ rfl (Nat.le_of_ble_eq_true rfl) dX9_judge_2 (ro_kk (fun hr1 => ?_))
  have hp2 := f_X9_sheetWrong_p x0 s0 (by omega) hm_s0 hpre1 hpre2
  refine k_st (st' := [gI (f_X9_sheetWrong x0 s0)]) rfl ?_
  refine k_istore (pc := 5) (lv' := [(4, gI (f_X9_sheetWrong x0 s0)), (0, .ref (a 0)), (1, gI x0), (2, gI x1), (3, gI x2)]) E dX9_judge_5 (by decide) rfl ?_
  refine k_iload (pc := 7) E 0 dX9_judge_7 rfl ?_
  by_cases h3 : (f_X9_sheetWrong x0 s0) = 0
  · replace hT := hT.trans (if_pos h3)
    refine k_if_eq_t (pc := 9) (tgt := 15) E (by omega) dX9_judge_9 (by decide) h3 ?_
    refine k_iloadn (pc := 15) E 3 dX9_judge_15 rfl rfl ?_
    refine k_mr (fun hm_s0 => ?_)
    refine k_callS (pc := 16) (np := 1) (As := [gI x1]) (st := []) E (c_X9_isPlace l D a cI cJ cS cT s0 x1 (by omega)) wm_1040 wm_11 wm_1038 wm_1039 (by decide +kernel) ⟨by decide, by decide⟩ rfl (Nat.le_of_ble_eq_true rfl) dX9_judge_16 (ro_kk (fun hr4 => ?_))
    have hp5 := f_X9_isPlace_p x1 (by omega) 
    refine k_st (st' := [gI (f_X9_isPlace x1)]) rfl ?_
    by_cases h6 : (f_X9_isPlace x1) = 0
    · replace hT := hT.trans (if_pos h6)
      refine k_if_ne_f (pc := 19) (tgt := 25) E (by omega) dX9_judge_19 (by decide) h6 ?_
      refine k_bipush (pc := 22) E dX9_judge_22 (by decide) ?_
      exact k_rho (congrArg (fun q => (q, s0)) hT) (k_iret (pc := 24) E dX9_judge_24 (by omega))
    · replace hT := hT.trans (if_neg h6)
      refine k_if_ne_t (pc := 19) (tgt := 25) E (by omega) dX9_judge_19 (by decide) h6 ?_
      refine k_iloadn (pc := 25) E 4 dX9_judge_25 rfl rfl ?_
      refine k_mr (fun hm_s0 => ?_)
      refine k_callS (pc := 26) (np := 1) (As := [gI x2]) (st := []) E (c_X9_isSide l D a cI cJ cS cT s0 x2 (by omega)) wm_1171 wm_11 wm_1169 wm_1170 (by decide +kernel) ⟨by decide, by decide⟩ rfl (Nat.le_of_ble_eq_true rfl) dX9_judge_26 (ro_kk (fun hr7 => ?_))
      have hp8 := f_X9_isSide_p x2 (by omega) 
      refine k_st (st' := [gI (f_X9_isSide x2)]) rfl ?_
      by_cases h9 : (f_X9_isSide x2) = 0
      · replace hT := hT.trans (if_pos h9)
        refine k_if_eq_t (pc := 29) (tgt := 46) E (by omega) dX9_judge_29 (by decide) h9 ?_
        refine k_bipush (pc := 46) E dX9_judge_46 (by decide) ?_
        exact k_rho (congrArg (fun q => (q, s0)) hT) (k_iret (pc := 48) E dX9_judge_48 (by omega))
      · replace hT := hT.trans (if_neg h9)
        refine k_if_eq_f (pc := 29) (tgt := 46) E (by omega) dX9_judge_29 (by decide) h9 ?_
        refine k_aloadn (pc := 32) E 1 dX9_judge_32 rfl rfl ?_
        refine k_iloadn (pc := 33) E 2 dX9_judge_33 rfl rfl ?_
        refine k_aloadn (pc := 34) E 1 dX9_judge_34 rfl rfl ?_
        refine k_iloadn (pc := 35) E 3 dX9_judge_35 rfl rfl ?_
        refine k_iloadn (pc := 36) E 4 dX9_judge_36 rfl rfl ?_
        refine k_callV (pc := 37) (np := 2) (As := [gI x1, gI x2]) (st := [gI x0, .ref (a 0)]) (q0 := 0) E (c_X9_pushed l D a cI cJ cS cT s0 x1 x2 (by omega) (by omega) hpre0 (by first | assumption | omega)) wm_1175 wm_11 wm_1172 wm_1174 wp_47 (by decide +kernel) rfl rfl ⟨by decide, by decide⟩ rfl (Nat.le_of_ble_eq_true rfl) dX9_judge_37 (ro_kk (fun hr10 => ?_))
        refine k_st (st' := [gI (f_X9_pushed x1 x2 s0), gI x0, .ref (a 0)]) rfl ?_
        refine k_callV (pc := 40) (np := 2) (As := [gI x0, gI (f_X9_pushed x1 x2 s0)]) (st := []) (q0 := 0) E (c_X9_unlike l D a cI cJ cS cT s0 x0 (f_X9_pushed x1 x2 s0) (by omega) (by omega) (by first | assumption | omega)) wm_1228 wm_11 wm_1225 wm_1227 wp_52 (by decide +kernel) rfl rfl ⟨by decide, by decide⟩ rfl (Nat.le_of_ble_eq_true rfl) dX9_judge_40 (ro_kk (fun hr12 => ?_))
        refine k_st (st' := [gI (f_X9_unlike x0 (f_X9_pushed x1 x2 s0) s0)]) rfl ?_
        refine k_goto (pc := 43) (tgt := 48) E dX9_judge_43 (by decide) ?_
        exact k_rho (congrArg (fun q => (q, s0)) hT) (k_iret (pc := 48) E dX9_judge_48 (by omega))
  · replace hT := hT.trans (if_neg h3)
    refine k_if_eq_f (pc := 9) (tgt := 15) E (by omega) dX9_judge_9 (by decide) h3 ?_
    refine k_iload (pc := 12) E 0 dX9_judge_12 rfl ?_
    exact k_rho (congrArg (fun q => (q, s0)) hT) (k_iret (pc := 14) E dX9_judge_14 (by omega))

def w_X9_origin_28 (c1 : Int) (c2 : Int) (s0 : gMem) : Nat → Int → Int → Int × Int
  | 0, v7, v8 => (v7, v8)
  | n9 + 1, v7, v8 => (if v8 < 16 then (gj (fun j16c => (if (f_X9_isIn (s0 2 1) v8) = 0 then j16c else (if (f_X9_unlike c1 (f_X9_pushed v8 c2 s0) s0) = (-1) then (gl ((if (1 : Int) = 0 then 0 else (ishl 1 v8))) (fun v32 => (w_X9_origin_28 c1 c2 s0 n9 (ior v7 v32) (v8 + 1)))) else j16c))) ((gl ((if (0 : Int) = 0 then 0 else (ishl 1 v8))) (fun v19 => (w_X9_origin_28 c1 c2 s0 n9 (ior v7 v19) (v8 + 1)))))) else (v7, v8))
theorem w_X9_origin_28_s (c1 : Int) (c2 : Int) (s0 : gMem) (n9 : Nat) (v7 : Int) (v8 : Int)  : w_X9_origin_28 c1 c2 s0 (n9 + 1) v7 v8 = (if v8 < 16 then (gj (fun j16c => (if (f_X9_isIn (s0 2 1) v8) = 0 then j16c else (if (f_X9_unlike c1 (f_X9_pushed v8 c2 s0) s0) = (-1) then (gl ((if (1 : Int) = 0 then 0 else (ishl 1 v8))) (fun v32 => (w_X9_origin_28 c1 c2 s0 n9 (ior v7 v32) (v8 + 1)))) else j16c))) ((gl ((if (0 : Int) = 0 then 0 else (ishl 1 v8))) (fun v19 => (w_X9_origin_28 c1 c2 s0 n9 (ior v7 v19) (v8 + 1)))))) else (v7, v8)) := rfl
def f_X9_origin (x0 : Int) (x1 : Int) (s0 : gMem) : Int := (if (f_X9_sheetWrong x0 s0) = 0 then (if (f_X9_isSide x1) = 0 then (-7) else (gl2 (w_X9_origin_28 x0 x1 s0 17 0 0) (fun v78 v79 => v78))) else (f_X9_sheetWrong x0 s0))
theorem f_X9_origin_e (x0 : Int) (x1 : Int) (s0 : gMem) : f_X9_origin x0 x1 s0 = (if (f_X9_sheetWrong x0 s0) = 0 then (if (f_X9_isSide x1) = 0 then (-7) else (gl2 (w_X9_origin_28 x0 x1 s0 17 0 0) (fun v78 v79 => v78))) else (f_X9_sheetWrong x0 s0)) := rfl
set_option maxRecDepth 100000 in
set_option maxHeartbeats 4000000 in
theorem f_X9_origin_p (x0 : Int) (x1 : Int) (s0 : gMem) (hx0 : in32 x0) (hx1 : in32 x1) (hm_s0 : gMR lgM s0) (hpre0 : TD s0) (hpre1 : SO s0) (hpre2 : SZ s0) : (in32 (f_X9_origin x0 x1 s0)) := by
  have hT := f_X9_origin_e x0 x1 s0
  have hp2 := f_X9_sheetWrong_p x0 s0 (by omega) hm_s0 hpre1 hpre2
  by_cases h3 : (f_X9_sheetWrong x0 s0) = 0
  · replace hT := hT.trans (if_pos h3)
    have hp5 := f_X9_isSide_p x1 (by omega) 
    by_cases h6 : (f_X9_isSide x1) = 0
    · replace hT := hT.trans (if_pos h6)
      rw [hT]
      exact (by omega)
    · replace hT := hT.trans (if_neg h6)
      have L40 : ∀ (n41 : Nat) (v38 : Int) (v39 : Int), ((in32 v38) ∧ (in32 v39) ∧ (0 ≤ v39 ∧ v39 ≤ 16)) → 16 - v39 < (n41 : Int) → (∀ (w42 : Int) (w43 : Int), (w_X9_origin_28 x0 x1 s0 n41 v38 v39) = (w42, w43) → ((in32 w42) ∧ (in32 w43) ∧ (0 ≤ w43 ∧ w43 ≤ 16)) → (in32 (f_X9_origin x0 x1 s0))) → (in32 (f_X9_origin x0 x1 s0)) := by
        intro n41; induction n41 with
        | zero =>
          intro v38 v39 hq hm hk
          exfalso
          obtain ⟨hq72, hq73, hq74⟩ := hq
          omega
        | succ n41 ih =>
          intro v38 v39 hq hm hk
          obtain ⟨hq75, hq76, hq77⟩ := hq
          have hT := w_X9_origin_28_s x0 x1 s0 n41 v38 v39
          by_cases h44 : v39 < 16
          · replace hT := hT.trans (if_pos h44)
            have hr45 := (hm_s0 2 1).1 rfl
            have hi46 := hpre0 1
            have hp48 := f_X9_isIn_p (s0 2 1) v39 (by omega) (by omega) 
            obtain ⟨j50c, hj50c, hT⟩ := gjx hT
            have j50 : (True) → (w_X9_origin_28 x0 x1 s0 (n41 + 1) v38 v39) = j50c  → (in32 (f_X9_origin x0 x1 s0)) := by
              intro  hq hT
              rw [hj50c] at hT
              obtain ⟨z56, hz56, hT⟩ := gl1x hT
              have j52 : ∀ (v53 : Int), ((in32 v53)) → z56 = v53 → (in32 (f_X9_origin x0 x1 s0)) := by
                intro v53 hq hz
                have hq55 := hq
                replace hT := gl1y hT hz
                have hb54 := ior_rg v38 v53
                exact ih (ior v38 v53) (v39 + 1) ⟨(by omega), (by omega), (by first | assumption | omega)⟩ (by omega) (fun w42 w43 hw hi => hk w42 w43 (hT.trans hw) hi)
              replace hT := hz56
              by_cases h51 : (0 : Int) = 0
              · replace hT := hT.trans (if_pos h51)
                exact j52 0 (by omega) hT
              · replace hT := hT.trans (if_neg h51)
                have hb57 := ishl_rg 1 v39
                have hb58 : 0 ≤ v39 ∧ v39 ≤ 15 → _ := fun q => ishl_1 q.1 q.2
                exact j52 (ishl 1 v39) (by omega) hT
            by_cases h49 : (f_X9_isIn (s0 2 1) v39) = 0
            · replace hT := hT.trans (if_pos h49)
              exact j50  trivial hT
            · replace hT := hT.trans (if_neg h49)
              have hp60 := f_X9_pushed_p v39 x1 s0 (by omega) (by omega) hm_s0 hpre0 (by first | assumption | omega)
              have hp62 := f_X9_unlike_p x0 (f_X9_pushed v39 x1 s0) s0 (by omega) (by omega) hm_s0 (by first | assumption | omega)
              by_cases h63 : (f_X9_unlike x0 (f_X9_pushed v39 x1 s0) s0) = (-1)
              · replace hT := hT.trans (if_pos h63)
                obtain ⟨z69, hz69, hT⟩ := gl1x hT
                have j65 : ∀ (v66 : Int), ((in32 v66)) → z69 = v66 → (in32 (f_X9_origin x0 x1 s0)) := by
                  intro v66 hq hz
                  have hq68 := hq
                  replace hT := gl1y hT hz
                  have hb67 := ior_rg v38 v66
                  exact ih (ior v38 v66) (v39 + 1) ⟨(by omega), (by omega), (by first | assumption | omega)⟩ (by omega) (fun w42 w43 hw hi => hk w42 w43 (hT.trans hw) hi)
                replace hT := hz69
                by_cases h64 : (1 : Int) = 0
                · replace hT := hT.trans (if_pos h64)
                  exact j65 0 (by omega) hT
                · replace hT := hT.trans (if_neg h64)
                  have hb70 := ishl_rg 1 v39
                  have hb71 : 0 ≤ v39 ∧ v39 ≤ 15 → _ := fun q => ishl_1 q.1 q.2
                  exact j65 (ishl 1 v39) (by omega) hT
              · replace hT := hT.trans (if_neg h63)
                exact j50  trivial hT
          · replace hT := hT.trans (if_neg h44)
            exact hk v38 v39 hT ⟨(by omega), (by omega), (by first | assumption | omega)⟩
      refine L40 17 0 0 ⟨(by omega), (by omega), (by first | assumption | omega)⟩ (by omega) (fun v78 v79 hw hq => ?_)
      obtain ⟨hq80, hq81, hq82⟩ := hq
      replace hT := gl2y hT hw
      rw [hT]
      exact (by omega)
  · replace hT := hT.trans (if_neg h3)
    rw [hT]
    exact (by omega)
set_option maxRecDepth 100000 in
set_option maxHeartbeats 4000000 in
theorem c_X9_origin (l : Launch) (D : va_G) (a : Nat → Nat) (cI cJ cS cT : ClassId) (s0 : gMem) (x0 : Int) (x1 : Int) (hx0 : in32 x0) (hx1 : in32 x1) (hpre0 : TD s0) (hpre1 : SO s0) (hpre2 : SZ s0) : gC l yX9_origin cX9_origin 7 (some .int) 5 320 D vwCl (gT cI cJ cS cT) (wdM a cI cJ) lgM kI in32 [.ref (a 0), gI x0, gI x1] s0 ((f_X9_origin x0 x1 s0), s0) := by
  refine gC_of (by decide +kernel) (hwdM a cI cJ) (Nat.le_of_ble_eq_true rfl) ?_
  intro A p e R s m args below meth c hR E
  subst hR
  have hT := f_X9_origin_e x0 x1 s0
  refine k_lv0 (lv' := [(0, .ref (a 0)), (1, gI x0), (2, gI x1)]) rfl ?_
  refine k_mr (fun hm_s0 => ?_)
  refine k_aloadn (pc := 0) E 0 dX9_origin_0 rfl rfl ?_
  refine k_iloadn (pc := 1) E 1 dX9_origin_1 rfl rfl ?_
  refine k_mr (fun hm_s0 => ?_)
  refine k_callV (pc := 2) (np := 1) (As := [gI x0]) (st := []) (q0 := 0) E (c_X9_sheetWrong l D a cI cJ cS cT s0 x0 (by omega) hpre1 hpre2) wm_1224 wm_11 wm_1221 wm_1223 wp_51 (by decide +kernel) rfl rfl ⟨by decide, by decide⟩ rfl (Nat.le_of_ble_eq_true rfl) dX9_origin_2 (ro_kk (fun hr1 => ?_))
  have hp2 := f_X9_sheetWrong_p x0 s0 (by omega) hm_s0 hpre1 hpre2
  refine k_st (st' := [gI (f_X9_sheetWrong x0 s0)]) rfl ?_
  refine k_istoren (pc := 5) (lv' := [(3, gI (f_X9_sheetWrong x0 s0)), (0, .ref (a 0)), (1, gI x0), (2, gI x1)]) E dX9_origin_5 rfl (by decide) rfl ?_
  refine k_iloadn (pc := 6) E 0 dX9_origin_6 rfl rfl ?_
  by_cases h3 : (f_X9_sheetWrong x0 s0) = 0
  · replace hT := hT.trans (if_pos h3)
    refine k_if_eq_t (pc := 7) (tgt := 12) E (by omega) dX9_origin_7 (by decide) h3 ?_
    refine k_iloadn (pc := 12) E 3 dX9_origin_12 rfl rfl ?_
    refine k_mr (fun hm_s0 => ?_)
    refine k_callS (pc := 13) (np := 1) (As := [gI x1]) (st := []) E (c_X9_isSide l D a cI cJ cS cT s0 x1 (by omega)) wm_1171 wm_11 wm_1169 wm_1170 (by decide +kernel) ⟨by decide, by decide⟩ rfl (Nat.le_of_ble_eq_true rfl) dX9_origin_13 (ro_kk (fun hr4 => ?_))
    have hp5 := f_X9_isSide_p x1 (by omega) 
    refine k_st (st' := [gI (f_X9_isSide x1)]) rfl ?_
    by_cases h6 : (f_X9_isSide x1) = 0
    · replace hT := hT.trans (if_pos h6)
      refine k_if_ne_f (pc := 16) (tgt := 22) E (by omega) dX9_origin_16 (by decide) h6 ?_
      refine k_bipush (pc := 19) E dX9_origin_19 (by decide) ?_
      exact k_rho (congrArg (fun q => (q, s0)) hT) (k_iret (pc := 21) E dX9_origin_21 (by omega))
    · replace hT := hT.trans (if_neg h6)
      refine k_if_ne_t (pc := 16) (tgt := 22) E (by omega) dX9_origin_16 (by decide) h6 ?_
      refine k_iconst (pc := 22) E dX9_origin_22 ?_
      refine k_istore (pc := 23) (lv' := [(4, gI 0), (3, gI (f_X9_sheetWrong x0 s0)), (0, .ref (a 0)), (1, gI x0), (2, gI x1)]) E dX9_origin_23 (by decide) rfl ?_
      refine k_iconst (pc := 25) E dX9_origin_25 ?_
      refine k_istore (pc := 26) (lv' := [(5, gI 0), (4, gI 0), (3, gI (f_X9_sheetWrong x0 s0)), (0, .ref (a 0)), (1, gI x0), (2, gI x1)]) E dX9_origin_26 (by decide) rfl ?_
      have L40 : ∀ (n41 : Nat) (v38 : Int) (v39 : Int), ((in32 v38) ∧ (in32 v39) ∧ (0 ≤ v39 ∧ v39 ≤ 16)) → 16 - v39 < (n41 : Int) → (∀ (w42 : Int) (w43 : Int), (w_X9_origin_28 x0 x1 s0 n41 v38 v39) = (w42, w43) → ((in32 w42) ∧ (in32 w43) ∧ (0 ≤ w43 ∧ w43 ≤ 16)) → gK D vwCl (wdM a cI cJ) lgM A p l e { frames := 5, cells := 0, slots := 0, locals := 320 } s m args below meth c 7 (gQQ D vwCl (wdM a cI cJ) lgM A kI in32 below args s) ((f_X9_origin x0 x1 s0), s0) s0 96 [(4, gI w42)] []) → gK D vwCl (wdM a cI cJ) lgM A p l e { frames := 5, cells := 0, slots := 0, locals := 320 } s m args below meth c 7 (gQQ D vwCl (wdM a cI cJ) lgM A kI in32 below args s) ((f_X9_origin x0 x1 s0), s0) s0 28 [(0, .ref (a 0)), (1, gI x0), (2, gI x1), (4, gI v38), (5, gI v39)] [] := by
        intro n41; induction n41 with
        | zero =>
          intro v38 v39 hq hm hk
          exfalso
          obtain ⟨hq72, hq73, hq74⟩ := hq
          omega
        | succ n41 ih =>
          intro v38 v39 hq hm hk
          obtain ⟨hq75, hq76, hq77⟩ := hq
          have hT := w_X9_origin_28_s x0 x1 s0 n41 v38 v39
          refine k_iload (pc := 28) E 4 dX9_origin_28 rfl ?_
          refine k_bipush (pc := 30) E dX9_origin_30 (by decide) ?_
          by_cases h44 : v39 < 16
          · replace hT := hT.trans (if_pos h44)
            refine k_icmp_ge_f (pc := 32) (tgt := 96) E (by omega) (by omega) dX9_origin_32 (by decide) h44 ?_
            refine k_aloadn (pc := 35) E 0 dX9_origin_35 rfl rfl ?_
            refine k_getf (pc := 36) (q0 := 0) (f := 2) (v := .ref (a 3)) E inX9 rfl rfl (by decide) wm_900 rfl rfl dX9_origin_36 ?_
            refine k_iconst (pc := 39) E dX9_origin_39 ?_
            refine k_iaload (pc := 40) (q0 := 3) (t0 := 0) (k := 2) (n := 4) E rfl rfl rfl (by decide) (by omega) (by omega) dX9_origin_40 (fun hr45 => ?_)
            have hi46 := hpre0 1
            refine k_iload (pc := 41) E 4 dX9_origin_41 rfl ?_
            refine k_mr (fun hm_s0 => ?_)
            refine k_callS (pc := 43) (np := 2) (As := [gI (s0 2 1), gI v39]) (st := []) E (c_X9_isIn l D a cI cJ cS cT s0 (s0 2 1) v39 (by omega) (by omega)) wm_1088 wm_11 wm_1086 wm_1087 (by decide +kernel) ⟨by decide, by decide⟩ rfl (Nat.le_of_ble_eq_true rfl) dX9_origin_43 (ro_kk (fun hr47 => ?_))
            have hp48 := f_X9_isIn_p (s0 2 1) v39 (by omega) (by omega) 
            refine k_st (st' := [gI (f_X9_isIn (s0 2 1) v39)]) rfl ?_
            obtain ⟨j50c, hj50c, hT⟩ := gjx hT
            have j50 : (True) → (w_X9_origin_28 x0 x1 s0 (n41 + 1) v38 v39) = j50c  → gK D vwCl (wdM a cI cJ) lgM A p l e { frames := 5, cells := 0, slots := 0, locals := 320 } s m args below meth c 7 (gQQ D vwCl (wdM a cI cJ) lgM A kI in32 below args s) ((f_X9_origin x0 x1 s0), s0) s0 69 [(0, .ref (a 0)), (1, gI x0), (2, gI x1), (4, gI v38), (5, gI v39)] [] := by
              intro  hq hT
              rw [hj50c] at hT
              refine k_iconst (pc := 69) E dX9_origin_69 ?_
              refine k_istore (pc := 70) (lv' := [(6, gI 0), (0, .ref (a 0)), (1, gI x0), (2, gI x1), (4, gI v38), (5, gI v39)]) E dX9_origin_70 (by decide) rfl ?_
              refine k_iload (pc := 72) E 4 dX9_origin_72 rfl ?_
              refine k_iload (pc := 74) E 0 dX9_origin_74 rfl ?_
              obtain ⟨z56, hz56, hT⟩ := gl1x hT
              have j52 : ∀ (v53 : Int), ((in32 v53)) → z56 = v53 → gK D vwCl (wdM a cI cJ) lgM A p l e { frames := 5, cells := 0, slots := 0, locals := 320 } s m args below meth c 7 (gQQ D vwCl (wdM a cI cJ) lgM A kI in32 below args s) ((f_X9_origin x0 x1 s0), s0) s0 87 [(0, .ref (a 0)), (1, gI x0), (2, gI x1), (5, gI v39)] [gI v53, gI v38] := by
                intro v53 hq hz
                have hq55 := hq
                replace hT := gl1y hT hz
                refine k_ior (pc := 87) E dX9_origin_87 ?_
                have hb54 := ior_rg v38 v53
                refine k_istore (pc := 88) (lv' := [(4, gI (ior v38 v53)), (0, .ref (a 0)), (1, gI x0), (2, gI x1), (5, gI v39)]) E dX9_origin_88 (by decide) rfl ?_
                refine k_iinc (pc := 90) (lv' := [(5, gI (v39 + 1)), (4, gI (ior v38 v53)), (0, .ref (a 0)), (1, gI x0), (2, gI x1)]) E 4 dX9_origin_90 rfl (by decide) rfl ?_
                refine k_goto (pc := 93) (tgt := 28) E dX9_origin_93 (by decide) ?_
                refine k_lv (lv' := [(0, .ref (a 0)), (1, gI x0), (2, gI x1), (4, gI (ior v38 v53)), (5, gI (v39 + 1))]) [2, 3, 4, 1, 0] rfl ?_
                exact ih (ior v38 v53) (v39 + 1) ⟨(by omega), (by omega), (by first | assumption | omega)⟩ (by omega) (fun w42 w43 hw hi => hk w42 w43 (hT.trans hw) hi)
              replace hT := hz56
              by_cases h51 : (0 : Int) = 0
              · replace hT := hT.trans (if_pos h51)
                refine k_if_eq_t (pc := 76) (tgt := 86) E (by omega) dX9_origin_76 (by decide) h51 ?_
                refine k_iconst (pc := 86) E dX9_origin_86 ?_
                refine k_lv (lv' := [(0, .ref (a 0)), (1, gI x0), (2, gI x1), (5, gI v39)]) [1, 2, 3, 5] rfl ?_
                exact j52 0 (by omega) hT
              · replace hT := hT.trans (if_neg h51)
                refine k_if_eq_f (pc := 76) (tgt := 86) E (by omega) dX9_origin_76 (by decide) h51 ?_
                refine k_iconst (pc := 79) E dX9_origin_79 ?_
                refine k_iload (pc := 80) E 5 dX9_origin_80 rfl ?_
                refine k_ishl (pc := 82) E dX9_origin_82 ?_
                have hb57 := ishl_rg 1 v39
                have hb58 : 0 ≤ v39 ∧ v39 ≤ 15 → _ := fun q => ishl_1 q.1 q.2
                refine k_goto (pc := 83) (tgt := 87) E dX9_origin_83 (by decide) ?_
                refine k_lv (lv' := [(0, .ref (a 0)), (1, gI x0), (2, gI x1), (5, gI v39)]) [1, 2, 3, 5] rfl ?_
                exact j52 (ishl 1 v39) (by omega) hT
            by_cases h49 : (f_X9_isIn (s0 2 1) v39) = 0
            · replace hT := hT.trans (if_pos h49)
              refine k_if_eq_t (pc := 46) (tgt := 69) E (by omega) dX9_origin_46 (by decide) h49 ?_
              exact j50  trivial hT
            · replace hT := hT.trans (if_neg h49)
              refine k_if_eq_f (pc := 46) (tgt := 69) E (by omega) dX9_origin_46 (by decide) h49 ?_
              refine k_aloadn (pc := 49) E 0 dX9_origin_49 rfl rfl ?_
              refine k_iloadn (pc := 50) E 1 dX9_origin_50 rfl rfl ?_
              refine k_aloadn (pc := 51) E 0 dX9_origin_51 rfl rfl ?_
              refine k_iload (pc := 52) E 4 dX9_origin_52 rfl ?_
              refine k_iloadn (pc := 54) E 2 dX9_origin_54 rfl rfl ?_
              refine k_callV (pc := 55) (np := 2) (As := [gI v39, gI x1]) (st := [gI x0, .ref (a 0)]) (q0 := 0) E (c_X9_pushed l D a cI cJ cS cT s0 v39 x1 (by omega) (by omega) hpre0 (by first | assumption | omega)) wm_1175 wm_11 wm_1172 wm_1174 wp_47 (by decide +kernel) rfl rfl ⟨by decide, by decide⟩ rfl (Nat.le_of_ble_eq_true rfl) dX9_origin_55 (ro_kk (fun hr59 => ?_))
              refine k_st (st' := [gI (f_X9_pushed v39 x1 s0), gI x0, .ref (a 0)]) rfl ?_
              refine k_callV (pc := 58) (np := 2) (As := [gI x0, gI (f_X9_pushed v39 x1 s0)]) (st := []) (q0 := 0) E (c_X9_unlike l D a cI cJ cS cT s0 x0 (f_X9_pushed v39 x1 s0) (by omega) (by omega) (by first | assumption | omega)) wm_1228 wm_11 wm_1225 wm_1227 wp_52 (by decide +kernel) rfl rfl ⟨by decide, by decide⟩ rfl (Nat.le_of_ble_eq_true rfl) dX9_origin_58 (ro_kk (fun hr61 => ?_))
              refine k_st (st' := [gI (f_X9_unlike x0 (f_X9_pushed v39 x1 s0) s0)]) rfl ?_
              refine k_iconst (pc := 61) E dX9_origin_61 ?_
              by_cases h63 : (f_X9_unlike x0 (f_X9_pushed v39 x1 s0) s0) = (-1)
              · replace hT := hT.trans (if_pos h63)
                refine k_icmp_ne_f (pc := 62) (tgt := 69) E (by omega) (by omega) dX9_origin_62 (by decide) h63 ?_
                refine k_iconst (pc := 65) E dX9_origin_65 ?_
                refine k_goto (pc := 66) (tgt := 70) E dX9_origin_66 (by decide) ?_
                refine k_istore (pc := 70) (lv' := [(6, gI 1), (0, .ref (a 0)), (1, gI x0), (2, gI x1), (4, gI v38), (5, gI v39)]) E dX9_origin_70 (by decide) rfl ?_
                refine k_iload (pc := 72) E 4 dX9_origin_72 rfl ?_
                refine k_iload (pc := 74) E 0 dX9_origin_74 rfl ?_
                obtain ⟨z69, hz69, hT⟩ := gl1x hT
                have j65 : ∀ (v66 : Int), ((in32 v66)) → z69 = v66 → gK D vwCl (wdM a cI cJ) lgM A p l e { frames := 5, cells := 0, slots := 0, locals := 320 } s m args below meth c 7 (gQQ D vwCl (wdM a cI cJ) lgM A kI in32 below args s) ((f_X9_origin x0 x1 s0), s0) s0 87 [(0, .ref (a 0)), (1, gI x0), (2, gI x1), (5, gI v39)] [gI v66, gI v38] := by
                  intro v66 hq hz
                  have hq68 := hq
                  replace hT := gl1y hT hz
                  refine k_ior (pc := 87) E dX9_origin_87 ?_
                  have hb67 := ior_rg v38 v66
                  refine k_istore (pc := 88) (lv' := [(4, gI (ior v38 v66)), (0, .ref (a 0)), (1, gI x0), (2, gI x1), (5, gI v39)]) E dX9_origin_88 (by decide) rfl ?_
                  refine k_iinc (pc := 90) (lv' := [(5, gI (v39 + 1)), (4, gI (ior v38 v66)), (0, .ref (a 0)), (1, gI x0), (2, gI x1)]) E 4 dX9_origin_90 rfl (by decide) rfl ?_
                  refine k_goto (pc := 93) (tgt := 28) E dX9_origin_93 (by decide) ?_
                  refine k_lv (lv' := [(0, .ref (a 0)), (1, gI x0), (2, gI x1), (4, gI (ior v38 v66)), (5, gI (v39 + 1))]) [2, 3, 4, 1, 0] rfl ?_
                  exact ih (ior v38 v66) (v39 + 1) ⟨(by omega), (by omega), (by first | assumption | omega)⟩ (by omega) (fun w42 w43 hw hi => hk w42 w43 (hT.trans hw) hi)
                replace hT := hz69
                by_cases h64 : (1 : Int) = 0
                · replace hT := hT.trans (if_pos h64)
                  refine k_if_eq_t (pc := 76) (tgt := 86) E (by omega) dX9_origin_76 (by decide) h64 ?_
                  refine k_iconst (pc := 86) E dX9_origin_86 ?_
                  refine k_lv (lv' := [(0, .ref (a 0)), (1, gI x0), (2, gI x1), (5, gI v39)]) [1, 2, 3, 5] rfl ?_
                  exact j65 0 (by omega) hT
                · replace hT := hT.trans (if_neg h64)
                  refine k_if_eq_f (pc := 76) (tgt := 86) E (by omega) dX9_origin_76 (by decide) h64 ?_
                  refine k_iconst (pc := 79) E dX9_origin_79 ?_
                  refine k_iload (pc := 80) E 5 dX9_origin_80 rfl ?_
                  refine k_ishl (pc := 82) E dX9_origin_82 ?_
                  have hb70 := ishl_rg 1 v39
                  have hb71 : 0 ≤ v39 ∧ v39 ≤ 15 → _ := fun q => ishl_1 q.1 q.2
                  refine k_goto (pc := 83) (tgt := 87) E dX9_origin_83 (by decide) ?_
                  refine k_lv (lv' := [(0, .ref (a 0)), (1, gI x0), (2, gI x1), (5, gI v39)]) [1, 2, 3, 5] rfl ?_
                  exact j65 (ishl 1 v39) (by omega) hT
              · replace hT := hT.trans (if_neg h63)
                refine k_icmp_ne_t (pc := 62) (tgt := 69) E (by omega) (by omega) dX9_origin_62 (by decide) h63 ?_
                exact j50  trivial hT
          · replace hT := hT.trans (if_neg h44)
            refine k_icmp_ge_t (pc := 32) (tgt := 96) E (by omega) (by omega) dX9_origin_32 (by decide) h44 ?_
            refine k_lv (lv' := [(4, gI v38)]) [3] rfl ?_
            exact hk v38 v39 hT ⟨(by omega), (by omega), (by first | assumption | omega)⟩
      refine k_lv (lv' := [(0, .ref (a 0)), (1, gI x0), (2, gI x1), (4, gI 0), (5, gI 0)]) [3, 4, 5, 1, 0] rfl ?_
      refine L40 17 0 0 ⟨(by omega), (by omega), (by first | assumption | omega)⟩ (by omega) (fun v78 v79 hw hq => ?_)
      obtain ⟨hq80, hq81, hq82⟩ := hq
      replace hT := gl2y hT hw
      refine k_iload (pc := 96) E 0 dX9_origin_96 rfl ?_
      exact k_rho (congrArg (fun q => (q, s0)) hT) (k_iret (pc := 98) E dX9_origin_98 (by omega))
  · replace hT := hT.trans (if_neg h3)
    refine k_if_eq_f (pc := 7) (tgt := 12) E (by omega) dX9_origin_7 (by decide) h3 ?_
    refine k_iloadn (pc := 10) E 0 dX9_origin_10 rfl rfl ?_
    exact k_rho (congrArg (fun q => (q, s0)) hT) (k_iret (pc := 11) E dX9_origin_11 (by omega))

def w_X9_how_60 (c1 : Int) (c2 : Int) (c3 : Int) (c5 : Int) : Nat → Int → Int → gMem → Int × Int × gMem
  | 0, v16, v17, s18 => (v16, v17, s18)
  | n19 + 1, v16, v17, s18 => (if v17 < 3 then (gl ((if c3 < 10 then c5 else v17)) (fun v23 => gl (mset s18 2 3 v23) (fun s24 => (gl ((if c3 < 10 then v17 else (c3 % 10))) (fun v27 => (gl ((if (f_X9_unlike c1 (f_X9_pushed c2 v27 s24) s24) = (-1) then (ishl 1 v17) else 0)) (fun v34 => (w_X9_how_60 c1 c2 c3 c5 n19 (ior v16 v34) (v17 + 1) s24)))))))) else (v16, v17, s18))
theorem w_X9_how_60_s (c1 : Int) (c2 : Int) (c3 : Int) (c5 : Int) (n19 : Nat) (v16 : Int) (v17 : Int) (s18 : gMem) : w_X9_how_60 c1 c2 c3 c5 (n19 + 1) v16 v17 s18 = (if v17 < 3 then (gl ((if c3 < 10 then c5 else v17)) (fun v23 => gl (mset s18 2 3 v23) (fun s24 => (gl ((if c3 < 10 then v17 else (c3 % 10))) (fun v27 => (gl ((if (f_X9_unlike c1 (f_X9_pushed c2 v27 s24) s24) = (-1) then (ishl 1 v17) else 0)) (fun v34 => (w_X9_how_60 c1 c2 c3 c5 n19 (ior v16 v34) (v17 + 1) s24)))))))) else (v16, v17, s18)) := rfl
def f_X9_how (x0 : Int) (x1 : Int) (x2 : Int) (s0 : gMem) : gRes := (if (f_X9_sheetWrong x0 s0) = 0 then (if (f_X9_isPlace x1) = 0 then ((-5), s0) else (if (f_X9_in x2 0 12) = 0 then ((-7), s0) else (if 2 < (x2 % 10) then ((-7), s0) else (gl3 (w_X9_how_60 x0 x1 x2 (s0 2 3) 4 0 0 s0) (fun v90 v91 s92 => gl (mset s92 2 3 (s0 2 3)) (fun s96 => (v90, s96))))))) else ((f_X9_sheetWrong x0 s0), s0))
theorem f_X9_how_e (x0 : Int) (x1 : Int) (x2 : Int) (s0 : gMem) : f_X9_how x0 x1 x2 s0 = (if (f_X9_sheetWrong x0 s0) = 0 then (if (f_X9_isPlace x1) = 0 then ((-5), s0) else (if (f_X9_in x2 0 12) = 0 then ((-7), s0) else (if 2 < (x2 % 10) then ((-7), s0) else (gl3 (w_X9_how_60 x0 x1 x2 (s0 2 3) 4 0 0 s0) (fun v90 v91 s92 => gl (mset s92 2 3 (s0 2 3)) (fun s96 => (v90, s96))))))) else ((f_X9_sheetWrong x0 s0), s0)) := rfl
set_option maxRecDepth 100000 in
set_option maxHeartbeats 4000000 in
theorem f_X9_how_p (x0 : Int) (x1 : Int) (x2 : Int) (s0 : gMem) (hx0 : in32 x0) (hx1 : in32 x1) (hx2 : in32 x2) (hm_s0 : gMR lgM s0) (hpre0 : TD s0) (hpre1 : SO s0) (hpre2 : SZ s0) (rZ : Int) (sZ : gMem) (hres : f_X9_how x0 x1 x2 s0 = (rZ, sZ)) : (fr [2] s0 sZ) ∧ (gMR lgM sZ) ∧ (in32 rZ) ∧ (TD sZ) := by
  have hT := f_X9_how_e x0 x1 x2 s0
  have hf_s0 : fr [2] s0 s0 := fr.rf _ _
  have hTD_s0 := hpre0
  have hp2 := f_X9_sheetWrong_p x0 s0 (by omega) hm_s0 hpre1 hpre2
  by_cases h3 : (f_X9_sheetWrong x0 s0) = 0
  · replace hT := hT.trans (if_pos h3)
    have hp5 := f_X9_isPlace_p x1 (by omega) 
    by_cases h6 : (f_X9_isPlace x1) = 0
    · replace hT := hT.trans (if_pos h6)
      obtain ⟨rfl, rfl⟩ := Prod.mk.inj (hT.symm.trans hres)
      exact ⟨hf_s0, hm_s0, (by omega), hTD_s0⟩
    · replace hT := hT.trans (if_neg h6)
      have hp8 := f_X9_in_p x2 0 12 (by omega) (by omega) (by omega) 
      by_cases h9 : (f_X9_in x2 0 12) = 0
      · replace hT := hT.trans (if_pos h9)
        obtain ⟨rfl, rfl⟩ := Prod.mk.inj (hT.symm.trans hres)
        exact ⟨hf_s0, hm_s0, (by omega), hTD_s0⟩
      · replace hT := hT.trans (if_neg h9)
        have hd10 : (0 : Int) ≤ x2 := (by omega)
        have hd11 : (0 : Int) < 10 := (by omega)
        have hb12 := rm_rg (x := x2) hd11
        by_cases h13 : 2 < (x2 % 10)
        · replace hT := hT.trans (if_pos h13)
          obtain ⟨rfl, rfl⟩ := Prod.mk.inj (hT.symm.trans hres)
          exact ⟨hf_s0, hm_s0, (by omega), hTD_s0⟩
        · replace hT := hT.trans (if_neg h13)
          have hr14 := (hm_s0 2 3).1 rfl
          have hi15 := hTD_s0 3
          have L51 : ∀ (n52 : Nat) (v48 : Int) (v49 : Int) (s50 : gMem), ((in32 v48) ∧ (in32 v49) ∧ (fr [2] s0 s50) ∧ (gMR lgM s50) ∧ (TD s50) ∧ (0 ≤ v49 ∧ v49 ≤ 3)) → 3 - v49 < (n52 : Int) → (∀ (w53 : Int) (w54 : Int) (s55 : gMem), (w_X9_how_60 x0 x1 x2 (s0 2 3) n52 v48 v49 s50) = (w53, w54, s55) → ((in32 w53) ∧ (in32 w54) ∧ (fr [2] s0 s55) ∧ (gMR lgM s55) ∧ (TD s55) ∧ (0 ≤ w54 ∧ w54 ≤ 3)) → (fr [2] s0 sZ) ∧ (gMR lgM sZ) ∧ (in32 rZ) ∧ (TD sZ)) → (fr [2] s0 sZ) ∧ (gMR lgM sZ) ∧ (in32 rZ) ∧ (TD sZ) := by
            intro n52; induction n52 with
            | zero =>
              intro v48 v49 s50 hq hm hk
              exfalso
              obtain ⟨hq84, hq85, hf_s50, hm_s50, hTD_s50, hq86⟩ := hq
              omega
            | succ n52 ih =>
              intro v48 v49 s50 hq hm hk
              obtain ⟨hq87, hq88, hf_s50, hm_s50, hTD_s50, hq89⟩ := hq
              have hT := w_X9_how_60_s x0 x1 x2 (s0 2 3) n52 v48 v49 s50
              by_cases h56 : v49 < 3
              · replace hT := hT.trans (if_pos h56)
                obtain ⟨z83, hz83, hT⟩ := gl1x hT
                have j58 : ∀ (v59 : Int), ((in32 v59) ∧ (0 ≤ v59 ∧ v59 ≤ 2)) → z83 = v59 → (fr [2] s0 sZ) ∧ (gMR lgM sZ) ∧ (in32 rZ) ∧ (TD sZ) := by
                  intro v59 hq hz
                  obtain ⟨hq81, hq82⟩ := hq
                  replace hT := gl1y hT hz
                  obtain ⟨s60, hs60, hT⟩ := glx hT
                  have hf_s60 : fr [2] s0 s60 := hs60 ▸ hf_s50.set (by decide)
                  have hm_s60 : gMR lgM s60 := hs60 ▸ hm_s50.set32 rfl (by omega)
                  have hTD_s60 : TD s60 := hs60 ▸ TD_set hTD_s50 (by omega)
                  obtain ⟨z77, hz77, hT⟩ := gl1x hT
                  have j62 : ∀ (v63 : Int), ((in32 v63)) → z77 = v63 → (fr [2] s0 sZ) ∧ (gMR lgM sZ) ∧ (in32 rZ) ∧ (TD sZ) := by
                    intro v63 hq hz
                    have hq76 := hq
                    replace hT := gl1y hT hz
                    have hp65 := f_X9_pushed_p x1 v63 s60 (by omega) (by omega) hm_s60 hTD_s60 (by first | assumption | omega)
                    have hp67 := f_X9_unlike_p x0 (f_X9_pushed x1 v63 s60) s60 (by omega) (by omega) hm_s60 (by first | assumption | omega)
                    obtain ⟨z73, hz73, hT⟩ := gl1x hT
                    have j69 : ∀ (v70 : Int), ((in32 v70)) → z73 = v70 → (fr [2] s0 sZ) ∧ (gMR lgM sZ) ∧ (in32 rZ) ∧ (TD sZ) := by
                      intro v70 hq hz
                      have hq72 := hq
                      replace hT := gl1y hT hz
                      have hb71 := ior_rg v48 v70
                      exact ih (ior v48 v70) (v49 + 1) s60 ⟨(by omega), (by omega), hf_s60, hm_s60, hTD_s60, (by first | assumption | omega)⟩ (by omega) (fun w53 w54 s55 hw hi => hk w53 w54 s55 (hT.trans hw) hi)
                    replace hT := hz73
                    by_cases h68 : (f_X9_unlike x0 (f_X9_pushed x1 v63 s60) s60) = (-1)
                    · replace hT := hT.trans (if_pos h68)
                      have hb74 := ishl_rg 1 v49
                      have hb75 : 0 ≤ v49 ∧ v49 ≤ 15 → _ := fun q => ishl_1 q.1 q.2
                      exact j69 (ishl 1 v49) (by omega) hT
                    · replace hT := hT.trans (if_neg h68)
                      exact j69 0 (by omega) hT
                  replace hT := hz77
                  by_cases h61 : x2 < 10
                  · replace hT := hT.trans (if_pos h61)
                    exact j62 v49 (by omega) hT
                  · replace hT := hT.trans (if_neg h61)
                    have hd78 : (0 : Int) ≤ x2 := (by omega)
                    have hd79 : (0 : Int) < 10 := (by omega)
                    have hb80 := rm_rg (x := x2) hd79
                    exact j62 (x2 % 10) (by omega) hT
                replace hT := hz83
                by_cases h57 : x2 < 10
                · replace hT := hT.trans (if_pos h57)
                  exact j58 (s0 2 3) ⟨(by omega), (by first | assumption | omega)⟩ hT
                · replace hT := hT.trans (if_neg h57)
                  exact j58 v49 ⟨(by omega), (by first | assumption | omega)⟩ hT
              · replace hT := hT.trans (if_neg h56)
                exact hk v48 v49 s50 hT ⟨(by omega), (by omega), hf_s50, hm_s50, hTD_s50, (by first | assumption | omega)⟩
          refine L51 4 0 0 s0 ⟨(by omega), (by omega), hf_s0, hm_s0, hTD_s0, (by first | assumption | omega)⟩ (by omega) (fun v90 v91 s92 hw hq => ?_)
          obtain ⟨hq93, hq94, hf_s92, hm_s92, hTD_s92, hq95⟩ := hq
          replace hT := gl3y hT hw
          obtain ⟨s96, hs96, hT⟩ := glx hT
          have hf_s96 : fr [2] s0 s96 := hs96 ▸ hf_s92.set (by decide)
          have hm_s96 : gMR lgM s96 := hs96 ▸ hm_s92.set32 rfl (by omega)
          have hTD_s96 : TD s96 := hs96 ▸ TD_set hTD_s92 (by omega)
          obtain ⟨rfl, rfl⟩ := Prod.mk.inj (hT.symm.trans hres)
          exact ⟨hf_s96, hm_s96, (by omega), hTD_s96⟩
  · replace hT := hT.trans (if_neg h3)
    obtain ⟨rfl, rfl⟩ := Prod.mk.inj (hT.symm.trans hres)
    exact ⟨hf_s0, hm_s0, (by omega), hTD_s0⟩
set_option maxRecDepth 100000 in
set_option maxHeartbeats 4000000 in
theorem c_X9_how (l : Launch) (D : va_G) (a : Nat → Nat) (cI cJ cS cT : ClassId) (s0 : gMem) (x0 : Int) (x1 : Int) (x2 : Int) (hx0 : in32 x0) (hx1 : in32 x1) (hx2 : in32 x2) (hpre0 : TD s0) (hpre1 : SO s0) (hpre2 : SZ s0) : gC l yX9_how cX9_how 8 (some .int) 5 320 D vwCl (gT cI cJ cS cT) (wdM a cI cJ) lgM kI in32 [.ref (a 0), gI x0, gI x1, gI x2] s0 (f_X9_how x0 x1 x2 s0) := by
  refine gC_of (by decide +kernel) (hwdM a cI cJ) (Nat.le_of_ble_eq_true rfl) ?_
  intro A p e R s m args below meth c hR E
  subst hR
  have hT := f_X9_how_e x0 x1 x2 s0
  have hf_s0 : fr [2] s0 s0 := fr.rf _ _
  refine k_lv0 (lv' := [(0, .ref (a 0)), (1, gI x0), (2, gI x1), (3, gI x2)]) rfl ?_
  refine k_mr (fun hm_s0 => ?_)
  have hTD_s0 := hpre0
  refine k_aloadn (pc := 0) E 0 dX9_how_0 rfl rfl ?_
  refine k_iloadn (pc := 1) E 1 dX9_how_1 rfl rfl ?_
  refine k_mr (fun hm_s0 => ?_)
  refine k_callV (pc := 2) (np := 1) (As := [gI x0]) (st := []) (q0 := 0) E (c_X9_sheetWrong l D a cI cJ cS cT s0 x0 (by omega) hpre1 hpre2) wm_1224 wm_11 wm_1221 wm_1223 wp_51 (by decide +kernel) rfl rfl ⟨by decide, by decide⟩ rfl (Nat.le_of_ble_eq_true rfl) dX9_how_2 (ro_kk (fun hr1 => ?_))
  have hp2 := f_X9_sheetWrong_p x0 s0 (by omega) hm_s0 hpre1 hpre2
  refine k_st (st' := [gI (f_X9_sheetWrong x0 s0)]) rfl ?_
  refine k_istore (pc := 5) (lv' := [(4, gI (f_X9_sheetWrong x0 s0)), (0, .ref (a 0)), (1, gI x0), (2, gI x1), (3, gI x2)]) E dX9_how_5 (by decide) rfl ?_
  refine k_iload (pc := 7) E 0 dX9_how_7 rfl ?_
  by_cases h3 : (f_X9_sheetWrong x0 s0) = 0
  · replace hT := hT.trans (if_pos h3)
    refine k_if_eq_t (pc := 9) (tgt := 15) E (by omega) dX9_how_9 (by decide) h3 ?_
    refine k_iloadn (pc := 15) E 3 dX9_how_15 rfl rfl ?_
    refine k_mr (fun hm_s0 => ?_)
    refine k_callS (pc := 16) (np := 1) (As := [gI x1]) (st := []) E (c_X9_isPlace l D a cI cJ cS cT s0 x1 (by omega)) wm_1040 wm_11 wm_1038 wm_1039 (by decide +kernel) ⟨by decide, by decide⟩ rfl (Nat.le_of_ble_eq_true rfl) dX9_how_16 (ro_kk (fun hr4 => ?_))
    have hp5 := f_X9_isPlace_p x1 (by omega) 
    refine k_st (st' := [gI (f_X9_isPlace x1)]) rfl ?_
    by_cases h6 : (f_X9_isPlace x1) = 0
    · replace hT := hT.trans (if_pos h6)
      refine k_if_ne_f (pc := 19) (tgt := 25) E (by omega) dX9_how_19 (by decide) h6 ?_
      refine k_bipush (pc := 22) E dX9_how_22 (by decide) ?_
      exact k_rho hT (k_iret (pc := 24) E dX9_how_24 (by omega))
    · replace hT := hT.trans (if_neg h6)
      refine k_if_ne_t (pc := 19) (tgt := 25) E (by omega) dX9_how_19 (by decide) h6 ?_
      refine k_iloadn (pc := 25) E 4 dX9_how_25 rfl rfl ?_
      refine k_iconst (pc := 26) E dX9_how_26 ?_
      refine k_bipush (pc := 27) E dX9_how_27 (by decide) ?_
      refine k_mr (fun hm_s0 => ?_)
      refine k_callS (pc := 29) (np := 3) (As := [gI x2, gI 0, gI 12]) (st := []) E (c_X9_in l D a cI cJ cS cT s0 x2 0 12 (by omega) (by omega) (by omega)) wm_861 wm_11 wm_859 wm_860 (by decide +kernel) ⟨by decide, by decide⟩ rfl (Nat.le_of_ble_eq_true rfl) dX9_how_29 (ro_kk (fun hr7 => ?_))
      have hp8 := f_X9_in_p x2 0 12 (by omega) (by omega) (by omega) 
      refine k_st (st' := [gI (f_X9_in x2 0 12)]) rfl ?_
      by_cases h9 : (f_X9_in x2 0 12) = 0
      · replace hT := hT.trans (if_pos h9)
        refine k_if_eq_t (pc := 32) (tgt := 43) E (by omega) dX9_how_32 (by decide) h9 ?_
        refine k_bipush (pc := 43) E dX9_how_43 (by decide) ?_
        exact k_rho hT (k_iret (pc := 45) E dX9_how_45 (by omega))
      · replace hT := hT.trans (if_neg h9)
        refine k_if_eq_f (pc := 32) (tgt := 43) E (by omega) dX9_how_32 (by decide) h9 ?_
        refine k_iloadn (pc := 35) E 4 dX9_how_35 rfl rfl ?_
        refine k_bipush (pc := 36) E dX9_how_36 (by decide) ?_
        have hd10 : (0 : Int) ≤ x2 := (by omega)
        have hd11 : (0 : Int) < 10 := (by omega)
        refine k_iremN (pc := 38) E (by omega) (by omega) hd10 hd11 dX9_how_38 ?_
        have hb12 := rm_rg (x := x2) hd11
        refine k_iconst (pc := 39) E dX9_how_39 ?_
        by_cases h13 : 2 < (x2 % 10)
        · replace hT := hT.trans (if_pos h13)
          refine k_icmp_le_f (pc := 40) (tgt := 46) E (by omega) (by omega) dX9_how_40 (by decide) h13 ?_
          refine k_bipush (pc := 43) E dX9_how_43 (by decide) ?_
          exact k_rho hT (k_iret (pc := 45) E dX9_how_45 (by omega))
        · replace hT := hT.trans (if_neg h13)
          refine k_icmp_le_t (pc := 40) (tgt := 46) E (by omega) (by omega) dX9_how_40 (by decide) h13 ?_
          refine k_aloadn (pc := 46) E 1 dX9_how_46 rfl rfl ?_
          refine k_getf (pc := 47) (q0 := 0) (f := 2) (v := .ref (a 3)) E inX9 rfl rfl (by decide) wm_900 rfl rfl dX9_how_47 ?_
          refine k_iconst (pc := 50) E dX9_how_50 ?_
          refine k_iaload (pc := 51) (q0 := 3) (t0 := 0) (k := 2) (n := 4) E rfl rfl rfl (by decide) (by omega) (by omega) dX9_how_51 (fun hr14 => ?_)
          have hi15 := hTD_s0 3
          refine k_istore (pc := 52) (lv' := [(5, gI (s0 2 3)), (4, gI (f_X9_sheetWrong x0 s0)), (0, .ref (a 0)), (1, gI x0), (2, gI x1), (3, gI x2)]) E dX9_how_52 (by decide) rfl ?_
          refine k_iconst (pc := 54) E dX9_how_54 ?_
          refine k_istore (pc := 55) (lv' := [(6, gI 0), (5, gI (s0 2 3)), (4, gI (f_X9_sheetWrong x0 s0)), (0, .ref (a 0)), (1, gI x0), (2, gI x1), (3, gI x2)]) E dX9_how_55 (by decide) rfl ?_
          refine k_iconst (pc := 57) E dX9_how_57 ?_
          refine k_istore (pc := 58) (lv' := [(7, gI 0), (6, gI 0), (5, gI (s0 2 3)), (4, gI (f_X9_sheetWrong x0 s0)), (0, .ref (a 0)), (1, gI x0), (2, gI x1), (3, gI x2)]) E dX9_how_58 (by decide) rfl ?_
          have L51 : ∀ (n52 : Nat) (v48 : Int) (v49 : Int) (s50 : gMem), ((in32 v48) ∧ (in32 v49) ∧ (fr [2] s0 s50) ∧ (TD s50) ∧ (0 ≤ v49 ∧ v49 ≤ 3)) → 3 - v49 < (n52 : Int) → (∀ (w53 : Int) (w54 : Int) (s55 : gMem), (w_X9_how_60 x0 x1 x2 (s0 2 3) n52 v48 v49 s50) = (w53, w54, s55) → ((in32 w53) ∧ (in32 w54) ∧ (fr [2] s0 s55) ∧ (TD s55) ∧ (0 ≤ w54 ∧ w54 ≤ 3)) → gK D vwCl (wdM a cI cJ) lgM A p l e { frames := 5, cells := 0, slots := 0, locals := 320 } s m args below meth c 8 (gQQ D vwCl (wdM a cI cJ) lgM A kI in32 below args s) (f_X9_how x0 x1 x2 s0) s55 133 [(0, .ref (a 0)), (5, gI (s0 2 3)), (6, gI w53)] []) → gK D vwCl (wdM a cI cJ) lgM A p l e { frames := 5, cells := 0, slots := 0, locals := 320 } s m args below meth c 8 (gQQ D vwCl (wdM a cI cJ) lgM A kI in32 below args s) (f_X9_how x0 x1 x2 s0) s50 60 [(0, .ref (a 0)), (1, gI x0), (2, gI x1), (3, gI x2), (5, gI (s0 2 3)), (6, gI v48), (7, gI v49)] [] := by
            intro n52; induction n52 with
            | zero =>
              intro v48 v49 s50 hq hm hk
              exfalso
              obtain ⟨hq84, hq85, hf_s50, hTD_s50, hq86⟩ := hq
              omega
            | succ n52 ih =>
              intro v48 v49 s50 hq hm hk
              obtain ⟨hq87, hq88, hf_s50, hTD_s50, hq89⟩ := hq
              have hT := w_X9_how_60_s x0 x1 x2 (s0 2 3) n52 v48 v49 s50
              refine k_iload (pc := 60) E 6 dX9_how_60 rfl ?_
              refine k_iconst (pc := 62) E dX9_how_62 ?_
              by_cases h56 : v49 < 3
              · replace hT := hT.trans (if_pos h56)
                refine k_icmp_ge_f (pc := 63) (tgt := 133) E (by omega) (by omega) dX9_how_63 (by decide) h56 ?_
                refine k_aloadn (pc := 66) E 0 dX9_how_66 rfl rfl ?_
                refine k_getf (pc := 67) (q0 := 0) (f := 2) (v := .ref (a 3)) E inX9 rfl rfl (by decide) wm_900 rfl rfl dX9_how_67 ?_
                refine k_iconst (pc := 70) E dX9_how_70 ?_
                refine k_iloadn (pc := 71) E 3 dX9_how_71 rfl rfl ?_
                refine k_bipush (pc := 72) E dX9_how_72 (by decide) ?_
                obtain ⟨z83, hz83, hT⟩ := gl1x hT
                have j58 : ∀ (v59 : Int), ((in32 v59) ∧ (0 ≤ v59 ∧ v59 ≤ 2)) → z83 = v59 → gK D vwCl (wdM a cI cJ) lgM A p l e { frames := 5, cells := 0, slots := 0, locals := 320 } s m args below meth c 8 (gQQ D vwCl (wdM a cI cJ) lgM A kI in32 below args s) (f_X9_how x0 x1 x2 s0) s50 84 [(0, .ref (a 0)), (1, gI x0), (2, gI x1), (3, gI x2), (5, gI (s0 2 3)), (6, gI v48), (7, gI v49)] [gI v59, gI 3, .ref (a 3)] := by
                  intro v59 hq hz
                  obtain ⟨hq81, hq82⟩ := hq
                  replace hT := gl1y hT hz
                  refine k_iastore (pc := 84) (q0 := 3) (t0 := 0) (k := 2) (n := 4) E rfl rfl rfl rfl (by decide) (by omega) (by omega) (by omega) dX9_how_84 ?_
                  obtain ⟨s60, hs60, hT⟩ := glx hT
                  refine k_sg hs60.symm ?_
                  have hf_s60 : fr [2] s0 s60 := hs60 ▸ hf_s50.set (by decide)
                  have hTD_s60 : TD s60 := hs60 ▸ TD_set hTD_s50 (by omega)
                  refine k_iload (pc := 85) E 5 dX9_how_85 rfl ?_
                  refine k_aloadn (pc := 87) E 0 dX9_how_87 rfl rfl ?_
                  refine k_iloadn (pc := 88) E 1 dX9_how_88 rfl rfl ?_
                  refine k_aloadn (pc := 89) E 0 dX9_how_89 rfl rfl ?_
                  refine k_iloadn (pc := 90) E 2 dX9_how_90 rfl rfl ?_
                  refine k_iloadn (pc := 91) E 3 dX9_how_91 rfl rfl ?_
                  refine k_bipush (pc := 92) E dX9_how_92 (by decide) ?_
                  obtain ⟨z77, hz77, hT⟩ := gl1x hT
                  have j62 : ∀ (v63 : Int), ((in32 v63)) → z77 = v63 → gK D vwCl (wdM a cI cJ) lgM A p l e { frames := 5, cells := 0, slots := 0, locals := 320 } s m args below meth c 8 (gQQ D vwCl (wdM a cI cJ) lgM A kI in32 below args s) (f_X9_how x0 x1 x2 s0) s60 106 [(0, .ref (a 0)), (1, gI x0), (2, gI x1), (3, gI x2), (5, gI (s0 2 3)), (7, gI v49)] [gI v63, gI x1, .ref (a 0), gI x0, .ref (a 0), gI v48] := by
                    intro v63 hq hz
                    have hq76 := hq
                    replace hT := gl1y hT hz
                    refine k_callV (pc := 106) (np := 2) (As := [gI x1, gI v63]) (st := [gI x0, .ref (a 0), gI v48]) (q0 := 0) E (c_X9_pushed l D a cI cJ cS cT s60 x1 v63 (by omega) (by omega) hTD_s60 (by first | assumption | omega)) wm_1175 wm_11 wm_1172 wm_1174 wp_47 (by decide +kernel) rfl rfl ⟨by decide, by decide⟩ rfl (Nat.le_of_ble_eq_true rfl) dX9_how_106 (ro_kk (fun hr64 => ?_))
                    refine k_st (st' := [gI (f_X9_pushed x1 v63 s60), gI x0, .ref (a 0), gI v48]) rfl ?_
                    refine k_callV (pc := 109) (np := 2) (As := [gI x0, gI (f_X9_pushed x1 v63 s60)]) (st := [gI v48]) (q0 := 0) E (c_X9_unlike l D a cI cJ cS cT s60 x0 (f_X9_pushed x1 v63 s60) (by omega) (by omega) (by first | assumption | omega)) wm_1228 wm_11 wm_1225 wm_1227 wp_52 (by decide +kernel) rfl rfl ⟨by decide, by decide⟩ rfl (Nat.le_of_ble_eq_true rfl) dX9_how_109 (ro_kk (fun hr66 => ?_))
                    refine k_st (st' := [gI (f_X9_unlike x0 (f_X9_pushed x1 v63 s60) s60), gI v48]) rfl ?_
                    refine k_iconst (pc := 112) E dX9_how_112 ?_
                    obtain ⟨z73, hz73, hT⟩ := gl1x hT
                    have j69 : ∀ (v70 : Int), ((in32 v70)) → z73 = v70 → gK D vwCl (wdM a cI cJ) lgM A p l e { frames := 5, cells := 0, slots := 0, locals := 320 } s m args below meth c 8 (gQQ D vwCl (wdM a cI cJ) lgM A kI in32 below args s) (f_X9_how x0 x1 x2 s0) s60 124 [(0, .ref (a 0)), (1, gI x0), (2, gI x1), (3, gI x2), (5, gI (s0 2 3)), (7, gI v49)] [gI v70, gI v48] := by
                      intro v70 hq hz
                      have hq72 := hq
                      replace hT := gl1y hT hz
                      refine k_ior (pc := 124) E dX9_how_124 ?_
                      have hb71 := ior_rg v48 v70
                      refine k_istore (pc := 125) (lv' := [(6, gI (ior v48 v70)), (0, .ref (a 0)), (1, gI x0), (2, gI x1), (3, gI x2), (5, gI (s0 2 3)), (7, gI v49)]) E dX9_how_125 (by decide) rfl ?_
                      refine k_iinc (pc := 127) (lv' := [(7, gI (v49 + 1)), (6, gI (ior v48 v70)), (0, .ref (a 0)), (1, gI x0), (2, gI x1), (3, gI x2), (5, gI (s0 2 3))]) E 6 dX9_how_127 rfl (by decide) rfl ?_
                      refine k_goto (pc := 130) (tgt := 60) E dX9_how_130 (by decide) ?_
                      refine k_lv (lv' := [(0, .ref (a 0)), (1, gI x0), (2, gI x1), (3, gI x2), (5, gI (s0 2 3)), (6, gI (ior v48 v70)), (7, gI (v49 + 1))]) [2, 3, 4, 5, 6, 1, 0] rfl ?_
                      exact ih (ior v48 v70) (v49 + 1) s60 ⟨(by omega), (by omega), hf_s60, hTD_s60, (by first | assumption | omega)⟩ (by omega) (fun w53 w54 s55 hw hi => hk w53 w54 s55 (hT.trans hw) hi)
                    replace hT := hz73
                    by_cases h68 : (f_X9_unlike x0 (f_X9_pushed x1 v63 s60) s60) = (-1)
                    · replace hT := hT.trans (if_pos h68)
                      refine k_icmp_ne_f (pc := 113) (tgt := 123) E (by omega) (by omega) dX9_how_113 (by decide) h68 ?_
                      refine k_iconst (pc := 116) E dX9_how_116 ?_
                      refine k_iload (pc := 117) E 5 dX9_how_117 rfl ?_
                      refine k_ishl (pc := 119) E dX9_how_119 ?_
                      have hb74 := ishl_rg 1 v49
                      have hb75 : 0 ≤ v49 ∧ v49 ≤ 15 → _ := fun q => ishl_1 q.1 q.2
                      refine k_goto (pc := 120) (tgt := 124) E dX9_how_120 (by decide) ?_
                      exact j69 (ishl 1 v49) (by omega) hT
                    · replace hT := hT.trans (if_neg h68)
                      refine k_icmp_ne_t (pc := 113) (tgt := 123) E (by omega) (by omega) dX9_how_113 (by decide) h68 ?_
                      refine k_iconst (pc := 123) E dX9_how_123 ?_
                      exact j69 0 (by omega) hT
                  replace hT := hz77
                  by_cases h61 : x2 < 10
                  · replace hT := hT.trans (if_pos h61)
                    refine k_icmp_ge_f (pc := 94) (tgt := 102) E (by omega) (by omega) dX9_how_94 (by decide) h61 ?_
                    refine k_iload (pc := 97) E 6 dX9_how_97 rfl ?_
                    refine k_goto (pc := 99) (tgt := 106) E dX9_how_99 (by decide) ?_
                    refine k_lv (lv' := [(0, .ref (a 0)), (1, gI x0), (2, gI x1), (3, gI x2), (5, gI (s0 2 3)), (7, gI v49)]) [0, 1, 2, 3, 4, 6] rfl ?_
                    exact j62 v49 (by omega) hT
                  · replace hT := hT.trans (if_neg h61)
                    refine k_icmp_ge_t (pc := 94) (tgt := 102) E (by omega) (by omega) dX9_how_94 (by decide) h61 ?_
                    refine k_iloadn (pc := 102) E 3 dX9_how_102 rfl rfl ?_
                    refine k_bipush (pc := 103) E dX9_how_103 (by decide) ?_
                    have hd78 : (0 : Int) ≤ x2 := (by omega)
                    have hd79 : (0 : Int) < 10 := (by omega)
                    refine k_iremN (pc := 105) E (by omega) (by omega) hd78 hd79 dX9_how_105 ?_
                    have hb80 := rm_rg (x := x2) hd79
                    refine k_lv (lv' := [(0, .ref (a 0)), (1, gI x0), (2, gI x1), (3, gI x2), (5, gI (s0 2 3)), (7, gI v49)]) [0, 1, 2, 3, 4, 6] rfl ?_
                    exact j62 (x2 % 10) (by omega) hT
                replace hT := hz83
                by_cases h57 : x2 < 10
                · replace hT := hT.trans (if_pos h57)
                  refine k_icmp_ge_f (pc := 74) (tgt := 82) E (by omega) (by omega) dX9_how_74 (by decide) h57 ?_
                  refine k_iload (pc := 77) E 4 dX9_how_77 rfl ?_
                  refine k_goto (pc := 79) (tgt := 84) E dX9_how_79 (by decide) ?_
                  exact j58 (s0 2 3) ⟨(by omega), (by first | assumption | omega)⟩ hT
                · replace hT := hT.trans (if_neg h57)
                  refine k_icmp_ge_t (pc := 74) (tgt := 82) E (by omega) (by omega) dX9_how_74 (by decide) h57 ?_
                  refine k_iload (pc := 82) E 6 dX9_how_82 rfl ?_
                  exact j58 v49 ⟨(by omega), (by first | assumption | omega)⟩ hT
              · replace hT := hT.trans (if_neg h56)
                refine k_icmp_ge_t (pc := 63) (tgt := 133) E (by omega) (by omega) dX9_how_63 (by decide) h56 ?_
                refine k_lv (lv' := [(0, .ref (a 0)), (5, gI (s0 2 3)), (6, gI v48)]) [0, 4, 5] rfl ?_
                exact hk v48 v49 s50 hT ⟨(by omega), (by omega), hf_s50, hTD_s50, (by first | assumption | omega)⟩
          refine k_lv (lv' := [(0, .ref (a 0)), (1, gI x0), (2, gI x1), (3, gI x2), (5, gI (s0 2 3)), (6, gI 0), (7, gI 0)]) [4, 5, 6, 7, 2, 1, 0] rfl ?_
          refine L51 4 0 0 s0 ⟨(by omega), (by omega), hf_s0, hTD_s0, (by first | assumption | omega)⟩ (by omega) (fun v90 v91 s92 hw hq => ?_)
          obtain ⟨hq93, hq94, hf_s92, hTD_s92, hq95⟩ := hq
          replace hT := gl3y hT hw
          refine k_aloadn (pc := 133) E 0 dX9_how_133 rfl rfl ?_
          refine k_getf (pc := 134) (q0 := 0) (f := 2) (v := .ref (a 3)) E inX9 rfl rfl (by decide) wm_900 rfl rfl dX9_how_134 ?_
          refine k_iconst (pc := 137) E dX9_how_137 ?_
          refine k_iload (pc := 138) E 1 dX9_how_138 rfl ?_
          refine k_iastore (pc := 140) (q0 := 3) (t0 := 0) (k := 2) (n := 4) E rfl rfl rfl rfl (by decide) (by omega) (by omega) (by omega) dX9_how_140 ?_
          obtain ⟨s96, hs96, hT⟩ := glx hT
          refine k_sg hs96.symm ?_
          have hf_s96 : fr [2] s0 s96 := hs96 ▸ hf_s92.set (by decide)
          have hTD_s96 : TD s96 := hs96 ▸ TD_set hTD_s92 (by omega)
          refine k_iload (pc := 141) E 2 dX9_how_141 rfl ?_
          exact k_rho hT (k_iret (pc := 143) E dX9_how_143 (by omega))
  · replace hT := hT.trans (if_neg h3)
    refine k_if_eq_f (pc := 9) (tgt := 15) E (by omega) dX9_how_9 (by decide) h3 ?_
    refine k_iload (pc := 12) E 0 dX9_how_12 rfl ?_
    exact k_rho hT (k_iret (pc := 14) E dX9_how_14 (by omega))

def t_X9_otherwise_2 (c1 : Int) : Nat → Int → gMem → gRes
  | 0, v1, s2 => (0, s2)
  | n3 + 1, v1, s2 => (if v1 < 16 then gb (f_X9_fallsOf v1 0 s2) (fun r7 s8 => (if (s2 14 ((40 * c1) + v1)) = r7 then (t_X9_otherwise_2 c1 n3 (v1 + 1) s8) else (v1, s8))) else ((-1), s2))
theorem t_X9_otherwise_2_s (c1 : Int) (n3 : Nat) (v1 : Int) (s2 : gMem) : t_X9_otherwise_2 c1 (n3 + 1) v1 s2 = (if v1 < 16 then gb (f_X9_fallsOf v1 0 s2) (fun r7 s8 => (if (s2 14 ((40 * c1) + v1)) = r7 then (t_X9_otherwise_2 c1 n3 (v1 + 1) s8) else (v1, s8))) else ((-1), s2)) := rfl
def f_X9_otherwise (x0 : Int) (s0 : gMem) : gRes := (t_X9_otherwise_2 x0 17 0 s0)
theorem f_X9_otherwise_e (x0 : Int) (s0 : gMem) : f_X9_otherwise x0 s0 = (t_X9_otherwise_2 x0 17 0 s0) := rfl
set_option maxRecDepth 100000 in
set_option maxHeartbeats 4000000 in
theorem f_X9_otherwise_p (x0 : Int) (s0 : gMem) (hx0 : in32 x0) (hm_s0 : gMR lgM s0) (hpre0 : VS s0) (hpre1 : KN s0) (hpre2 : MO s0) (hpre3 : 0 ≤ x0 ∧ x0 ≤ 3) (rZ : Int) (sZ : gMem) (hres : f_X9_otherwise x0 s0 = (rZ, sZ)) : (fr [25, 26] s0 sZ) ∧ (gMR lgM sZ) ∧ (in32 rZ) := by
  have hT := f_X9_otherwise_e x0 s0
  have hf_s0 : fr [25, 26] s0 s0 := fr.rf _ _
  have L15 : ∀ (n16 : Nat) (v13 : Int) (s14 : gMem), ((in32 v13) ∧ (fr [25, 26] s0 s14) ∧ (gMR lgM s14) ∧ (0 ≤ v13 ∧ v13 ≤ 16)) → 16 - v13 < (n16 : Int) → (f_X9_otherwise x0 s0) = (t_X9_otherwise_2 x0 n16 v13 s14) → (fr [25, 26] s0 sZ) ∧ (gMR lgM sZ) ∧ (in32 rZ) := by
    intro n16; induction n16 with
    | zero =>
      intro v13 s14 hq hm hT
      exfalso
      obtain ⟨hq28, hf_s14, hm_s14, hq29⟩ := hq
      omega
    | succ n16 ih =>
      intro v13 s14 hq hm hT
      obtain ⟨hq30, hf_s14, hm_s14, hq31⟩ := hq
      replace hT := hT.trans (t_X9_otherwise_2_s x0 n16 v13 s14)
      by_cases h19 : v13 < 16
      · replace hT := hT.trans (if_pos h19)
        have hr20 := (hm_s14 14 ((40 * x0) + v13)).1 rfl
        obtain ⟨r22, s23, hs23⟩ : ∃ rr ss, (f_X9_fallsOf v13 0 s14) = (rr, ss) := ⟨_, _, rfl⟩
        replace hT := gby hT hs23
        have hp24 := f_X9_fallsOf_p v13 0 s14 (by omega) (by omega) hm_s14 (by unfold VS; rw [hf_s14 5 (by decide), hf_s14 6 (by decide), hf_s14 7 (by decide), hf_s14 8 (by decide)]; exact hpre0) (by unfold KN; rw [hf_s14 0 (by decide)]; exact hpre1) (by unfold MO; rw [hf_s14 1 (by decide)]; exact hpre2) (by first | assumption | omega) (by first | assumption | omega) r22 s23 hs23
        obtain ⟨hfc_s23, hm_s23, hp25, hp26⟩ := hp24
        have hf_s23 : fr [25, 26] s0 s23 := hf_s14.call (by decide) hfc_s23
        by_cases h27 : (s14 14 ((40 * x0) + v13)) = r22
        · replace hT := hT.trans (if_pos h27)
          exact ih (v13 + 1) s23 ⟨(by omega), hf_s23, hm_s23, (by first | assumption | omega)⟩ (by omega) hT
        · replace hT := hT.trans (if_neg h27)
          obtain ⟨rfl, rfl⟩ := Prod.mk.inj (hT.symm.trans hres)
          exact ⟨hf_s23, hm_s23, (by omega)⟩
      · replace hT := hT.trans (if_neg h19)
        obtain ⟨rfl, rfl⟩ := Prod.mk.inj (hT.symm.trans hres)
        exact ⟨hf_s14, hm_s14, (by omega)⟩
  exact L15 17 0 s0 ⟨(by omega), hf_s0, hm_s0, (by first | assumption | omega)⟩ (by omega) hT
set_option maxRecDepth 100000 in
set_option maxHeartbeats 4000000 in
theorem c_X9_otherwise (l : Launch) (D : va_G) (a : Nat → Nat) (cI cJ cS cT : ClassId) (s0 : gMem) (x0 : Int) (hx0 : in32 x0) (hpre0 : VS s0) (hpre1 : KN s0) (hpre2 : MO s0) (hpre3 : 0 ≤ x0 ∧ x0 ≤ 3) : gC l yX9_otherwise cX9_otherwise 3 (some .int) 5 320 D vwCl (gT cI cJ cS cT) (wdM a cI cJ) lgM kI in32 [.ref (a 0), gI x0] s0 (f_X9_otherwise x0 s0) := by
  refine gC_of (by decide +kernel) (hwdM a cI cJ) (Nat.le_of_ble_eq_true rfl) ?_
  intro A p e R s m args below meth c hR E
  subst hR
  have hT := f_X9_otherwise_e x0 s0
  have hf_s0 : fr [25, 26] s0 s0 := fr.rf _ _
  refine k_lv0 (lv' := [(0, .ref (a 0)), (1, gI x0)]) rfl ?_
  refine k_mr (fun hm_s0 => ?_)
  refine k_iconst (pc := 0) E dX9_otherwise_0 ?_
  refine k_istoren (pc := 1) (lv' := [(2, gI 0), (0, .ref (a 0)), (1, gI x0)]) E dX9_otherwise_1 rfl (by decide) rfl ?_
  have L15 : ∀ (n16 : Nat) (v13 : Int) (s14 : gMem), ((in32 v13) ∧ (fr [25, 26] s0 s14) ∧ (0 ≤ v13 ∧ v13 ≤ 16)) → 16 - v13 < (n16 : Int) → (f_X9_otherwise x0 s0) = (t_X9_otherwise_2 x0 n16 v13 s14) → gK D vwCl (wdM a cI cJ) lgM A p l e { frames := 5, cells := 0, slots := 0, locals := 320 } s m args below meth c 3 (gQQ D vwCl (wdM a cI cJ) lgM A kI in32 below args s) (f_X9_otherwise x0 s0) s14 2 [(0, .ref (a 0)), (1, gI x0), (2, gI v13)] [] := by
    intro n16; induction n16 with
    | zero =>
      intro v13 s14 hq hm hT
      exfalso
      obtain ⟨hq28, hf_s14, hq29⟩ := hq
      omega
    | succ n16 ih =>
      intro v13 s14 hq hm hT
      obtain ⟨hq30, hf_s14, hq31⟩ := hq
      replace hT := hT.trans (t_X9_otherwise_2_s x0 n16 v13 s14)
      refine k_iloadn (pc := 2) E 2 dX9_otherwise_2 rfl rfl ?_
      refine k_bipush (pc := 3) E dX9_otherwise_3 (by decide) ?_
      by_cases h19 : v13 < 16
      · replace hT := hT.trans (if_pos h19)
        refine k_icmp_ge_f (pc := 5) (tgt := 36) E (by omega) (by omega) dX9_otherwise_5 (by decide) h19 ?_
        refine k_aloadn (pc := 8) E 0 dX9_otherwise_8 rfl rfl ?_
        refine k_getf (pc := 9) (q0 := 0) (f := 14) (v := .ref (a 10)) E inX9 rfl rfl (by decide) wm_912 rfl rfl dX9_otherwise_9 ?_
        refine k_bipush (pc := 12) E dX9_otherwise_12 (by decide) ?_
        refine k_iloadn (pc := 14) E 1 dX9_otherwise_14 rfl rfl ?_
        refine k_imul (pc := 15) E dX9_otherwise_15 ?_
        refine k_iloadn (pc := 16) E 2 dX9_otherwise_16 rfl rfl ?_
        refine k_iadd (pc := 17) E dX9_otherwise_17 ?_
        refine k_iaload (pc := 18) (q0 := 10) (t0 := 0) (k := 14) (n := 160) E rfl rfl rfl (by decide) (by omega) (by omega) dX9_otherwise_18 (fun hr20 => ?_)
        refine k_aloadn (pc := 19) E 0 dX9_otherwise_19 rfl rfl ?_
        refine k_iloadn (pc := 20) E 2 dX9_otherwise_20 rfl rfl ?_
        refine k_iconst (pc := 21) E dX9_otherwise_21 ?_
        refine k_mr (fun hm_s14 => ?_)
        refine k_callV (pc := 22) (np := 2) (As := [gI v13, gI 0]) (st := [gI (s14 14 ((40 * x0) + v13))]) (q0 := 0) E (c_X9_fallsOf l D a cI cJ cS cT s14 v13 0 (by omega) (by omega) (by unfold VS; rw [hf_s14 5 (by decide), hf_s14 6 (by decide), hf_s14 7 (by decide), hf_s14 8 (by decide)]; exact hpre0) (by unfold KN; rw [hf_s14 0 (by decide)]; exact hpre1) (by unfold MO; rw [hf_s14 1 (by decide)]; exact hpre2) (by first | assumption | omega) (by first | assumption | omega)) wm_1069 wm_11 wm_1066 wm_1068 wp_36 (by decide +kernel) rfl rfl ⟨by decide, by decide⟩ rfl (Nat.le_of_ble_eq_true rfl) dX9_otherwise_22 (fun r22 s23 hs23 hr21 => ?_)
        replace hT := gby hT hs23
        have hp24 := f_X9_fallsOf_p v13 0 s14 (by omega) (by omega) hm_s14 (by unfold VS; rw [hf_s14 5 (by decide), hf_s14 6 (by decide), hf_s14 7 (by decide), hf_s14 8 (by decide)]; exact hpre0) (by unfold KN; rw [hf_s14 0 (by decide)]; exact hpre1) (by unfold MO; rw [hf_s14 1 (by decide)]; exact hpre2) (by first | assumption | omega) (by first | assumption | omega) r22 s23 hs23
        obtain ⟨hfc_s23, hm_s23, hp25, hp26⟩ := hp24
        have hf_s23 : fr [25, 26] s0 s23 := hf_s14.call (by decide) hfc_s23
        refine k_st (st' := [gI r22, gI (s14 14 ((40 * x0) + v13))]) rfl ?_
        by_cases h27 : (s14 14 ((40 * x0) + v13)) = r22
        · replace hT := hT.trans (if_pos h27)
          refine k_icmp_eq_t (pc := 25) (tgt := 30) E (by omega) (by omega) dX9_otherwise_25 (by decide) h27 ?_
          refine k_iinc (pc := 30) (lv' := [(2, gI (v13 + 1)), (0, .ref (a 0)), (1, gI x0)]) E 2 dX9_otherwise_30 rfl (by decide) rfl ?_
          refine k_goto (pc := 33) (tgt := 2) E dX9_otherwise_33 (by decide) ?_
          refine k_lv (lv' := [(0, .ref (a 0)), (1, gI x0), (2, gI (v13 + 1))]) [1, 2, 0] rfl ?_
          exact ih (v13 + 1) s23 ⟨(by omega), hf_s23, (by first | assumption | omega)⟩ (by omega) hT
        · replace hT := hT.trans (if_neg h27)
          refine k_icmp_eq_f (pc := 25) (tgt := 30) E (by omega) (by omega) dX9_otherwise_25 (by decide) h27 ?_
          refine k_iloadn (pc := 28) E 2 dX9_otherwise_28 rfl rfl ?_
          exact k_rho hT (k_iret (pc := 29) E dX9_otherwise_29 (by omega))
      · replace hT := hT.trans (if_neg h19)
        refine k_icmp_ge_t (pc := 5) (tgt := 36) E (by omega) (by omega) dX9_otherwise_5 (by decide) h19 ?_
        refine k_iconst (pc := 36) E dX9_otherwise_36 ?_
        exact k_rho hT (k_iret (pc := 37) E dX9_otherwise_37 (by omega))
  refine k_lv (lv' := [(0, .ref (a 0)), (1, gI x0), (2, gI 0)]) [1, 2, 0] rfl ?_
  exact L15 17 0 s0 ⟨(by omega), hf_s0, (by first | assumption | omega)⟩ (by omega) hT

def f_X9_check (x0 : Int) (s0 : gMem) : gRes := (if (f_X9_sheetWrong x0 s0) = 0 then gb (f_X9_otherwise x0 s0) (fun r5 s6 => (r5, s6)) else ((f_X9_sheetWrong x0 s0), s0))
theorem f_X9_check_e (x0 : Int) (s0 : gMem) : f_X9_check x0 s0 = (if (f_X9_sheetWrong x0 s0) = 0 then gb (f_X9_otherwise x0 s0) (fun r5 s6 => (r5, s6)) else ((f_X9_sheetWrong x0 s0), s0)) := rfl
set_option maxRecDepth 100000 in
set_option maxHeartbeats 4000000 in
theorem f_X9_check_p (x0 : Int) (s0 : gMem) (hx0 : in32 x0) (hm_s0 : gMR lgM s0) (hpre0 : VS s0) (hpre1 : KN s0) (hpre2 : MO s0) (hpre3 : SO s0) (hpre4 : SZ s0) (rZ : Int) (sZ : gMem) (hres : f_X9_check x0 s0 = (rZ, sZ)) : (fr [25, 26] s0 sZ) ∧ (gMR lgM sZ) ∧ (in32 rZ) := by
  have hT := f_X9_check_e x0 s0
  have hf_s0 : fr [25, 26] s0 s0 := fr.rf _ _
  have hp2 := f_X9_sheetWrong_p x0 s0 (by omega) hm_s0 hpre3 hpre4
  by_cases h3 : (f_X9_sheetWrong x0 s0) = 0
  · replace hT := hT.trans (if_pos h3)
    obtain ⟨r5, s6, hs6⟩ : ∃ rr ss, (f_X9_otherwise x0 s0) = (rr, ss) := ⟨_, _, rfl⟩
    replace hT := gby hT hs6
    have hp7 := f_X9_otherwise_p x0 s0 (by omega) hm_s0 hpre0 hpre1 hpre2 (by first | assumption | omega) r5 s6 hs6
    obtain ⟨hfc_s6, hm_s6, hp8⟩ := hp7
    have hf_s6 : fr [25, 26] s0 s6 := hf_s0.call (by decide) hfc_s6
    obtain ⟨rfl, rfl⟩ := Prod.mk.inj (hT.symm.trans hres)
    exact ⟨hf_s6, hm_s6, (by omega)⟩
  · replace hT := hT.trans (if_neg h3)
    obtain ⟨rfl, rfl⟩ := Prod.mk.inj (hT.symm.trans hres)
    exact ⟨hf_s0, hm_s0, (by omega)⟩
set_option maxRecDepth 100000 in
set_option maxHeartbeats 4000000 in
theorem c_X9_check (l : Launch) (D : va_G) (a : Nat → Nat) (cI cJ cS cT : ClassId) (s0 : gMem) (x0 : Int) (hx0 : in32 x0) (hpre0 : VS s0) (hpre1 : KN s0) (hpre2 : MO s0) (hpre3 : SO s0) (hpre4 : SZ s0) : gC l yX9_check cX9_check 3 (some .int) 6 384 D vwCl (gT cI cJ cS cT) (wdM a cI cJ) lgM kI in32 [.ref (a 0), gI x0] s0 (f_X9_check x0 s0) := by
  refine gC_of (by decide +kernel) (hwdM a cI cJ) (Nat.le_of_ble_eq_true rfl) ?_
  intro A p e R s m args below meth c hR E
  subst hR
  have hT := f_X9_check_e x0 s0
  have hf_s0 : fr [25, 26] s0 s0 := fr.rf _ _
  refine k_lv0 (lv' := [(0, .ref (a 0)), (1, gI x0)]) rfl ?_
  refine k_mr (fun hm_s0 => ?_)
  refine k_aloadn (pc := 0) E 0 dX9_check_0 rfl rfl ?_
  refine k_iloadn (pc := 1) E 1 dX9_check_1 rfl rfl ?_
  refine k_mr (fun hm_s0 => ?_)
  refine k_callV (pc := 2) (np := 1) (As := [gI x0]) (st := []) (q0 := 0) E (c_X9_sheetWrong l D a cI cJ cS cT s0 x0 (by omega) hpre3 hpre4) wm_1224 wm_11 wm_1221 wm_1223 wp_51 (by decide +kernel) rfl rfl ⟨by decide, by decide⟩ rfl (Nat.le_of_ble_eq_true rfl) dX9_check_2 (ro_kk (fun hr1 => ?_))
  have hp2 := f_X9_sheetWrong_p x0 s0 (by omega) hm_s0 hpre3 hpre4
  refine k_st (st' := [gI (f_X9_sheetWrong x0 s0)]) rfl ?_
  refine k_istoren (pc := 5) (lv' := [(2, gI (f_X9_sheetWrong x0 s0)), (0, .ref (a 0)), (1, gI x0)]) E dX9_check_5 rfl (by decide) rfl ?_
  refine k_iloadn (pc := 6) E 0 dX9_check_6 rfl rfl ?_
  by_cases h3 : (f_X9_sheetWrong x0 s0) = 0
  · replace hT := hT.trans (if_pos h3)
    refine k_if_ne_f (pc := 7) (tgt := 18) E (by omega) dX9_check_7 (by decide) h3 ?_
    refine k_aloadn (pc := 10) E 1 dX9_check_10 rfl rfl ?_
    refine k_iloadn (pc := 11) E 2 dX9_check_11 rfl rfl ?_
    refine k_mr (fun hm_s0 => ?_)
    refine k_callV (pc := 12) (np := 1) (As := [gI x0]) (st := []) (q0 := 0) E (c_X9_otherwise l D a cI cJ cS cT s0 x0 (by omega) hpre0 hpre1 hpre2 (by first | assumption | omega)) wm_1244 wm_11 wm_1241 wm_1243 wp_53 (by decide +kernel) rfl rfl ⟨by decide, by decide⟩ rfl (Nat.le_of_ble_eq_true rfl) dX9_check_12 (fun r5 s6 hs6 hr4 => ?_)
    replace hT := gby hT hs6
    have hp7 := f_X9_otherwise_p x0 s0 (by omega) hm_s0 hpre0 hpre1 hpre2 (by first | assumption | omega) r5 s6 hs6
    obtain ⟨hfc_s6, hm_s6, hp8⟩ := hp7
    have hf_s6 : fr [25, 26] s0 s6 := hf_s0.call (by decide) hfc_s6
    refine k_st (st' := [gI r5]) rfl ?_
    refine k_goto (pc := 15) (tgt := 19) E dX9_check_15 (by decide) ?_
    exact k_rho hT (k_iret (pc := 19) E dX9_check_19 (by omega))
  · replace hT := hT.trans (if_neg h3)
    refine k_if_ne_t (pc := 7) (tgt := 18) E (by omega) dX9_check_7 (by decide) h3 ?_
    refine k_iloadn (pc := 18) E 0 dX9_check_18 rfl rfl ?_
    exact k_rho hT (k_iret (pc := 19) E dX9_check_19 (by omega))

def w_X9_kinds_59 (c1 : Int) (c2 : Int) (c3 : Int) (c5 : Int) (c6 : Int) : Nat → Int → Int → gMem → Int × Int × gMem
  | 0, v14, v15, s16 => (v14, v15, s16)
  | n17 + 1, v14, v15, s16 => (gl ((if c3 = 0 then 6 else 10)) (fun v20 => (if v15 < v20 then (gl ((if c3 = 0 then v15 else c5)) (fun v24 => gl (mset s16 0 c2 v24) (fun s25 => (gl ((if c3 = 1 then v15 else c6)) (fun v28 => gl (mset s25 1 c2 v28) (fun s29 => gb (f_X9_fallsOf c2 0 s29) (fun r32 s33 => (gl ((if (s29 14 ((40 * c1) + c2)) = r32 then (ishl 1 v15) else 0)) (fun v39 => (w_X9_kinds_59 c1 c2 c3 c5 c6 n17 (ior v14 v39) (v15 + 1) s33)))))))))) else (v14, v15, s16))))
theorem w_X9_kinds_59_s (c1 : Int) (c2 : Int) (c3 : Int) (c5 : Int) (c6 : Int) (n17 : Nat) (v14 : Int) (v15 : Int) (s16 : gMem) : w_X9_kinds_59 c1 c2 c3 c5 c6 (n17 + 1) v14 v15 s16 = (gl ((if c3 = 0 then 6 else 10)) (fun v20 => (if v15 < v20 then (gl ((if c3 = 0 then v15 else c5)) (fun v24 => gl (mset s16 0 c2 v24) (fun s25 => (gl ((if c3 = 1 then v15 else c6)) (fun v28 => gl (mset s25 1 c2 v28) (fun s29 => gb (f_X9_fallsOf c2 0 s29) (fun r32 s33 => (gl ((if (s29 14 ((40 * c1) + c2)) = r32 then (ishl 1 v15) else 0)) (fun v39 => (w_X9_kinds_59 c1 c2 c3 c5 c6 n17 (ior v14 v39) (v15 + 1) s33)))))))))) else (v14, v15, s16)))) := rfl
def f_X9_kinds (x0 : Int) (x1 : Int) (x2 : Int) (s0 : gMem) : gRes := (if (f_X9_sheetWrong x0 s0) = 0 then (if (f_X9_isPlace x1) = 0 then ((-5), s0) else (if (f_X9_in x2 0 1) = 0 then ((-7), s0) else (gl3 (w_X9_kinds_59 x0 x1 x2 (s0 0 x1) (s0 1 x1) 11 0 0 s0) (fun v104 v105 s106 => gl (mset s106 0 x1 (s0 0 x1)) (fun s110 => gl (mset s110 1 x1 (s0 1 x1)) (fun s111 => (v104, s111))))))) else ((f_X9_sheetWrong x0 s0), s0))
theorem f_X9_kinds_e (x0 : Int) (x1 : Int) (x2 : Int) (s0 : gMem) : f_X9_kinds x0 x1 x2 s0 = (if (f_X9_sheetWrong x0 s0) = 0 then (if (f_X9_isPlace x1) = 0 then ((-5), s0) else (if (f_X9_in x2 0 1) = 0 then ((-7), s0) else (gl3 (w_X9_kinds_59 x0 x1 x2 (s0 0 x1) (s0 1 x1) 11 0 0 s0) (fun v104 v105 s106 => gl (mset s106 0 x1 (s0 0 x1)) (fun s110 => gl (mset s110 1 x1 (s0 1 x1)) (fun s111 => (v104, s111))))))) else ((f_X9_sheetWrong x0 s0), s0)) := rfl
set_option maxRecDepth 100000 in
set_option maxHeartbeats 4000000 in
theorem f_X9_kinds_p (x0 : Int) (x1 : Int) (x2 : Int) (s0 : gMem) (hx0 : in32 x0) (hx1 : in32 x1) (hx2 : in32 x2) (hm_s0 : gMR lgM s0) (hpre0 : VS s0) (hpre1 : KN s0) (hpre2 : MO s0) (hpre3 : SO s0) (hpre4 : SZ s0) (rZ : Int) (sZ : gMem) (hres : f_X9_kinds x0 x1 x2 s0 = (rZ, sZ)) : (fr [0, 1, 25, 26] s0 sZ) ∧ (gMR lgM sZ) ∧ (in32 rZ) ∧ (KN sZ) ∧ (MO sZ) := by
  have hT := f_X9_kinds_e x0 x1 x2 s0
  have hf_s0 : fr [0, 1, 25, 26] s0 s0 := fr.rf _ _
  have hKN_s0 := hpre1
  have hMO_s0 := hpre2
  have hp2 := f_X9_sheetWrong_p x0 s0 (by omega) hm_s0 hpre3 hpre4
  by_cases h3 : (f_X9_sheetWrong x0 s0) = 0
  · replace hT := hT.trans (if_pos h3)
    have hp5 := f_X9_isPlace_p x1 (by omega) 
    by_cases h6 : (f_X9_isPlace x1) = 0
    · replace hT := hT.trans (if_pos h6)
      obtain ⟨rfl, rfl⟩ := Prod.mk.inj (hT.symm.trans hres)
      exact ⟨hf_s0, hm_s0, (by omega), hKN_s0, hMO_s0⟩
    · replace hT := hT.trans (if_neg h6)
      have hp8 := f_X9_in_p x2 0 1 (by omega) (by omega) (by omega) 
      by_cases h9 : (f_X9_in x2 0 1) = 0
      · replace hT := hT.trans (if_pos h9)
        obtain ⟨rfl, rfl⟩ := Prod.mk.inj (hT.symm.trans hres)
        exact ⟨hf_s0, hm_s0, (by omega), hKN_s0, hMO_s0⟩
      · replace hT := hT.trans (if_neg h9)
        have hr10 := (hm_s0 0 x1).1 rfl
        have hi11 := hKN_s0 x1
        have hr12 := (hm_s0 1 x1).1 rfl
        have hi13 := hMO_s0 x1
        have L57 : ∀ (n58 : Nat) (v54 : Int) (v55 : Int) (s56 : gMem), ((in32 v54) ∧ (in32 v55) ∧ (fr [0, 1, 25, 26] s0 s56) ∧ (gMR lgM s56) ∧ (KN s56) ∧ (MO s56) ∧ (0 ≤ v55 ∧ v55 ≤ 10)) → 10 - v55 < (n58 : Int) → (∀ (w59 : Int) (w60 : Int) (s61 : gMem), (w_X9_kinds_59 x0 x1 x2 (s0 0 x1) (s0 1 x1) n58 v54 v55 s56) = (w59, w60, s61) → ((in32 w59) ∧ (in32 w60) ∧ (fr [0, 1, 25, 26] s0 s61) ∧ (gMR lgM s61) ∧ (KN s61) ∧ (MO s61) ∧ (0 ≤ w60 ∧ w60 ≤ 10)) → (fr [0, 1, 25, 26] s0 sZ) ∧ (gMR lgM sZ) ∧ (in32 rZ) ∧ (KN sZ) ∧ (MO sZ)) → (fr [0, 1, 25, 26] s0 sZ) ∧ (gMR lgM sZ) ∧ (in32 rZ) ∧ (KN sZ) ∧ (MO sZ) := by
          intro n58; induction n58 with
          | zero =>
            intro v54 v55 s56 hq hm hk
            exfalso
            obtain ⟨hq98, hq99, hf_s56, hm_s56, hKN_s56, hMO_s56, hq100⟩ := hq
            omega
          | succ n58 ih =>
            intro v54 v55 s56 hq hm hk
            obtain ⟨hq101, hq102, hf_s56, hm_s56, hKN_s56, hMO_s56, hq103⟩ := hq
            have hT := w_X9_kinds_59_s x0 x1 x2 (s0 0 x1) (s0 1 x1) n58 v54 v55 s56
            obtain ⟨z97, hz97, hT⟩ := gl1x hT
            have j63 : ∀ (v64 : Int), ((in32 v64) ∧ ((x2 = 0 → v64 = 6) ∧ (¬ x2 = 0 → v64 = 10))) → z97 = v64 → (fr [0, 1, 25, 26] s0 sZ) ∧ (gMR lgM sZ) ∧ (in32 rZ) ∧ (KN sZ) ∧ (MO sZ) := by
              intro v64 hq hz
              obtain ⟨hq95, hq96⟩ := hq
              replace hT := gl1y hT hz
              by_cases h65 : v55 < v64
              · replace hT := hT.trans (if_pos h65)
                obtain ⟨z94, hz94, hT⟩ := gl1x hT
                have j67 : ∀ (v68 : Int), ((in32 v68) ∧ (0 ≤ v68 ∧ v68 ≤ 5)) → z94 = v68 → (fr [0, 1, 25, 26] s0 sZ) ∧ (gMR lgM sZ) ∧ (in32 rZ) ∧ (KN sZ) ∧ (MO sZ) := by
                  intro v68 hq hz
                  obtain ⟨hq92, hq93⟩ := hq
                  replace hT := gl1y hT hz
                  obtain ⟨s69, hs69, hT⟩ := glx hT
                  have hf_s69 : fr [0, 1, 25, 26] s0 s69 := hs69 ▸ hf_s56.set (by decide)
                  have hm_s69 : gMR lgM s69 := hs69 ▸ hm_s56.set32 rfl (by omega)
                  have hKN_s69 : KN s69 := hs69 ▸ KN_set hKN_s56 (by omega)
                  have hMO_s69 : MO s69 := fun i => by rw [hs69, mset_ne _ _ _ _ _ (by decide)]; exact hMO_s56 i
                  obtain ⟨z91, hz91, hT⟩ := gl1x hT
                  have j71 : ∀ (v72 : Int), ((in32 v72) ∧ (0 ≤ v72 ∧ v72 ≤ 9)) → z91 = v72 → (fr [0, 1, 25, 26] s0 sZ) ∧ (gMR lgM sZ) ∧ (in32 rZ) ∧ (KN sZ) ∧ (MO sZ) := by
                    intro v72 hq hz
                    obtain ⟨hq89, hq90⟩ := hq
                    replace hT := gl1y hT hz
                    obtain ⟨s73, hs73, hT⟩ := glx hT
                    have hf_s73 : fr [0, 1, 25, 26] s0 s73 := hs73 ▸ hf_s69.set (by decide)
                    have hm_s73 : gMR lgM s73 := hs73 ▸ hm_s69.set32 rfl (by omega)
                    have hKN_s73 : KN s73 := fun i => by rw [hs73, mset_ne _ _ _ _ _ (by decide)]; exact hKN_s69 i
                    have hMO_s73 : MO s73 := hs73 ▸ MO_set hMO_s69 (by omega)
                    have hr74 := (hm_s73 14 ((40 * x0) + x1)).1 rfl
                    obtain ⟨r76, s77, hs77⟩ : ∃ rr ss, (f_X9_fallsOf x1 0 s73) = (rr, ss) := ⟨_, _, rfl⟩
                    replace hT := gby hT hs77
                    have hp78 := f_X9_fallsOf_p x1 0 s73 (by omega) (by omega) hm_s73 (by unfold VS; rw [hf_s73 5 (by decide), hf_s73 6 (by decide), hf_s73 7 (by decide), hf_s73 8 (by decide)]; exact hpre0) hKN_s73 hMO_s73 (by first | assumption | omega) (by first | assumption | omega) r76 s77 hs77
                    obtain ⟨hfc_s77, hm_s77, hp79, hp80⟩ := hp78
                    have hf_s77 : fr [0, 1, 25, 26] s0 s77 := hf_s73.call (by decide) hfc_s77
                    have hKN_s77 : KN s77 := fun i => by rw [hfc_s77 0 (by decide)]; exact hKN_s73 i
                    have hMO_s77 : MO s77 := fun i => by rw [hfc_s77 1 (by decide)]; exact hMO_s73 i
                    obtain ⟨z86, hz86, hT⟩ := gl1x hT
                    have j82 : ∀ (v83 : Int), ((in32 v83)) → z86 = v83 → (fr [0, 1, 25, 26] s0 sZ) ∧ (gMR lgM sZ) ∧ (in32 rZ) ∧ (KN sZ) ∧ (MO sZ) := by
                      intro v83 hq hz
                      have hq85 := hq
                      replace hT := gl1y hT hz
                      have hb84 := ior_rg v54 v83
                      exact ih (ior v54 v83) (v55 + 1) s77 ⟨(by omega), (by omega), hf_s77, hm_s77, hKN_s77, hMO_s77, (by first | assumption | omega)⟩ (by omega) (fun w59 w60 s61 hw hi => hk w59 w60 s61 (hT.trans hw) hi)
                    replace hT := hz86
                    by_cases h81 : (s73 14 ((40 * x0) + x1)) = r76
                    · replace hT := hT.trans (if_pos h81)
                      have hb87 := ishl_rg 1 v55
                      have hb88 : 0 ≤ v55 ∧ v55 ≤ 15 → _ := fun q => ishl_1 q.1 q.2
                      exact j82 (ishl 1 v55) (by omega) hT
                    · replace hT := hT.trans (if_neg h81)
                      exact j82 0 (by omega) hT
                  replace hT := hz91
                  by_cases h70 : x2 = 1
                  · replace hT := hT.trans (if_pos h70)
                    exact j71 v55 ⟨(by omega), (by first | assumption | omega)⟩ hT
                  · replace hT := hT.trans (if_neg h70)
                    exact j71 (s0 1 x1) ⟨(by omega), (by first | assumption | omega)⟩ hT
                replace hT := hz94
                by_cases h66 : x2 = 0
                · replace hT := hT.trans (if_pos h66)
                  exact j67 v55 ⟨(by omega), (by first | assumption | omega)⟩ hT
                · replace hT := hT.trans (if_neg h66)
                  exact j67 (s0 0 x1) ⟨(by omega), (by first | assumption | omega)⟩ hT
              · replace hT := hT.trans (if_neg h65)
                exact hk v54 v55 s56 hT ⟨(by omega), (by omega), hf_s56, hm_s56, hKN_s56, hMO_s56, (by first | assumption | omega)⟩
            replace hT := hz97
            by_cases h62 : x2 = 0
            · replace hT := hT.trans (if_pos h62)
              exact j63 6 ⟨(by omega), (by first | assumption | omega)⟩ hT
            · replace hT := hT.trans (if_neg h62)
              exact j63 10 ⟨(by omega), (by first | assumption | omega)⟩ hT
        refine L57 11 0 0 s0 ⟨(by omega), (by omega), hf_s0, hm_s0, hKN_s0, hMO_s0, (by first | assumption | omega)⟩ (by omega) (fun v104 v105 s106 hw hq => ?_)
        obtain ⟨hq107, hq108, hf_s106, hm_s106, hKN_s106, hMO_s106, hq109⟩ := hq
        replace hT := gl3y hT hw
        obtain ⟨s110, hs110, hT⟩ := glx hT
        have hf_s110 : fr [0, 1, 25, 26] s0 s110 := hs110 ▸ hf_s106.set (by decide)
        have hm_s110 : gMR lgM s110 := hs110 ▸ hm_s106.set32 rfl (by omega)
        have hKN_s110 : KN s110 := hs110 ▸ KN_set hKN_s106 (by omega)
        have hMO_s110 : MO s110 := fun i => by rw [hs110, mset_ne _ _ _ _ _ (by decide)]; exact hMO_s106 i
        obtain ⟨s111, hs111, hT⟩ := glx hT
        have hf_s111 : fr [0, 1, 25, 26] s0 s111 := hs111 ▸ hf_s110.set (by decide)
        have hm_s111 : gMR lgM s111 := hs111 ▸ hm_s110.set32 rfl (by omega)
        have hKN_s111 : KN s111 := fun i => by rw [hs111, mset_ne _ _ _ _ _ (by decide)]; exact hKN_s110 i
        have hMO_s111 : MO s111 := hs111 ▸ MO_set hMO_s110 (by omega)
        obtain ⟨rfl, rfl⟩ := Prod.mk.inj (hT.symm.trans hres)
        exact ⟨hf_s111, hm_s111, (by omega), hKN_s111, hMO_s111⟩
  · replace hT := hT.trans (if_neg h3)
    obtain ⟨rfl, rfl⟩ := Prod.mk.inj (hT.symm.trans hres)
    exact ⟨hf_s0, hm_s0, (by omega), hKN_s0, hMO_s0⟩
set_option maxRecDepth 100000 in
set_option maxHeartbeats 4000000 in
theorem c_X9_kinds (l : Launch) (D : va_G) (a : Nat → Nat) (cI cJ cS cT : ClassId) (s0 : gMem) (x0 : Int) (x1 : Int) (x2 : Int) (hx0 : in32 x0) (hx1 : in32 x1) (hx2 : in32 x2) (hpre0 : VS s0) (hpre1 : KN s0) (hpre2 : MO s0) (hpre3 : SO s0) (hpre4 : SZ s0) : gC l yX9_kinds cX9_kinds 9 (some .int) 5 320 D vwCl (gT cI cJ cS cT) (wdM a cI cJ) lgM kI in32 [.ref (a 0), gI x0, gI x1, gI x2] s0 (f_X9_kinds x0 x1 x2 s0) := by
  refine gC_of (by decide +kernel) (hwdM a cI cJ) (Nat.le_of_ble_eq_true rfl) ?_
  intro A p e R s m args below meth c hR E
  subst hR
  have hT := f_X9_kinds_e x0 x1 x2 s0
  have hf_s0 : fr [0, 1, 25, 26] s0 s0 := fr.rf _ _
  refine k_lv0 (lv' := [(0, .ref (a 0)), (1, gI x0), (2, gI x1), (3, gI x2)]) rfl ?_
  refine k_mr (fun hm_s0 => ?_)
  have hKN_s0 := hpre1
  have hMO_s0 := hpre2
  refine k_aloadn (pc := 0) E 0 dX9_kinds_0 rfl rfl ?_
  refine k_iloadn (pc := 1) E 1 dX9_kinds_1 rfl rfl ?_
  refine k_mr (fun hm_s0 => ?_)
  refine k_callV (pc := 2) (np := 1) (As := [gI x0]) (st := []) (q0 := 0) E (c_X9_sheetWrong l D a cI cJ cS cT s0 x0 (by omega) hpre3 hpre4) wm_1224 wm_11 wm_1221 wm_1223 wp_51 (by decide +kernel) rfl rfl ⟨by decide, by decide⟩ rfl (Nat.le_of_ble_eq_true rfl) dX9_kinds_2 (ro_kk (fun hr1 => ?_))
  have hp2 := f_X9_sheetWrong_p x0 s0 (by omega) hm_s0 hpre3 hpre4
  refine k_st (st' := [gI (f_X9_sheetWrong x0 s0)]) rfl ?_
  refine k_istore (pc := 5) (lv' := [(4, gI (f_X9_sheetWrong x0 s0)), (0, .ref (a 0)), (1, gI x0), (2, gI x1), (3, gI x2)]) E dX9_kinds_5 (by decide) rfl ?_
  refine k_iload (pc := 7) E 0 dX9_kinds_7 rfl ?_
  by_cases h3 : (f_X9_sheetWrong x0 s0) = 0
  · replace hT := hT.trans (if_pos h3)
    refine k_if_eq_t (pc := 9) (tgt := 15) E (by omega) dX9_kinds_9 (by decide) h3 ?_
    refine k_iloadn (pc := 15) E 3 dX9_kinds_15 rfl rfl ?_
    refine k_mr (fun hm_s0 => ?_)
    refine k_callS (pc := 16) (np := 1) (As := [gI x1]) (st := []) E (c_X9_isPlace l D a cI cJ cS cT s0 x1 (by omega)) wm_1040 wm_11 wm_1038 wm_1039 (by decide +kernel) ⟨by decide, by decide⟩ rfl (Nat.le_of_ble_eq_true rfl) dX9_kinds_16 (ro_kk (fun hr4 => ?_))
    have hp5 := f_X9_isPlace_p x1 (by omega) 
    refine k_st (st' := [gI (f_X9_isPlace x1)]) rfl ?_
    by_cases h6 : (f_X9_isPlace x1) = 0
    · replace hT := hT.trans (if_pos h6)
      refine k_if_ne_f (pc := 19) (tgt := 25) E (by omega) dX9_kinds_19 (by decide) h6 ?_
      refine k_bipush (pc := 22) E dX9_kinds_22 (by decide) ?_
      exact k_rho hT (k_iret (pc := 24) E dX9_kinds_24 (by omega))
    · replace hT := hT.trans (if_neg h6)
      refine k_if_ne_t (pc := 19) (tgt := 25) E (by omega) dX9_kinds_19 (by decide) h6 ?_
      refine k_iloadn (pc := 25) E 4 dX9_kinds_25 rfl rfl ?_
      refine k_iconst (pc := 26) E dX9_kinds_26 ?_
      refine k_iconst (pc := 27) E dX9_kinds_27 ?_
      refine k_mr (fun hm_s0 => ?_)
      refine k_callS (pc := 28) (np := 3) (As := [gI x2, gI 0, gI 1]) (st := []) E (c_X9_in l D a cI cJ cS cT s0 x2 0 1 (by omega) (by omega) (by omega)) wm_861 wm_11 wm_859 wm_860 (by decide +kernel) ⟨by decide, by decide⟩ rfl (Nat.le_of_ble_eq_true rfl) dX9_kinds_28 (ro_kk (fun hr7 => ?_))
      have hp8 := f_X9_in_p x2 0 1 (by omega) (by omega) (by omega) 
      refine k_st (st' := [gI (f_X9_in x2 0 1)]) rfl ?_
      by_cases h9 : (f_X9_in x2 0 1) = 0
      · replace hT := hT.trans (if_pos h9)
        refine k_if_ne_f (pc := 31) (tgt := 37) E (by omega) dX9_kinds_31 (by decide) h9 ?_
        refine k_bipush (pc := 34) E dX9_kinds_34 (by decide) ?_
        exact k_rho hT (k_iret (pc := 36) E dX9_kinds_36 (by omega))
      · replace hT := hT.trans (if_neg h9)
        refine k_if_ne_t (pc := 31) (tgt := 37) E (by omega) dX9_kinds_31 (by decide) h9 ?_
        refine k_aloadn (pc := 37) E 1 dX9_kinds_37 rfl rfl ?_
        refine k_getf (pc := 38) (q0 := 0) (f := 0) (v := .ref (a 1)) E inX9 rfl rfl (by decide) wm_898 rfl rfl dX9_kinds_38 ?_
        refine k_iloadn (pc := 41) E 3 dX9_kinds_41 rfl rfl ?_
        refine k_iaload (pc := 42) (q0 := 1) (t0 := 0) (k := 0) (n := 16) E rfl rfl rfl (by decide) (by omega) (by omega) dX9_kinds_42 (fun hr10 => ?_)
        have hi11 := hKN_s0 x1
        refine k_istore (pc := 43) (lv' := [(5, gI (s0 0 x1)), (4, gI (f_X9_sheetWrong x0 s0)), (0, .ref (a 0)), (1, gI x0), (2, gI x1), (3, gI x2)]) E dX9_kinds_43 (by decide) rfl ?_
        refine k_aloadn (pc := 45) E 2 dX9_kinds_45 rfl rfl ?_
        refine k_getf (pc := 46) (q0 := 0) (f := 1) (v := .ref (a 2)) E inX9 rfl rfl (by decide) wm_899 rfl rfl dX9_kinds_46 ?_
        refine k_iloadn (pc := 49) E 4 dX9_kinds_49 rfl rfl ?_
        refine k_iaload (pc := 50) (q0 := 2) (t0 := 0) (k := 1) (n := 16) E rfl rfl rfl (by decide) (by omega) (by omega) dX9_kinds_50 (fun hr12 => ?_)
        have hi13 := hMO_s0 x1
        refine k_istore (pc := 51) (lv' := [(6, gI (s0 1 x1)), (5, gI (s0 0 x1)), (4, gI (f_X9_sheetWrong x0 s0)), (0, .ref (a 0)), (1, gI x0), (2, gI x1), (3, gI x2)]) E dX9_kinds_51 (by decide) rfl ?_
        refine k_iconst (pc := 53) E dX9_kinds_53 ?_
        refine k_istore (pc := 54) (lv' := [(7, gI 0), (6, gI (s0 1 x1)), (5, gI (s0 0 x1)), (4, gI (f_X9_sheetWrong x0 s0)), (0, .ref (a 0)), (1, gI x0), (2, gI x1), (3, gI x2)]) E dX9_kinds_54 (by decide) rfl ?_
        refine k_iconst (pc := 56) E dX9_kinds_56 ?_
        refine k_istore (pc := 57) (lv' := [(8, gI 0), (7, gI 0), (6, gI (s0 1 x1)), (5, gI (s0 0 x1)), (4, gI (f_X9_sheetWrong x0 s0)), (0, .ref (a 0)), (1, gI x0), (2, gI x1), (3, gI x2)]) E dX9_kinds_57 (by decide) rfl ?_
        have L57 : ∀ (n58 : Nat) (v54 : Int) (v55 : Int) (s56 : gMem), ((in32 v54) ∧ (in32 v55) ∧ (fr [0, 1, 25, 26] s0 s56) ∧ (KN s56) ∧ (MO s56) ∧ (0 ≤ v55 ∧ v55 ≤ 10)) → 10 - v55 < (n58 : Int) → (∀ (w59 : Int) (w60 : Int) (s61 : gMem), (w_X9_kinds_59 x0 x1 x2 (s0 0 x1) (s0 1 x1) n58 v54 v55 s56) = (w59, w60, s61) → ((in32 w59) ∧ (in32 w60) ∧ (fr [0, 1, 25, 26] s0 s61) ∧ (KN s61) ∧ (MO s61) ∧ (0 ≤ w60 ∧ w60 ≤ 10)) → gK D vwCl (wdM a cI cJ) lgM A p l e { frames := 5, cells := 0, slots := 0, locals := 320 } s m args below meth c 9 (gQQ D vwCl (wdM a cI cJ) lgM A kI in32 below args s) (f_X9_kinds x0 x1 x2 s0) s61 149 [(0, .ref (a 0)), (2, gI x1), (5, gI (s0 0 x1)), (6, gI (s0 1 x1)), (7, gI w59)] []) → gK D vwCl (wdM a cI cJ) lgM A p l e { frames := 5, cells := 0, slots := 0, locals := 320 } s m args below meth c 9 (gQQ D vwCl (wdM a cI cJ) lgM A kI in32 below args s) (f_X9_kinds x0 x1 x2 s0) s56 59 [(0, .ref (a 0)), (1, gI x0), (2, gI x1), (3, gI x2), (5, gI (s0 0 x1)), (6, gI (s0 1 x1)), (7, gI v54), (8, gI v55)] [] := by
          intro n58; induction n58 with
          | zero =>
            intro v54 v55 s56 hq hm hk
            exfalso
            obtain ⟨hq98, hq99, hf_s56, hKN_s56, hMO_s56, hq100⟩ := hq
            omega
          | succ n58 ih =>
            intro v54 v55 s56 hq hm hk
            obtain ⟨hq101, hq102, hf_s56, hKN_s56, hMO_s56, hq103⟩ := hq
            have hT := w_X9_kinds_59_s x0 x1 x2 (s0 0 x1) (s0 1 x1) n58 v54 v55 s56
            refine k_iload (pc := 59) E 7 dX9_kinds_59 rfl ?_
            refine k_iloadn (pc := 61) E 3 dX9_kinds_61 rfl rfl ?_
            obtain ⟨z97, hz97, hT⟩ := gl1x hT
            have j63 : ∀ (v64 : Int), ((in32 v64) ∧ ((x2 = 0 → v64 = 6) ∧ (¬ x2 = 0 → v64 = 10))) → z97 = v64 → gK D vwCl (wdM a cI cJ) lgM A p l e { frames := 5, cells := 0, slots := 0, locals := 320 } s m args below meth c 9 (gQQ D vwCl (wdM a cI cJ) lgM A kI in32 below args s) (f_X9_kinds x0 x1 x2 s0) s56 72 [(0, .ref (a 0)), (1, gI x0), (2, gI x1), (3, gI x2), (5, gI (s0 0 x1)), (6, gI (s0 1 x1)), (7, gI v54), (8, gI v55)] [gI v64, gI v55] := by
              intro v64 hq hz
              obtain ⟨hq95, hq96⟩ := hq
              replace hT := gl1y hT hz
              by_cases h65 : v55 < v64
              · replace hT := hT.trans (if_pos h65)
                refine k_icmp_ge_f (pc := 72) (tgt := 149) E (by omega) (by omega) dX9_kinds_72 (by decide) h65 ?_
                refine k_aloadn (pc := 75) E 0 dX9_kinds_75 rfl rfl ?_
                refine k_getf (pc := 76) (q0 := 0) (f := 0) (v := .ref (a 1)) E inX9 rfl rfl (by decide) wm_898 rfl rfl dX9_kinds_76 ?_
                refine k_iloadn (pc := 79) E 2 dX9_kinds_79 rfl rfl ?_
                refine k_iloadn (pc := 80) E 3 dX9_kinds_80 rfl rfl ?_
                obtain ⟨z94, hz94, hT⟩ := gl1x hT
                have j67 : ∀ (v68 : Int), ((in32 v68) ∧ (0 ≤ v68 ∧ v68 ≤ 5)) → z94 = v68 → gK D vwCl (wdM a cI cJ) lgM A p l e { frames := 5, cells := 0, slots := 0, locals := 320 } s m args below meth c 9 (gQQ D vwCl (wdM a cI cJ) lgM A kI in32 below args s) (f_X9_kinds x0 x1 x2 s0) s56 91 [(0, .ref (a 0)), (1, gI x0), (2, gI x1), (3, gI x2), (5, gI (s0 0 x1)), (6, gI (s0 1 x1)), (7, gI v54), (8, gI v55)] [gI v68, gI x1, .ref (a 1)] := by
                  intro v68 hq hz
                  obtain ⟨hq92, hq93⟩ := hq
                  replace hT := gl1y hT hz
                  refine k_iastore (pc := 91) (q0 := 1) (t0 := 0) (k := 0) (n := 16) E rfl rfl rfl rfl (by decide) (by omega) (by omega) (by omega) dX9_kinds_91 ?_
                  obtain ⟨s69, hs69, hT⟩ := glx hT
                  refine k_sg hs69.symm ?_
                  have hf_s69 : fr [0, 1, 25, 26] s0 s69 := hs69 ▸ hf_s56.set (by decide)
                  have hKN_s69 : KN s69 := hs69 ▸ KN_set hKN_s56 (by omega)
                  have hMO_s69 : MO s69 := fun i => by rw [hs69, mset_ne _ _ _ _ _ (by decide)]; exact hMO_s56 i
                  refine k_aloadn (pc := 92) E 0 dX9_kinds_92 rfl rfl ?_
                  refine k_getf (pc := 93) (q0 := 0) (f := 1) (v := .ref (a 2)) E inX9 rfl rfl (by decide) wm_899 rfl rfl dX9_kinds_93 ?_
                  refine k_iloadn (pc := 96) E 2 dX9_kinds_96 rfl rfl ?_
                  refine k_iloadn (pc := 97) E 3 dX9_kinds_97 rfl rfl ?_
                  refine k_iconst (pc := 98) E dX9_kinds_98 ?_
                  obtain ⟨z91, hz91, hT⟩ := gl1x hT
                  have j71 : ∀ (v72 : Int), ((in32 v72) ∧ (0 ≤ v72 ∧ v72 ≤ 9)) → z91 = v72 → gK D vwCl (wdM a cI cJ) lgM A p l e { frames := 5, cells := 0, slots := 0, locals := 320 } s m args below meth c 9 (gQQ D vwCl (wdM a cI cJ) lgM A kI in32 below args s) (f_X9_kinds x0 x1 x2 s0) s69 109 [(0, .ref (a 0)), (1, gI x0), (2, gI x1), (3, gI x2), (5, gI (s0 0 x1)), (6, gI (s0 1 x1)), (7, gI v54), (8, gI v55)] [gI v72, gI x1, .ref (a 2)] := by
                    intro v72 hq hz
                    obtain ⟨hq89, hq90⟩ := hq
                    replace hT := gl1y hT hz
                    refine k_iastore (pc := 109) (q0 := 2) (t0 := 0) (k := 1) (n := 16) E rfl rfl rfl rfl (by decide) (by omega) (by omega) (by omega) dX9_kinds_109 ?_
                    obtain ⟨s73, hs73, hT⟩ := glx hT
                    refine k_sg hs73.symm ?_
                    have hf_s73 : fr [0, 1, 25, 26] s0 s73 := hs73 ▸ hf_s69.set (by decide)
                    have hKN_s73 : KN s73 := fun i => by rw [hs73, mset_ne _ _ _ _ _ (by decide)]; exact hKN_s69 i
                    have hMO_s73 : MO s73 := hs73 ▸ MO_set hMO_s69 (by omega)
                    refine k_iload (pc := 110) E 6 dX9_kinds_110 rfl ?_
                    refine k_aloadn (pc := 112) E 0 dX9_kinds_112 rfl rfl ?_
                    refine k_getf (pc := 113) (q0 := 0) (f := 14) (v := .ref (a 10)) E inX9 rfl rfl (by decide) wm_912 rfl rfl dX9_kinds_113 ?_
                    refine k_bipush (pc := 116) E dX9_kinds_116 (by decide) ?_
                    refine k_iloadn (pc := 118) E 1 dX9_kinds_118 rfl rfl ?_
                    refine k_imul (pc := 119) E dX9_kinds_119 ?_
                    refine k_iloadn (pc := 120) E 2 dX9_kinds_120 rfl rfl ?_
                    refine k_iadd (pc := 121) E dX9_kinds_121 ?_
                    refine k_iaload (pc := 122) (q0 := 10) (t0 := 0) (k := 14) (n := 160) E rfl rfl rfl (by decide) (by omega) (by omega) dX9_kinds_122 (fun hr74 => ?_)
                    refine k_aloadn (pc := 123) E 0 dX9_kinds_123 rfl rfl ?_
                    refine k_iloadn (pc := 124) E 2 dX9_kinds_124 rfl rfl ?_
                    refine k_iconst (pc := 125) E dX9_kinds_125 ?_
                    refine k_mr (fun hm_s73 => ?_)
                    refine k_callV (pc := 126) (np := 2) (As := [gI x1, gI 0]) (st := [gI (s73 14 ((40 * x0) + x1)), gI v54]) (q0 := 0) E (c_X9_fallsOf l D a cI cJ cS cT s73 x1 0 (by omega) (by omega) (by unfold VS; rw [hf_s73 5 (by decide), hf_s73 6 (by decide), hf_s73 7 (by decide), hf_s73 8 (by decide)]; exact hpre0) hKN_s73 hMO_s73 (by first | assumption | omega) (by first | assumption | omega)) wm_1069 wm_11 wm_1066 wm_1068 wp_36 (by decide +kernel) rfl rfl ⟨by decide, by decide⟩ rfl (Nat.le_of_ble_eq_true rfl) dX9_kinds_126 (fun r76 s77 hs77 hr75 => ?_)
                    replace hT := gby hT hs77
                    have hp78 := f_X9_fallsOf_p x1 0 s73 (by omega) (by omega) hm_s73 (by unfold VS; rw [hf_s73 5 (by decide), hf_s73 6 (by decide), hf_s73 7 (by decide), hf_s73 8 (by decide)]; exact hpre0) hKN_s73 hMO_s73 (by first | assumption | omega) (by first | assumption | omega) r76 s77 hs77
                    obtain ⟨hfc_s77, hm_s77, hp79, hp80⟩ := hp78
                    have hf_s77 : fr [0, 1, 25, 26] s0 s77 := hf_s73.call (by decide) hfc_s77
                    have hKN_s77 : KN s77 := fun i => by rw [hfc_s77 0 (by decide)]; exact hKN_s73 i
                    have hMO_s77 : MO s77 := fun i => by rw [hfc_s77 1 (by decide)]; exact hMO_s73 i
                    refine k_st (st' := [gI r76, gI (s73 14 ((40 * x0) + x1)), gI v54]) rfl ?_
                    obtain ⟨z86, hz86, hT⟩ := gl1x hT
                    have j82 : ∀ (v83 : Int), ((in32 v83)) → z86 = v83 → gK D vwCl (wdM a cI cJ) lgM A p l e { frames := 5, cells := 0, slots := 0, locals := 320 } s m args below meth c 9 (gQQ D vwCl (wdM a cI cJ) lgM A kI in32 below args s) (f_X9_kinds x0 x1 x2 s0) s77 140 [(0, .ref (a 0)), (1, gI x0), (2, gI x1), (3, gI x2), (5, gI (s0 0 x1)), (6, gI (s0 1 x1)), (8, gI v55)] [gI v83, gI v54] := by
                      intro v83 hq hz
                      have hq85 := hq
                      replace hT := gl1y hT hz
                      refine k_ior (pc := 140) E dX9_kinds_140 ?_
                      have hb84 := ior_rg v54 v83
                      refine k_istore (pc := 141) (lv' := [(7, gI (ior v54 v83)), (0, .ref (a 0)), (1, gI x0), (2, gI x1), (3, gI x2), (5, gI (s0 0 x1)), (6, gI (s0 1 x1)), (8, gI v55)]) E dX9_kinds_141 (by decide) rfl ?_
                      refine k_iinc (pc := 143) (lv' := [(8, gI (v55 + 1)), (7, gI (ior v54 v83)), (0, .ref (a 0)), (1, gI x0), (2, gI x1), (3, gI x2), (5, gI (s0 0 x1)), (6, gI (s0 1 x1))]) E 7 dX9_kinds_143 rfl (by decide) rfl ?_
                      refine k_goto (pc := 146) (tgt := 59) E dX9_kinds_146 (by decide) ?_
                      refine k_lv (lv' := [(0, .ref (a 0)), (1, gI x0), (2, gI x1), (3, gI x2), (5, gI (s0 0 x1)), (6, gI (s0 1 x1)), (7, gI (ior v54 v83)), (8, gI (v55 + 1))]) [2, 3, 4, 5, 6, 7, 1, 0] rfl ?_
                      exact ih (ior v54 v83) (v55 + 1) s77 ⟨(by omega), (by omega), hf_s77, hKN_s77, hMO_s77, (by first | assumption | omega)⟩ (by omega) (fun w59 w60 s61 hw hi => hk w59 w60 s61 (hT.trans hw) hi)
                    replace hT := hz86
                    by_cases h81 : (s73 14 ((40 * x0) + x1)) = r76
                    · replace hT := hT.trans (if_pos h81)
                      refine k_icmp_ne_f (pc := 129) (tgt := 139) E (by omega) (by omega) dX9_kinds_129 (by decide) h81 ?_
                      refine k_iconst (pc := 132) E dX9_kinds_132 ?_
                      refine k_iload (pc := 133) E 7 dX9_kinds_133 rfl ?_
                      refine k_ishl (pc := 135) E dX9_kinds_135 ?_
                      have hb87 := ishl_rg 1 v55
                      have hb88 : 0 ≤ v55 ∧ v55 ≤ 15 → _ := fun q => ishl_1 q.1 q.2
                      refine k_goto (pc := 136) (tgt := 140) E dX9_kinds_136 (by decide) ?_
                      refine k_lv (lv' := [(0, .ref (a 0)), (1, gI x0), (2, gI x1), (3, gI x2), (5, gI (s0 0 x1)), (6, gI (s0 1 x1)), (8, gI v55)]) [0, 1, 2, 3, 4, 5, 7] rfl ?_
                      exact j82 (ishl 1 v55) (by omega) hT
                    · replace hT := hT.trans (if_neg h81)
                      refine k_icmp_ne_t (pc := 129) (tgt := 139) E (by omega) (by omega) dX9_kinds_129 (by decide) h81 ?_
                      refine k_iconst (pc := 139) E dX9_kinds_139 ?_
                      refine k_lv (lv' := [(0, .ref (a 0)), (1, gI x0), (2, gI x1), (3, gI x2), (5, gI (s0 0 x1)), (6, gI (s0 1 x1)), (8, gI v55)]) [0, 1, 2, 3, 4, 5, 7] rfl ?_
                      exact j82 0 (by omega) hT
                  replace hT := hz91
                  by_cases h70 : x2 = 1
                  · replace hT := hT.trans (if_pos h70)
                    refine k_icmp_ne_f (pc := 99) (tgt := 107) E (by omega) (by omega) dX9_kinds_99 (by decide) h70 ?_
                    refine k_iload (pc := 102) E 7 dX9_kinds_102 rfl ?_
                    refine k_goto (pc := 104) (tgt := 109) E dX9_kinds_104 (by decide) ?_
                    exact j71 v55 ⟨(by omega), (by first | assumption | omega)⟩ hT
                  · replace hT := hT.trans (if_neg h70)
                    refine k_icmp_ne_t (pc := 99) (tgt := 107) E (by omega) (by omega) dX9_kinds_99 (by decide) h70 ?_
                    refine k_iload (pc := 107) E 5 dX9_kinds_107 rfl ?_
                    exact j71 (s0 1 x1) ⟨(by omega), (by first | assumption | omega)⟩ hT
                replace hT := hz94
                by_cases h66 : x2 = 0
                · replace hT := hT.trans (if_pos h66)
                  refine k_if_ne_f (pc := 81) (tgt := 89) E (by omega) dX9_kinds_81 (by decide) h66 ?_
                  refine k_iload (pc := 84) E 7 dX9_kinds_84 rfl ?_
                  refine k_goto (pc := 86) (tgt := 91) E dX9_kinds_86 (by decide) ?_
                  exact j67 v55 ⟨(by omega), (by first | assumption | omega)⟩ hT
                · replace hT := hT.trans (if_neg h66)
                  refine k_if_ne_t (pc := 81) (tgt := 89) E (by omega) dX9_kinds_81 (by decide) h66 ?_
                  refine k_iload (pc := 89) E 4 dX9_kinds_89 rfl ?_
                  exact j67 (s0 0 x1) ⟨(by omega), (by first | assumption | omega)⟩ hT
              · replace hT := hT.trans (if_neg h65)
                refine k_icmp_ge_t (pc := 72) (tgt := 149) E (by omega) (by omega) dX9_kinds_72 (by decide) h65 ?_
                refine k_lv (lv' := [(0, .ref (a 0)), (2, gI x1), (5, gI (s0 0 x1)), (6, gI (s0 1 x1)), (7, gI v54)]) [0, 2, 4, 5, 6] rfl ?_
                exact hk v54 v55 s56 hT ⟨(by omega), (by omega), hf_s56, hKN_s56, hMO_s56, (by first | assumption | omega)⟩
            replace hT := hz97
            by_cases h62 : x2 = 0
            · replace hT := hT.trans (if_pos h62)
              refine k_if_ne_f (pc := 62) (tgt := 70) E (by omega) dX9_kinds_62 (by decide) h62 ?_
              refine k_bipush (pc := 65) E dX9_kinds_65 (by decide) ?_
              refine k_goto (pc := 67) (tgt := 72) E dX9_kinds_67 (by decide) ?_
              exact j63 6 ⟨(by omega), (by first | assumption | omega)⟩ hT
            · replace hT := hT.trans (if_neg h62)
              refine k_if_ne_t (pc := 62) (tgt := 70) E (by omega) dX9_kinds_62 (by decide) h62 ?_
              refine k_bipush (pc := 70) E dX9_kinds_70 (by decide) ?_
              exact j63 10 ⟨(by omega), (by first | assumption | omega)⟩ hT
        refine k_lv (lv' := [(0, .ref (a 0)), (1, gI x0), (2, gI x1), (3, gI x2), (5, gI (s0 0 x1)), (6, gI (s0 1 x1)), (7, gI 0), (8, gI 0)]) [5, 6, 7, 8, 3, 2, 1, 0] rfl ?_
        refine L57 11 0 0 s0 ⟨(by omega), (by omega), hf_s0, hKN_s0, hMO_s0, (by first | assumption | omega)⟩ (by omega) (fun v104 v105 s106 hw hq => ?_)
        obtain ⟨hq107, hq108, hf_s106, hKN_s106, hMO_s106, hq109⟩ := hq
        replace hT := gl3y hT hw
        refine k_aloadn (pc := 149) E 0 dX9_kinds_149 rfl rfl ?_
        refine k_getf (pc := 150) (q0 := 0) (f := 0) (v := .ref (a 1)) E inX9 rfl rfl (by decide) wm_898 rfl rfl dX9_kinds_150 ?_
        refine k_iloadn (pc := 153) E 1 dX9_kinds_153 rfl rfl ?_
        refine k_iload (pc := 154) E 2 dX9_kinds_154 rfl ?_
        refine k_iastore (pc := 156) (q0 := 1) (t0 := 0) (k := 0) (n := 16) E rfl rfl rfl rfl (by decide) (by omega) (by omega) (by omega) dX9_kinds_156 ?_
        obtain ⟨s110, hs110, hT⟩ := glx hT
        refine k_sg hs110.symm ?_
        have hf_s110 : fr [0, 1, 25, 26] s0 s110 := hs110 ▸ hf_s106.set (by decide)
        have hKN_s110 : KN s110 := hs110 ▸ KN_set hKN_s106 (by omega)
        have hMO_s110 : MO s110 := fun i => by rw [hs110, mset_ne _ _ _ _ _ (by decide)]; exact hMO_s106 i
        refine k_aloadn (pc := 157) E 0 dX9_kinds_157 rfl rfl ?_
        refine k_getf (pc := 158) (q0 := 0) (f := 1) (v := .ref (a 2)) E inX9 rfl rfl (by decide) wm_899 rfl rfl dX9_kinds_158 ?_
        refine k_iloadn (pc := 161) E 1 dX9_kinds_161 rfl rfl ?_
        refine k_iload (pc := 162) E 3 dX9_kinds_162 rfl ?_
        refine k_iastore (pc := 164) (q0 := 2) (t0 := 0) (k := 1) (n := 16) E rfl rfl rfl rfl (by decide) (by omega) (by omega) (by omega) dX9_kinds_164 ?_
        obtain ⟨s111, hs111, hT⟩ := glx hT
        refine k_sg hs111.symm ?_
        have hf_s111 : fr [0, 1, 25, 26] s0 s111 := hs111 ▸ hf_s110.set (by decide)
        have hKN_s111 : KN s111 := fun i => by rw [hs111, mset_ne _ _ _ _ _ (by decide)]; exact hKN_s110 i
        have hMO_s111 : MO s111 := hs111 ▸ MO_set hMO_s110 (by omega)
        refine k_iload (pc := 165) E 4 dX9_kinds_165 rfl ?_
        exact k_rho hT (k_iret (pc := 167) E dX9_kinds_167 (by omega))
  · replace hT := hT.trans (if_neg h3)
    refine k_if_eq_f (pc := 9) (tgt := 15) E (by omega) dX9_kinds_9 (by decide) h3 ?_
    refine k_iload (pc := 12) E 0 dX9_kinds_12 rfl ?_
    exact k_rho hT (k_iret (pc := 14) E dX9_kinds_14 (by omega))

def w_X9_laws_23 (c1 : Int) (c3 : Int) : Nat → Int → Int → gMem → Int × Int × gMem
  | 0, v5, v6, s7 => (v5, v6, s7)
  | n8 + 1, v5, v6, s7 => (if v6 < (s7 7 0) then gl (mset s7 8 0 v6) (fun s11 => gb (f_X9_otherwise c1 s11) (fun r15 s16 => (gl ((if r15 = (-1) then (ishl 1 v6) else 0)) (fun v23 => (w_X9_laws_23 c1 c3 n8 (ior v5 v23) (v6 + 1) s16))))) else (v5, v6, s7))
theorem w_X9_laws_23_s (c1 : Int) (c3 : Int) (n8 : Nat) (v5 : Int) (v6 : Int) (s7 : gMem) : w_X9_laws_23 c1 c3 (n8 + 1) v5 v6 s7 = (if v6 < (s7 7 0) then gl (mset s7 8 0 v6) (fun s11 => gb (f_X9_otherwise c1 s11) (fun r15 s16 => (gl ((if r15 = (-1) then (ishl 1 v6) else 0)) (fun v23 => (w_X9_laws_23 c1 c3 n8 (ior v5 v23) (v6 + 1) s16))))) else (v5, v6, s7)) := rfl
def f_X9_laws (x0 : Int) (s0 : gMem) : gRes := (if (f_X9_sheetWrong x0 s0) = 0 then (gl3 (w_X9_laws_23 x0 (s0 8 0) 7 0 0 s0) (fun v65 v66 s67 => gl (mset s67 8 0 (s0 8 0)) (fun s72 => (v65, s72)))) else ((f_X9_sheetWrong x0 s0), s0))
theorem f_X9_laws_e (x0 : Int) (s0 : gMem) : f_X9_laws x0 s0 = (if (f_X9_sheetWrong x0 s0) = 0 then (gl3 (w_X9_laws_23 x0 (s0 8 0) 7 0 0 s0) (fun v65 v66 s67 => gl (mset s67 8 0 (s0 8 0)) (fun s72 => (v65, s72)))) else ((f_X9_sheetWrong x0 s0), s0)) := rfl
set_option maxRecDepth 100000 in
set_option maxHeartbeats 4000000 in
theorem f_X9_laws_p (x0 : Int) (s0 : gMem) (hx0 : in32 x0) (hm_s0 : gMR lgM s0) (hpre0 : VS s0) (hpre1 : KN s0) (hpre2 : MO s0) (hpre3 : SO s0) (hpre4 : SZ s0) (rZ : Int) (sZ : gMem) (hres : f_X9_laws x0 s0 = (rZ, sZ)) : (fr [8, 25, 26] s0 sZ) ∧ (gMR lgM sZ) ∧ (in32 rZ) ∧ (sZ 8 0 = s0 8 0) := by
  have hT := f_X9_laws_e x0 s0
  have hf_s0 : fr [8, 25, 26] s0 s0 := fr.rf _ _
  obtain ⟨kv1, kv2, kv3, kv4, kv5⟩ := id hpre0
  have hp2 := f_X9_sheetWrong_p x0 s0 (by omega) hm_s0 hpre3 hpre4
  by_cases h3 : (f_X9_sheetWrong x0 s0) = 0
  · replace hT := hT.trans (if_pos h3)
    have hr4 := (hm_s0 8 0).1 rfl
    have L32 : ∀ (n33 : Nat) (v29 : Int) (v30 : Int) (s31 : gMem), ((in32 v29) ∧ (in32 v30) ∧ (fr [8, 25, 26] s0 s31) ∧ (gMR lgM s31) ∧ (s31 7 0 = s0 7 0) ∧ (0 ≤ v30 ∧ v30 ≤ s0 7 0)) → s0 7 0 - v30 < (n33 : Int) → (∀ (w34 : Int) (w35 : Int) (s36 : gMem), (w_X9_laws_23 x0 (s0 8 0) n33 v29 v30 s31) = (w34, w35, s36) → ((in32 w34) ∧ (in32 w35) ∧ (fr [8, 25, 26] s0 s36) ∧ (gMR lgM s36) ∧ (s36 7 0 = s0 7 0) ∧ (0 ≤ w35 ∧ w35 ≤ s0 7 0)) → (fr [8, 25, 26] s0 sZ) ∧ (gMR lgM sZ) ∧ (in32 rZ) ∧ (sZ 8 0 = s0 8 0)) → (fr [8, 25, 26] s0 sZ) ∧ (gMR lgM sZ) ∧ (in32 rZ) ∧ (sZ 8 0 = s0 8 0) := by
      intro n33; induction n33 with
      | zero =>
        intro v29 v30 s31 hq hm hk
        exfalso
        obtain ⟨hq57, hq58, hf_s31, hm_s31, hq59, hq60⟩ := hq
        omega
      | succ n33 ih =>
        intro v29 v30 s31 hq hm hk
        obtain ⟨hq61, hq62, hf_s31, hm_s31, hq63, hq64⟩ := hq
        have hT := w_X9_laws_23_s x0 (s0 8 0) n33 v29 v30 s31
        have hr37 := (hm_s31 7 0).1 rfl
        by_cases h38 : v30 < (s31 7 0)
        · replace hT := hT.trans (if_pos h38)
          obtain ⟨s39, hs39, hT⟩ := glx hT
          have hf_s39 : fr [8, 25, 26] s0 s39 := hs39 ▸ hf_s31.set (by decide)
          have hm_s39 : gMR lgM s39 := hs39 ▸ hm_s31.set32 rfl (by omega)
          have ht40 : s39 7 0 = s31 7 0 := by rw [hs39]; exact mset_ne _ _ _ _ _ (by decide)
          have ht41 : s39 8 0 = v30 := by rw [hs39]; exact mset_eq _ _ _ _
          obtain ⟨r43, s44, hs44⟩ : ∃ rr ss, (f_X9_otherwise x0 s39) = (rr, ss) := ⟨_, _, rfl⟩
          replace hT := gby hT hs44
          have hp45 := f_X9_otherwise_p x0 s39 (by omega) hm_s39 (VS_of hpre0 (hf_s39 5 (by decide)) (hf_s39 6 (by decide)) (hf_s39 7 (by decide)) (by omega) (by omega)) (by unfold KN; rw [hf_s39 0 (by decide)]; exact hpre1) (by unfold MO; rw [hf_s39 1 (by decide)]; exact hpre2) (by first | assumption | omega) r43 s44 hs44
          obtain ⟨hfc_s44, hm_s44, hp46⟩ := hp45
          have hf_s44 : fr [8, 25, 26] s0 s44 := hf_s39.call (by decide) hfc_s44
          have ht47 : s44 7 0 = s39 7 0 := by rw [hfc_s44 7 (by decide)]
          have ht48 : s44 8 0 = s39 8 0 := by rw [hfc_s44 8 (by decide)]
          obtain ⟨z54, hz54, hT⟩ := gl1x hT
          have j50 : ∀ (v51 : Int), ((in32 v51)) → z54 = v51 → (fr [8, 25, 26] s0 sZ) ∧ (gMR lgM sZ) ∧ (in32 rZ) ∧ (sZ 8 0 = s0 8 0) := by
            intro v51 hq hz
            have hq53 := hq
            replace hT := gl1y hT hz
            have hb52 := ior_rg v29 v51
            exact ih (ior v29 v51) (v30 + 1) s44 ⟨(by omega), (by omega), hf_s44, hm_s44, (by first | assumption | omega), (by first | assumption | omega)⟩ (by omega) (fun w34 w35 s36 hw hi => hk w34 w35 s36 (hT.trans hw) hi)
          replace hT := hz54
          by_cases h49 : r43 = (-1)
          · replace hT := hT.trans (if_pos h49)
            have hb55 := ishl_rg 1 v30
            have hb56 : 0 ≤ v30 ∧ v30 ≤ 15 → _ := fun q => ishl_1 q.1 q.2
            exact j50 (ishl 1 v30) (by omega) hT
          · replace hT := hT.trans (if_neg h49)
            exact j50 0 (by omega) hT
        · replace hT := hT.trans (if_neg h38)
          exact hk v29 v30 s31 hT ⟨(by omega), (by omega), hf_s31, hm_s31, (by first | assumption | omega), (by first | assumption | omega)⟩
    refine L32 7 0 0 s0 ⟨(by omega), (by omega), hf_s0, hm_s0, (by first | assumption | omega), (by first | assumption | omega)⟩ (by omega) (fun v65 v66 s67 hw hq => ?_)
    obtain ⟨hq68, hq69, hf_s67, hm_s67, hq70, hq71⟩ := hq
    replace hT := gl3y hT hw
    obtain ⟨s72, hs72, hT⟩ := glx hT
    have hf_s72 : fr [8, 25, 26] s0 s72 := hs72 ▸ hf_s67.set (by decide)
    have hm_s72 : gMR lgM s72 := hs72 ▸ hm_s67.set32 rfl (by omega)
    have ht73 : s72 7 0 = s67 7 0 := by rw [hs72]; exact mset_ne _ _ _ _ _ (by decide)
    have ht74 : s72 8 0 = (s0 8 0) := by rw [hs72]; exact mset_eq _ _ _ _
    obtain ⟨rfl, rfl⟩ := Prod.mk.inj (hT.symm.trans hres)
    exact ⟨hf_s72, hm_s72, (by omega), (by first | assumption | omega)⟩
  · replace hT := hT.trans (if_neg h3)
    obtain ⟨rfl, rfl⟩ := Prod.mk.inj (hT.symm.trans hres)
    exact ⟨hf_s0, hm_s0, (by omega), (by first | assumption | omega)⟩
set_option maxRecDepth 100000 in
set_option maxHeartbeats 4000000 in
theorem c_X9_laws (l : Launch) (D : va_G) (a : Nat → Nat) (cI cJ cS cT : ClassId) (s0 : gMem) (x0 : Int) (hx0 : in32 x0) (hpre0 : VS s0) (hpre1 : KN s0) (hpre2 : MO s0) (hpre3 : SO s0) (hpre4 : SZ s0) : gC l yX9_laws cX9_laws 6 (some .int) 6 384 D vwCl (gT cI cJ cS cT) (wdM a cI cJ) lgM kI in32 [.ref (a 0), gI x0] s0 (f_X9_laws x0 s0) := by
  refine gC_of (by decide +kernel) (hwdM a cI cJ) (Nat.le_of_ble_eq_true rfl) ?_
  intro A p e R s m args below meth c hR E
  subst hR
  have hT := f_X9_laws_e x0 s0
  have hf_s0 : fr [8, 25, 26] s0 s0 := fr.rf _ _
  refine k_lv0 (lv' := [(0, .ref (a 0)), (1, gI x0)]) rfl ?_
  refine k_mr (fun hm_s0 => ?_)
  obtain ⟨kv1, kv2, kv3, kv4, kv5⟩ := id hpre0
  refine k_aloadn (pc := 0) E 0 dX9_laws_0 rfl rfl ?_
  refine k_iloadn (pc := 1) E 1 dX9_laws_1 rfl rfl ?_
  refine k_mr (fun hm_s0 => ?_)
  refine k_callV (pc := 2) (np := 1) (As := [gI x0]) (st := []) (q0 := 0) E (c_X9_sheetWrong l D a cI cJ cS cT s0 x0 (by omega) hpre3 hpre4) wm_1224 wm_11 wm_1221 wm_1223 wp_51 (by decide +kernel) rfl rfl ⟨by decide, by decide⟩ rfl (Nat.le_of_ble_eq_true rfl) dX9_laws_2 (ro_kk (fun hr1 => ?_))
  have hp2 := f_X9_sheetWrong_p x0 s0 (by omega) hm_s0 hpre3 hpre4
  refine k_st (st' := [gI (f_X9_sheetWrong x0 s0)]) rfl ?_
  refine k_istoren (pc := 5) (lv' := [(2, gI (f_X9_sheetWrong x0 s0)), (0, .ref (a 0)), (1, gI x0)]) E dX9_laws_5 rfl (by decide) rfl ?_
  refine k_iloadn (pc := 6) E 0 dX9_laws_6 rfl rfl ?_
  by_cases h3 : (f_X9_sheetWrong x0 s0) = 0
  · replace hT := hT.trans (if_pos h3)
    refine k_if_eq_t (pc := 7) (tgt := 12) E (by omega) dX9_laws_7 (by decide) h3 ?_
    refine k_aloadn (pc := 12) E 1 dX9_laws_12 rfl rfl ?_
    refine k_getfI (pc := 13) (q0 := 0) (f := 8) (k := 8) E inX9 rfl rfl (by decide) wm_906 rfl rfl rfl dX9_laws_13 (fun hr4 => ?_)
    refine k_istoren (pc := 16) (lv' := [(3, gI (s0 8 0)), (2, gI (f_X9_sheetWrong x0 s0)), (0, .ref (a 0)), (1, gI x0)]) E dX9_laws_16 rfl (by decide) rfl ?_
    refine k_iconst (pc := 17) E dX9_laws_17 ?_
    refine k_istore (pc := 18) (lv' := [(4, gI 0), (3, gI (s0 8 0)), (2, gI (f_X9_sheetWrong x0 s0)), (0, .ref (a 0)), (1, gI x0)]) E dX9_laws_18 (by decide) rfl ?_
    refine k_iconst (pc := 20) E dX9_laws_20 ?_
    refine k_istore (pc := 21) (lv' := [(5, gI 0), (4, gI 0), (3, gI (s0 8 0)), (2, gI (f_X9_sheetWrong x0 s0)), (0, .ref (a 0)), (1, gI x0)]) E dX9_laws_21 (by decide) rfl ?_
    have L32 : ∀ (n33 : Nat) (v29 : Int) (v30 : Int) (s31 : gMem), ((in32 v29) ∧ (in32 v30) ∧ (fr [8, 25, 26] s0 s31) ∧ (s31 7 0 = s0 7 0) ∧ (0 ≤ v30 ∧ v30 ≤ s0 7 0)) → s0 7 0 - v30 < (n33 : Int) → (∀ (w34 : Int) (w35 : Int) (s36 : gMem), (w_X9_laws_23 x0 (s0 8 0) n33 v29 v30 s31) = (w34, w35, s36) → ((in32 w34) ∧ (in32 w35) ∧ (fr [8, 25, 26] s0 s36) ∧ (s36 7 0 = s0 7 0) ∧ (0 ≤ w35 ∧ w35 ≤ s0 7 0)) → gK D vwCl (wdM a cI cJ) lgM A p l e { frames := 6, cells := 0, slots := 0, locals := 384 } s m args below meth c 6 (gQQ D vwCl (wdM a cI cJ) lgM A kI in32 below args s) (f_X9_laws x0 s0) s36 66 [(0, .ref (a 0)), (3, gI (s0 8 0)), (4, gI w34)] []) → gK D vwCl (wdM a cI cJ) lgM A p l e { frames := 6, cells := 0, slots := 0, locals := 384 } s m args below meth c 6 (gQQ D vwCl (wdM a cI cJ) lgM A kI in32 below args s) (f_X9_laws x0 s0) s31 23 [(0, .ref (a 0)), (1, gI x0), (3, gI (s0 8 0)), (4, gI v29), (5, gI v30)] [] := by
      intro n33; induction n33 with
      | zero =>
        intro v29 v30 s31 hq hm hk
        exfalso
        obtain ⟨hq57, hq58, hf_s31, hq59, hq60⟩ := hq
        omega
      | succ n33 ih =>
        intro v29 v30 s31 hq hm hk
        obtain ⟨hq61, hq62, hf_s31, hq63, hq64⟩ := hq
        have hT := w_X9_laws_23_s x0 (s0 8 0) n33 v29 v30 s31
        refine k_iload (pc := 23) E 4 dX9_laws_23 rfl ?_
        refine k_aloadn (pc := 25) E 0 dX9_laws_25 rfl rfl ?_
        refine k_getfI (pc := 26) (q0 := 0) (f := 7) (k := 7) E inX9 rfl rfl (by decide) wm_905 rfl rfl rfl dX9_laws_26 (fun hr37 => ?_)
        by_cases h38 : v30 < (s31 7 0)
        · replace hT := hT.trans (if_pos h38)
          refine k_icmp_ge_f (pc := 29) (tgt := 66) E (by omega) (by omega) dX9_laws_29 (by decide) h38 ?_
          refine k_aloadn (pc := 32) E 0 dX9_laws_32 rfl rfl ?_
          refine k_iload (pc := 33) E 4 dX9_laws_33 rfl ?_
          refine k_putfI (pc := 35) (q0 := 0) (f := 8) (k := 8) E tyX9 tyX9_ok nmX9 inX9 rfl rfl (by decide) wm_906 rfl rfl rfl (Nat.le_of_ble_eq_true rfl) rfl rfl (by omega) dX9_laws_35 ?_
          obtain ⟨s39, hs39, hT⟩ := glx hT
          refine k_sg hs39.symm ?_
          have hf_s39 : fr [8, 25, 26] s0 s39 := hs39 ▸ hf_s31.set (by decide)
          have ht40 : s39 7 0 = s31 7 0 := by rw [hs39]; exact mset_ne _ _ _ _ _ (by decide)
          have ht41 : s39 8 0 = v30 := by rw [hs39]; exact mset_eq _ _ _ _
          refine k_iload (pc := 38) E 3 dX9_laws_38 rfl ?_
          refine k_aloadn (pc := 40) E 0 dX9_laws_40 rfl rfl ?_
          refine k_iloadn (pc := 41) E 1 dX9_laws_41 rfl rfl ?_
          refine k_mr (fun hm_s39 => ?_)
          refine k_callV (pc := 42) (np := 1) (As := [gI x0]) (st := [gI v29]) (q0 := 0) E (c_X9_otherwise l D a cI cJ cS cT s39 x0 (by omega) (VS_of hpre0 (hf_s39 5 (by decide)) (hf_s39 6 (by decide)) (hf_s39 7 (by decide)) (by omega) (by omega)) (by unfold KN; rw [hf_s39 0 (by decide)]; exact hpre1) (by unfold MO; rw [hf_s39 1 (by decide)]; exact hpre2) (by first | assumption | omega)) wm_1244 wm_11 wm_1241 wm_1243 wp_53 (by decide +kernel) rfl rfl ⟨by decide, by decide⟩ rfl (Nat.le_of_ble_eq_true rfl) dX9_laws_42 (fun r43 s44 hs44 hr42 => ?_)
          replace hT := gby hT hs44
          have hp45 := f_X9_otherwise_p x0 s39 (by omega) hm_s39 (VS_of hpre0 (hf_s39 5 (by decide)) (hf_s39 6 (by decide)) (hf_s39 7 (by decide)) (by omega) (by omega)) (by unfold KN; rw [hf_s39 0 (by decide)]; exact hpre1) (by unfold MO; rw [hf_s39 1 (by decide)]; exact hpre2) (by first | assumption | omega) r43 s44 hs44
          obtain ⟨hfc_s44, hm_s44, hp46⟩ := hp45
          have hf_s44 : fr [8, 25, 26] s0 s44 := hf_s39.call (by decide) hfc_s44
          have ht47 : s44 7 0 = s39 7 0 := by rw [hfc_s44 7 (by decide)]
          have ht48 : s44 8 0 = s39 8 0 := by rw [hfc_s44 8 (by decide)]
          refine k_st (st' := [gI r43, gI v29]) rfl ?_
          refine k_iconst (pc := 45) E dX9_laws_45 ?_
          obtain ⟨z54, hz54, hT⟩ := gl1x hT
          have j50 : ∀ (v51 : Int), ((in32 v51)) → z54 = v51 → gK D vwCl (wdM a cI cJ) lgM A p l e { frames := 6, cells := 0, slots := 0, locals := 384 } s m args below meth c 6 (gQQ D vwCl (wdM a cI cJ) lgM A kI in32 below args s) (f_X9_laws x0 s0) s44 57 [(0, .ref (a 0)), (1, gI x0), (3, gI (s0 8 0)), (5, gI v30)] [gI v51, gI v29] := by
            intro v51 hq hz
            have hq53 := hq
            replace hT := gl1y hT hz
            refine k_ior (pc := 57) E dX9_laws_57 ?_
            have hb52 := ior_rg v29 v51
            refine k_istore (pc := 58) (lv' := [(4, gI (ior v29 v51)), (0, .ref (a 0)), (1, gI x0), (3, gI (s0 8 0)), (5, gI v30)]) E dX9_laws_58 (by decide) rfl ?_
            refine k_iinc (pc := 60) (lv' := [(5, gI (v30 + 1)), (4, gI (ior v29 v51)), (0, .ref (a 0)), (1, gI x0), (3, gI (s0 8 0))]) E 4 dX9_laws_60 rfl (by decide) rfl ?_
            refine k_goto (pc := 63) (tgt := 23) E dX9_laws_63 (by decide) ?_
            refine k_lv (lv' := [(0, .ref (a 0)), (1, gI x0), (3, gI (s0 8 0)), (4, gI (ior v29 v51)), (5, gI (v30 + 1))]) [2, 3, 4, 1, 0] rfl ?_
            exact ih (ior v29 v51) (v30 + 1) s44 ⟨(by omega), (by omega), hf_s44, (by first | assumption | omega), (by first | assumption | omega)⟩ (by omega) (fun w34 w35 s36 hw hi => hk w34 w35 s36 (hT.trans hw) hi)
          replace hT := hz54
          by_cases h49 : r43 = (-1)
          · replace hT := hT.trans (if_pos h49)
            refine k_icmp_ne_f (pc := 46) (tgt := 56) E (by omega) (by omega) dX9_laws_46 (by decide) h49 ?_
            refine k_iconst (pc := 49) E dX9_laws_49 ?_
            refine k_iload (pc := 50) E 4 dX9_laws_50 rfl ?_
            refine k_ishl (pc := 52) E dX9_laws_52 ?_
            have hb55 := ishl_rg 1 v30
            have hb56 : 0 ≤ v30 ∧ v30 ≤ 15 → _ := fun q => ishl_1 q.1 q.2
            refine k_goto (pc := 53) (tgt := 57) E dX9_laws_53 (by decide) ?_
            refine k_lv (lv' := [(0, .ref (a 0)), (1, gI x0), (3, gI (s0 8 0)), (5, gI v30)]) [0, 1, 2, 4] rfl ?_
            exact j50 (ishl 1 v30) (by omega) hT
          · replace hT := hT.trans (if_neg h49)
            refine k_icmp_ne_t (pc := 46) (tgt := 56) E (by omega) (by omega) dX9_laws_46 (by decide) h49 ?_
            refine k_iconst (pc := 56) E dX9_laws_56 ?_
            refine k_lv (lv' := [(0, .ref (a 0)), (1, gI x0), (3, gI (s0 8 0)), (5, gI v30)]) [0, 1, 2, 4] rfl ?_
            exact j50 0 (by omega) hT
        · replace hT := hT.trans (if_neg h38)
          refine k_icmp_ge_t (pc := 29) (tgt := 66) E (by omega) (by omega) dX9_laws_29 (by decide) h38 ?_
          refine k_lv (lv' := [(0, .ref (a 0)), (3, gI (s0 8 0)), (4, gI v29)]) [0, 2, 3] rfl ?_
          exact hk v29 v30 s31 hT ⟨(by omega), (by omega), hf_s31, (by first | assumption | omega), (by first | assumption | omega)⟩
    refine k_lv (lv' := [(0, .ref (a 0)), (1, gI x0), (3, gI (s0 8 0)), (4, gI 0), (5, gI 0)]) [4, 5, 2, 1, 0] rfl ?_
    refine L32 7 0 0 s0 ⟨(by omega), (by omega), hf_s0, (by first | assumption | omega), (by first | assumption | omega)⟩ (by omega) (fun v65 v66 s67 hw hq => ?_)
    obtain ⟨hq68, hq69, hf_s67, hq70, hq71⟩ := hq
    replace hT := gl3y hT hw
    refine k_aloadn (pc := 66) E 0 dX9_laws_66 rfl rfl ?_
    refine k_iloadn (pc := 67) E 1 dX9_laws_67 rfl rfl ?_
    refine k_putfI (pc := 68) (q0 := 0) (f := 8) (k := 8) E tyX9 tyX9_ok nmX9 inX9 rfl rfl (by decide) wm_906 rfl rfl rfl (Nat.le_of_ble_eq_true rfl) rfl rfl (by omega) dX9_laws_68 ?_
    obtain ⟨s72, hs72, hT⟩ := glx hT
    refine k_sg hs72.symm ?_
    have hf_s72 : fr [8, 25, 26] s0 s72 := hs72 ▸ hf_s67.set (by decide)
    have ht73 : s72 7 0 = s67 7 0 := by rw [hs72]; exact mset_ne _ _ _ _ _ (by decide)
    have ht74 : s72 8 0 = (s0 8 0) := by rw [hs72]; exact mset_eq _ _ _ _
    refine k_iload (pc := 71) E 2 dX9_laws_71 rfl ?_
    exact k_rho hT (k_iret (pc := 73) E dX9_laws_73 (by omega))
  · replace hT := hT.trans (if_neg h3)
    refine k_if_eq_f (pc := 7) (tgt := 12) E (by omega) dX9_laws_7 (by decide) h3 ?_
    refine k_iloadn (pc := 10) E 0 dX9_laws_10 rfl rfl ?_
    exact k_rho hT (k_iret (pc := 11) E dX9_laws_11 (by omega))

def w_X9_amiss_17 (c1 : Int) : Nat → Int → Int → gMem → Int × Int × gMem
  | 0, v4, v5, s6 => (v4, v5, s6)
  | n7 + 1, v4, v5, s6 => (if v5 < 16 then gb (f_X9_fallsOf v5 0 s6) (fun r11 s12 => gl ((s6 14 ((40 * c1) + v5)) - r11) (fun v16 => (gl ((if v16 < 0 then (-v16) else v16)) (fun v19 => (w_X9_amiss_17 c1 n7 (v4 + v19) (v5 + 1) s12))))) else (v4, v5, s6))
theorem w_X9_amiss_17_s (c1 : Int) (n7 : Nat) (v4 : Int) (v5 : Int) (s6 : gMem) : w_X9_amiss_17 c1 (n7 + 1) v4 v5 s6 = (if v5 < 16 then gb (f_X9_fallsOf v5 0 s6) (fun r11 s12 => gl ((s6 14 ((40 * c1) + v5)) - r11) (fun v16 => (gl ((if v16 < 0 then (-v16) else v16)) (fun v19 => (w_X9_amiss_17 c1 n7 (v4 + v19) (v5 + 1) s12))))) else (v4, v5, s6)) := rfl
def f_X9_amiss (x0 : Int) (s0 : gMem) : gRes := (if (f_X9_sheetWrong x0 s0) = 0 then (gl3 (w_X9_amiss_17 x0 17 0 0 s0) (fun v52 v53 s54 => (v52, s54))) else ((-4611686018427387904), s0))
theorem f_X9_amiss_e (x0 : Int) (s0 : gMem) : f_X9_amiss x0 s0 = (if (f_X9_sheetWrong x0 s0) = 0 then (gl3 (w_X9_amiss_17 x0 17 0 0 s0) (fun v52 v53 s54 => (v52, s54))) else ((-4611686018427387904), s0)) := rfl
set_option maxRecDepth 100000 in
set_option maxHeartbeats 4000000 in
theorem f_X9_amiss_p (x0 : Int) (s0 : gMem) (hx0 : in32 x0) (hm_s0 : gMR lgM s0) (hpre0 : VS s0) (hpre1 : KN s0) (hpre2 : MO s0) (hpre3 : SO s0) (hpre4 : SZ s0) (rZ : Int) (sZ : gMem) (hres : f_X9_amiss x0 s0 = (rZ, sZ)) : (fr [25, 26] s0 sZ) ∧ (gMR lgM sZ) ∧ (in64 rZ) := by
  have hT := f_X9_amiss_e x0 s0
  have hf_s0 : fr [25, 26] s0 s0 := fr.rf _ _
  have hp2 := f_X9_sheetWrong_p x0 s0 (by omega) hm_s0 hpre3 hpre4
  by_cases h3 : (f_X9_sheetWrong x0 s0) = 0
  · replace hT := hT.trans (if_pos h3)
    have L25 : ∀ (n26 : Nat) (v22 : Int) (v23 : Int) (s24 : gMem), ((in64 v22) ∧ (in32 v23) ∧ (fr [25, 26] s0 s24) ∧ (gMR lgM s24) ∧ (0 ≤ v23 ∧ v23 ≤ 16) ∧ (0 ≤ v22 ∧ v22 ≤ 2147483747 * v23)) → 16 - v23 < (n26 : Int) → (∀ (w27 : Int) (w28 : Int) (s29 : gMem), (w_X9_amiss_17 x0 n26 v22 v23 s24) = (w27, w28, s29) → ((in64 w27) ∧ (in32 w28) ∧ (fr [25, 26] s0 s29) ∧ (gMR lgM s29) ∧ (0 ≤ w28 ∧ w28 ≤ 16) ∧ (0 ≤ w27 ∧ w27 ≤ 2147483747 * w28)) → (fr [25, 26] s0 sZ) ∧ (gMR lgM sZ) ∧ (in64 rZ)) → (fr [25, 26] s0 sZ) ∧ (gMR lgM sZ) ∧ (in64 rZ) := by
      intro n26; induction n26 with
      | zero =>
        intro v22 v23 s24 hq hm hk
        exfalso
        obtain ⟨hq44, hq45, hf_s24, hm_s24, hq46, hq47⟩ := hq
        omega
      | succ n26 ih =>
        intro v22 v23 s24 hq hm hk
        obtain ⟨hq48, hq49, hf_s24, hm_s24, hq50, hq51⟩ := hq
        have hT := w_X9_amiss_17_s x0 n26 v22 v23 s24
        by_cases h30 : v23 < 16
        · replace hT := hT.trans (if_pos h30)
          have hr31 := (hm_s24 14 ((40 * x0) + v23)).1 rfl
          obtain ⟨r33, s34, hs34⟩ : ∃ rr ss, (f_X9_fallsOf v23 0 s24) = (rr, ss) := ⟨_, _, rfl⟩
          replace hT := gby hT hs34
          have hp35 := f_X9_fallsOf_p v23 0 s24 (by omega) (by omega) hm_s24 (by unfold VS; rw [hf_s24 5 (by decide), hf_s24 6 (by decide), hf_s24 7 (by decide), hf_s24 8 (by decide)]; exact hpre0) (by unfold KN; rw [hf_s24 0 (by decide)]; exact hpre1) (by unfold MO; rw [hf_s24 1 (by decide)]; exact hpre2) (by first | assumption | omega) (by first | assumption | omega) r33 s34 hs34
          obtain ⟨hfc_s34, hm_s34, hp36, hp37⟩ := hp35
          have hf_s34 : fr [25, 26] s0 s34 := hf_s24.call (by decide) hfc_s34
          obtain ⟨v38, hv38, hT⟩ := glx hT
          obtain ⟨z43, hz43, hT⟩ := gl1x hT
          have j40 : ∀ (v41 : Int), ((in64 v41)) → z43 = v41 → (fr [25, 26] s0 sZ) ∧ (gMR lgM sZ) ∧ (in64 rZ) := by
            intro v41 hq hz
            have hq42 := hq
            replace hT := gl1y hT hz
            exact ih (v22 + v41) (v23 + 1) s34 ⟨(by omega), (by omega), hf_s34, hm_s34, (by first | assumption | omega), (by first | assumption | omega)⟩ (by omega) (fun w27 w28 s29 hw hi => hk w27 w28 s29 (hT.trans hw) hi)
          replace hT := hz43
          by_cases h39 : v38 < 0
          · replace hT := hT.trans (if_pos h39)
            exact j40 (-v38) (by omega) hT
          · replace hT := hT.trans (if_neg h39)
            exact j40 v38 (by omega) hT
        · replace hT := hT.trans (if_neg h30)
          exact hk v22 v23 s24 hT ⟨(by omega), (by omega), hf_s24, hm_s24, (by first | assumption | omega), (by first | assumption | omega)⟩
    refine L25 17 0 0 s0 ⟨(by omega), (by omega), hf_s0, hm_s0, (by first | assumption | omega), (by first | assumption | omega)⟩ (by omega) (fun v52 v53 s54 hw hq => ?_)
    obtain ⟨hq55, hq56, hf_s54, hm_s54, hq57, hq58⟩ := hq
    replace hT := gl3y hT hw
    obtain ⟨rfl, rfl⟩ := Prod.mk.inj (hT.symm.trans hres)
    exact ⟨hf_s54, hm_s54, (by omega)⟩
  · replace hT := hT.trans (if_neg h3)
    obtain ⟨rfl, rfl⟩ := Prod.mk.inj (hT.symm.trans hres)
    exact ⟨hf_s0, hm_s0, (by omega)⟩
set_option maxRecDepth 100000 in
set_option maxHeartbeats 4000000 in
theorem c_X9_amiss (l : Launch) (D : va_G) (a : Nat → Nat) (cI cJ cS cT : ClassId) (s0 : gMem) (x0 : Int) (hx0 : in32 x0) (hpre0 : VS s0) (hpre1 : KN s0) (hpre2 : MO s0) (hpre3 : SO s0) (hpre4 : SZ s0) : gC l yX9_amiss cX9_amiss 7 (some .long) 5 320 D vwCl (gT cI cJ cS cT) (wdM a cI cJ) lgM kJ in64 [.ref (a 0), gI x0] s0 (f_X9_amiss x0 s0) := by
  refine gC_of (by decide +kernel) (hwdM a cI cJ) (Nat.le_of_ble_eq_true rfl) ?_
  intro A p e R s m args below meth c hR E
  subst hR
  have hT := f_X9_amiss_e x0 s0
  have hf_s0 : fr [25, 26] s0 s0 := fr.rf _ _
  refine k_lv0 (lv' := [(0, .ref (a 0)), (1, gI x0)]) rfl ?_
  refine k_mr (fun hm_s0 => ?_)
  refine k_aloadn (pc := 0) E 0 dX9_amiss_0 rfl rfl ?_
  refine k_iloadn (pc := 1) E 1 dX9_amiss_1 rfl rfl ?_
  refine k_mr (fun hm_s0 => ?_)
  refine k_callV (pc := 2) (np := 1) (As := [gI x0]) (st := []) (q0 := 0) E (c_X9_sheetWrong l D a cI cJ cS cT s0 x0 (by omega) hpre3 hpre4) wm_1224 wm_11 wm_1221 wm_1223 wp_51 (by decide +kernel) rfl rfl ⟨by decide, by decide⟩ rfl (Nat.le_of_ble_eq_true rfl) dX9_amiss_2 (ro_kk (fun hr1 => ?_))
  have hp2 := f_X9_sheetWrong_p x0 s0 (by omega) hm_s0 hpre3 hpre4
  refine k_st (st' := [gI (f_X9_sheetWrong x0 s0)]) rfl ?_
  by_cases h3 : (f_X9_sheetWrong x0 s0) = 0
  · replace hT := hT.trans (if_pos h3)
    refine k_if_eq_t (pc := 5) (tgt := 12) E (by omega) dX9_amiss_5 (by decide) h3 ?_
    refine k_lconst0 (pc := 12) E dX9_amiss_12 ?_
    refine k_lstoren (pc := 13) (lv' := [(2, gL 0), (0, .ref (a 0)), (1, gI x0)]) E dX9_amiss_13 rfl (by decide) rfl ?_
    refine k_iconst (pc := 14) E dX9_amiss_14 ?_
    refine k_istore (pc := 15) (lv' := [(4, gI 0), (2, gL 0), (0, .ref (a 0)), (1, gI x0)]) E dX9_amiss_15 (by decide) rfl ?_
    have L25 : ∀ (n26 : Nat) (v22 : Int) (v23 : Int) (s24 : gMem), ((in64 v22) ∧ (in32 v23) ∧ (fr [25, 26] s0 s24) ∧ (0 ≤ v23 ∧ v23 ≤ 16) ∧ (0 ≤ v22 ∧ v22 ≤ 2147483747 * v23)) → 16 - v23 < (n26 : Int) → (∀ (w27 : Int) (w28 : Int) (s29 : gMem), (w_X9_amiss_17 x0 n26 v22 v23 s24) = (w27, w28, s29) → ((in64 w27) ∧ (in32 w28) ∧ (fr [25, 26] s0 s29) ∧ (0 ≤ w28 ∧ w28 ≤ 16) ∧ (0 ≤ w27 ∧ w27 ≤ 2147483747 * w28)) → gK D vwCl (wdM a cI cJ) lgM A p l e { frames := 5, cells := 0, slots := 0, locals := 320 } s m args below meth c 7 (gQQ D vwCl (wdM a cI cJ) lgM A kJ in64 below args s) (f_X9_amiss x0 s0) s29 72 [(2, gL w27)] []) → gK D vwCl (wdM a cI cJ) lgM A p l e { frames := 5, cells := 0, slots := 0, locals := 320 } s m args below meth c 7 (gQQ D vwCl (wdM a cI cJ) lgM A kJ in64 below args s) (f_X9_amiss x0 s0) s24 17 [(0, .ref (a 0)), (1, gI x0), (2, gL v22), (4, gI v23)] [] := by
      intro n26; induction n26 with
      | zero =>
        intro v22 v23 s24 hq hm hk
        exfalso
        obtain ⟨hq44, hq45, hf_s24, hq46, hq47⟩ := hq
        omega
      | succ n26 ih =>
        intro v22 v23 s24 hq hm hk
        obtain ⟨hq48, hq49, hf_s24, hq50, hq51⟩ := hq
        have hT := w_X9_amiss_17_s x0 n26 v22 v23 s24
        refine k_iload (pc := 17) E 3 dX9_amiss_17 rfl ?_
        refine k_bipush (pc := 19) E dX9_amiss_19 (by decide) ?_
        by_cases h30 : v23 < 16
        · replace hT := hT.trans (if_pos h30)
          refine k_icmp_ge_f (pc := 21) (tgt := 72) E (by omega) (by omega) dX9_amiss_21 (by decide) h30 ?_
          refine k_aloadn (pc := 24) E 0 dX9_amiss_24 rfl rfl ?_
          refine k_getf (pc := 25) (q0 := 0) (f := 14) (v := .ref (a 10)) E inX9 rfl rfl (by decide) wm_912 rfl rfl dX9_amiss_25 ?_
          refine k_bipush (pc := 28) E dX9_amiss_28 (by decide) ?_
          refine k_iloadn (pc := 30) E 1 dX9_amiss_30 rfl rfl ?_
          refine k_imul (pc := 31) E dX9_amiss_31 ?_
          refine k_iload (pc := 32) E 3 dX9_amiss_32 rfl ?_
          refine k_iadd (pc := 34) E dX9_amiss_34 ?_
          refine k_iaload (pc := 35) (q0 := 10) (t0 := 0) (k := 14) (n := 160) E rfl rfl rfl (by decide) (by omega) (by omega) dX9_amiss_35 (fun hr31 => ?_)
          refine k_i2l (pc := 36) E dX9_amiss_36 (by omega) ?_
          refine k_aloadn (pc := 37) E 0 dX9_amiss_37 rfl rfl ?_
          refine k_iload (pc := 38) E 3 dX9_amiss_38 rfl ?_
          refine k_iconst (pc := 40) E dX9_amiss_40 ?_
          refine k_mr (fun hm_s24 => ?_)
          refine k_callV (pc := 41) (np := 2) (As := [gI v23, gI 0]) (st := [gL (s24 14 ((40 * x0) + v23))]) (q0 := 0) E (c_X9_fallsOf l D a cI cJ cS cT s24 v23 0 (by omega) (by omega) (by unfold VS; rw [hf_s24 5 (by decide), hf_s24 6 (by decide), hf_s24 7 (by decide), hf_s24 8 (by decide)]; exact hpre0) (by unfold KN; rw [hf_s24 0 (by decide)]; exact hpre1) (by unfold MO; rw [hf_s24 1 (by decide)]; exact hpre2) (by first | assumption | omega) (by first | assumption | omega)) wm_1069 wm_11 wm_1066 wm_1068 wp_36 (by decide +kernel) rfl rfl ⟨by decide, by decide⟩ rfl (Nat.le_of_ble_eq_true rfl) dX9_amiss_41 (fun r33 s34 hs34 hr32 => ?_)
          replace hT := gby hT hs34
          have hp35 := f_X9_fallsOf_p v23 0 s24 (by omega) (by omega) hm_s24 (by unfold VS; rw [hf_s24 5 (by decide), hf_s24 6 (by decide), hf_s24 7 (by decide), hf_s24 8 (by decide)]; exact hpre0) (by unfold KN; rw [hf_s24 0 (by decide)]; exact hpre1) (by unfold MO; rw [hf_s24 1 (by decide)]; exact hpre2) (by first | assumption | omega) (by first | assumption | omega) r33 s34 hs34
          obtain ⟨hfc_s34, hm_s34, hp36, hp37⟩ := hp35
          have hf_s34 : fr [25, 26] s0 s34 := hf_s24.call (by decide) hfc_s34
          refine k_st (st' := [gI r33, gL (s24 14 ((40 * x0) + v23))]) rfl ?_
          refine k_i2l (pc := 44) E dX9_amiss_44 (by omega) ?_
          refine k_lsub (pc := 45) E dX9_amiss_45 ?_
          obtain ⟨v38, hv38, hT⟩ := glx hT
          refine k_st (st' := [gL v38]) (by rw [hv38]) ?_
          refine k_lstore (pc := 46) (lv' := [(5, gL v38), (0, .ref (a 0)), (1, gI x0), (2, gL v22), (4, gI v23)]) E dX9_amiss_46 (by decide) rfl ?_
          refine k_lloadn (pc := 48) E 3 dX9_amiss_48 rfl rfl ?_
          refine k_lload (pc := 49) E 0 dX9_amiss_49 rfl ?_
          refine k_lconst0 (pc := 51) E dX9_amiss_51 ?_
          obtain ⟨z43, hz43, hT⟩ := gl1x hT
          have j40 : ∀ (v41 : Int), ((in64 v41)) → z43 = v41 → gK D vwCl (wdM a cI cJ) lgM A p l e { frames := 5, cells := 0, slots := 0, locals := 320 } s m args below meth c 7 (gQQ D vwCl (wdM a cI cJ) lgM A kJ in64 below args s) (f_X9_amiss x0 s0) s34 64 [(0, .ref (a 0)), (1, gI x0), (4, gI v23)] [gL v41, gL v22] := by
            intro v41 hq hz
            have hq42 := hq
            replace hT := gl1y hT hz
            refine k_ladd (pc := 64) E dX9_amiss_64 ?_
            refine k_lstoren (pc := 65) (lv' := [(2, gL (v22 + v41)), (0, .ref (a 0)), (1, gI x0), (4, gI v23)]) E dX9_amiss_65 rfl (by decide) rfl ?_
            refine k_iinc (pc := 66) (lv' := [(4, gI (v23 + 1)), (2, gL (v22 + v41)), (0, .ref (a 0)), (1, gI x0)]) E 3 dX9_amiss_66 rfl (by decide) rfl ?_
            refine k_goto (pc := 69) (tgt := 17) E dX9_amiss_69 (by decide) ?_
            refine k_lv (lv' := [(0, .ref (a 0)), (1, gI x0), (2, gL (v22 + v41)), (4, gI (v23 + 1))]) [2, 3, 1, 0] rfl ?_
            exact ih (v22 + v41) (v23 + 1) s34 ⟨(by omega), (by omega), hf_s34, (by first | assumption | omega), (by first | assumption | omega)⟩ (by omega) (fun w27 w28 s29 hw hi => hk w27 w28 s29 (hT.trans hw) hi)
          replace hT := hz43
          by_cases h39 : v38 < 0
          · replace hT := hT.trans (if_pos h39)
            refine k_lcmp (pc := 52) E dX9_amiss_52 (by omega) (by omega) ?_
            refine k_if_ge_f (pc := 53) (tgt := 62) E (by (repeat' split) <;> omega) dX9_amiss_53 (by decide) (by (repeat' split) <;> omega) ?_
            refine k_lload (pc := 56) E 0 dX9_amiss_56 rfl ?_
            refine k_lneg (pc := 58) E dX9_amiss_58 ?_
            refine k_goto (pc := 59) (tgt := 64) E dX9_amiss_59 (by decide) ?_
            refine k_lv (lv' := [(0, .ref (a 0)), (1, gI x0), (4, gI v23)]) [1, 2, 4] rfl ?_
            exact j40 (-v38) (by omega) hT
          · replace hT := hT.trans (if_neg h39)
            refine k_lcmp (pc := 52) E dX9_amiss_52 (by omega) (by omega) ?_
            refine k_if_ge_t (pc := 53) (tgt := 62) E (by (repeat' split) <;> omega) dX9_amiss_53 (by decide) (by (repeat' split) <;> omega) ?_
            refine k_lload (pc := 62) E 0 dX9_amiss_62 rfl ?_
            refine k_lv (lv' := [(0, .ref (a 0)), (1, gI x0), (4, gI v23)]) [1, 2, 4] rfl ?_
            exact j40 v38 (by omega) hT
        · replace hT := hT.trans (if_neg h30)
          refine k_icmp_ge_t (pc := 21) (tgt := 72) E (by omega) (by omega) dX9_amiss_21 (by decide) h30 ?_
          refine k_lv (lv' := [(2, gL v22)]) [2] rfl ?_
          exact hk v22 v23 s24 hT ⟨(by omega), (by omega), hf_s24, (by first | assumption | omega), (by first | assumption | omega)⟩
    refine k_lv (lv' := [(0, .ref (a 0)), (1, gI x0), (2, gL 0), (4, gI 0)]) [2, 3, 1, 0] rfl ?_
    refine L25 17 0 0 s0 ⟨(by omega), (by omega), hf_s0, (by first | assumption | omega), (by first | assumption | omega)⟩ (by omega) (fun v52 v53 s54 hw hq => ?_)
    obtain ⟨hq55, hq56, hf_s54, hq57, hq58⟩ := hq
    replace hT := gl3y hT hw
    refine k_lloadn (pc := 72) E 0 dX9_amiss_72 rfl rfl ?_
    exact k_rho hT (k_lret (pc := 73) E dX9_amiss_73 (by omega))
  · replace hT := hT.trans (if_neg h3)
    refine k_if_eq_f (pc := 5) (tgt := 12) E (by omega) dX9_amiss_5 (by decide) h3 ?_
    refine k_ldc2 (pc := 8) (n := (-4611686018427387904)) E dX9_amiss_8 wm_1128 (by decide) ?_
    exact k_rho hT (k_lret (pc := 11) E dX9_amiss_11 (by omega))

def w_X9_film_77 (c1 : Int) (c2 : Int) (c4 : Int) : Nat → Int → gMem → Int × gMem
  | 0, v15, s16 => (v15, s16)
  | n17 + 1, v15, s16 => (if v15 < 40 then (gl2 ((if v15 < 16 then (if c2 = 16 then gb (f_X9_fallsOf (f_X9_within v15 0 15) 0 s16) (fun r30 s31 => (r30, s31)) else ((iand (ishr c4 (f_X9_within v15 0 15)) 1), s16)) else (0, s16))) (fun v23 s24 => gl (mset s24 14 ((40 * c1) + v15) v23) (fun s25 => (w_X9_film_77 c1 c2 c4 n17 (v15 + 1) s25)))) else (v15, s16))
theorem w_X9_film_77_s (c1 : Int) (c2 : Int) (c4 : Int) (n17 : Nat) (v15 : Int) (s16 : gMem) : w_X9_film_77 c1 c2 c4 (n17 + 1) v15 s16 = (if v15 < 40 then (gl2 ((if v15 < 16 then (if c2 = 16 then gb (f_X9_fallsOf (f_X9_within v15 0 15) 0 s16) (fun r30 s31 => (r30, s31)) else ((iand (ishr c4 (f_X9_within v15 0 15)) 1), s16)) else (0, s16))) (fun v23 s24 => gl (mset s24 14 ((40 * c1) + v15) v23) (fun s25 => (w_X9_film_77 c1 c2 c4 n17 (v15 + 1) s25)))) else (v15, s16)) := rfl
def f_X9_film (x0 : Int) (x1 : Int) (x2 : Int) (s0 : gMem) : gRes := (if (f_X9_in x0 0 3) = 0 then ((-2), s0) else (if (f_X9_in x1 0 16) = 0 then ((-5), s0) else (if (f_X9_isSide x2) = 0 then ((-7), s0) else (gl ((if x1 = 16 then 0 else (f_X9_pushed (f_X9_within x1 0 15) x2 s0))) (fun v12 => gl (mset s0 12 x0 0) (fun s13 => gl (mset s13 13 x0 16) (fun s14 => (gl2 (w_X9_film_77 x0 x1 v12 41 0 s14) (fun v68 s69 => (16, s69))))))))))
theorem f_X9_film_e (x0 : Int) (x1 : Int) (x2 : Int) (s0 : gMem) : f_X9_film x0 x1 x2 s0 = (if (f_X9_in x0 0 3) = 0 then ((-2), s0) else (if (f_X9_in x1 0 16) = 0 then ((-5), s0) else (if (f_X9_isSide x2) = 0 then ((-7), s0) else (gl ((if x1 = 16 then 0 else (f_X9_pushed (f_X9_within x1 0 15) x2 s0))) (fun v12 => gl (mset s0 12 x0 0) (fun s13 => gl (mset s13 13 x0 16) (fun s14 => (gl2 (w_X9_film_77 x0 x1 v12 41 0 s14) (fun v68 s69 => (16, s69)))))))))) := rfl
set_option maxRecDepth 100000 in
set_option maxHeartbeats 4000000 in
theorem f_X9_film_p (x0 : Int) (x1 : Int) (x2 : Int) (s0 : gMem) (hx0 : in32 x0) (hx1 : in32 x1) (hx2 : in32 x2) (hm_s0 : gMR lgM s0) (hpre0 : VS s0) (hpre1 : KN s0) (hpre2 : MO s0) (hpre3 : TD s0) (hpre4 : SO s0) (hpre5 : SZ s0) (rZ : Int) (sZ : gMem) (hres : f_X9_film x0 x1 x2 s0 = (rZ, sZ)) : (fr [12, 13, 14, 25, 26] s0 sZ) ∧ (gMR lgM sZ) ∧ (in32 rZ) ∧ (SO sZ) ∧ (SZ sZ) := by
  have hT := f_X9_film_e x0 x1 x2 s0
  have hf_s0 : fr [12, 13, 14, 25, 26] s0 s0 := fr.rf _ _
  have hSO_s0 := hpre4
  have hSZ_s0 := hpre5
  have hp2 := f_X9_in_p x0 0 3 (by omega) (by omega) (by omega) 
  by_cases h3 : (f_X9_in x0 0 3) = 0
  · replace hT := hT.trans (if_pos h3)
    obtain ⟨rfl, rfl⟩ := Prod.mk.inj (hT.symm.trans hres)
    exact ⟨hf_s0, hm_s0, (by omega), hSO_s0, hSZ_s0⟩
  · replace hT := hT.trans (if_neg h3)
    have hp5 := f_X9_in_p x1 0 16 (by omega) (by omega) (by omega) 
    by_cases h6 : (f_X9_in x1 0 16) = 0
    · replace hT := hT.trans (if_pos h6)
      obtain ⟨rfl, rfl⟩ := Prod.mk.inj (hT.symm.trans hres)
      exact ⟨hf_s0, hm_s0, (by omega), hSO_s0, hSZ_s0⟩
    · replace hT := hT.trans (if_neg h6)
      have hp8 := f_X9_isSide_p x2 (by omega) 
      by_cases h9 : (f_X9_isSide x2) = 0
      · replace hT := hT.trans (if_pos h9)
        obtain ⟨rfl, rfl⟩ := Prod.mk.inj (hT.symm.trans hres)
        exact ⟨hf_s0, hm_s0, (by omega), hSO_s0, hSZ_s0⟩
      · replace hT := hT.trans (if_neg h9)
        obtain ⟨z73, hz73, hT⟩ := gl1x hT
        have j11 : ∀ (v12 : Int), ((in32 v12)) → z73 = v12 → (fr [12, 13, 14, 25, 26] s0 sZ) ∧ (gMR lgM sZ) ∧ (in32 rZ) ∧ (SO sZ) ∧ (SZ sZ) := by
          intro v12 hq hz
          have hq72 := hq
          replace hT := gl1y hT hz
          obtain ⟨s13, hs13, hT⟩ := glx hT
          have hf_s13 : fr [12, 13, 14, 25, 26] s0 s13 := hs13 ▸ hf_s0.set (by decide)
          have hm_s13 : gMR lgM s13 := hs13 ▸ hm_s0.set32 rfl (by omega)
          have hSO_s13 : SO s13 := hs13 ▸ SO_set hSO_s0 (by omega)
          have hSZ_s13 : SZ s13 := fun i => by rw [hs13, mset_ne _ _ _ _ _ (by decide)]; exact hSZ_s0 i
          obtain ⟨s14, hs14, hT⟩ := glx hT
          have hf_s14 : fr [12, 13, 14, 25, 26] s0 s14 := hs14 ▸ hf_s13.set (by decide)
          have hm_s14 : gMR lgM s14 := hs14 ▸ hm_s13.set32 rfl (by omega)
          have hSO_s14 : SO s14 := fun i => by rw [hs14, mset_ne _ _ _ _ _ (by decide)]; exact hSO_s13 i
          have hSZ_s14 : SZ s14 := hs14 ▸ SZ_set hSZ_s13 (by omega)
          have L40 : ∀ (n41 : Nat) (v38 : Int) (s39 : gMem), ((in32 v38) ∧ (fr [12, 13, 14, 25, 26] s0 s39) ∧ (gMR lgM s39) ∧ (SO s39) ∧ (SZ s39) ∧ (0 ≤ v38 ∧ v38 ≤ 40)) → 40 - v38 < (n41 : Int) → (∀ (w42 : Int) (s43 : gMem), (w_X9_film_77 x0 x1 v12 n41 v38 s39) = (w42, s43) → ((in32 w42) ∧ (fr [12, 13, 14, 25, 26] s0 s43) ∧ (gMR lgM s43) ∧ (SO s43) ∧ (SZ s43) ∧ (0 ≤ w42 ∧ w42 ≤ 40)) → (fr [12, 13, 14, 25, 26] s0 sZ) ∧ (gMR lgM sZ) ∧ (in32 rZ) ∧ (SO sZ) ∧ (SZ sZ)) → (fr [12, 13, 14, 25, 26] s0 sZ) ∧ (gMR lgM sZ) ∧ (in32 rZ) ∧ (SO sZ) ∧ (SZ sZ) := by
            intro n41; induction n41 with
            | zero =>
              intro v38 s39 hq hm hk
              exfalso
              obtain ⟨hq64, hf_s39, hm_s39, hSO_s39, hSZ_s39, hq65⟩ := hq
              omega
            | succ n41 ih =>
              intro v38 s39 hq hm hk
              obtain ⟨hq66, hf_s39, hm_s39, hSO_s39, hSZ_s39, hq67⟩ := hq
              have hT := w_X9_film_77_s x0 x1 v12 n41 v38 s39
              by_cases h44 : v38 < 40
              · replace hT := hT.trans (if_pos h44)
                have hp46 := f_X9_within_p v38 0 15 (by omega) (by omega) (by omega) 
                obtain ⟨z53, hz53, hT⟩ := gl2x hT
                have j48 : ∀ (v49 : Int) (s50 : gMem), ((in32 v49) ∧ (fr [12, 13, 14, 25, 26] s0 s50) ∧ (gMR lgM s50) ∧ (SO s50) ∧ (SZ s50)) → z53 = (v49, s50) → (fr [12, 13, 14, 25, 26] s0 sZ) ∧ (gMR lgM sZ) ∧ (in32 rZ) ∧ (SO sZ) ∧ (SZ sZ) := by
                  intro v49 s50 hq hz
                  obtain ⟨hq52, hf_s50, hm_s50, hSO_s50, hSZ_s50⟩ := hq
                  replace hT := gl2y hT hz
                  obtain ⟨s51, hs51, hT⟩ := glx hT
                  have hf_s51 : fr [12, 13, 14, 25, 26] s0 s51 := hs51 ▸ hf_s50.set (by decide)
                  have hm_s51 : gMR lgM s51 := hs51 ▸ hm_s50.set32 rfl (by omega)
                  have hSO_s51 : SO s51 := fun i => by rw [hs51, mset_ne _ _ _ _ _ (by decide)]; exact hSO_s50 i
                  have hSZ_s51 : SZ s51 := fun i => by rw [hs51, mset_ne _ _ _ _ _ (by decide)]; exact hSZ_s50 i
                  exact ih (v38 + 1) s51 ⟨(by omega), hf_s51, hm_s51, hSO_s51, hSZ_s51, (by first | assumption | omega)⟩ (by omega) (fun w42 s43 hw hi => hk w42 s43 (hT.trans hw) hi)
                replace hT := hz53
                by_cases h47 : v38 < 16
                · replace hT := hT.trans (if_pos h47)
                  by_cases h54 : x1 = 16
                  · replace hT := hT.trans (if_pos h54)
                    obtain ⟨r56, s57, hs57⟩ : ∃ rr ss, (f_X9_fallsOf (f_X9_within v38 0 15) 0 s39) = (rr, ss) := ⟨_, _, rfl⟩
                    replace hT := gby hT hs57
                    have hp58 := f_X9_fallsOf_p (f_X9_within v38 0 15) 0 s39 (by omega) (by omega) hm_s39 (by unfold VS; rw [hf_s39 5 (by decide), hf_s39 6 (by decide), hf_s39 7 (by decide), hf_s39 8 (by decide)]; exact hpre0) (by unfold KN; rw [hf_s39 0 (by decide)]; exact hpre1) (by unfold MO; rw [hf_s39 1 (by decide)]; exact hpre2) (by first | assumption | omega) (by first | assumption | omega) r56 s57 hs57
                    obtain ⟨hfc_s57, hm_s57, hp59, hp60⟩ := hp58
                    have hf_s57 : fr [12, 13, 14, 25, 26] s0 s57 := hf_s39.call (by decide) hfc_s57
                    have hSO_s57 : SO s57 := fun i => by rw [hfc_s57 12 (by decide)]; exact hSO_s39 i
                    have hSZ_s57 : SZ s57 := fun i => by rw [hfc_s57 13 (by decide)]; exact hSZ_s39 i
                    exact j48 r56 s57 ⟨(by omega), hf_s57, hm_s57, hSO_s57, hSZ_s57⟩ hT
                  · replace hT := hT.trans (if_neg h54)
                    have hb61 := ishr_rg v12 (f_X9_within v38 0 15)
                    have hb62 := iand_rg (ishr v12 (f_X9_within v38 0 15)) 1
                    have hb63 := iand1 (ishr v12 (f_X9_within v38 0 15))
                    exact j48 (iand (ishr v12 (f_X9_within v38 0 15)) 1) s39 ⟨(by omega), hf_s39, hm_s39, hSO_s39, hSZ_s39⟩ hT
                · replace hT := hT.trans (if_neg h47)
                  exact j48 0 s39 ⟨(by omega), hf_s39, hm_s39, hSO_s39, hSZ_s39⟩ hT
              · replace hT := hT.trans (if_neg h44)
                exact hk v38 s39 hT ⟨(by omega), hf_s39, hm_s39, hSO_s39, hSZ_s39, (by first | assumption | omega)⟩
          refine L40 41 0 s14 ⟨(by omega), hf_s14, hm_s14, hSO_s14, hSZ_s14, (by first | assumption | omega)⟩ (by omega) (fun v68 s69 hw hq => ?_)
          obtain ⟨hq70, hf_s69, hm_s69, hSO_s69, hSZ_s69, hq71⟩ := hq
          replace hT := gl2y hT hw
          obtain ⟨rfl, rfl⟩ := Prod.mk.inj (hT.symm.trans hres)
          exact ⟨hf_s69, hm_s69, (by omega), hSO_s69, hSZ_s69⟩
        replace hT := hz73
        by_cases h10 : x1 = 16
        · replace hT := hT.trans (if_pos h10)
          exact j11 0 (by omega) hT
        · replace hT := hT.trans (if_neg h10)
          have hp75 := f_X9_within_p x1 0 15 (by omega) (by omega) (by omega) 
          have hp77 := f_X9_pushed_p (f_X9_within x1 0 15) x2 s0 (by omega) (by omega) hm_s0 hpre3 (by first | assumption | omega)
          exact j11 (f_X9_pushed (f_X9_within x1 0 15) x2 s0) (by omega) hT
set_option maxRecDepth 100000 in
set_option maxHeartbeats 4000000 in
theorem c_X9_film (l : Launch) (D : va_G) (a : Nat → Nat) (cI cJ cS cT : ClassId) (s0 : gMem) (x0 : Int) (x1 : Int) (x2 : Int) (hx0 : in32 x0) (hx1 : in32 x1) (hx2 : in32 x2) (hpre0 : VS s0) (hpre1 : KN s0) (hpre2 : MO s0) (hpre3 : TD s0) (hpre4 : SO s0) (hpre5 : SZ s0) : gC l yX9_film cX9_film 7 (some .int) 5 320 D vwCl (gT cI cJ cS cT) (wdM a cI cJ) lgM kI in32 [.ref (a 0), gI x0, gI x1, gI x2] s0 (f_X9_film x0 x1 x2 s0) := by
  refine gC_of (by decide +kernel) (hwdM a cI cJ) (Nat.le_of_ble_eq_true rfl) ?_
  intro A p e R s m args below meth c hR E
  subst hR
  have hT := f_X9_film_e x0 x1 x2 s0
  have hf_s0 : fr [12, 13, 14, 25, 26] s0 s0 := fr.rf _ _
  refine k_lv0 (lv' := [(0, .ref (a 0)), (1, gI x0), (2, gI x1), (3, gI x2)]) rfl ?_
  refine k_mr (fun hm_s0 => ?_)
  have hSO_s0 := hpre4
  have hSZ_s0 := hpre5
  refine k_iloadn (pc := 0) E 1 dX9_film_0 rfl rfl ?_
  refine k_iconst (pc := 1) E dX9_film_1 ?_
  refine k_iconst (pc := 2) E dX9_film_2 ?_
  refine k_mr (fun hm_s0 => ?_)
  refine k_callS (pc := 3) (np := 3) (As := [gI x0, gI 0, gI 3]) (st := []) E (c_X9_in l D a cI cJ cS cT s0 x0 0 3 (by omega) (by omega) (by omega)) wm_861 wm_11 wm_859 wm_860 (by decide +kernel) ⟨by decide, by decide⟩ rfl (Nat.le_of_ble_eq_true rfl) dX9_film_3 (ro_kk (fun hr1 => ?_))
  have hp2 := f_X9_in_p x0 0 3 (by omega) (by omega) (by omega) 
  refine k_st (st' := [gI (f_X9_in x0 0 3)]) rfl ?_
  by_cases h3 : (f_X9_in x0 0 3) = 0
  · replace hT := hT.trans (if_pos h3)
    refine k_if_ne_f (pc := 6) (tgt := 12) E (by omega) dX9_film_6 (by decide) h3 ?_
    refine k_bipush (pc := 9) E dX9_film_9 (by decide) ?_
    exact k_rho hT (k_iret (pc := 11) E dX9_film_11 (by omega))
  · replace hT := hT.trans (if_neg h3)
    refine k_if_ne_t (pc := 6) (tgt := 12) E (by omega) dX9_film_6 (by decide) h3 ?_
    refine k_iloadn (pc := 12) E 2 dX9_film_12 rfl rfl ?_
    refine k_iconst (pc := 13) E dX9_film_13 ?_
    refine k_bipush (pc := 14) E dX9_film_14 (by decide) ?_
    refine k_mr (fun hm_s0 => ?_)
    refine k_callS (pc := 16) (np := 3) (As := [gI x1, gI 0, gI 16]) (st := []) E (c_X9_in l D a cI cJ cS cT s0 x1 0 16 (by omega) (by omega) (by omega)) wm_861 wm_11 wm_859 wm_860 (by decide +kernel) ⟨by decide, by decide⟩ rfl (Nat.le_of_ble_eq_true rfl) dX9_film_16 (ro_kk (fun hr4 => ?_))
    have hp5 := f_X9_in_p x1 0 16 (by omega) (by omega) (by omega) 
    refine k_st (st' := [gI (f_X9_in x1 0 16)]) rfl ?_
    by_cases h6 : (f_X9_in x1 0 16) = 0
    · replace hT := hT.trans (if_pos h6)
      refine k_if_ne_f (pc := 19) (tgt := 25) E (by omega) dX9_film_19 (by decide) h6 ?_
      refine k_bipush (pc := 22) E dX9_film_22 (by decide) ?_
      exact k_rho hT (k_iret (pc := 24) E dX9_film_24 (by omega))
    · replace hT := hT.trans (if_neg h6)
      refine k_if_ne_t (pc := 19) (tgt := 25) E (by omega) dX9_film_19 (by decide) h6 ?_
      refine k_iloadn (pc := 25) E 3 dX9_film_25 rfl rfl ?_
      refine k_mr (fun hm_s0 => ?_)
      refine k_callS (pc := 26) (np := 1) (As := [gI x2]) (st := []) E (c_X9_isSide l D a cI cJ cS cT s0 x2 (by omega)) wm_1171 wm_11 wm_1169 wm_1170 (by decide +kernel) ⟨by decide, by decide⟩ rfl (Nat.le_of_ble_eq_true rfl) dX9_film_26 (ro_kk (fun hr7 => ?_))
      have hp8 := f_X9_isSide_p x2 (by omega) 
      refine k_st (st' := [gI (f_X9_isSide x2)]) rfl ?_
      by_cases h9 : (f_X9_isSide x2) = 0
      · replace hT := hT.trans (if_pos h9)
        refine k_if_ne_f (pc := 29) (tgt := 35) E (by omega) dX9_film_29 (by decide) h9 ?_
        refine k_bipush (pc := 32) E dX9_film_32 (by decide) ?_
        exact k_rho hT (k_iret (pc := 34) E dX9_film_34 (by omega))
      · replace hT := hT.trans (if_neg h9)
        refine k_if_ne_t (pc := 29) (tgt := 35) E (by omega) dX9_film_29 (by decide) h9 ?_
        refine k_iloadn (pc := 35) E 2 dX9_film_35 rfl rfl ?_
        refine k_bipush (pc := 36) E dX9_film_36 (by decide) ?_
        obtain ⟨z73, hz73, hT⟩ := gl1x hT
        have j11 : ∀ (v12 : Int), ((in32 v12)) → z73 = v12 → gK D vwCl (wdM a cI cJ) lgM A p l e { frames := 5, cells := 0, slots := 0, locals := 320 } s m args below meth c 7 (gQQ D vwCl (wdM a cI cJ) lgM A kI in32 below args s) (f_X9_film x0 x1 x2 s0) s0 57 [(0, .ref (a 0)), (1, gI x0), (2, gI x1)] [gI v12] := by
          intro v12 hq hz
          have hq72 := hq
          replace hT := gl1y hT hz
          refine k_istore (pc := 57) (lv' := [(4, gI v12), (0, .ref (a 0)), (1, gI x0), (2, gI x1)]) E dX9_film_57 (by decide) rfl ?_
          refine k_aloadn (pc := 59) E 1 dX9_film_59 rfl rfl ?_
          refine k_getf (pc := 60) (q0 := 0) (f := 12) (v := .ref (a 8)) E inX9 rfl rfl (by decide) wm_910 rfl rfl dX9_film_60 ?_
          refine k_iloadn (pc := 63) E 2 dX9_film_63 rfl rfl ?_
          refine k_iconst (pc := 64) E dX9_film_64 ?_
          refine k_iastore (pc := 65) (q0 := 8) (t0 := 0) (k := 12) (n := 4) E rfl rfl rfl rfl (by decide) (by omega) (by omega) (by omega) dX9_film_65 ?_
          obtain ⟨s13, hs13, hT⟩ := glx hT
          refine k_sg hs13.symm ?_
          have hf_s13 : fr [12, 13, 14, 25, 26] s0 s13 := hs13 ▸ hf_s0.set (by decide)
          have hSO_s13 : SO s13 := hs13 ▸ SO_set hSO_s0 (by omega)
          have hSZ_s13 : SZ s13 := fun i => by rw [hs13, mset_ne _ _ _ _ _ (by decide)]; exact hSZ_s0 i
          refine k_aloadn (pc := 66) E 1 dX9_film_66 rfl rfl ?_
          refine k_getf (pc := 67) (q0 := 0) (f := 13) (v := .ref (a 9)) E inX9 rfl rfl (by decide) wm_911 rfl rfl dX9_film_67 ?_
          refine k_iloadn (pc := 70) E 2 dX9_film_70 rfl rfl ?_
          refine k_bipush (pc := 71) E dX9_film_71 (by decide) ?_
          refine k_iastore (pc := 73) (q0 := 9) (t0 := 0) (k := 13) (n := 4) E rfl rfl rfl rfl (by decide) (by omega) (by omega) (by omega) dX9_film_73 ?_
          obtain ⟨s14, hs14, hT⟩ := glx hT
          refine k_sg hs14.symm ?_
          have hf_s14 : fr [12, 13, 14, 25, 26] s0 s14 := hs14 ▸ hf_s13.set (by decide)
          have hSO_s14 : SO s14 := fun i => by rw [hs14, mset_ne _ _ _ _ _ (by decide)]; exact hSO_s13 i
          have hSZ_s14 : SZ s14 := hs14 ▸ SZ_set hSZ_s13 (by omega)
          refine k_iconst (pc := 74) E dX9_film_74 ?_
          refine k_istore (pc := 75) (lv' := [(5, gI 0), (4, gI v12), (0, .ref (a 0)), (1, gI x0), (2, gI x1)]) E dX9_film_75 (by decide) rfl ?_
          have L40 : ∀ (n41 : Nat) (v38 : Int) (s39 : gMem), ((in32 v38) ∧ (fr [12, 13, 14, 25, 26] s0 s39) ∧ (SO s39) ∧ (SZ s39) ∧ (0 ≤ v38 ∧ v38 ≤ 40)) → 40 - v38 < (n41 : Int) → (∀ (w42 : Int) (s43 : gMem), (w_X9_film_77 x0 x1 v12 n41 v38 s39) = (w42, s43) → ((in32 w42) ∧ (fr [12, 13, 14, 25, 26] s0 s43) ∧ (SO s43) ∧ (SZ s43) ∧ (0 ≤ w42 ∧ w42 ≤ 40)) → gK D vwCl (wdM a cI cJ) lgM A p l e { frames := 5, cells := 0, slots := 0, locals := 320 } s m args below meth c 7 (gQQ D vwCl (wdM a cI cJ) lgM A kI in32 below args s) (f_X9_film x0 x1 x2 s0) s43 146 [] []) → gK D vwCl (wdM a cI cJ) lgM A p l e { frames := 5, cells := 0, slots := 0, locals := 320 } s m args below meth c 7 (gQQ D vwCl (wdM a cI cJ) lgM A kI in32 below args s) (f_X9_film x0 x1 x2 s0) s39 77 [(0, .ref (a 0)), (1, gI x0), (2, gI x1), (4, gI v12), (5, gI v38)] [] := by
            intro n41; induction n41 with
            | zero =>
              intro v38 s39 hq hm hk
              exfalso
              obtain ⟨hq64, hf_s39, hSO_s39, hSZ_s39, hq65⟩ := hq
              omega
            | succ n41 ih =>
              intro v38 s39 hq hm hk
              obtain ⟨hq66, hf_s39, hSO_s39, hSZ_s39, hq67⟩ := hq
              have hT := w_X9_film_77_s x0 x1 v12 n41 v38 s39
              refine k_iload (pc := 77) E 4 dX9_film_77 rfl ?_
              refine k_bipush (pc := 79) E dX9_film_79 (by decide) ?_
              by_cases h44 : v38 < 40
              · replace hT := hT.trans (if_pos h44)
                refine k_icmp_ge_f (pc := 81) (tgt := 146) E (by omega) (by omega) dX9_film_81 (by decide) h44 ?_
                refine k_iload (pc := 84) E 4 dX9_film_84 rfl ?_
                refine k_iconst (pc := 86) E dX9_film_86 ?_
                refine k_bipush (pc := 87) E dX9_film_87 (by decide) ?_
                refine k_mr (fun hm_s39 => ?_)
                refine k_callS (pc := 89) (np := 3) (As := [gI v38, gI 0, gI 15]) (st := []) E (c_X9_within l D a cI cJ cS cT s39 v38 0 15 (by omega) (by omega) (by omega)) wm_1057 wm_11 wm_1055 wm_1056 (by decide +kernel) ⟨by decide, by decide⟩ rfl (Nat.le_of_ble_eq_true rfl) dX9_film_89 (ro_kk (fun hr45 => ?_))
                have hp46 := f_X9_within_p v38 0 15 (by omega) (by omega) (by omega) 
                refine k_st (st' := [gI (f_X9_within v38 0 15)]) rfl ?_
                refine k_istore (pc := 92) (lv' := [(6, gI (f_X9_within v38 0 15)), (0, .ref (a 0)), (1, gI x0), (2, gI x1), (4, gI v12), (5, gI v38)]) E dX9_film_92 (by decide) rfl ?_
                refine k_aloadn (pc := 94) E 1 dX9_film_94 rfl rfl ?_
                refine k_getf (pc := 95) (q0 := 0) (f := 14) (v := .ref (a 10)) E inX9 rfl rfl (by decide) wm_912 rfl rfl dX9_film_95 ?_
                refine k_bipush (pc := 98) E dX9_film_98 (by decide) ?_
                refine k_iloadn (pc := 100) E 2 dX9_film_100 rfl rfl ?_
                refine k_imul (pc := 101) E dX9_film_101 ?_
                refine k_iload (pc := 102) E 5 dX9_film_102 rfl ?_
                refine k_iadd (pc := 104) E dX9_film_104 ?_
                refine k_iload (pc := 105) E 5 dX9_film_105 rfl ?_
                refine k_bipush (pc := 107) E dX9_film_107 (by decide) ?_
                obtain ⟨z53, hz53, hT⟩ := gl2x hT
                have j48 : ∀ (v49 : Int) (s50 : gMem), ((in32 v49) ∧ (fr [12, 13, 14, 25, 26] s0 s50) ∧ (SO s50) ∧ (SZ s50)) → z53 = (v49, s50) → gK D vwCl (wdM a cI cJ) lgM A p l e { frames := 5, cells := 0, slots := 0, locals := 320 } s m args below meth c 7 (gQQ D vwCl (wdM a cI cJ) lgM A kI in32 below args s) (f_X9_film x0 x1 x2 s0) s50 139 [(0, .ref (a 0)), (1, gI x0), (2, gI x1), (4, gI v12), (5, gI v38)] [gI v49, gI ((40 * x0) + v38), .ref (a 10)] := by
                  intro v49 s50 hq hz
                  obtain ⟨hq52, hf_s50, hSO_s50, hSZ_s50⟩ := hq
                  replace hT := gl2y hT hz
                  refine k_iastore (pc := 139) (q0 := 10) (t0 := 0) (k := 14) (n := 160) E rfl rfl rfl rfl (by decide) (by omega) (by omega) (by omega) dX9_film_139 ?_
                  obtain ⟨s51, hs51, hT⟩ := glx hT
                  refine k_sg hs51.symm ?_
                  have hf_s51 : fr [12, 13, 14, 25, 26] s0 s51 := hs51 ▸ hf_s50.set (by decide)
                  have hSO_s51 : SO s51 := fun i => by rw [hs51, mset_ne _ _ _ _ _ (by decide)]; exact hSO_s50 i
                  have hSZ_s51 : SZ s51 := fun i => by rw [hs51, mset_ne _ _ _ _ _ (by decide)]; exact hSZ_s50 i
                  refine k_iinc (pc := 140) (lv' := [(5, gI (v38 + 1)), (0, .ref (a 0)), (1, gI x0), (2, gI x1), (4, gI v12)]) E 4 dX9_film_140 rfl (by decide) rfl ?_
                  refine k_goto (pc := 143) (tgt := 77) E dX9_film_143 (by decide) ?_
                  refine k_lv (lv' := [(0, .ref (a 0)), (1, gI x0), (2, gI x1), (4, gI v12), (5, gI (v38 + 1))]) [1, 2, 3, 4, 0] rfl ?_
                  exact ih (v38 + 1) s51 ⟨(by omega), hf_s51, hSO_s51, hSZ_s51, (by first | assumption | omega)⟩ (by omega) (fun w42 s43 hw hi => hk w42 s43 (hT.trans hw) hi)
                replace hT := hz53
                by_cases h47 : v38 < 16
                · replace hT := hT.trans (if_pos h47)
                  refine k_icmp_lt_t (pc := 109) (tgt := 116) E (by omega) (by omega) dX9_film_109 (by decide) h47 ?_
                  refine k_iloadn (pc := 116) E 3 dX9_film_116 rfl rfl ?_
                  refine k_bipush (pc := 117) E dX9_film_117 (by decide) ?_
                  by_cases h54 : x1 = 16
                  · replace hT := hT.trans (if_pos h54)
                    refine k_icmp_ne_f (pc := 119) (tgt := 132) E (by omega) (by omega) dX9_film_119 (by decide) h54 ?_
                    refine k_aloadn (pc := 122) E 1 dX9_film_122 rfl rfl ?_
                    refine k_iload (pc := 123) E 0 dX9_film_123 rfl ?_
                    refine k_iconst (pc := 125) E dX9_film_125 ?_
                    refine k_mr (fun hm_s39 => ?_)
                    refine k_callV (pc := 126) (np := 2) (As := [gI (f_X9_within v38 0 15), gI 0]) (st := [gI ((40 * x0) + v38), .ref (a 10)]) (q0 := 0) E (c_X9_fallsOf l D a cI cJ cS cT s39 (f_X9_within v38 0 15) 0 (by omega) (by omega) (by unfold VS; rw [hf_s39 5 (by decide), hf_s39 6 (by decide), hf_s39 7 (by decide), hf_s39 8 (by decide)]; exact hpre0) (by unfold KN; rw [hf_s39 0 (by decide)]; exact hpre1) (by unfold MO; rw [hf_s39 1 (by decide)]; exact hpre2) (by first | assumption | omega) (by first | assumption | omega)) wm_1069 wm_11 wm_1066 wm_1068 wp_36 (by decide +kernel) rfl rfl ⟨by decide, by decide⟩ rfl (Nat.le_of_ble_eq_true rfl) dX9_film_126 (fun r56 s57 hs57 hr55 => ?_)
                    replace hT := gby hT hs57
                    have hp58 := f_X9_fallsOf_p (f_X9_within v38 0 15) 0 s39 (by omega) (by omega) hm_s39 (by unfold VS; rw [hf_s39 5 (by decide), hf_s39 6 (by decide), hf_s39 7 (by decide), hf_s39 8 (by decide)]; exact hpre0) (by unfold KN; rw [hf_s39 0 (by decide)]; exact hpre1) (by unfold MO; rw [hf_s39 1 (by decide)]; exact hpre2) (by first | assumption | omega) (by first | assumption | omega) r56 s57 hs57
                    obtain ⟨hfc_s57, hm_s57, hp59, hp60⟩ := hp58
                    have hf_s57 : fr [12, 13, 14, 25, 26] s0 s57 := hf_s39.call (by decide) hfc_s57
                    have hSO_s57 : SO s57 := fun i => by rw [hfc_s57 12 (by decide)]; exact hSO_s39 i
                    have hSZ_s57 : SZ s57 := fun i => by rw [hfc_s57 13 (by decide)]; exact hSZ_s39 i
                    refine k_st (st' := [gI r56, gI ((40 * x0) + v38), .ref (a 10)]) rfl ?_
                    refine k_goto (pc := 129) (tgt := 139) E dX9_film_129 (by decide) ?_
                    refine k_lv (lv' := [(0, .ref (a 0)), (1, gI x0), (2, gI x1), (4, gI v12), (5, gI v38)]) [1, 2, 3, 4, 5] rfl ?_
                    exact j48 r56 s57 ⟨(by omega), hf_s57, hSO_s57, hSZ_s57⟩ hT
                  · replace hT := hT.trans (if_neg h54)
                    refine k_icmp_ne_t (pc := 119) (tgt := 132) E (by omega) (by omega) dX9_film_119 (by decide) h54 ?_
                    refine k_iload (pc := 132) E 4 dX9_film_132 rfl ?_
                    refine k_iload (pc := 134) E 0 dX9_film_134 rfl ?_
                    refine k_ishr (pc := 136) E dX9_film_136 ?_
                    have hb61 := ishr_rg v12 (f_X9_within v38 0 15)
                    refine k_iconst (pc := 137) E dX9_film_137 ?_
                    refine k_iand (pc := 138) E dX9_film_138 ?_
                    have hb62 := iand_rg (ishr v12 (f_X9_within v38 0 15)) 1
                    have hb63 := iand1 (ishr v12 (f_X9_within v38 0 15))
                    refine k_lv (lv' := [(0, .ref (a 0)), (1, gI x0), (2, gI x1), (4, gI v12), (5, gI v38)]) [1, 2, 3, 4, 5] rfl ?_
                    exact j48 (iand (ishr v12 (f_X9_within v38 0 15)) 1) s39 ⟨(by omega), hf_s39, hSO_s39, hSZ_s39⟩ hT
                · replace hT := hT.trans (if_neg h47)
                  refine k_icmp_lt_f (pc := 109) (tgt := 116) E (by omega) (by omega) dX9_film_109 (by decide) h47 ?_
                  refine k_iconst (pc := 112) E dX9_film_112 ?_
                  refine k_goto (pc := 113) (tgt := 139) E dX9_film_113 (by decide) ?_
                  refine k_lv (lv' := [(0, .ref (a 0)), (1, gI x0), (2, gI x1), (4, gI v12), (5, gI v38)]) [1, 2, 3, 4, 5] rfl ?_
                  exact j48 0 s39 ⟨(by omega), hf_s39, hSO_s39, hSZ_s39⟩ hT
              · replace hT := hT.trans (if_neg h44)
                refine k_icmp_ge_t (pc := 81) (tgt := 146) E (by omega) (by omega) dX9_film_81 (by decide) h44 ?_
                refine k_lv (lv' := []) [] rfl ?_
                exact hk v38 s39 hT ⟨(by omega), hf_s39, hSO_s39, hSZ_s39, (by first | assumption | omega)⟩
          refine k_lv (lv' := [(0, .ref (a 0)), (1, gI x0), (2, gI x1), (4, gI v12), (5, gI 0)]) [2, 3, 4, 1, 0] rfl ?_
          refine L40 41 0 s14 ⟨(by omega), hf_s14, hSO_s14, hSZ_s14, (by first | assumption | omega)⟩ (by omega) (fun v68 s69 hw hq => ?_)
          obtain ⟨hq70, hf_s69, hSO_s69, hSZ_s69, hq71⟩ := hq
          replace hT := gl2y hT hw
          refine k_bipush (pc := 146) E dX9_film_146 (by decide) ?_
          exact k_rho hT (k_iret (pc := 148) E dX9_film_148 (by omega))
        replace hT := hz73
        by_cases h10 : x1 = 16
        · replace hT := hT.trans (if_pos h10)
          refine k_icmp_ne_f (pc := 38) (tgt := 45) E (by omega) (by omega) dX9_film_38 (by decide) h10 ?_
          refine k_iconst (pc := 41) E dX9_film_41 ?_
          refine k_goto (pc := 42) (tgt := 57) E dX9_film_42 (by decide) ?_
          refine k_lv (lv' := [(0, .ref (a 0)), (1, gI x0), (2, gI x1)]) [0, 1, 2] rfl ?_
          exact j11 0 (by omega) hT
        · replace hT := hT.trans (if_neg h10)
          refine k_icmp_ne_t (pc := 38) (tgt := 45) E (by omega) (by omega) dX9_film_38 (by decide) h10 ?_
          refine k_aloadn (pc := 45) E 0 dX9_film_45 rfl rfl ?_
          refine k_iloadn (pc := 46) E 2 dX9_film_46 rfl rfl ?_
          refine k_iconst (pc := 47) E dX9_film_47 ?_
          refine k_bipush (pc := 48) E dX9_film_48 (by decide) ?_
          refine k_mr (fun hm_s0 => ?_)
          refine k_callS (pc := 50) (np := 3) (As := [gI x1, gI 0, gI 15]) (st := [.ref (a 0)]) E (c_X9_within l D a cI cJ cS cT s0 x1 0 15 (by omega) (by omega) (by omega)) wm_1057 wm_11 wm_1055 wm_1056 (by decide +kernel) ⟨by decide, by decide⟩ rfl (Nat.le_of_ble_eq_true rfl) dX9_film_50 (ro_kk (fun hr74 => ?_))
          have hp75 := f_X9_within_p x1 0 15 (by omega) (by omega) (by omega) 
          refine k_st (st' := [gI (f_X9_within x1 0 15), .ref (a 0)]) rfl ?_
          refine k_iloadn (pc := 53) E 3 dX9_film_53 rfl rfl ?_
          refine k_callV (pc := 54) (np := 2) (As := [gI (f_X9_within x1 0 15), gI x2]) (st := []) (q0 := 0) E (c_X9_pushed l D a cI cJ cS cT s0 (f_X9_within x1 0 15) x2 (by omega) (by omega) hpre3 (by first | assumption | omega)) wm_1175 wm_11 wm_1172 wm_1174 wp_47 (by decide +kernel) rfl rfl ⟨by decide, by decide⟩ rfl (Nat.le_of_ble_eq_true rfl) dX9_film_54 (ro_kk (fun hr76 => ?_))
          refine k_st (st' := [gI (f_X9_pushed (f_X9_within x1 0 15) x2 s0)]) rfl ?_
          refine k_lv (lv' := [(0, .ref (a 0)), (1, gI x0), (2, gI x1)]) [0, 1, 2] rfl ?_
          exact j11 (f_X9_pushed (f_X9_within x1 0 15) x2 s0) (by omega) hT

def f_X9_putsUp (x0 : Int) (x1 : Int) (s0 : gMem) : gRes := gl (f_X9_between_ (f_X9_fallsTo x0 (-1) (s0 35 0) s0) (f_X9_fallsTo x0 1 (s0 35 0) s0) (s0 35 0)) (fun v10 => gb (f_X9_fallsOf x0 (f_X9_ones v10) s0) (fun r17 s18 => (if (x1 % 100) < r17 then gl (mset s18 35 0 (iand (s18 35 0) (ixor v10 (-1)))) (fun s27 => ((f_X9_ones v10), s27)) else gl (mset s18 35 0 (ior (s18 35 0) (ishl 1 x0))) (fun s33 => ((-1), s33)))))
theorem f_X9_putsUp_e (x0 : Int) (x1 : Int) (s0 : gMem) : f_X9_putsUp x0 x1 s0 = gl (f_X9_between_ (f_X9_fallsTo x0 (-1) (s0 35 0) s0) (f_X9_fallsTo x0 1 (s0 35 0) s0) (s0 35 0)) (fun v10 => gb (f_X9_fallsOf x0 (f_X9_ones v10) s0) (fun r17 s18 => (if (x1 % 100) < r17 then gl (mset s18 35 0 (iand (s18 35 0) (ixor v10 (-1)))) (fun s27 => ((f_X9_ones v10), s27)) else gl (mset s18 35 0 (ior (s18 35 0) (ishl 1 x0))) (fun s33 => ((-1), s33))))) := rfl
set_option maxRecDepth 100000 in
set_option maxHeartbeats 4000000 in
theorem f_X9_putsUp_p (x0 : Int) (x1 : Int) (s0 : gMem) (hx0 : in32 x0) (hx1 : in64 x1) (hm_s0 : gMR lgM s0) (hpre0 : VS s0) (hpre1 : KN s0) (hpre2 : MO s0) (hpre3 : TD s0) (hpre4 : 0 ≤ x0 ∧ x0 ≤ 15) (hpre5 : 0 ≤ x1) (hpre6 : 0 ≤ s0 35 0 ∧ s0 35 0 ≤ 65535) (rZ : Int) (sZ : gMem) (hres : f_X9_putsUp x0 x1 s0 = (rZ, sZ)) : (fr [25, 26, 35] s0 sZ) ∧ (gMR lgM sZ) ∧ (in32 rZ) ∧ (-1 ≤ rZ ∧ rZ ≤ 16) ∧ (0 ≤ sZ 35 0 ∧ sZ 35 0 ≤ 65535) := by
  have hT := f_X9_putsUp_e x0 x1 s0
  have hf_s0 : fr [25, 26, 35] s0 s0 := fr.rf _ _
  have hr1 := (hm_s0 35 0).1 rfl
  have hp3 := f_X9_fallsTo_p x0 (-1) (s0 35 0) s0 (by omega) (by omega) (by omega) hm_s0 hpre3 (by first | assumption | omega) (by first | assumption | omega)
  have hr4 := (hm_s0 35 0).1 rfl
  have hp6 := f_X9_fallsTo_p x0 1 (s0 35 0) s0 (by omega) (by omega) (by omega) hm_s0 hpre3 (by first | assumption | omega) (by first | assumption | omega)
  have hr7 := (hm_s0 35 0).1 rfl
  have hp9 := f_X9_between__p (f_X9_fallsTo x0 (-1) (s0 35 0) s0) (f_X9_fallsTo x0 1 (s0 35 0) s0) (s0 35 0) (by omega) (by omega) (by omega) (by first | assumption | omega)
  obtain ⟨v10, hv10, hT⟩ := glx hT
  have hp12 := f_X9_ones_p v10 (by omega) 
  have hd13 : (0 : Int) ≤ x1 := (by omega)
  have hd14 : (0 : Int) < 100 := (by omega)
  have hb15 := rm_rg (x := x1) hd14
  obtain ⟨r17, s18, hs18⟩ : ∃ rr ss, (f_X9_fallsOf x0 (f_X9_ones v10) s0) = (rr, ss) := ⟨_, _, rfl⟩
  replace hT := gby hT hs18
  have hp19 := f_X9_fallsOf_p x0 (f_X9_ones v10) s0 (by omega) (by omega) hm_s0 hpre0 hpre1 hpre2 (by first | assumption | omega) (by first | assumption | omega) r17 s18 hs18
  obtain ⟨hfc_s18, hm_s18, hp20, hp21⟩ := hp19
  have hf_s18 : fr [25, 26, 35] s0 s18 := hf_s0.call (by decide) hfc_s18
  have ht22 : s18 35 0 = s0 35 0 := by rw [hfc_s18 35 (by decide)]
  by_cases h23 : (x1 % 100) < r17
  · replace hT := hT.trans (if_pos h23)
    have hr24 := (hm_s18 35 0).1 rfl
    have hb25 := ixor_rg v10 (-1)
    have hb26 := iand_rg (s18 35 0) (ixor v10 (-1))
    have kn := iand_nn (ixor v10 (-1)) (x := s18 35 0) (by omega) (by omega)
    obtain ⟨s27, hs27, hT⟩ := glx hT
    have hf_s27 : fr [25, 26, 35] s0 s27 := hs27 ▸ hf_s18.set (by decide)
    have hm_s27 : gMR lgM s27 := hs27 ▸ hm_s18.set32 rfl (by omega)
    have ht28 : s27 35 0 = (iand (s18 35 0) (ixor v10 (-1))) := by rw [hs27]; exact mset_eq _ _ _ _
    obtain ⟨rfl, rfl⟩ := Prod.mk.inj (hT.symm.trans hres)
    exact ⟨hf_s27, hm_s27, (by omega), (by first | assumption | omega), (by first | assumption | omega)⟩
  · replace hT := hT.trans (if_neg h23)
    have hr29 := (hm_s18 35 0).1 rfl
    have hb30 := ishl_rg 1 x0
    have hb31 : 0 ≤ x0 ∧ x0 ≤ 15 → _ := fun q => ishl_1 q.1 q.2
    have k1 := ishl_1 hpre4.1 hpre4.2
    have kn := ior_16 (x := s18 35 0) (y := ishl 1 x0) (by omega) (by omega) (by omega) (by omega)
    have hb32 := ior_rg (s18 35 0) (ishl 1 x0)
    obtain ⟨s33, hs33, hT⟩ := glx hT
    have hf_s33 : fr [25, 26, 35] s0 s33 := hs33 ▸ hf_s18.set (by decide)
    have hm_s33 : gMR lgM s33 := hs33 ▸ hm_s18.set32 rfl (by omega)
    have ht34 : s33 35 0 = (ior (s18 35 0) (ishl 1 x0)) := by rw [hs33]; exact mset_eq _ _ _ _
    obtain ⟨rfl, rfl⟩ := Prod.mk.inj (hT.symm.trans hres)
    exact ⟨hf_s33, hm_s33, (by omega), (by first | assumption | omega), (by first | assumption | omega)⟩
set_option maxRecDepth 100000 in
set_option maxHeartbeats 4000000 in
theorem c_X9_putsUp (l : Launch) (D : va_G) (a : Nat → Nat) (cI cJ cS cT : ClassId) (s0 : gMem) (x0 : Int) (x1 : Int) (hx0 : in32 x0) (hx1 : in64 x1) (hpre0 : VS s0) (hpre1 : KN s0) (hpre2 : MO s0) (hpre3 : TD s0) (hpre4 : 0 ≤ x0 ∧ x0 ≤ 15) (hpre5 : 0 ≤ x1) (hpre6 : 0 ≤ s0 35 0 ∧ s0 35 0 ≤ 65535) : gC l yX9_putsUp cX9_putsUp 6 (some .int) 5 320 D vwCl (gT cI cJ cS cT) (wdM a cI cJ) lgM kI in32 [.ref (a 0), gI x0, gL x1] s0 (f_X9_putsUp x0 x1 s0) := by
  refine gC_of (by decide +kernel) (hwdM a cI cJ) (Nat.le_of_ble_eq_true rfl) ?_
  intro A p e R s m args below meth c hR E
  subst hR
  have hT := f_X9_putsUp_e x0 x1 s0
  have hf_s0 : fr [25, 26, 35] s0 s0 := fr.rf _ _
  refine k_lv0 (lv' := [(0, .ref (a 0)), (1, gI x0), (2, gL x1)]) rfl ?_
  refine k_mr (fun hm_s0 => ?_)
  refine k_aloadn (pc := 0) E 0 dX9_putsUp_0 rfl rfl ?_
  refine k_iloadn (pc := 1) E 1 dX9_putsUp_1 rfl rfl ?_
  refine k_iconst (pc := 2) E dX9_putsUp_2 ?_
  refine k_aloadn (pc := 3) E 0 dX9_putsUp_3 rfl rfl ?_
  refine k_getfI (pc := 4) (q0 := 0) (f := 35) (k := 35) E inX9 rfl rfl (by decide) wm_933 rfl rfl rfl dX9_putsUp_4 (fun hr1 => ?_)
  refine k_mr (fun hm_s0 => ?_)
  refine k_callV (pc := 7) (np := 3) (As := [gI x0, gI (-1), gI (s0 35 0)]) (st := []) (q0 := 0) E (c_X9_fallsTo l D a cI cJ cS cT s0 x0 (-1) (s0 35 0) (by omega) (by omega) (by omega) hpre3 (by first | assumption | omega) (by first | assumption | omega)) wm_1179 wm_11 wm_1176 wm_1178 wp_48 (by decide +kernel) rfl rfl ⟨by decide, by decide⟩ rfl (Nat.le_of_ble_eq_true rfl) dX9_putsUp_7 (ro_kk (fun hr2 => ?_))
  have hp3 := f_X9_fallsTo_p x0 (-1) (s0 35 0) s0 (by omega) (by omega) (by omega) hm_s0 hpre3 (by first | assumption | omega) (by first | assumption | omega)
  refine k_st (st' := [gI (f_X9_fallsTo x0 (-1) (s0 35 0) s0)]) rfl ?_
  refine k_aloadn (pc := 10) E 0 dX9_putsUp_10 rfl rfl ?_
  refine k_iloadn (pc := 11) E 1 dX9_putsUp_11 rfl rfl ?_
  refine k_iconst (pc := 12) E dX9_putsUp_12 ?_
  refine k_aloadn (pc := 13) E 0 dX9_putsUp_13 rfl rfl ?_
  refine k_getfI (pc := 14) (q0 := 0) (f := 35) (k := 35) E inX9 rfl rfl (by decide) wm_933 rfl rfl rfl dX9_putsUp_14 (fun hr4 => ?_)
  refine k_mr (fun hm_s0 => ?_)
  refine k_callV (pc := 17) (np := 3) (As := [gI x0, gI 1, gI (s0 35 0)]) (st := [gI (f_X9_fallsTo x0 (-1) (s0 35 0) s0)]) (q0 := 0) E (c_X9_fallsTo l D a cI cJ cS cT s0 x0 1 (s0 35 0) (by omega) (by omega) (by omega) hpre3 (by first | assumption | omega) (by first | assumption | omega)) wm_1179 wm_11 wm_1176 wm_1178 wp_48 (by decide +kernel) rfl rfl ⟨by decide, by decide⟩ rfl (Nat.le_of_ble_eq_true rfl) dX9_putsUp_17 (ro_kk (fun hr5 => ?_))
  have hp6 := f_X9_fallsTo_p x0 1 (s0 35 0) s0 (by omega) (by omega) (by omega) hm_s0 hpre3 (by first | assumption | omega) (by first | assumption | omega)
  refine k_st (st' := [gI (f_X9_fallsTo x0 1 (s0 35 0) s0), gI (f_X9_fallsTo x0 (-1) (s0 35 0) s0)]) rfl ?_
  refine k_aloadn (pc := 20) E 0 dX9_putsUp_20 rfl rfl ?_
  refine k_getfI (pc := 21) (q0 := 0) (f := 35) (k := 35) E inX9 rfl rfl (by decide) wm_933 rfl rfl rfl dX9_putsUp_21 (fun hr7 => ?_)
  refine k_callS (pc := 24) (np := 3) (As := [gI (f_X9_fallsTo x0 (-1) (s0 35 0) s0), gI (f_X9_fallsTo x0 1 (s0 35 0) s0), gI (s0 35 0)]) (st := []) E (c_X9_between_ l D a cI cJ cS cT s0 (f_X9_fallsTo x0 (-1) (s0 35 0) s0) (f_X9_fallsTo x0 1 (s0 35 0) s0) (s0 35 0) (by omega) (by omega) (by omega) (by first | assumption | omega)) wm_1182 wm_11 wm_1180 wm_1181 (by decide +kernel) ⟨by decide, by decide⟩ rfl (Nat.le_of_ble_eq_true rfl) dX9_putsUp_24 (ro_kk (fun hr8 => ?_))
  refine k_st (st' := [gI (f_X9_between_ (f_X9_fallsTo x0 (-1) (s0 35 0) s0) (f_X9_fallsTo x0 1 (s0 35 0) s0) (s0 35 0))]) rfl ?_
  obtain ⟨v10, hv10, hT⟩ := glx hT
  refine k_st (st' := [gI v10]) (by rw [hv10]) ?_
  refine k_istore (pc := 27) (lv' := [(4, gI v10), (0, .ref (a 0)), (1, gI x0), (2, gL x1)]) E dX9_putsUp_27 (by decide) rfl ?_
  refine k_iload (pc := 29) E 0 dX9_putsUp_29 rfl ?_
  refine k_mr (fun hm_s0 => ?_)
  refine k_callS (pc := 31) (np := 1) (As := [gI v10]) (st := []) E (c_X9_ones l D a cI cJ cS cT s0 v10 (by omega)) wm_1047 wm_11 wm_1045 wm_1046 (by decide +kernel) ⟨by decide, by decide⟩ rfl (Nat.le_of_ble_eq_true rfl) dX9_putsUp_31 (ro_kk (fun hr11 => ?_))
  have hp12 := f_X9_ones_p v10 (by omega) 
  refine k_st (st' := [gI (f_X9_ones v10)]) rfl ?_
  refine k_istore (pc := 34) (lv' := [(5, gI (f_X9_ones v10)), (4, gI v10), (0, .ref (a 0)), (1, gI x0), (2, gL x1)]) E dX9_putsUp_34 (by decide) rfl ?_
  refine k_lloadn (pc := 36) E 4 dX9_putsUp_36 rfl rfl ?_
  refine k_ldc2 (pc := 37) (n := 100) E dX9_putsUp_37 wm_1111 (by decide) ?_
  have hd13 : (0 : Int) ≤ x1 := (by omega)
  have hd14 : (0 : Int) < 100 := (by omega)
  refine k_lremN (pc := 40) E (by omega) (by omega) hd13 hd14 dX9_putsUp_40 ?_
  have hb15 := rm_rg (x := x1) hd14
  refine k_aloadn (pc := 41) E 2 dX9_putsUp_41 rfl rfl ?_
  refine k_iloadn (pc := 42) E 3 dX9_putsUp_42 rfl rfl ?_
  refine k_iload (pc := 43) E 0 dX9_putsUp_43 rfl ?_
  refine k_mr (fun hm_s0 => ?_)
  refine k_callV (pc := 45) (np := 2) (As := [gI x0, gI (f_X9_ones v10)]) (st := [gL (x1 % 100)]) (q0 := 0) E (c_X9_fallsOf l D a cI cJ cS cT s0 x0 (f_X9_ones v10) (by omega) (by omega) hpre0 hpre1 hpre2 (by first | assumption | omega) (by first | assumption | omega)) wm_1069 wm_11 wm_1066 wm_1068 wp_36 (by decide +kernel) rfl rfl ⟨by decide, by decide⟩ rfl (Nat.le_of_ble_eq_true rfl) dX9_putsUp_45 (fun r17 s18 hs18 hr16 => ?_)
  replace hT := gby hT hs18
  have hp19 := f_X9_fallsOf_p x0 (f_X9_ones v10) s0 (by omega) (by omega) hm_s0 hpre0 hpre1 hpre2 (by first | assumption | omega) (by first | assumption | omega) r17 s18 hs18
  obtain ⟨hfc_s18, hm_s18, hp20, hp21⟩ := hp19
  have hf_s18 : fr [25, 26, 35] s0 s18 := hf_s0.call (by decide) hfc_s18
  have ht22 : s18 35 0 = s0 35 0 := by rw [hfc_s18 35 (by decide)]
  refine k_st (st' := [gI r17, gL (x1 % 100)]) rfl ?_
  refine k_i2l (pc := 48) E dX9_putsUp_48 (by omega) ?_
  by_cases h23 : (x1 % 100) < r17
  · replace hT := hT.trans (if_pos h23)
    refine k_lcmp (pc := 49) E dX9_putsUp_49 (by omega) (by omega) ?_
    refine k_if_ge_f (pc := 50) (tgt := 69) E (by (repeat' split) <;> omega) dX9_putsUp_50 (by decide) (by (repeat' split) <;> omega) ?_
    refine k_aloadn (pc := 53) E 2 dX9_putsUp_53 rfl rfl ?_
    refine k_dup (pc := 54) E dX9_putsUp_54 rfl ?_
    refine k_getfI (pc := 55) (q0 := 0) (f := 35) (k := 35) E inX9 rfl rfl (by decide) wm_933 rfl rfl rfl dX9_putsUp_55 (fun hr24 => ?_)
    refine k_iload (pc := 58) E 1 dX9_putsUp_58 rfl ?_
    refine k_iconst (pc := 60) E dX9_putsUp_60 ?_
    refine k_ixor (pc := 61) E dX9_putsUp_61 ?_
    have hb25 := ixor_rg v10 (-1)
    refine k_iand (pc := 62) E dX9_putsUp_62 ?_
    have hb26 := iand_rg (s18 35 0) (ixor v10 (-1))
    have kn := iand_nn (ixor v10 (-1)) (x := s18 35 0) (by omega) (by omega)
    refine k_putfI (pc := 63) (q0 := 0) (f := 35) (k := 35) E tyX9 tyX9_ok nmX9 inX9 rfl rfl (by decide) wm_933 rfl rfl rfl (Nat.le_of_ble_eq_true rfl) rfl rfl (by omega) dX9_putsUp_63 ?_
    obtain ⟨s27, hs27, hT⟩ := glx hT
    refine k_sg hs27.symm ?_
    have hf_s27 : fr [25, 26, 35] s0 s27 := hs27 ▸ hf_s18.set (by decide)
    have ht28 : s27 35 0 = (iand (s18 35 0) (ixor v10 (-1))) := by rw [hs27]; exact mset_eq _ _ _ _
    refine k_iload (pc := 66) E 0 dX9_putsUp_66 rfl ?_
    exact k_rho hT (k_iret (pc := 68) E dX9_putsUp_68 (by omega))
  · replace hT := hT.trans (if_neg h23)
    refine k_lcmp (pc := 49) E dX9_putsUp_49 (by omega) (by omega) ?_
    refine k_if_ge_t (pc := 50) (tgt := 69) E (by (repeat' split) <;> omega) dX9_putsUp_50 (by decide) (by (repeat' split) <;> omega) ?_
    refine k_aloadn (pc := 69) E 2 dX9_putsUp_69 rfl rfl ?_
    refine k_dup (pc := 70) E dX9_putsUp_70 rfl ?_
    refine k_getfI (pc := 71) (q0 := 0) (f := 35) (k := 35) E inX9 rfl rfl (by decide) wm_933 rfl rfl rfl dX9_putsUp_71 (fun hr29 => ?_)
    refine k_iconst (pc := 74) E dX9_putsUp_74 ?_
    refine k_iloadn (pc := 75) E 3 dX9_putsUp_75 rfl rfl ?_
    refine k_ishl (pc := 76) E dX9_putsUp_76 ?_
    have hb30 := ishl_rg 1 x0
    have hb31 : 0 ≤ x0 ∧ x0 ≤ 15 → _ := fun q => ishl_1 q.1 q.2
    have k1 := ishl_1 hpre4.1 hpre4.2
    have kn := ior_16 (x := s18 35 0) (y := ishl 1 x0) (by omega) (by omega) (by omega) (by omega)
    refine k_ior (pc := 77) E dX9_putsUp_77 ?_
    have hb32 := ior_rg (s18 35 0) (ishl 1 x0)
    refine k_putfI (pc := 78) (q0 := 0) (f := 35) (k := 35) E tyX9 tyX9_ok nmX9 inX9 rfl rfl (by decide) wm_933 rfl rfl rfl (Nat.le_of_ble_eq_true rfl) rfl rfl (by omega) dX9_putsUp_78 ?_
    obtain ⟨s33, hs33, hT⟩ := glx hT
    refine k_sg hs33.symm ?_
    have hf_s33 : fr [25, 26, 35] s0 s33 := hs33 ▸ hf_s18.set (by decide)
    have ht34 : s33 35 0 = (ior (s18 35 0) (ishl 1 x0)) := by rw [hs33]; exact mset_eq _ _ _ _
    refine k_iconst (pc := 81) E dX9_putsUp_81 ?_
    exact k_rho hT (k_iret (pc := 82) E dX9_putsUp_82 (by omega))

def f_X9_put (x0 : Int) (x1 : Int) (s0 : gMem) : gRes := (if (f_X9_isPlace x0) = 0 then ((-5), s0) else (if (f_X9_in x1 0 99999) = 0 then ((-7), s0) else (if (f_X9_isIn (s0 2 1) x0) = 0 then gl (mset s0 35 0 (s0 2 1)) (fun s14 => gb (f_X9_putsUp x0 (((x1 + 1) * 48271) % 2147483647) s14) (fun r20 s21 => gl (mset s21 2 1 (s21 35 0)) (fun s27 => (r20, s27)))) else ((-3), s0))))
theorem f_X9_put_e (x0 : Int) (x1 : Int) (s0 : gMem) : f_X9_put x0 x1 s0 = (if (f_X9_isPlace x0) = 0 then ((-5), s0) else (if (f_X9_in x1 0 99999) = 0 then ((-7), s0) else (if (f_X9_isIn (s0 2 1) x0) = 0 then gl (mset s0 35 0 (s0 2 1)) (fun s14 => gb (f_X9_putsUp x0 (((x1 + 1) * 48271) % 2147483647) s14) (fun r20 s21 => gl (mset s21 2 1 (s21 35 0)) (fun s27 => (r20, s27)))) else ((-3), s0)))) := rfl
set_option maxRecDepth 100000 in
set_option maxHeartbeats 4000000 in
theorem f_X9_put_p (x0 : Int) (x1 : Int) (s0 : gMem) (hx0 : in32 x0) (hx1 : in32 x1) (hm_s0 : gMR lgM s0) (hpre0 : VS s0) (hpre1 : KN s0) (hpre2 : MO s0) (hpre3 : TD s0) (rZ : Int) (sZ : gMem) (hres : f_X9_put x0 x1 s0 = (rZ, sZ)) : (fr [2, 25, 26, 35] s0 sZ) ∧ (gMR lgM sZ) ∧ (in32 rZ) ∧ (TD sZ) := by
  have hT := f_X9_put_e x0 x1 s0
  have hf_s0 : fr [2, 25, 26, 35] s0 s0 := fr.rf _ _
  have hTD_s0 := hpre3
  have hp2 := f_X9_isPlace_p x0 (by omega) 
  by_cases h3 : (f_X9_isPlace x0) = 0
  · replace hT := hT.trans (if_pos h3)
    obtain ⟨rfl, rfl⟩ := Prod.mk.inj (hT.symm.trans hres)
    exact ⟨hf_s0, hm_s0, (by omega), hTD_s0⟩
  · replace hT := hT.trans (if_neg h3)
    have hp5 := f_X9_in_p x1 0 99999 (by omega) (by omega) (by omega) 
    by_cases h6 : (f_X9_in x1 0 99999) = 0
    · replace hT := hT.trans (if_pos h6)
      obtain ⟨rfl, rfl⟩ := Prod.mk.inj (hT.symm.trans hres)
      exact ⟨hf_s0, hm_s0, (by omega), hTD_s0⟩
    · replace hT := hT.trans (if_neg h6)
      have hr7 := (hm_s0 2 1).1 rfl
      have hi8 := hTD_s0 1
      have hp10 := f_X9_isIn_p (s0 2 1) x0 (by omega) (by omega) 
      by_cases h11 : (f_X9_isIn (s0 2 1) x0) = 0
      · replace hT := hT.trans (if_pos h11)
        have hr12 := (hm_s0 2 1).1 rfl
        have hi13 := hTD_s0 1
        obtain ⟨s14, hs14, hT⟩ := glx hT
        have hf_s14 : fr [2, 25, 26, 35] s0 s14 := hs14 ▸ hf_s0.set (by decide)
        have hm_s14 : gMR lgM s14 := hs14 ▸ hm_s0.set32 rfl (by omega)
        have hTD_s14 : TD s14 := fun i => by rw [hs14, mset_ne _ _ _ _ _ (by decide)]; exact hTD_s0 i
        have ht15 : s14 35 0 = (s0 2 1) := by rw [hs14]; exact mset_eq _ _ _ _
        have hd16 : (0 : Int) ≤ ((x1 + 1) * 48271) := (by omega)
        have hd17 : (0 : Int) < 2147483647 := (by omega)
        have hb18 := rm_rg (x := ((x1 + 1) * 48271)) hd17
        obtain ⟨r20, s21, hs21⟩ : ∃ rr ss, (f_X9_putsUp x0 (((x1 + 1) * 48271) % 2147483647) s14) = (rr, ss) := ⟨_, _, rfl⟩
        replace hT := gby hT hs21
        have hp22 := f_X9_putsUp_p x0 (((x1 + 1) * 48271) % 2147483647) s14 (by omega) (by omega) hm_s14 (by unfold VS; rw [hf_s14 5 (by decide), hf_s14 6 (by decide), hf_s14 7 (by decide), hf_s14 8 (by decide)]; exact hpre0) (by unfold KN; rw [hf_s14 0 (by decide)]; exact hpre1) (by unfold MO; rw [hf_s14 1 (by decide)]; exact hpre2) hTD_s14 (by first | assumption | omega) (by first | assumption | omega) (by first | assumption | omega) r20 s21 hs21
        obtain ⟨hfc_s21, hm_s21, hp23, hp24, hp25⟩ := hp22
        have hf_s21 : fr [2, 25, 26, 35] s0 s21 := hf_s14.call (by decide) hfc_s21
        have hTD_s21 : TD s21 := fun i => by rw [hfc_s21 2 (by decide)]; exact hTD_s14 i
        have hr26 := (hm_s21 35 0).1 rfl
        obtain ⟨s27, hs27, hT⟩ := glx hT
        have hf_s27 : fr [2, 25, 26, 35] s0 s27 := hs27 ▸ hf_s21.set (by decide)
        have hm_s27 : gMR lgM s27 := hs27 ▸ hm_s21.set32 rfl (by omega)
        have hTD_s27 : TD s27 := hs27 ▸ TD_set hTD_s21 (by omega)
        have ht28 : s27 35 0 = s21 35 0 := by rw [hs27]; exact mset_ne _ _ _ _ _ (by decide)
        obtain ⟨rfl, rfl⟩ := Prod.mk.inj (hT.symm.trans hres)
        exact ⟨hf_s27, hm_s27, (by omega), hTD_s27⟩
      · replace hT := hT.trans (if_neg h11)
        obtain ⟨rfl, rfl⟩ := Prod.mk.inj (hT.symm.trans hres)
        exact ⟨hf_s0, hm_s0, (by omega), hTD_s0⟩
set_option maxRecDepth 100000 in
set_option maxHeartbeats 4000000 in
theorem c_X9_put (l : Launch) (D : va_G) (a : Nat → Nat) (cI cJ cS cT : ClassId) (s0 : gMem) (x0 : Int) (x1 : Int) (hx0 : in32 x0) (hx1 : in32 x1) (hpre0 : VS s0) (hpre1 : KN s0) (hpre2 : MO s0) (hpre3 : TD s0) : gC l yX9_put cX9_put 4 (some .int) 6 384 D vwCl (gT cI cJ cS cT) (wdM a cI cJ) lgM kI in32 [.ref (a 0), gI x0, gI x1] s0 (f_X9_put x0 x1 s0) := by
  refine gC_of (by decide +kernel) (hwdM a cI cJ) (Nat.le_of_ble_eq_true rfl) ?_
  intro A p e R s m args below meth c hR E
  subst hR
  have hT := f_X9_put_e x0 x1 s0
  have hf_s0 : fr [2, 25, 26, 35] s0 s0 := fr.rf _ _
  refine k_lv0 (lv' := [(0, .ref (a 0)), (1, gI x0), (2, gI x1)]) rfl ?_
  refine k_mr (fun hm_s0 => ?_)
  have hTD_s0 := hpre3
  refine k_iloadn (pc := 0) E 1 dX9_put_0 rfl rfl ?_
  refine k_mr (fun hm_s0 => ?_)
  refine k_callS (pc := 1) (np := 1) (As := [gI x0]) (st := []) E (c_X9_isPlace l D a cI cJ cS cT s0 x0 (by omega)) wm_1040 wm_11 wm_1038 wm_1039 (by decide +kernel) ⟨by decide, by decide⟩ rfl (Nat.le_of_ble_eq_true rfl) dX9_put_1 (ro_kk (fun hr1 => ?_))
  have hp2 := f_X9_isPlace_p x0 (by omega) 
  refine k_st (st' := [gI (f_X9_isPlace x0)]) rfl ?_
  by_cases h3 : (f_X9_isPlace x0) = 0
  · replace hT := hT.trans (if_pos h3)
    refine k_if_ne_f (pc := 4) (tgt := 10) E (by omega) dX9_put_4 (by decide) h3 ?_
    refine k_bipush (pc := 7) E dX9_put_7 (by decide) ?_
    exact k_rho hT (k_iret (pc := 9) E dX9_put_9 (by omega))
  · replace hT := hT.trans (if_neg h3)
    refine k_if_ne_t (pc := 4) (tgt := 10) E (by omega) dX9_put_4 (by decide) h3 ?_
    refine k_iloadn (pc := 10) E 2 dX9_put_10 rfl rfl ?_
    refine k_iconst (pc := 11) E dX9_put_11 ?_
    refine k_ldcw (pc := 12) (n := 99999) E dX9_put_12 wm_1195 (by decide) ?_
    refine k_mr (fun hm_s0 => ?_)
    refine k_callS (pc := 15) (np := 3) (As := [gI x1, gI 0, gI 99999]) (st := []) E (c_X9_in l D a cI cJ cS cT s0 x1 0 99999 (by omega) (by omega) (by omega)) wm_861 wm_11 wm_859 wm_860 (by decide +kernel) ⟨by decide, by decide⟩ rfl (Nat.le_of_ble_eq_true rfl) dX9_put_15 (ro_kk (fun hr4 => ?_))
    have hp5 := f_X9_in_p x1 0 99999 (by omega) (by omega) (by omega) 
    refine k_st (st' := [gI (f_X9_in x1 0 99999)]) rfl ?_
    by_cases h6 : (f_X9_in x1 0 99999) = 0
    · replace hT := hT.trans (if_pos h6)
      refine k_if_ne_f (pc := 18) (tgt := 24) E (by omega) dX9_put_18 (by decide) h6 ?_
      refine k_bipush (pc := 21) E dX9_put_21 (by decide) ?_
      exact k_rho hT (k_iret (pc := 23) E dX9_put_23 (by omega))
    · replace hT := hT.trans (if_neg h6)
      refine k_if_ne_t (pc := 18) (tgt := 24) E (by omega) dX9_put_18 (by decide) h6 ?_
      refine k_aloadn (pc := 24) E 0 dX9_put_24 rfl rfl ?_
      refine k_getf (pc := 25) (q0 := 0) (f := 2) (v := .ref (a 3)) E inX9 rfl rfl (by decide) wm_900 rfl rfl dX9_put_25 ?_
      refine k_iconst (pc := 28) E dX9_put_28 ?_
      refine k_iaload (pc := 29) (q0 := 3) (t0 := 0) (k := 2) (n := 4) E rfl rfl rfl (by decide) (by omega) (by omega) dX9_put_29 (fun hr7 => ?_)
      have hi8 := hTD_s0 1
      refine k_iloadn (pc := 30) E 1 dX9_put_30 rfl rfl ?_
      refine k_mr (fun hm_s0 => ?_)
      refine k_callS (pc := 31) (np := 2) (As := [gI (s0 2 1), gI x0]) (st := []) E (c_X9_isIn l D a cI cJ cS cT s0 (s0 2 1) x0 (by omega) (by omega)) wm_1088 wm_11 wm_1086 wm_1087 (by decide +kernel) ⟨by decide, by decide⟩ rfl (Nat.le_of_ble_eq_true rfl) dX9_put_31 (ro_kk (fun hr9 => ?_))
      have hp10 := f_X9_isIn_p (s0 2 1) x0 (by omega) (by omega) 
      refine k_st (st' := [gI (f_X9_isIn (s0 2 1) x0)]) rfl ?_
      by_cases h11 : (f_X9_isIn (s0 2 1) x0) = 0
      · replace hT := hT.trans (if_pos h11)
        refine k_if_eq_t (pc := 34) (tgt := 40) E (by omega) dX9_put_34 (by decide) h11 ?_
        refine k_aloadn (pc := 40) E 0 dX9_put_40 rfl rfl ?_
        refine k_aloadn (pc := 41) E 0 dX9_put_41 rfl rfl ?_
        refine k_getf (pc := 42) (q0 := 0) (f := 2) (v := .ref (a 3)) E inX9 rfl rfl (by decide) wm_900 rfl rfl dX9_put_42 ?_
        refine k_iconst (pc := 45) E dX9_put_45 ?_
        refine k_iaload (pc := 46) (q0 := 3) (t0 := 0) (k := 2) (n := 4) E rfl rfl rfl (by decide) (by omega) (by omega) dX9_put_46 (fun hr12 => ?_)
        have hi13 := hTD_s0 1
        refine k_putfI (pc := 47) (q0 := 0) (f := 35) (k := 35) E tyX9 tyX9_ok nmX9 inX9 rfl rfl (by decide) wm_933 rfl rfl rfl (Nat.le_of_ble_eq_true rfl) rfl rfl (by omega) dX9_put_47 ?_
        obtain ⟨s14, hs14, hT⟩ := glx hT
        refine k_sg hs14.symm ?_
        have hf_s14 : fr [2, 25, 26, 35] s0 s14 := hs14 ▸ hf_s0.set (by decide)
        have hTD_s14 : TD s14 := fun i => by rw [hs14, mset_ne _ _ _ _ _ (by decide)]; exact hTD_s0 i
        have ht15 : s14 35 0 = (s0 2 1) := by rw [hs14]; exact mset_eq _ _ _ _
        refine k_aloadn (pc := 50) E 0 dX9_put_50 rfl rfl ?_
        refine k_iloadn (pc := 51) E 1 dX9_put_51 rfl rfl ?_
        refine k_iloadn (pc := 52) E 2 dX9_put_52 rfl rfl ?_
        refine k_i2l (pc := 53) E dX9_put_53 (by omega) ?_
        refine k_lconst1 (pc := 54) E dX9_put_54 ?_
        refine k_ladd (pc := 55) E dX9_put_55 ?_
        refine k_ldc2 (pc := 56) (n := 48271) E dX9_put_56 wm_1196 (by decide) ?_
        refine k_lmul (pc := 59) E dX9_put_59 ?_
        refine k_ldc2 (pc := 60) (n := 2147483647) E dX9_put_60 wm_1197 (by decide) ?_
        have hd16 : (0 : Int) ≤ ((x1 + 1) * 48271) := (by omega)
        have hd17 : (0 : Int) < 2147483647 := (by omega)
        refine k_lremN (pc := 63) E (by omega) (by omega) hd16 hd17 dX9_put_63 ?_
        have hb18 := rm_rg (x := ((x1 + 1) * 48271)) hd17
        refine k_mr (fun hm_s14 => ?_)
        refine k_callV (pc := 64) (np := 2) (As := [gI x0, gL (((x1 + 1) * 48271) % 2147483647)]) (st := []) (q0 := 0) E (c_X9_putsUp l D a cI cJ cS cT s14 x0 (((x1 + 1) * 48271) % 2147483647) (by omega) (by omega) (by unfold VS; rw [hf_s14 5 (by decide), hf_s14 6 (by decide), hf_s14 7 (by decide), hf_s14 8 (by decide)]; exact hpre0) (by unfold KN; rw [hf_s14 0 (by decide)]; exact hpre1) (by unfold MO; rw [hf_s14 1 (by decide)]; exact hpre2) hTD_s14 (by first | assumption | omega) (by first | assumption | omega) (by first | assumption | omega)) wm_1201 wm_11 wm_1198 wm_1200 wp_49 (by decide +kernel) rfl rfl ⟨by decide, by decide⟩ rfl (Nat.le_of_ble_eq_true rfl) dX9_put_64 (fun r20 s21 hs21 hr19 => ?_)
        replace hT := gby hT hs21
        have hp22 := f_X9_putsUp_p x0 (((x1 + 1) * 48271) % 2147483647) s14 (by omega) (by omega) hm_s14 (by unfold VS; rw [hf_s14 5 (by decide), hf_s14 6 (by decide), hf_s14 7 (by decide), hf_s14 8 (by decide)]; exact hpre0) (by unfold KN; rw [hf_s14 0 (by decide)]; exact hpre1) (by unfold MO; rw [hf_s14 1 (by decide)]; exact hpre2) hTD_s14 (by first | assumption | omega) (by first | assumption | omega) (by first | assumption | omega) r20 s21 hs21
        obtain ⟨hfc_s21, hm_s21, hp23, hp24, hp25⟩ := hp22
        have hf_s21 : fr [2, 25, 26, 35] s0 s21 := hf_s14.call (by decide) hfc_s21
        have hTD_s21 : TD s21 := fun i => by rw [hfc_s21 2 (by decide)]; exact hTD_s14 i
        refine k_st (st' := [gI r20]) rfl ?_
        refine k_istoren (pc := 67) (lv' := [(3, gI r20), (0, .ref (a 0)), (1, gI x0), (2, gI x1)]) E dX9_put_67 rfl (by decide) rfl ?_
        refine k_aloadn (pc := 68) E 1 dX9_put_68 rfl rfl ?_
        refine k_getf (pc := 69) (q0 := 0) (f := 2) (v := .ref (a 3)) E inX9 rfl rfl (by decide) wm_900 rfl rfl dX9_put_69 ?_
        refine k_iconst (pc := 72) E dX9_put_72 ?_
        refine k_aloadn (pc := 73) E 1 dX9_put_73 rfl rfl ?_
        refine k_getfI (pc := 74) (q0 := 0) (f := 35) (k := 35) E inX9 rfl rfl (by decide) wm_933 rfl rfl rfl dX9_put_74 (fun hr26 => ?_)
        refine k_iastore (pc := 77) (q0 := 3) (t0 := 0) (k := 2) (n := 4) E rfl rfl rfl rfl (by decide) (by omega) (by omega) (by omega) dX9_put_77 ?_
        obtain ⟨s27, hs27, hT⟩ := glx hT
        refine k_sg hs27.symm ?_
        have hf_s27 : fr [2, 25, 26, 35] s0 s27 := hs27 ▸ hf_s21.set (by decide)
        have hTD_s27 : TD s27 := hs27 ▸ TD_set hTD_s21 (by omega)
        have ht28 : s27 35 0 = s21 35 0 := by rw [hs27]; exact mset_ne _ _ _ _ _ (by decide)
        refine k_iloadn (pc := 78) E 0 dX9_put_78 rfl rfl ?_
        exact k_rho hT (k_iret (pc := 79) E dX9_put_79 (by omega))
      · replace hT := hT.trans (if_neg h11)
        refine k_if_eq_f (pc := 34) (tgt := 40) E (by omega) dX9_put_34 (by decide) h11 ?_
        refine k_bipush (pc := 37) E dX9_put_37 (by decide) ?_
        exact k_rho hT (k_iret (pc := 39) E dX9_put_39 (by omega))

def w_X9_image_15  : Nat → Int → gMem → Int × gMem
  | 0, v10, s11 => (v10, s11)
  | n12 + 1, v10, s11 => (if v10 < 16 then gl (mset s11 11 v10 (s11 0 v10)) (fun s16 => gl (mset s16 11 (16 + v10) (s16 1 v10)) (fun s22 => (w_X9_image_15 n12 (v10 + 1) s22))) else (v10, s11))
theorem w_X9_image_15_s  (n12 : Nat) (v10 : Int) (s11 : gMem) : w_X9_image_15  (n12 + 1) v10 s11 = (if v10 < 16 then gl (mset s11 11 v10 (s11 0 v10)) (fun s16 => gl (mset s16 11 (16 + v10) (s16 1 v10)) (fun s22 => (w_X9_image_15 n12 (v10 + 1) s22))) else (v10, s11)) := rfl
def w_X9_image_56  : Nat → Int → gMem → Int × gMem
  | 0, v62, s63 => (v62, s63)
  | n64 + 1, v62, s63 => (if v62 < 4 then gl (mset s63 11 (32 + v62) (s63 2 v62)) (fun s68 => (w_X9_image_56 n64 (v62 + 1) s68)) else (v62, s63))
theorem w_X9_image_56_s  (n64 : Nat) (v62 : Int) (s63 : gMem) : w_X9_image_56  (n64 + 1) v62 s63 = (if v62 < 4 then gl (mset s63 11 (32 + v62) (s63 2 v62)) (fun s68 => (w_X9_image_56 n64 (v62 + 1) s68)) else (v62, s63)) := rfl
def f_X9_image  (s0 : gMem) : gRes := gl (mset s0 9 0 1) (fun s1 => gl (mset s1 10 0 (s1 8 0)) (fun s6 => (gl2 (w_X9_image_15 17 0 s6) (fun v55 s56 => (gl2 (w_X9_image_56 5 0 s56) (fun v95 s96 => ((f_X9_ones (s96 2 1)), s96)))))))
theorem f_X9_image_e  (s0 : gMem) : f_X9_image s0 = gl (mset s0 9 0 1) (fun s1 => gl (mset s1 10 0 (s1 8 0)) (fun s6 => (gl2 (w_X9_image_15 17 0 s6) (fun v55 s56 => (gl2 (w_X9_image_56 5 0 s56) (fun v95 s96 => ((f_X9_ones (s96 2 1)), s96))))))) := rfl
set_option maxRecDepth 100000 in
set_option maxHeartbeats 4000000 in
theorem f_X9_image_p  (s0 : gMem)  (hm_s0 : gMR lgM s0) (hpre0 : VS s0) (hpre1 : KN s0) (hpre2 : MO s0) (hpre3 : TD s0) (hpre4 : IR s0) (rZ : Int) (sZ : gMem) (hres : f_X9_image s0 = (rZ, sZ)) : (fr [9, 10, 11] s0 sZ) ∧ (gMR lgM sZ) ∧ (in32 rZ) ∧ (IR sZ) := by
  have hT := f_X9_image_e  s0
  have hf_s0 : fr [9, 10, 11] s0 s0 := fr.rf _ _
  have hIR_s0 := hpre4
  obtain ⟨s1, hs1, hT⟩ := glx hT
  have hf_s1 : fr [9, 10, 11] s0 s1 := hs1 ▸ hf_s0.set (by decide)
  have hm_s1 : gMR lgM s1 := hs1 ▸ hm_s0.set32 rfl (by omega)
  have hIR_s1 : IR s1 := fun i => by rw [hs1, mset_ne _ _ _ _ _ (by decide)]; exact hIR_s0 i
  have ht2 : s1 8 0 = s0 8 0 := by rw [hs1]; exact mset_ne _ _ _ _ _ (by decide)
  have ht3 : s1 9 0 = 1 := by rw [hs1]; exact mset_eq _ _ _ _
  have ht4 : s1 10 0 = s0 10 0 := by rw [hs1]; exact mset_ne _ _ _ _ _ (by decide)
  have hr5 := (hm_s1 8 0).1 rfl
  obtain ⟨s6, hs6, hT⟩ := glx hT
  have hf_s6 : fr [9, 10, 11] s0 s6 := hs6 ▸ hf_s1.set (by decide)
  have hm_s6 : gMR lgM s6 := hs6 ▸ hm_s1.set32 rfl (by omega)
  have hIR_s6 : IR s6 := fun i => by rw [hs6, mset_ne _ _ _ _ _ (by decide)]; exact hIR_s1 i
  have ht7 : s6 8 0 = s1 8 0 := by rw [hs6]; exact mset_ne _ _ _ _ _ (by decide)
  have ht8 : s6 9 0 = s1 9 0 := by rw [hs6]; exact mset_ne _ _ _ _ _ (by decide)
  have ht9 : s6 10 0 = (s1 8 0) := by rw [hs6]; exact mset_eq _ _ _ _
  have L28 : ∀ (n29 : Nat) (v26 : Int) (s27 : gMem), ((in32 v26) ∧ (fr [9, 10, 11] s0 s27) ∧ (gMR lgM s27) ∧ (IR s27) ∧ (s27 8 0 = s6 8 0) ∧ (s27 9 0 = s6 9 0) ∧ (s27 10 0 = s6 10 0) ∧ (0 ≤ v26 ∧ v26 ≤ 16)) → 16 - v26 < (n29 : Int) → (∀ (w30 : Int) (s31 : gMem), (w_X9_image_15 n29 v26 s27) = (w30, s31) → ((in32 w30) ∧ (fr [9, 10, 11] s0 s31) ∧ (gMR lgM s31) ∧ (IR s31) ∧ (s31 8 0 = s6 8 0) ∧ (s31 9 0 = s6 9 0) ∧ (s31 10 0 = s6 10 0) ∧ (0 ≤ w30 ∧ w30 ≤ 16)) → (fr [9, 10, 11] s0 sZ) ∧ (gMR lgM sZ) ∧ (in32 rZ) ∧ (IR sZ)) → (fr [9, 10, 11] s0 sZ) ∧ (gMR lgM sZ) ∧ (in32 rZ) ∧ (IR sZ) := by
    intro n29; induction n29 with
    | zero =>
      intro v26 s27 hq hm hk
      exfalso
      obtain ⟨hq45, hf_s27, hm_s27, hIR_s27, hq46, hq47, hq48, hq49⟩ := hq
      omega
    | succ n29 ih =>
      intro v26 s27 hq hm hk
      obtain ⟨hq50, hf_s27, hm_s27, hIR_s27, hq51, hq52, hq53, hq54⟩ := hq
      have hT := w_X9_image_15_s  n29 v26 s27
      by_cases h32 : v26 < 16
      · replace hT := hT.trans (if_pos h32)
        have hr33 := (hm_s27 0 v26).1 rfl
        have hi34 := hpre1 v26
        rw [← hf_s27 0 (by decide)] at hi34
        obtain ⟨s35, hs35, hT⟩ := glx hT
        have hf_s35 : fr [9, 10, 11] s0 s35 := hs35 ▸ hf_s27.set (by decide)
        have hm_s35 : gMR lgM s35 := hs35 ▸ hm_s27.set32 rfl (by omega)
        have hIR_s35 : IR s35 := hs35 ▸ IR_set hIR_s27 (by omega)
        have ht36 : s35 8 0 = s27 8 0 := by rw [hs35]; exact mset_ne _ _ _ _ _ (by decide)
        have ht37 : s35 9 0 = s27 9 0 := by rw [hs35]; exact mset_ne _ _ _ _ _ (by decide)
        have ht38 : s35 10 0 = s27 10 0 := by rw [hs35]; exact mset_ne _ _ _ _ _ (by decide)
        have hr39 := (hm_s35 1 v26).1 rfl
        have hi40 := hpre2 v26
        rw [← hf_s35 1 (by decide)] at hi40
        obtain ⟨s41, hs41, hT⟩ := glx hT
        have hf_s41 : fr [9, 10, 11] s0 s41 := hs41 ▸ hf_s35.set (by decide)
        have hm_s41 : gMR lgM s41 := hs41 ▸ hm_s35.set32 rfl (by omega)
        have hIR_s41 : IR s41 := hs41 ▸ IR_set hIR_s35 (by omega)
        have ht42 : s41 8 0 = s35 8 0 := by rw [hs41]; exact mset_ne _ _ _ _ _ (by decide)
        have ht43 : s41 9 0 = s35 9 0 := by rw [hs41]; exact mset_ne _ _ _ _ _ (by decide)
        have ht44 : s41 10 0 = s35 10 0 := by rw [hs41]; exact mset_ne _ _ _ _ _ (by decide)
        exact ih (v26 + 1) s41 ⟨(by omega), hf_s41, hm_s41, hIR_s41, (by first | assumption | omega), (by first | assumption | omega), (by first | assumption | omega), (by first | assumption | omega)⟩ (by omega) (fun w30 s31 hw hi => hk w30 s31 (hT.trans hw) hi)
      · replace hT := hT.trans (if_neg h32)
        exact hk v26 s27 hT ⟨(by omega), hf_s27, hm_s27, hIR_s27, (by first | assumption | omega), (by first | assumption | omega), (by first | assumption | omega), (by first | assumption | omega)⟩
  refine L28 17 0 s6 ⟨(by omega), hf_s6, hm_s6, hIR_s6, (by first | assumption | omega), (by first | assumption | omega), (by first | assumption | omega), (by first | assumption | omega)⟩ (by omega) (fun v55 s56 hw hq => ?_)
  obtain ⟨hq57, hf_s56, hm_s56, hIR_s56, hq58, hq59, hq60, hq61⟩ := hq
  replace hT := gl2y hT hw
  have L74 : ∀ (n75 : Nat) (v72 : Int) (s73 : gMem), ((in32 v72) ∧ (fr [9, 10, 11] s0 s73) ∧ (gMR lgM s73) ∧ (IR s73) ∧ (s73 8 0 = s56 8 0) ∧ (s73 9 0 = s56 9 0) ∧ (s73 10 0 = s56 10 0) ∧ (0 ≤ v72 ∧ v72 ≤ 4)) → 4 - v72 < (n75 : Int) → (∀ (w76 : Int) (s77 : gMem), (w_X9_image_56 n75 v72 s73) = (w76, s77) → ((in32 w76) ∧ (fr [9, 10, 11] s0 s77) ∧ (gMR lgM s77) ∧ (IR s77) ∧ (s77 8 0 = s56 8 0) ∧ (s77 9 0 = s56 9 0) ∧ (s77 10 0 = s56 10 0) ∧ (0 ≤ w76 ∧ w76 ≤ 4)) → (fr [9, 10, 11] s0 sZ) ∧ (gMR lgM sZ) ∧ (in32 rZ) ∧ (IR sZ)) → (fr [9, 10, 11] s0 sZ) ∧ (gMR lgM sZ) ∧ (in32 rZ) ∧ (IR sZ) := by
    intro n75; induction n75 with
    | zero =>
      intro v72 s73 hq hm hk
      exfalso
      obtain ⟨hq85, hf_s73, hm_s73, hIR_s73, hq86, hq87, hq88, hq89⟩ := hq
      omega
    | succ n75 ih =>
      intro v72 s73 hq hm hk
      obtain ⟨hq90, hf_s73, hm_s73, hIR_s73, hq91, hq92, hq93, hq94⟩ := hq
      have hT := w_X9_image_56_s  n75 v72 s73
      by_cases h78 : v72 < 4
      · replace hT := hT.trans (if_pos h78)
        have hr79 := (hm_s73 2 v72).1 rfl
        have hi80 := hpre3 v72
        rw [← hf_s73 2 (by decide)] at hi80
        obtain ⟨s81, hs81, hT⟩ := glx hT
        have hf_s81 : fr [9, 10, 11] s0 s81 := hs81 ▸ hf_s73.set (by decide)
        have hm_s81 : gMR lgM s81 := hs81 ▸ hm_s73.set32 rfl (by omega)
        have hIR_s81 : IR s81 := hs81 ▸ IR_set hIR_s73 (by omega)
        have ht82 : s81 8 0 = s73 8 0 := by rw [hs81]; exact mset_ne _ _ _ _ _ (by decide)
        have ht83 : s81 9 0 = s73 9 0 := by rw [hs81]; exact mset_ne _ _ _ _ _ (by decide)
        have ht84 : s81 10 0 = s73 10 0 := by rw [hs81]; exact mset_ne _ _ _ _ _ (by decide)
        exact ih (v72 + 1) s81 ⟨(by omega), hf_s81, hm_s81, hIR_s81, (by first | assumption | omega), (by first | assumption | omega), (by first | assumption | omega), (by first | assumption | omega)⟩ (by omega) (fun w76 s77 hw hi => hk w76 s77 (hT.trans hw) hi)
      · replace hT := hT.trans (if_neg h78)
        exact hk v72 s73 hT ⟨(by omega), hf_s73, hm_s73, hIR_s73, (by first | assumption | omega), (by first | assumption | omega), (by first | assumption | omega), (by first | assumption | omega)⟩
  refine L74 5 0 s56 ⟨(by omega), hf_s56, hm_s56, hIR_s56, (by first | assumption | omega), (by first | assumption | omega), (by first | assumption | omega), (by first | assumption | omega)⟩ (by omega) (fun v95 s96 hw hq => ?_)
  obtain ⟨hq97, hf_s96, hm_s96, hIR_s96, hq98, hq99, hq100, hq101⟩ := hq
  replace hT := gl2y hT hw
  have hr102 := (hm_s96 2 1).1 rfl
  have hi103 := hpre3 1
  rw [← hf_s96 2 (by decide)] at hi103
  have hp105 := f_X9_ones_p (s96 2 1) (by omega) 
  obtain ⟨rfl, rfl⟩ := Prod.mk.inj (hT.symm.trans hres)
  exact ⟨hf_s96, hm_s96, (by omega), hIR_s96⟩
set_option maxRecDepth 100000 in
set_option maxHeartbeats 4000000 in
theorem c_X9_image (l : Launch) (D : va_G) (a : Nat → Nat) (cI cJ cS cT : ClassId) (s0 : gMem)   (hpre0 : VS s0) (hpre1 : KN s0) (hpre2 : MO s0) (hpre3 : TD s0) (hpre4 : IR s0) : gC l yX9_image cX9_image 2 (some .int) 2 128 D vwCl (gT cI cJ cS cT) (wdM a cI cJ) lgM kI in32 [.ref (a 0)] s0 (f_X9_image s0) := by
  refine gC_of (by decide +kernel) (hwdM a cI cJ) (Nat.le_of_ble_eq_true rfl) ?_
  intro A p e R s m args below meth c hR E
  subst hR
  have hT := f_X9_image_e  s0
  have hf_s0 : fr [9, 10, 11] s0 s0 := fr.rf _ _
  refine k_lv0 (lv' := [(0, .ref (a 0))]) rfl ?_
  refine k_mr (fun hm_s0 => ?_)
  have hIR_s0 := hpre4
  refine k_aloadn (pc := 0) E 0 dX9_image_0 rfl rfl ?_
  refine k_iconst (pc := 1) E dX9_image_1 ?_
  refine k_putfZ (pc := 2) (q0 := 0) (f := 9) (k := 9) E tyX9 tyX9_ok nmX9 inX9 rfl rfl (by decide) wm_907 rfl rfl rfl (Nat.le_of_ble_eq_true rfl) rfl rfl (by first | exact Or.inl rfl | exact Or.inr rfl | omega) dX9_image_2 ?_
  obtain ⟨s1, hs1, hT⟩ := glx hT
  refine k_sg hs1.symm ?_
  have hf_s1 : fr [9, 10, 11] s0 s1 := hs1 ▸ hf_s0.set (by decide)
  have hIR_s1 : IR s1 := fun i => by rw [hs1, mset_ne _ _ _ _ _ (by decide)]; exact hIR_s0 i
  have ht2 : s1 8 0 = s0 8 0 := by rw [hs1]; exact mset_ne _ _ _ _ _ (by decide)
  have ht3 : s1 9 0 = 1 := by rw [hs1]; exact mset_eq _ _ _ _
  have ht4 : s1 10 0 = s0 10 0 := by rw [hs1]; exact mset_ne _ _ _ _ _ (by decide)
  refine k_aloadn (pc := 5) E 0 dX9_image_5 rfl rfl ?_
  refine k_aloadn (pc := 6) E 0 dX9_image_6 rfl rfl ?_
  refine k_getfI (pc := 7) (q0 := 0) (f := 8) (k := 8) E inX9 rfl rfl (by decide) wm_906 rfl rfl rfl dX9_image_7 (fun hr5 => ?_)
  refine k_putfI (pc := 10) (q0 := 0) (f := 10) (k := 10) E tyX9 tyX9_ok nmX9 inX9 rfl rfl (by decide) wm_908 rfl rfl rfl (Nat.le_of_ble_eq_true rfl) rfl rfl (by omega) dX9_image_10 ?_
  obtain ⟨s6, hs6, hT⟩ := glx hT
  refine k_sg hs6.symm ?_
  have hf_s6 : fr [9, 10, 11] s0 s6 := hs6 ▸ hf_s1.set (by decide)
  have hIR_s6 : IR s6 := fun i => by rw [hs6, mset_ne _ _ _ _ _ (by decide)]; exact hIR_s1 i
  have ht7 : s6 8 0 = s1 8 0 := by rw [hs6]; exact mset_ne _ _ _ _ _ (by decide)
  have ht8 : s6 9 0 = s1 9 0 := by rw [hs6]; exact mset_ne _ _ _ _ _ (by decide)
  have ht9 : s6 10 0 = (s1 8 0) := by rw [hs6]; exact mset_eq _ _ _ _
  refine k_iconst (pc := 13) E dX9_image_13 ?_
  refine k_istoren (pc := 14) (lv' := [(1, gI 0), (0, .ref (a 0))]) E dX9_image_14 rfl (by decide) rfl ?_
  have L28 : ∀ (n29 : Nat) (v26 : Int) (s27 : gMem), ((in32 v26) ∧ (fr [9, 10, 11] s0 s27) ∧ (IR s27) ∧ (s27 8 0 = s6 8 0) ∧ (s27 9 0 = s6 9 0) ∧ (s27 10 0 = s6 10 0) ∧ (0 ≤ v26 ∧ v26 ≤ 16)) → 16 - v26 < (n29 : Int) → (∀ (w30 : Int) (s31 : gMem), (w_X9_image_15 n29 v26 s27) = (w30, s31) → ((in32 w30) ∧ (fr [9, 10, 11] s0 s31) ∧ (IR s31) ∧ (s31 8 0 = s6 8 0) ∧ (s31 9 0 = s6 9 0) ∧ (s31 10 0 = s6 10 0) ∧ (0 ≤ w30 ∧ w30 ≤ 16)) → gK D vwCl (wdM a cI cJ) lgM A p l e { frames := 2, cells := 0, slots := 0, locals := 128 } s m args below meth c 2 (gQQ D vwCl (wdM a cI cJ) lgM A kI in32 below args s) (f_X9_image s0) s31 54 [(0, .ref (a 0))] []) → gK D vwCl (wdM a cI cJ) lgM A p l e { frames := 2, cells := 0, slots := 0, locals := 128 } s m args below meth c 2 (gQQ D vwCl (wdM a cI cJ) lgM A kI in32 below args s) (f_X9_image s0) s27 15 [(0, .ref (a 0)), (1, gI v26)] [] := by
    intro n29; induction n29 with
    | zero =>
      intro v26 s27 hq hm hk
      exfalso
      obtain ⟨hq45, hf_s27, hIR_s27, hq46, hq47, hq48, hq49⟩ := hq
      omega
    | succ n29 ih =>
      intro v26 s27 hq hm hk
      obtain ⟨hq50, hf_s27, hIR_s27, hq51, hq52, hq53, hq54⟩ := hq
      have hT := w_X9_image_15_s  n29 v26 s27
      refine k_iloadn (pc := 15) E 1 dX9_image_15 rfl rfl ?_
      refine k_bipush (pc := 16) E dX9_image_16 (by decide) ?_
      by_cases h32 : v26 < 16
      · replace hT := hT.trans (if_pos h32)
        refine k_icmp_ge_f (pc := 18) (tgt := 54) E (by omega) (by omega) dX9_image_18 (by decide) h32 ?_
        refine k_aloadn (pc := 21) E 0 dX9_image_21 rfl rfl ?_
        refine k_getf (pc := 22) (q0 := 0) (f := 11) (v := .ref (a 7)) E inX9 rfl rfl (by decide) wm_909 rfl rfl dX9_image_22 ?_
        refine k_iloadn (pc := 25) E 1 dX9_image_25 rfl rfl ?_
        refine k_aloadn (pc := 26) E 0 dX9_image_26 rfl rfl ?_
        refine k_getf (pc := 27) (q0 := 0) (f := 0) (v := .ref (a 1)) E inX9 rfl rfl (by decide) wm_898 rfl rfl dX9_image_27 ?_
        refine k_iloadn (pc := 30) E 1 dX9_image_30 rfl rfl ?_
        refine k_iaload (pc := 31) (q0 := 1) (t0 := 0) (k := 0) (n := 16) E rfl rfl rfl (by decide) (by omega) (by omega) dX9_image_31 (fun hr33 => ?_)
        have hi34 := hpre1 v26
        rw [← hf_s27 0 (by decide)] at hi34
        refine k_iastore (pc := 32) (q0 := 7) (t0 := 0) (k := 11) (n := 36) E rfl rfl rfl rfl (by decide) (by omega) (by omega) (by omega) dX9_image_32 ?_
        obtain ⟨s35, hs35, hT⟩ := glx hT
        refine k_sg hs35.symm ?_
        have hf_s35 : fr [9, 10, 11] s0 s35 := hs35 ▸ hf_s27.set (by decide)
        have hIR_s35 : IR s35 := hs35 ▸ IR_set hIR_s27 (by omega)
        have ht36 : s35 8 0 = s27 8 0 := by rw [hs35]; exact mset_ne _ _ _ _ _ (by decide)
        have ht37 : s35 9 0 = s27 9 0 := by rw [hs35]; exact mset_ne _ _ _ _ _ (by decide)
        have ht38 : s35 10 0 = s27 10 0 := by rw [hs35]; exact mset_ne _ _ _ _ _ (by decide)
        refine k_aloadn (pc := 33) E 0 dX9_image_33 rfl rfl ?_
        refine k_getf (pc := 34) (q0 := 0) (f := 11) (v := .ref (a 7)) E inX9 rfl rfl (by decide) wm_909 rfl rfl dX9_image_34 ?_
        refine k_bipush (pc := 37) E dX9_image_37 (by decide) ?_
        refine k_iloadn (pc := 39) E 1 dX9_image_39 rfl rfl ?_
        refine k_iadd (pc := 40) E dX9_image_40 ?_
        refine k_aloadn (pc := 41) E 0 dX9_image_41 rfl rfl ?_
        refine k_getf (pc := 42) (q0 := 0) (f := 1) (v := .ref (a 2)) E inX9 rfl rfl (by decide) wm_899 rfl rfl dX9_image_42 ?_
        refine k_iloadn (pc := 45) E 1 dX9_image_45 rfl rfl ?_
        refine k_iaload (pc := 46) (q0 := 2) (t0 := 0) (k := 1) (n := 16) E rfl rfl rfl (by decide) (by omega) (by omega) dX9_image_46 (fun hr39 => ?_)
        have hi40 := hpre2 v26
        rw [← hf_s35 1 (by decide)] at hi40
        refine k_iastore (pc := 47) (q0 := 7) (t0 := 0) (k := 11) (n := 36) E rfl rfl rfl rfl (by decide) (by omega) (by omega) (by omega) dX9_image_47 ?_
        obtain ⟨s41, hs41, hT⟩ := glx hT
        refine k_sg hs41.symm ?_
        have hf_s41 : fr [9, 10, 11] s0 s41 := hs41 ▸ hf_s35.set (by decide)
        have hIR_s41 : IR s41 := hs41 ▸ IR_set hIR_s35 (by omega)
        have ht42 : s41 8 0 = s35 8 0 := by rw [hs41]; exact mset_ne _ _ _ _ _ (by decide)
        have ht43 : s41 9 0 = s35 9 0 := by rw [hs41]; exact mset_ne _ _ _ _ _ (by decide)
        have ht44 : s41 10 0 = s35 10 0 := by rw [hs41]; exact mset_ne _ _ _ _ _ (by decide)
        refine k_iinc (pc := 48) (lv' := [(1, gI (v26 + 1)), (0, .ref (a 0))]) E 1 dX9_image_48 rfl (by decide) rfl ?_
        refine k_goto (pc := 51) (tgt := 15) E dX9_image_51 (by decide) ?_
        refine k_lv (lv' := [(0, .ref (a 0)), (1, gI (v26 + 1))]) [1, 0] rfl ?_
        exact ih (v26 + 1) s41 ⟨(by omega), hf_s41, hIR_s41, (by first | assumption | omega), (by first | assumption | omega), (by first | assumption | omega), (by first | assumption | omega)⟩ (by omega) (fun w30 s31 hw hi => hk w30 s31 (hT.trans hw) hi)
      · replace hT := hT.trans (if_neg h32)
        refine k_icmp_ge_t (pc := 18) (tgt := 54) E (by omega) (by omega) dX9_image_18 (by decide) h32 ?_
        refine k_lv (lv' := [(0, .ref (a 0))]) [0] rfl ?_
        exact hk v26 s27 hT ⟨(by omega), hf_s27, hIR_s27, (by first | assumption | omega), (by first | assumption | omega), (by first | assumption | omega), (by first | assumption | omega)⟩
  refine k_lv (lv' := [(0, .ref (a 0)), (1, gI 0)]) [1, 0] rfl ?_
  refine L28 17 0 s6 ⟨(by omega), hf_s6, hIR_s6, (by first | assumption | omega), (by first | assumption | omega), (by first | assumption | omega), (by first | assumption | omega)⟩ (by omega) (fun v55 s56 hw hq => ?_)
  obtain ⟨hq57, hf_s56, hIR_s56, hq58, hq59, hq60, hq61⟩ := hq
  replace hT := gl2y hT hw
  refine k_iconst (pc := 54) E dX9_image_54 ?_
  refine k_istoren (pc := 55) (lv' := [(1, gI 0), (0, .ref (a 0))]) E dX9_image_55 rfl (by decide) rfl ?_
  have L74 : ∀ (n75 : Nat) (v72 : Int) (s73 : gMem), ((in32 v72) ∧ (fr [9, 10, 11] s0 s73) ∧ (IR s73) ∧ (s73 8 0 = s56 8 0) ∧ (s73 9 0 = s56 9 0) ∧ (s73 10 0 = s56 10 0) ∧ (0 ≤ v72 ∧ v72 ≤ 4)) → 4 - v72 < (n75 : Int) → (∀ (w76 : Int) (s77 : gMem), (w_X9_image_56 n75 v72 s73) = (w76, s77) → ((in32 w76) ∧ (fr [9, 10, 11] s0 s77) ∧ (IR s77) ∧ (s77 8 0 = s56 8 0) ∧ (s77 9 0 = s56 9 0) ∧ (s77 10 0 = s56 10 0) ∧ (0 ≤ w76 ∧ w76 ≤ 4)) → gK D vwCl (wdM a cI cJ) lgM A p l e { frames := 2, cells := 0, slots := 0, locals := 128 } s m args below meth c 2 (gQQ D vwCl (wdM a cI cJ) lgM A kI in32 below args s) (f_X9_image s0) s77 82 [(0, .ref (a 0))] []) → gK D vwCl (wdM a cI cJ) lgM A p l e { frames := 2, cells := 0, slots := 0, locals := 128 } s m args below meth c 2 (gQQ D vwCl (wdM a cI cJ) lgM A kI in32 below args s) (f_X9_image s0) s73 56 [(0, .ref (a 0)), (1, gI v72)] [] := by
    intro n75; induction n75 with
    | zero =>
      intro v72 s73 hq hm hk
      exfalso
      obtain ⟨hq85, hf_s73, hIR_s73, hq86, hq87, hq88, hq89⟩ := hq
      omega
    | succ n75 ih =>
      intro v72 s73 hq hm hk
      obtain ⟨hq90, hf_s73, hIR_s73, hq91, hq92, hq93, hq94⟩ := hq
      have hT := w_X9_image_56_s  n75 v72 s73
      refine k_iloadn (pc := 56) E 1 dX9_image_56 rfl rfl ?_
      refine k_iconst (pc := 57) E dX9_image_57 ?_
      by_cases h78 : v72 < 4
      · replace hT := hT.trans (if_pos h78)
        refine k_icmp_ge_f (pc := 58) (tgt := 82) E (by omega) (by omega) dX9_image_58 (by decide) h78 ?_
        refine k_aloadn (pc := 61) E 0 dX9_image_61 rfl rfl ?_
        refine k_getf (pc := 62) (q0 := 0) (f := 11) (v := .ref (a 7)) E inX9 rfl rfl (by decide) wm_909 rfl rfl dX9_image_62 ?_
        refine k_bipush (pc := 65) E dX9_image_65 (by decide) ?_
        refine k_iloadn (pc := 67) E 1 dX9_image_67 rfl rfl ?_
        refine k_iadd (pc := 68) E dX9_image_68 ?_
        refine k_aloadn (pc := 69) E 0 dX9_image_69 rfl rfl ?_
        refine k_getf (pc := 70) (q0 := 0) (f := 2) (v := .ref (a 3)) E inX9 rfl rfl (by decide) wm_900 rfl rfl dX9_image_70 ?_
        refine k_iloadn (pc := 73) E 1 dX9_image_73 rfl rfl ?_
        refine k_iaload (pc := 74) (q0 := 3) (t0 := 0) (k := 2) (n := 4) E rfl rfl rfl (by decide) (by omega) (by omega) dX9_image_74 (fun hr79 => ?_)
        have hi80 := hpre3 v72
        rw [← hf_s73 2 (by decide)] at hi80
        refine k_iastore (pc := 75) (q0 := 7) (t0 := 0) (k := 11) (n := 36) E rfl rfl rfl rfl (by decide) (by omega) (by omega) (by omega) dX9_image_75 ?_
        obtain ⟨s81, hs81, hT⟩ := glx hT
        refine k_sg hs81.symm ?_
        have hf_s81 : fr [9, 10, 11] s0 s81 := hs81 ▸ hf_s73.set (by decide)
        have hIR_s81 : IR s81 := hs81 ▸ IR_set hIR_s73 (by omega)
        have ht82 : s81 8 0 = s73 8 0 := by rw [hs81]; exact mset_ne _ _ _ _ _ (by decide)
        have ht83 : s81 9 0 = s73 9 0 := by rw [hs81]; exact mset_ne _ _ _ _ _ (by decide)
        have ht84 : s81 10 0 = s73 10 0 := by rw [hs81]; exact mset_ne _ _ _ _ _ (by decide)
        refine k_iinc (pc := 76) (lv' := [(1, gI (v72 + 1)), (0, .ref (a 0))]) E 1 dX9_image_76 rfl (by decide) rfl ?_
        refine k_goto (pc := 79) (tgt := 56) E dX9_image_79 (by decide) ?_
        refine k_lv (lv' := [(0, .ref (a 0)), (1, gI (v72 + 1))]) [1, 0] rfl ?_
        exact ih (v72 + 1) s81 ⟨(by omega), hf_s81, hIR_s81, (by first | assumption | omega), (by first | assumption | omega), (by first | assumption | omega), (by first | assumption | omega)⟩ (by omega) (fun w76 s77 hw hi => hk w76 s77 (hT.trans hw) hi)
      · replace hT := hT.trans (if_neg h78)
        refine k_icmp_ge_t (pc := 58) (tgt := 82) E (by omega) (by omega) dX9_image_58 (by decide) h78 ?_
        refine k_lv (lv' := [(0, .ref (a 0))]) [0] rfl ?_
        exact hk v72 s73 hT ⟨(by omega), hf_s73, hIR_s73, (by first | assumption | omega), (by first | assumption | omega), (by first | assumption | omega), (by first | assumption | omega)⟩
  refine k_lv (lv' := [(0, .ref (a 0)), (1, gI 0)]) [1, 0] rfl ?_
  refine L74 5 0 s56 ⟨(by omega), hf_s56, hIR_s56, (by first | assumption | omega), (by first | assumption | omega), (by first | assumption | omega), (by first | assumption | omega)⟩ (by omega) (fun v95 s96 hw hq => ?_)
  obtain ⟨hq97, hf_s96, hIR_s96, hq98, hq99, hq100, hq101⟩ := hq
  replace hT := gl2y hT hw
  refine k_aloadn (pc := 82) E 0 dX9_image_82 rfl rfl ?_
  refine k_getf (pc := 83) (q0 := 0) (f := 2) (v := .ref (a 3)) E inX9 rfl rfl (by decide) wm_900 rfl rfl dX9_image_83 ?_
  refine k_iconst (pc := 86) E dX9_image_86 ?_
  refine k_iaload (pc := 87) (q0 := 3) (t0 := 0) (k := 2) (n := 4) E rfl rfl rfl (by decide) (by omega) (by omega) dX9_image_87 (fun hr102 => ?_)
  have hi103 := hpre3 1
  rw [← hf_s96 2 (by decide)] at hi103
  refine k_mr (fun hm_s96 => ?_)
  refine k_callS (pc := 88) (np := 1) (As := [gI (s96 2 1)]) (st := []) E (c_X9_ones l D a cI cJ cS cT s96 (s96 2 1) (by omega)) wm_1047 wm_11 wm_1045 wm_1046 (by decide +kernel) ⟨by decide, by decide⟩ rfl (Nat.le_of_ble_eq_true rfl) dX9_image_88 (ro_kk (fun hr104 => ?_))
  have hp105 := f_X9_ones_p (s96 2 1) (by omega) 
  refine k_st (st' := [gI (f_X9_ones (s96 2 1))]) rfl ?_
  exact k_rho hT (k_iret (pc := 91) E dX9_image_91 (by omega))

def w_X9_back_20  : Nat → Int → gMem → Int × gMem
  | 0, v8, s9 => (v8, s9)
  | n10 + 1, v8, s9 => (if v8 < 16 then gl (mset s9 0 v8 (s9 11 v8)) (fun s14 => gl (mset s14 1 v8 (s14 11 (16 + v8))) (fun s20 => (w_X9_back_20 n10 (v8 + 1) s20))) else (v8, s9))
theorem w_X9_back_20_s  (n10 : Nat) (v8 : Int) (s9 : gMem) : w_X9_back_20  (n10 + 1) v8 s9 = (if v8 < 16 then gl (mset s9 0 v8 (s9 11 v8)) (fun s14 => gl (mset s14 1 v8 (s14 11 (16 + v8))) (fun s20 => (w_X9_back_20 n10 (v8 + 1) s20))) else (v8, s9)) := rfl
def w_X9_back_61  : Nat → Int → gMem → Int × gMem
  | 0, v60, s61 => (v60, s61)
  | n62 + 1, v60, s61 => (if v60 < 4 then gl (mset s61 2 v60 (s61 11 (32 + v60))) (fun s66 => (w_X9_back_61 n62 (v60 + 1) s66)) else (v60, s61))
theorem w_X9_back_61_s  (n62 : Nat) (v60 : Int) (s61 : gMem) : w_X9_back_61  (n62 + 1) v60 s61 = (if v60 < 4 then gl (mset s61 2 v60 (s61 11 (32 + v60))) (fun s66 => (w_X9_back_61 n62 (v60 + 1) s66)) else (v60, s61)) := rfl
def f_X9_back  (s0 : gMem) : gRes := (if (s0 9 0) = 0 then ((-3), s0) else gl (mset s0 8 0 (s0 10 0)) (fun s4 => (gl2 (w_X9_back_20 17 0 s4) (fun v53 s54 => (gl2 (w_X9_back_61 5 0 s54) (fun v93 s94 => ((f_X9_ones (s94 2 1)), s94)))))))
theorem f_X9_back_e  (s0 : gMem) : f_X9_back s0 = (if (s0 9 0) = 0 then ((-3), s0) else gl (mset s0 8 0 (s0 10 0)) (fun s4 => (gl2 (w_X9_back_20 17 0 s4) (fun v53 s54 => (gl2 (w_X9_back_61 5 0 s54) (fun v93 s94 => ((f_X9_ones (s94 2 1)), s94))))))) := rfl
set_option maxRecDepth 100000 in
set_option maxHeartbeats 4000000 in
theorem f_X9_back_p  (s0 : gMem)  (hm_s0 : gMR lgM s0) (hpre0 : KN s0) (hpre1 : MO s0) (hpre2 : TD s0) (hpre3 : IR s0) (rZ : Int) (sZ : gMem) (hres : f_X9_back s0 = (rZ, sZ)) : (fr [0, 1, 2, 8] s0 sZ) ∧ (gMR lgM sZ) ∧ (in32 rZ) ∧ (KN sZ) ∧ (MO sZ) ∧ (TD sZ) ∧ ((s0 9 0 = 0 ∧ sZ 8 0 = s0 8 0) ∨ (¬ s0 9 0 = 0 ∧ sZ 8 0 = s0 10 0)) := by
  have hT := f_X9_back_e  s0
  have hf_s0 : fr [0, 1, 2, 8] s0 s0 := fr.rf _ _
  have hKN_s0 := hpre0
  have hMO_s0 := hpre1
  have hTD_s0 := hpre2
  have hr1 := (hm_s0 9 0).1 rfl
  by_cases h2 : (s0 9 0) = 0
  · replace hT := hT.trans (if_pos h2)
    obtain ⟨rfl, rfl⟩ := Prod.mk.inj (hT.symm.trans hres)
    exact ⟨hf_s0, hm_s0, (by omega), hKN_s0, hMO_s0, hTD_s0, (by first | assumption | omega)⟩
  · replace hT := hT.trans (if_neg h2)
    have hr3 := (hm_s0 10 0).1 rfl
    obtain ⟨s4, hs4, hT⟩ := glx hT
    have hf_s4 : fr [0, 1, 2, 8] s0 s4 := hs4 ▸ hf_s0.set (by decide)
    have hm_s4 : gMR lgM s4 := hs4 ▸ hm_s0.set32 rfl (by omega)
    have hKN_s4 : KN s4 := fun i => by rw [hs4, mset_ne _ _ _ _ _ (by decide)]; exact hKN_s0 i
    have hMO_s4 : MO s4 := fun i => by rw [hs4, mset_ne _ _ _ _ _ (by decide)]; exact hMO_s0 i
    have hTD_s4 : TD s4 := fun i => by rw [hs4, mset_ne _ _ _ _ _ (by decide)]; exact hTD_s0 i
    have ht5 : s4 8 0 = (s0 10 0) := by rw [hs4]; exact mset_eq _ _ _ _
    have ht6 : s4 9 0 = s0 9 0 := by rw [hs4]; exact mset_ne _ _ _ _ _ (by decide)
    have ht7 : s4 10 0 = s0 10 0 := by rw [hs4]; exact mset_ne _ _ _ _ _ (by decide)
    have L26 : ∀ (n27 : Nat) (v24 : Int) (s25 : gMem), ((in32 v24) ∧ (fr [0, 1, 2, 8] s0 s25) ∧ (gMR lgM s25) ∧ (KN s25) ∧ (MO s25) ∧ (TD s25) ∧ (s25 8 0 = s4 8 0) ∧ (s25 9 0 = s4 9 0) ∧ (s25 10 0 = s4 10 0) ∧ (0 ≤ v24 ∧ v24 ≤ 16)) → 16 - v24 < (n27 : Int) → (∀ (w28 : Int) (s29 : gMem), (w_X9_back_20 n27 v24 s25) = (w28, s29) → ((in32 w28) ∧ (fr [0, 1, 2, 8] s0 s29) ∧ (gMR lgM s29) ∧ (KN s29) ∧ (MO s29) ∧ (TD s29) ∧ (s29 8 0 = s4 8 0) ∧ (s29 9 0 = s4 9 0) ∧ (s29 10 0 = s4 10 0) ∧ (0 ≤ w28 ∧ w28 ≤ 16)) → (fr [0, 1, 2, 8] s0 sZ) ∧ (gMR lgM sZ) ∧ (in32 rZ) ∧ (KN sZ) ∧ (MO sZ) ∧ (TD sZ) ∧ ((s0 9 0 = 0 ∧ sZ 8 0 = s0 8 0) ∨ (¬ s0 9 0 = 0 ∧ sZ 8 0 = s0 10 0))) → (fr [0, 1, 2, 8] s0 sZ) ∧ (gMR lgM sZ) ∧ (in32 rZ) ∧ (KN sZ) ∧ (MO sZ) ∧ (TD sZ) ∧ ((s0 9 0 = 0 ∧ sZ 8 0 = s0 8 0) ∨ (¬ s0 9 0 = 0 ∧ sZ 8 0 = s0 10 0)) := by
      intro n27; induction n27 with
      | zero =>
        intro v24 s25 hq hm hk
        exfalso
        obtain ⟨hq43, hf_s25, hm_s25, hKN_s25, hMO_s25, hTD_s25, hq44, hq45, hq46, hq47⟩ := hq
        omega
      | succ n27 ih =>
        intro v24 s25 hq hm hk
        obtain ⟨hq48, hf_s25, hm_s25, hKN_s25, hMO_s25, hTD_s25, hq49, hq50, hq51, hq52⟩ := hq
        have hT := w_X9_back_20_s  n27 v24 s25
        by_cases h30 : v24 < 16
        · replace hT := hT.trans (if_pos h30)
          have hr31 := (hm_s25 11 v24).1 rfl
          have hi32 := hpre3 v24
          rw [← hf_s25 11 (by decide)] at hi32
          obtain ⟨s33, hs33, hT⟩ := glx hT
          have hf_s33 : fr [0, 1, 2, 8] s0 s33 := hs33 ▸ hf_s25.set (by decide)
          have hm_s33 : gMR lgM s33 := hs33 ▸ hm_s25.set32 rfl (by omega)
          have hKN_s33 : KN s33 := hs33 ▸ KN_set hKN_s25 (by omega)
          have hMO_s33 : MO s33 := fun i => by rw [hs33, mset_ne _ _ _ _ _ (by decide)]; exact hMO_s25 i
          have hTD_s33 : TD s33 := fun i => by rw [hs33, mset_ne _ _ _ _ _ (by decide)]; exact hTD_s25 i
          have ht34 : s33 8 0 = s25 8 0 := by rw [hs33]; exact mset_ne _ _ _ _ _ (by decide)
          have ht35 : s33 9 0 = s25 9 0 := by rw [hs33]; exact mset_ne _ _ _ _ _ (by decide)
          have ht36 : s33 10 0 = s25 10 0 := by rw [hs33]; exact mset_ne _ _ _ _ _ (by decide)
          have hr37 := (hm_s33 11 (16 + v24)).1 rfl
          have hi38 := hpre3 (16 + v24)
          rw [← hf_s33 11 (by decide)] at hi38
          obtain ⟨s39, hs39, hT⟩ := glx hT
          have hf_s39 : fr [0, 1, 2, 8] s0 s39 := hs39 ▸ hf_s33.set (by decide)
          have hm_s39 : gMR lgM s39 := hs39 ▸ hm_s33.set32 rfl (by omega)
          have hKN_s39 : KN s39 := fun i => by rw [hs39, mset_ne _ _ _ _ _ (by decide)]; exact hKN_s33 i
          have hMO_s39 : MO s39 := hs39 ▸ MO_set hMO_s33 (by omega)
          have hTD_s39 : TD s39 := fun i => by rw [hs39, mset_ne _ _ _ _ _ (by decide)]; exact hTD_s33 i
          have ht40 : s39 8 0 = s33 8 0 := by rw [hs39]; exact mset_ne _ _ _ _ _ (by decide)
          have ht41 : s39 9 0 = s33 9 0 := by rw [hs39]; exact mset_ne _ _ _ _ _ (by decide)
          have ht42 : s39 10 0 = s33 10 0 := by rw [hs39]; exact mset_ne _ _ _ _ _ (by decide)
          exact ih (v24 + 1) s39 ⟨(by omega), hf_s39, hm_s39, hKN_s39, hMO_s39, hTD_s39, (by first | assumption | omega), (by first | assumption | omega), (by first | assumption | omega), (by first | assumption | omega)⟩ (by omega) (fun w28 s29 hw hi => hk w28 s29 (hT.trans hw) hi)
        · replace hT := hT.trans (if_neg h30)
          exact hk v24 s25 hT ⟨(by omega), hf_s25, hm_s25, hKN_s25, hMO_s25, hTD_s25, (by first | assumption | omega), (by first | assumption | omega), (by first | assumption | omega), (by first | assumption | omega)⟩
    refine L26 17 0 s4 ⟨(by omega), hf_s4, hm_s4, hKN_s4, hMO_s4, hTD_s4, (by first | assumption | omega), (by first | assumption | omega), (by first | assumption | omega), (by first | assumption | omega)⟩ (by omega) (fun v53 s54 hw hq => ?_)
    obtain ⟨hq55, hf_s54, hm_s54, hKN_s54, hMO_s54, hTD_s54, hq56, hq57, hq58, hq59⟩ := hq
    replace hT := gl2y hT hw
    have L72 : ∀ (n73 : Nat) (v70 : Int) (s71 : gMem), ((in32 v70) ∧ (fr [0, 1, 2, 8] s0 s71) ∧ (gMR lgM s71) ∧ (KN s71) ∧ (MO s71) ∧ (TD s71) ∧ (s71 8 0 = s54 8 0) ∧ (s71 9 0 = s54 9 0) ∧ (s71 10 0 = s54 10 0) ∧ (0 ≤ v70 ∧ v70 ≤ 4)) → 4 - v70 < (n73 : Int) → (∀ (w74 : Int) (s75 : gMem), (w_X9_back_61 n73 v70 s71) = (w74, s75) → ((in32 w74) ∧ (fr [0, 1, 2, 8] s0 s75) ∧ (gMR lgM s75) ∧ (KN s75) ∧ (MO s75) ∧ (TD s75) ∧ (s75 8 0 = s54 8 0) ∧ (s75 9 0 = s54 9 0) ∧ (s75 10 0 = s54 10 0) ∧ (0 ≤ w74 ∧ w74 ≤ 4)) → (fr [0, 1, 2, 8] s0 sZ) ∧ (gMR lgM sZ) ∧ (in32 rZ) ∧ (KN sZ) ∧ (MO sZ) ∧ (TD sZ) ∧ ((s0 9 0 = 0 ∧ sZ 8 0 = s0 8 0) ∨ (¬ s0 9 0 = 0 ∧ sZ 8 0 = s0 10 0))) → (fr [0, 1, 2, 8] s0 sZ) ∧ (gMR lgM sZ) ∧ (in32 rZ) ∧ (KN sZ) ∧ (MO sZ) ∧ (TD sZ) ∧ ((s0 9 0 = 0 ∧ sZ 8 0 = s0 8 0) ∨ (¬ s0 9 0 = 0 ∧ sZ 8 0 = s0 10 0)) := by
      intro n73; induction n73 with
      | zero =>
        intro v70 s71 hq hm hk
        exfalso
        obtain ⟨hq83, hf_s71, hm_s71, hKN_s71, hMO_s71, hTD_s71, hq84, hq85, hq86, hq87⟩ := hq
        omega
      | succ n73 ih =>
        intro v70 s71 hq hm hk
        obtain ⟨hq88, hf_s71, hm_s71, hKN_s71, hMO_s71, hTD_s71, hq89, hq90, hq91, hq92⟩ := hq
        have hT := w_X9_back_61_s  n73 v70 s71
        by_cases h76 : v70 < 4
        · replace hT := hT.trans (if_pos h76)
          have hr77 := (hm_s71 11 (32 + v70)).1 rfl
          have hi78 := hpre3 (32 + v70)
          rw [← hf_s71 11 (by decide)] at hi78
          obtain ⟨s79, hs79, hT⟩ := glx hT
          have hf_s79 : fr [0, 1, 2, 8] s0 s79 := hs79 ▸ hf_s71.set (by decide)
          have hm_s79 : gMR lgM s79 := hs79 ▸ hm_s71.set32 rfl (by omega)
          have hKN_s79 : KN s79 := fun i => by rw [hs79, mset_ne _ _ _ _ _ (by decide)]; exact hKN_s71 i
          have hMO_s79 : MO s79 := fun i => by rw [hs79, mset_ne _ _ _ _ _ (by decide)]; exact hMO_s71 i
          have hTD_s79 : TD s79 := hs79 ▸ TD_set hTD_s71 (by omega)
          have ht80 : s79 8 0 = s71 8 0 := by rw [hs79]; exact mset_ne _ _ _ _ _ (by decide)
          have ht81 : s79 9 0 = s71 9 0 := by rw [hs79]; exact mset_ne _ _ _ _ _ (by decide)
          have ht82 : s79 10 0 = s71 10 0 := by rw [hs79]; exact mset_ne _ _ _ _ _ (by decide)
          exact ih (v70 + 1) s79 ⟨(by omega), hf_s79, hm_s79, hKN_s79, hMO_s79, hTD_s79, (by first | assumption | omega), (by first | assumption | omega), (by first | assumption | omega), (by first | assumption | omega)⟩ (by omega) (fun w74 s75 hw hi => hk w74 s75 (hT.trans hw) hi)
        · replace hT := hT.trans (if_neg h76)
          exact hk v70 s71 hT ⟨(by omega), hf_s71, hm_s71, hKN_s71, hMO_s71, hTD_s71, (by first | assumption | omega), (by first | assumption | omega), (by first | assumption | omega), (by first | assumption | omega)⟩
    refine L72 5 0 s54 ⟨(by omega), hf_s54, hm_s54, hKN_s54, hMO_s54, hTD_s54, (by first | assumption | omega), (by first | assumption | omega), (by first | assumption | omega), (by first | assumption | omega)⟩ (by omega) (fun v93 s94 hw hq => ?_)
    obtain ⟨hq95, hf_s94, hm_s94, hKN_s94, hMO_s94, hTD_s94, hq96, hq97, hq98, hq99⟩ := hq
    replace hT := gl2y hT hw
    have hr100 := (hm_s94 2 1).1 rfl
    have hi101 := hTD_s94 1
    have hp103 := f_X9_ones_p (s94 2 1) (by omega) 
    obtain ⟨rfl, rfl⟩ := Prod.mk.inj (hT.symm.trans hres)
    exact ⟨hf_s94, hm_s94, (by omega), hKN_s94, hMO_s94, hTD_s94, (by first | assumption | omega)⟩
set_option maxRecDepth 100000 in
set_option maxHeartbeats 4000000 in
theorem c_X9_back (l : Launch) (D : va_G) (a : Nat → Nat) (cI cJ cS cT : ClassId) (s0 : gMem)   (hpre0 : KN s0) (hpre1 : MO s0) (hpre2 : TD s0) (hpre3 : IR s0) : gC l yX9_back cX9_back 2 (some .int) 2 128 D vwCl (gT cI cJ cS cT) (wdM a cI cJ) lgM kI in32 [.ref (a 0)] s0 (f_X9_back s0) := by
  refine gC_of (by decide +kernel) (hwdM a cI cJ) (Nat.le_of_ble_eq_true rfl) ?_
  intro A p e R s m args below meth c hR E
  subst hR
  have hT := f_X9_back_e  s0
  have hf_s0 : fr [0, 1, 2, 8] s0 s0 := fr.rf _ _
  refine k_lv0 (lv' := [(0, .ref (a 0))]) rfl ?_
  refine k_mr (fun hm_s0 => ?_)
  have hKN_s0 := hpre0
  have hMO_s0 := hpre1
  have hTD_s0 := hpre2
  refine k_aloadn (pc := 0) E 0 dX9_back_0 rfl rfl ?_
  refine k_getfI (pc := 1) (q0 := 0) (f := 9) (k := 9) E inX9 rfl rfl (by decide) wm_907 rfl rfl rfl dX9_back_1 (fun hr1 => ?_)
  by_cases h2 : (s0 9 0) = 0
  · replace hT := hT.trans (if_pos h2)
    refine k_if_ne_f (pc := 4) (tgt := 10) E (by omega) dX9_back_4 (by decide) h2 ?_
    refine k_bipush (pc := 7) E dX9_back_7 (by decide) ?_
    exact k_rho hT (k_iret (pc := 9) E dX9_back_9 (by omega))
  · replace hT := hT.trans (if_neg h2)
    refine k_if_ne_t (pc := 4) (tgt := 10) E (by omega) dX9_back_4 (by decide) h2 ?_
    refine k_aloadn (pc := 10) E 0 dX9_back_10 rfl rfl ?_
    refine k_aloadn (pc := 11) E 0 dX9_back_11 rfl rfl ?_
    refine k_getfI (pc := 12) (q0 := 0) (f := 10) (k := 10) E inX9 rfl rfl (by decide) wm_908 rfl rfl rfl dX9_back_12 (fun hr3 => ?_)
    refine k_putfI (pc := 15) (q0 := 0) (f := 8) (k := 8) E tyX9 tyX9_ok nmX9 inX9 rfl rfl (by decide) wm_906 rfl rfl rfl (Nat.le_of_ble_eq_true rfl) rfl rfl (by omega) dX9_back_15 ?_
    obtain ⟨s4, hs4, hT⟩ := glx hT
    refine k_sg hs4.symm ?_
    have hf_s4 : fr [0, 1, 2, 8] s0 s4 := hs4 ▸ hf_s0.set (by decide)
    have hKN_s4 : KN s4 := fun i => by rw [hs4, mset_ne _ _ _ _ _ (by decide)]; exact hKN_s0 i
    have hMO_s4 : MO s4 := fun i => by rw [hs4, mset_ne _ _ _ _ _ (by decide)]; exact hMO_s0 i
    have hTD_s4 : TD s4 := fun i => by rw [hs4, mset_ne _ _ _ _ _ (by decide)]; exact hTD_s0 i
    have ht5 : s4 8 0 = (s0 10 0) := by rw [hs4]; exact mset_eq _ _ _ _
    have ht6 : s4 9 0 = s0 9 0 := by rw [hs4]; exact mset_ne _ _ _ _ _ (by decide)
    have ht7 : s4 10 0 = s0 10 0 := by rw [hs4]; exact mset_ne _ _ _ _ _ (by decide)
    refine k_iconst (pc := 18) E dX9_back_18 ?_
    refine k_istoren (pc := 19) (lv' := [(1, gI 0), (0, .ref (a 0))]) E dX9_back_19 rfl (by decide) rfl ?_
    have L26 : ∀ (n27 : Nat) (v24 : Int) (s25 : gMem), ((in32 v24) ∧ (fr [0, 1, 2, 8] s0 s25) ∧ (KN s25) ∧ (MO s25) ∧ (TD s25) ∧ (s25 8 0 = s4 8 0) ∧ (s25 9 0 = s4 9 0) ∧ (s25 10 0 = s4 10 0) ∧ (0 ≤ v24 ∧ v24 ≤ 16)) → 16 - v24 < (n27 : Int) → (∀ (w28 : Int) (s29 : gMem), (w_X9_back_20 n27 v24 s25) = (w28, s29) → ((in32 w28) ∧ (fr [0, 1, 2, 8] s0 s29) ∧ (KN s29) ∧ (MO s29) ∧ (TD s29) ∧ (s29 8 0 = s4 8 0) ∧ (s29 9 0 = s4 9 0) ∧ (s29 10 0 = s4 10 0) ∧ (0 ≤ w28 ∧ w28 ≤ 16)) → gK D vwCl (wdM a cI cJ) lgM A p l e { frames := 2, cells := 0, slots := 0, locals := 128 } s m args below meth c 2 (gQQ D vwCl (wdM a cI cJ) lgM A kI in32 below args s) (f_X9_back s0) s29 59 [(0, .ref (a 0))] []) → gK D vwCl (wdM a cI cJ) lgM A p l e { frames := 2, cells := 0, slots := 0, locals := 128 } s m args below meth c 2 (gQQ D vwCl (wdM a cI cJ) lgM A kI in32 below args s) (f_X9_back s0) s25 20 [(0, .ref (a 0)), (1, gI v24)] [] := by
      intro n27; induction n27 with
      | zero =>
        intro v24 s25 hq hm hk
        exfalso
        obtain ⟨hq43, hf_s25, hKN_s25, hMO_s25, hTD_s25, hq44, hq45, hq46, hq47⟩ := hq
        omega
      | succ n27 ih =>
        intro v24 s25 hq hm hk
        obtain ⟨hq48, hf_s25, hKN_s25, hMO_s25, hTD_s25, hq49, hq50, hq51, hq52⟩ := hq
        have hT := w_X9_back_20_s  n27 v24 s25
        refine k_iloadn (pc := 20) E 1 dX9_back_20 rfl rfl ?_
        refine k_bipush (pc := 21) E dX9_back_21 (by decide) ?_
        by_cases h30 : v24 < 16
        · replace hT := hT.trans (if_pos h30)
          refine k_icmp_ge_f (pc := 23) (tgt := 59) E (by omega) (by omega) dX9_back_23 (by decide) h30 ?_
          refine k_aloadn (pc := 26) E 0 dX9_back_26 rfl rfl ?_
          refine k_getf (pc := 27) (q0 := 0) (f := 0) (v := .ref (a 1)) E inX9 rfl rfl (by decide) wm_898 rfl rfl dX9_back_27 ?_
          refine k_iloadn (pc := 30) E 1 dX9_back_30 rfl rfl ?_
          refine k_aloadn (pc := 31) E 0 dX9_back_31 rfl rfl ?_
          refine k_getf (pc := 32) (q0 := 0) (f := 11) (v := .ref (a 7)) E inX9 rfl rfl (by decide) wm_909 rfl rfl dX9_back_32 ?_
          refine k_iloadn (pc := 35) E 1 dX9_back_35 rfl rfl ?_
          refine k_iaload (pc := 36) (q0 := 7) (t0 := 0) (k := 11) (n := 36) E rfl rfl rfl (by decide) (by omega) (by omega) dX9_back_36 (fun hr31 => ?_)
          have hi32 := hpre3 v24
          rw [← hf_s25 11 (by decide)] at hi32
          refine k_iastore (pc := 37) (q0 := 1) (t0 := 0) (k := 0) (n := 16) E rfl rfl rfl rfl (by decide) (by omega) (by omega) (by omega) dX9_back_37 ?_
          obtain ⟨s33, hs33, hT⟩ := glx hT
          refine k_sg hs33.symm ?_
          have hf_s33 : fr [0, 1, 2, 8] s0 s33 := hs33 ▸ hf_s25.set (by decide)
          have hKN_s33 : KN s33 := hs33 ▸ KN_set hKN_s25 (by omega)
          have hMO_s33 : MO s33 := fun i => by rw [hs33, mset_ne _ _ _ _ _ (by decide)]; exact hMO_s25 i
          have hTD_s33 : TD s33 := fun i => by rw [hs33, mset_ne _ _ _ _ _ (by decide)]; exact hTD_s25 i
          have ht34 : s33 8 0 = s25 8 0 := by rw [hs33]; exact mset_ne _ _ _ _ _ (by decide)
          have ht35 : s33 9 0 = s25 9 0 := by rw [hs33]; exact mset_ne _ _ _ _ _ (by decide)
          have ht36 : s33 10 0 = s25 10 0 := by rw [hs33]; exact mset_ne _ _ _ _ _ (by decide)
          refine k_aloadn (pc := 38) E 0 dX9_back_38 rfl rfl ?_
          refine k_getf (pc := 39) (q0 := 0) (f := 1) (v := .ref (a 2)) E inX9 rfl rfl (by decide) wm_899 rfl rfl dX9_back_39 ?_
          refine k_iloadn (pc := 42) E 1 dX9_back_42 rfl rfl ?_
          refine k_aloadn (pc := 43) E 0 dX9_back_43 rfl rfl ?_
          refine k_getf (pc := 44) (q0 := 0) (f := 11) (v := .ref (a 7)) E inX9 rfl rfl (by decide) wm_909 rfl rfl dX9_back_44 ?_
          refine k_bipush (pc := 47) E dX9_back_47 (by decide) ?_
          refine k_iloadn (pc := 49) E 1 dX9_back_49 rfl rfl ?_
          refine k_iadd (pc := 50) E dX9_back_50 ?_
          refine k_iaload (pc := 51) (q0 := 7) (t0 := 0) (k := 11) (n := 36) E rfl rfl rfl (by decide) (by omega) (by omega) dX9_back_51 (fun hr37 => ?_)
          have hi38 := hpre3 (16 + v24)
          rw [← hf_s33 11 (by decide)] at hi38
          refine k_iastore (pc := 52) (q0 := 2) (t0 := 0) (k := 1) (n := 16) E rfl rfl rfl rfl (by decide) (by omega) (by omega) (by omega) dX9_back_52 ?_
          obtain ⟨s39, hs39, hT⟩ := glx hT
          refine k_sg hs39.symm ?_
          have hf_s39 : fr [0, 1, 2, 8] s0 s39 := hs39 ▸ hf_s33.set (by decide)
          have hKN_s39 : KN s39 := fun i => by rw [hs39, mset_ne _ _ _ _ _ (by decide)]; exact hKN_s33 i
          have hMO_s39 : MO s39 := hs39 ▸ MO_set hMO_s33 (by omega)
          have hTD_s39 : TD s39 := fun i => by rw [hs39, mset_ne _ _ _ _ _ (by decide)]; exact hTD_s33 i
          have ht40 : s39 8 0 = s33 8 0 := by rw [hs39]; exact mset_ne _ _ _ _ _ (by decide)
          have ht41 : s39 9 0 = s33 9 0 := by rw [hs39]; exact mset_ne _ _ _ _ _ (by decide)
          have ht42 : s39 10 0 = s33 10 0 := by rw [hs39]; exact mset_ne _ _ _ _ _ (by decide)
          refine k_iinc (pc := 53) (lv' := [(1, gI (v24 + 1)), (0, .ref (a 0))]) E 1 dX9_back_53 rfl (by decide) rfl ?_
          refine k_goto (pc := 56) (tgt := 20) E dX9_back_56 (by decide) ?_
          refine k_lv (lv' := [(0, .ref (a 0)), (1, gI (v24 + 1))]) [1, 0] rfl ?_
          exact ih (v24 + 1) s39 ⟨(by omega), hf_s39, hKN_s39, hMO_s39, hTD_s39, (by first | assumption | omega), (by first | assumption | omega), (by first | assumption | omega), (by first | assumption | omega)⟩ (by omega) (fun w28 s29 hw hi => hk w28 s29 (hT.trans hw) hi)
        · replace hT := hT.trans (if_neg h30)
          refine k_icmp_ge_t (pc := 23) (tgt := 59) E (by omega) (by omega) dX9_back_23 (by decide) h30 ?_
          refine k_lv (lv' := [(0, .ref (a 0))]) [0] rfl ?_
          exact hk v24 s25 hT ⟨(by omega), hf_s25, hKN_s25, hMO_s25, hTD_s25, (by first | assumption | omega), (by first | assumption | omega), (by first | assumption | omega), (by first | assumption | omega)⟩
    refine k_lv (lv' := [(0, .ref (a 0)), (1, gI 0)]) [1, 0] rfl ?_
    refine L26 17 0 s4 ⟨(by omega), hf_s4, hKN_s4, hMO_s4, hTD_s4, (by first | assumption | omega), (by first | assumption | omega), (by first | assumption | omega), (by first | assumption | omega)⟩ (by omega) (fun v53 s54 hw hq => ?_)
    obtain ⟨hq55, hf_s54, hKN_s54, hMO_s54, hTD_s54, hq56, hq57, hq58, hq59⟩ := hq
    replace hT := gl2y hT hw
    refine k_iconst (pc := 59) E dX9_back_59 ?_
    refine k_istoren (pc := 60) (lv' := [(1, gI 0), (0, .ref (a 0))]) E dX9_back_60 rfl (by decide) rfl ?_
    have L72 : ∀ (n73 : Nat) (v70 : Int) (s71 : gMem), ((in32 v70) ∧ (fr [0, 1, 2, 8] s0 s71) ∧ (KN s71) ∧ (MO s71) ∧ (TD s71) ∧ (s71 8 0 = s54 8 0) ∧ (s71 9 0 = s54 9 0) ∧ (s71 10 0 = s54 10 0) ∧ (0 ≤ v70 ∧ v70 ≤ 4)) → 4 - v70 < (n73 : Int) → (∀ (w74 : Int) (s75 : gMem), (w_X9_back_61 n73 v70 s71) = (w74, s75) → ((in32 w74) ∧ (fr [0, 1, 2, 8] s0 s75) ∧ (KN s75) ∧ (MO s75) ∧ (TD s75) ∧ (s75 8 0 = s54 8 0) ∧ (s75 9 0 = s54 9 0) ∧ (s75 10 0 = s54 10 0) ∧ (0 ≤ w74 ∧ w74 ≤ 4)) → gK D vwCl (wdM a cI cJ) lgM A p l e { frames := 2, cells := 0, slots := 0, locals := 128 } s m args below meth c 2 (gQQ D vwCl (wdM a cI cJ) lgM A kI in32 below args s) (f_X9_back s0) s75 87 [(0, .ref (a 0))] []) → gK D vwCl (wdM a cI cJ) lgM A p l e { frames := 2, cells := 0, slots := 0, locals := 128 } s m args below meth c 2 (gQQ D vwCl (wdM a cI cJ) lgM A kI in32 below args s) (f_X9_back s0) s71 61 [(0, .ref (a 0)), (1, gI v70)] [] := by
      intro n73; induction n73 with
      | zero =>
        intro v70 s71 hq hm hk
        exfalso
        obtain ⟨hq83, hf_s71, hKN_s71, hMO_s71, hTD_s71, hq84, hq85, hq86, hq87⟩ := hq
        omega
      | succ n73 ih =>
        intro v70 s71 hq hm hk
        obtain ⟨hq88, hf_s71, hKN_s71, hMO_s71, hTD_s71, hq89, hq90, hq91, hq92⟩ := hq
        have hT := w_X9_back_61_s  n73 v70 s71
        refine k_iloadn (pc := 61) E 1 dX9_back_61 rfl rfl ?_
        refine k_iconst (pc := 62) E dX9_back_62 ?_
        by_cases h76 : v70 < 4
        · replace hT := hT.trans (if_pos h76)
          refine k_icmp_ge_f (pc := 63) (tgt := 87) E (by omega) (by omega) dX9_back_63 (by decide) h76 ?_
          refine k_aloadn (pc := 66) E 0 dX9_back_66 rfl rfl ?_
          refine k_getf (pc := 67) (q0 := 0) (f := 2) (v := .ref (a 3)) E inX9 rfl rfl (by decide) wm_900 rfl rfl dX9_back_67 ?_
          refine k_iloadn (pc := 70) E 1 dX9_back_70 rfl rfl ?_
          refine k_aloadn (pc := 71) E 0 dX9_back_71 rfl rfl ?_
          refine k_getf (pc := 72) (q0 := 0) (f := 11) (v := .ref (a 7)) E inX9 rfl rfl (by decide) wm_909 rfl rfl dX9_back_72 ?_
          refine k_bipush (pc := 75) E dX9_back_75 (by decide) ?_
          refine k_iloadn (pc := 77) E 1 dX9_back_77 rfl rfl ?_
          refine k_iadd (pc := 78) E dX9_back_78 ?_
          refine k_iaload (pc := 79) (q0 := 7) (t0 := 0) (k := 11) (n := 36) E rfl rfl rfl (by decide) (by omega) (by omega) dX9_back_79 (fun hr77 => ?_)
          have hi78 := hpre3 (32 + v70)
          rw [← hf_s71 11 (by decide)] at hi78
          refine k_iastore (pc := 80) (q0 := 3) (t0 := 0) (k := 2) (n := 4) E rfl rfl rfl rfl (by decide) (by omega) (by omega) (by omega) dX9_back_80 ?_
          obtain ⟨s79, hs79, hT⟩ := glx hT
          refine k_sg hs79.symm ?_
          have hf_s79 : fr [0, 1, 2, 8] s0 s79 := hs79 ▸ hf_s71.set (by decide)
          have hKN_s79 : KN s79 := fun i => by rw [hs79, mset_ne _ _ _ _ _ (by decide)]; exact hKN_s71 i
          have hMO_s79 : MO s79 := fun i => by rw [hs79, mset_ne _ _ _ _ _ (by decide)]; exact hMO_s71 i
          have hTD_s79 : TD s79 := hs79 ▸ TD_set hTD_s71 (by omega)
          have ht80 : s79 8 0 = s71 8 0 := by rw [hs79]; exact mset_ne _ _ _ _ _ (by decide)
          have ht81 : s79 9 0 = s71 9 0 := by rw [hs79]; exact mset_ne _ _ _ _ _ (by decide)
          have ht82 : s79 10 0 = s71 10 0 := by rw [hs79]; exact mset_ne _ _ _ _ _ (by decide)
          refine k_iinc (pc := 81) (lv' := [(1, gI (v70 + 1)), (0, .ref (a 0))]) E 1 dX9_back_81 rfl (by decide) rfl ?_
          refine k_goto (pc := 84) (tgt := 61) E dX9_back_84 (by decide) ?_
          refine k_lv (lv' := [(0, .ref (a 0)), (1, gI (v70 + 1))]) [1, 0] rfl ?_
          exact ih (v70 + 1) s79 ⟨(by omega), hf_s79, hKN_s79, hMO_s79, hTD_s79, (by first | assumption | omega), (by first | assumption | omega), (by first | assumption | omega), (by first | assumption | omega)⟩ (by omega) (fun w74 s75 hw hi => hk w74 s75 (hT.trans hw) hi)
        · replace hT := hT.trans (if_neg h76)
          refine k_icmp_ge_t (pc := 63) (tgt := 87) E (by omega) (by omega) dX9_back_63 (by decide) h76 ?_
          refine k_lv (lv' := [(0, .ref (a 0))]) [0] rfl ?_
          exact hk v70 s71 hT ⟨(by omega), hf_s71, hKN_s71, hMO_s71, hTD_s71, (by first | assumption | omega), (by first | assumption | omega), (by first | assumption | omega), (by first | assumption | omega)⟩
    refine k_lv (lv' := [(0, .ref (a 0)), (1, gI 0)]) [1, 0] rfl ?_
    refine L72 5 0 s54 ⟨(by omega), hf_s54, hKN_s54, hMO_s54, hTD_s54, (by first | assumption | omega), (by first | assumption | omega), (by first | assumption | omega), (by first | assumption | omega)⟩ (by omega) (fun v93 s94 hw hq => ?_)
    obtain ⟨hq95, hf_s94, hKN_s94, hMO_s94, hTD_s94, hq96, hq97, hq98, hq99⟩ := hq
    replace hT := gl2y hT hw
    refine k_aloadn (pc := 87) E 0 dX9_back_87 rfl rfl ?_
    refine k_getf (pc := 88) (q0 := 0) (f := 2) (v := .ref (a 3)) E inX9 rfl rfl (by decide) wm_900 rfl rfl dX9_back_88 ?_
    refine k_iconst (pc := 91) E dX9_back_91 ?_
    refine k_iaload (pc := 92) (q0 := 3) (t0 := 0) (k := 2) (n := 4) E rfl rfl rfl (by decide) (by omega) (by omega) dX9_back_92 (fun hr100 => ?_)
    have hi101 := hTD_s94 1
    refine k_mr (fun hm_s94 => ?_)
    refine k_callS (pc := 93) (np := 1) (As := [gI (s94 2 1)]) (st := []) E (c_X9_ones l D a cI cJ cS cT s94 (s94 2 1) (by omega)) wm_1047 wm_11 wm_1045 wm_1046 (by decide +kernel) ⟨by decide, by decide⟩ rfl (Nat.le_of_ble_eq_true rfl) dX9_back_93 (ro_kk (fun hr102 => ?_))
    have hp103 := f_X9_ones_p (s94 2 1) (by omega) 
    refine k_st (st' := [gI (f_X9_ones (s94 2 1))]) rfl ?_
    exact k_rho hT (k_iret (pc := 96) E dX9_back_96 (by omega))

def w_X9_sheet_70 (c1 : Int) : Nat → Int → gMem → Int × gMem
  | 0, v16, s17 => (v16, s17)
  | n18 + 1, v16, s17 => (if v16 < 40 then gl (mset s17 14 ((40 * c1) + v16) 0) (fun s20 => (w_X9_sheet_70 c1 n18 (v16 + 1) s20)) else (v16, s17))
theorem w_X9_sheet_70_s (c1 : Int) (n18 : Nat) (v16 : Int) (s17 : gMem) : w_X9_sheet_70 c1 (n18 + 1) v16 s17 = (if v16 < 40 then gl (mset s17 14 ((40 * c1) + v16) 0) (fun s20 => (w_X9_sheet_70 c1 n18 (v16 + 1) s20)) else (v16, s17)) := rfl
def f_X9_sheet (x0 : Int) (x1 : Int) (x2 : Int) (s0 : gMem) : gRes := (if (f_X9_in x0 0 3) = 0 then ((-2), s0) else (if (f_X9_in x1 (-1) 2) = 0 then ((-2), s0) else (gj (fun j8c => (if x1 = (-1) then j8c else (if 40 < x2 then ((-2), s0) else j8c))) ((gj (fun j10c => (if x1 = (-1) then j10c else (if x2 < 0 then ((-14), s0) else j10c))) (gl (mset s0 12 x0 x1) (fun s11 => (gl ((if x1 = (-1) then 0 else x2)) (fun v14 => gl (mset s11 13 x0 v14) (fun s15 => (gl2 (w_X9_sheet_70 x0 41 0 s15) (fun v33 s34 => (1, s34)))))))))))))
theorem f_X9_sheet_e (x0 : Int) (x1 : Int) (x2 : Int) (s0 : gMem) : f_X9_sheet x0 x1 x2 s0 = (if (f_X9_in x0 0 3) = 0 then ((-2), s0) else (if (f_X9_in x1 (-1) 2) = 0 then ((-2), s0) else (gj (fun j8c => (if x1 = (-1) then j8c else (if 40 < x2 then ((-2), s0) else j8c))) ((gj (fun j10c => (if x1 = (-1) then j10c else (if x2 < 0 then ((-14), s0) else j10c))) (gl (mset s0 12 x0 x1) (fun s11 => (gl ((if x1 = (-1) then 0 else x2)) (fun v14 => gl (mset s11 13 x0 v14) (fun s15 => (gl2 (w_X9_sheet_70 x0 41 0 s15) (fun v33 s34 => (1, s34))))))))))))) := rfl
set_option maxRecDepth 100000 in
set_option maxHeartbeats 4000000 in
theorem f_X9_sheet_p (x0 : Int) (x1 : Int) (x2 : Int) (s0 : gMem) (hx0 : in32 x0) (hx1 : in32 x1) (hx2 : in32 x2) (hm_s0 : gMR lgM s0) (hpre0 : SO s0) (hpre1 : SZ s0) (rZ : Int) (sZ : gMem) (hres : f_X9_sheet x0 x1 x2 s0 = (rZ, sZ)) : (fr [12, 13, 14] s0 sZ) ∧ (gMR lgM sZ) ∧ (in32 rZ) ∧ (SO sZ) ∧ (SZ sZ) := by
  have hT := f_X9_sheet_e x0 x1 x2 s0
  have hf_s0 : fr [12, 13, 14] s0 s0 := fr.rf _ _
  have hSO_s0 := hpre0
  have hSZ_s0 := hpre1
  have hp2 := f_X9_in_p x0 0 3 (by omega) (by omega) (by omega) 
  by_cases h3 : (f_X9_in x0 0 3) = 0
  · replace hT := hT.trans (if_pos h3)
    obtain ⟨rfl, rfl⟩ := Prod.mk.inj (hT.symm.trans hres)
    exact ⟨hf_s0, hm_s0, (by omega), hSO_s0, hSZ_s0⟩
  · replace hT := hT.trans (if_neg h3)
    have hp5 := f_X9_in_p x1 (-1) 2 (by omega) (by omega) (by omega) 
    by_cases h6 : (f_X9_in x1 (-1) 2) = 0
    · replace hT := hT.trans (if_pos h6)
      obtain ⟨rfl, rfl⟩ := Prod.mk.inj (hT.symm.trans hres)
      exact ⟨hf_s0, hm_s0, (by omega), hSO_s0, hSZ_s0⟩
    · replace hT := hT.trans (if_neg h6)
      obtain ⟨j8c, hj8c, hT⟩ := gjx hT
      have j8 : ((¬ x1 = -1 → x2 ≤ 40)) → (f_X9_sheet x0 x1 x2 s0) = j8c  → (fr [12, 13, 14] s0 sZ) ∧ (gMR lgM sZ) ∧ (in32 rZ) ∧ (SO sZ) ∧ (SZ sZ) := by
        intro  hq hT
        have hq42 := hq
        rw [hj8c] at hT
        obtain ⟨j10c, hj10c, hT⟩ := gjx hT
        have j10 : ((¬ x1 = -1 → 0 ≤ x2)) → (f_X9_sheet x0 x1 x2 s0) = j10c  → (fr [12, 13, 14] s0 sZ) ∧ (gMR lgM sZ) ∧ (in32 rZ) ∧ (SO sZ) ∧ (SZ sZ) := by
          intro  hq hT
          have hq40 := hq
          rw [hj10c] at hT
          obtain ⟨s11, hs11, hT⟩ := glx hT
          have hf_s11 : fr [12, 13, 14] s0 s11 := hs11 ▸ hf_s0.set (by decide)
          have hm_s11 : gMR lgM s11 := hs11 ▸ hm_s0.set32 rfl (by omega)
          have hSO_s11 : SO s11 := hs11 ▸ SO_set hSO_s0 (by omega)
          have hSZ_s11 : SZ s11 := fun i => by rw [hs11, mset_ne _ _ _ _ _ (by decide)]; exact hSZ_s0 i
          obtain ⟨z39, hz39, hT⟩ := gl1x hT
          have j13 : ∀ (v14 : Int), ((in32 v14) ∧ (0 ≤ v14 ∧ v14 ≤ 40)) → z39 = v14 → (fr [12, 13, 14] s0 sZ) ∧ (gMR lgM sZ) ∧ (in32 rZ) ∧ (SO sZ) ∧ (SZ sZ) := by
            intro v14 hq hz
            obtain ⟨hq37, hq38⟩ := hq
            replace hT := gl1y hT hz
            obtain ⟨s15, hs15, hT⟩ := glx hT
            have hf_s15 : fr [12, 13, 14] s0 s15 := hs15 ▸ hf_s11.set (by decide)
            have hm_s15 : gMR lgM s15 := hs15 ▸ hm_s11.set32 rfl (by omega)
            have hSO_s15 : SO s15 := fun i => by rw [hs15, mset_ne _ _ _ _ _ (by decide)]; exact hSO_s11 i
            have hSZ_s15 : SZ s15 := hs15 ▸ SZ_set hSZ_s11 (by omega)
            have L23 : ∀ (n24 : Nat) (v21 : Int) (s22 : gMem), ((in32 v21) ∧ (fr [12, 13, 14] s0 s22) ∧ (gMR lgM s22) ∧ (SO s22) ∧ (SZ s22) ∧ (0 ≤ v21 ∧ v21 ≤ 40)) → 40 - v21 < (n24 : Int) → (∀ (w25 : Int) (s26 : gMem), (w_X9_sheet_70 x0 n24 v21 s22) = (w25, s26) → ((in32 w25) ∧ (fr [12, 13, 14] s0 s26) ∧ (gMR lgM s26) ∧ (SO s26) ∧ (SZ s26) ∧ (0 ≤ w25 ∧ w25 ≤ 40)) → (fr [12, 13, 14] s0 sZ) ∧ (gMR lgM sZ) ∧ (in32 rZ) ∧ (SO sZ) ∧ (SZ sZ)) → (fr [12, 13, 14] s0 sZ) ∧ (gMR lgM sZ) ∧ (in32 rZ) ∧ (SO sZ) ∧ (SZ sZ) := by
              intro n24; induction n24 with
              | zero =>
                intro v21 s22 hq hm hk
                exfalso
                obtain ⟨hq29, hf_s22, hm_s22, hSO_s22, hSZ_s22, hq30⟩ := hq
                omega
              | succ n24 ih =>
                intro v21 s22 hq hm hk
                obtain ⟨hq31, hf_s22, hm_s22, hSO_s22, hSZ_s22, hq32⟩ := hq
                have hT := w_X9_sheet_70_s x0 n24 v21 s22
                by_cases h27 : v21 < 40
                · replace hT := hT.trans (if_pos h27)
                  obtain ⟨s28, hs28, hT⟩ := glx hT
                  have hf_s28 : fr [12, 13, 14] s0 s28 := hs28 ▸ hf_s22.set (by decide)
                  have hm_s28 : gMR lgM s28 := hs28 ▸ hm_s22.set32 rfl (by omega)
                  have hSO_s28 : SO s28 := fun i => by rw [hs28, mset_ne _ _ _ _ _ (by decide)]; exact hSO_s22 i
                  have hSZ_s28 : SZ s28 := fun i => by rw [hs28, mset_ne _ _ _ _ _ (by decide)]; exact hSZ_s22 i
                  exact ih (v21 + 1) s28 ⟨(by omega), hf_s28, hm_s28, hSO_s28, hSZ_s28, (by first | assumption | omega)⟩ (by omega) (fun w25 s26 hw hi => hk w25 s26 (hT.trans hw) hi)
                · replace hT := hT.trans (if_neg h27)
                  exact hk v21 s22 hT ⟨(by omega), hf_s22, hm_s22, hSO_s22, hSZ_s22, (by first | assumption | omega)⟩
            refine L23 41 0 s15 ⟨(by omega), hf_s15, hm_s15, hSO_s15, hSZ_s15, (by first | assumption | omega)⟩ (by omega) (fun v33 s34 hw hq => ?_)
            obtain ⟨hq35, hf_s34, hm_s34, hSO_s34, hSZ_s34, hq36⟩ := hq
            replace hT := gl2y hT hw
            obtain ⟨rfl, rfl⟩ := Prod.mk.inj (hT.symm.trans hres)
            exact ⟨hf_s34, hm_s34, (by omega), hSO_s34, hSZ_s34⟩
          replace hT := hz39
          by_cases h12 : x1 = (-1)
          · replace hT := hT.trans (if_pos h12)
            exact j13 0 ⟨(by omega), (by first | assumption | omega)⟩ hT
          · replace hT := hT.trans (if_neg h12)
            exact j13 x2 ⟨(by omega), (by first | assumption | omega)⟩ hT
        by_cases h9 : x1 = (-1)
        · replace hT := hT.trans (if_pos h9)
          exact j10  (by first | assumption | omega) hT
        · replace hT := hT.trans (if_neg h9)
          by_cases h41 : x2 < 0
          · replace hT := hT.trans (if_pos h41)
            obtain ⟨rfl, rfl⟩ := Prod.mk.inj (hT.symm.trans hres)
            exact ⟨hf_s0, hm_s0, (by omega), hSO_s0, hSZ_s0⟩
          · replace hT := hT.trans (if_neg h41)
            exact j10  (by first | assumption | omega) hT
      by_cases h7 : x1 = (-1)
      · replace hT := hT.trans (if_pos h7)
        exact j8  (by first | assumption | omega) hT
      · replace hT := hT.trans (if_neg h7)
        by_cases h43 : 40 < x2
        · replace hT := hT.trans (if_pos h43)
          obtain ⟨rfl, rfl⟩ := Prod.mk.inj (hT.symm.trans hres)
          exact ⟨hf_s0, hm_s0, (by omega), hSO_s0, hSZ_s0⟩
        · replace hT := hT.trans (if_neg h43)
          exact j8  (by first | assumption | omega) hT
set_option maxRecDepth 100000 in
set_option maxHeartbeats 4000000 in
theorem c_X9_sheet (l : Launch) (D : va_G) (a : Nat → Nat) (cI cJ cS cT : ClassId) (s0 : gMem) (x0 : Int) (x1 : Int) (x2 : Int) (hx0 : in32 x0) (hx1 : in32 x1) (hx2 : in32 x2) (hpre0 : SO s0) (hpre1 : SZ s0) : gC l yX9_sheet cX9_sheet 5 (some .int) 2 128 D vwCl (gT cI cJ cS cT) (wdM a cI cJ) lgM kI in32 [.ref (a 0), gI x0, gI x1, gI x2] s0 (f_X9_sheet x0 x1 x2 s0) := by
  refine gC_of (by decide +kernel) (hwdM a cI cJ) (Nat.le_of_ble_eq_true rfl) ?_
  intro A p e R s m args below meth c hR E
  subst hR
  have hT := f_X9_sheet_e x0 x1 x2 s0
  have hf_s0 : fr [12, 13, 14] s0 s0 := fr.rf _ _
  refine k_lv0 (lv' := [(0, .ref (a 0)), (1, gI x0), (2, gI x1), (3, gI x2)]) rfl ?_
  refine k_mr (fun hm_s0 => ?_)
  have hSO_s0 := hpre0
  have hSZ_s0 := hpre1
  refine k_iloadn (pc := 0) E 1 dX9_sheet_0 rfl rfl ?_
  refine k_iconst (pc := 1) E dX9_sheet_1 ?_
  refine k_iconst (pc := 2) E dX9_sheet_2 ?_
  refine k_mr (fun hm_s0 => ?_)
  refine k_callS (pc := 3) (np := 3) (As := [gI x0, gI 0, gI 3]) (st := []) E (c_X9_in l D a cI cJ cS cT s0 x0 0 3 (by omega) (by omega) (by omega)) wm_861 wm_11 wm_859 wm_860 (by decide +kernel) ⟨by decide, by decide⟩ rfl (Nat.le_of_ble_eq_true rfl) dX9_sheet_3 (ro_kk (fun hr1 => ?_))
  have hp2 := f_X9_in_p x0 0 3 (by omega) (by omega) (by omega) 
  refine k_st (st' := [gI (f_X9_in x0 0 3)]) rfl ?_
  by_cases h3 : (f_X9_in x0 0 3) = 0
  · replace hT := hT.trans (if_pos h3)
    refine k_if_eq_t (pc := 6) (tgt := 29) E (by omega) dX9_sheet_6 (by decide) h3 ?_
    refine k_bipush (pc := 29) E dX9_sheet_29 (by decide) ?_
    exact k_rho hT (k_iret (pc := 31) E dX9_sheet_31 (by omega))
  · replace hT := hT.trans (if_neg h3)
    refine k_if_eq_f (pc := 6) (tgt := 29) E (by omega) dX9_sheet_6 (by decide) h3 ?_
    refine k_iloadn (pc := 9) E 2 dX9_sheet_9 rfl rfl ?_
    refine k_iconst (pc := 10) E dX9_sheet_10 ?_
    refine k_iconst (pc := 11) E dX9_sheet_11 ?_
    refine k_mr (fun hm_s0 => ?_)
    refine k_callS (pc := 12) (np := 3) (As := [gI x1, gI (-1), gI 2]) (st := []) E (c_X9_in l D a cI cJ cS cT s0 x1 (-1) 2 (by omega) (by omega) (by omega)) wm_861 wm_11 wm_859 wm_860 (by decide +kernel) ⟨by decide, by decide⟩ rfl (Nat.le_of_ble_eq_true rfl) dX9_sheet_12 (ro_kk (fun hr4 => ?_))
    have hp5 := f_X9_in_p x1 (-1) 2 (by omega) (by omega) (by omega) 
    refine k_st (st' := [gI (f_X9_in x1 (-1) 2)]) rfl ?_
    by_cases h6 : (f_X9_in x1 (-1) 2) = 0
    · replace hT := hT.trans (if_pos h6)
      refine k_if_eq_t (pc := 15) (tgt := 29) E (by omega) dX9_sheet_15 (by decide) h6 ?_
      refine k_bipush (pc := 29) E dX9_sheet_29 (by decide) ?_
      exact k_rho hT (k_iret (pc := 31) E dX9_sheet_31 (by omega))
    · replace hT := hT.trans (if_neg h6)
      refine k_if_eq_f (pc := 15) (tgt := 29) E (by omega) dX9_sheet_15 (by decide) h6 ?_
      refine k_iloadn (pc := 18) E 2 dX9_sheet_18 rfl rfl ?_
      refine k_iconst (pc := 19) E dX9_sheet_19 ?_
      obtain ⟨j8c, hj8c, hT⟩ := gjx hT
      have j8 : ((¬ x1 = -1 → x2 ≤ 40)) → (f_X9_sheet x0 x1 x2 s0) = j8c  → gK D vwCl (wdM a cI cJ) lgM A p l e { frames := 2, cells := 0, slots := 0, locals := 128 } s m args below meth c 5 (gQQ D vwCl (wdM a cI cJ) lgM A kI in32 below args s) (f_X9_sheet x0 x1 x2 s0) s0 32 [(0, .ref (a 0)), (1, gI x0), (2, gI x1), (3, gI x2)] [] := by
        intro  hq hT
        have hq42 := hq
        rw [hj8c] at hT
        refine k_iloadn (pc := 32) E 2 dX9_sheet_32 rfl rfl ?_
        refine k_iconst (pc := 33) E dX9_sheet_33 ?_
        obtain ⟨j10c, hj10c, hT⟩ := gjx hT
        have j10 : ((¬ x1 = -1 → 0 ≤ x2)) → (f_X9_sheet x0 x1 x2 s0) = j10c  → gK D vwCl (wdM a cI cJ) lgM A p l e { frames := 2, cells := 0, slots := 0, locals := 128 } s m args below meth c 5 (gQQ D vwCl (wdM a cI cJ) lgM A kI in32 below args s) (f_X9_sheet x0 x1 x2 s0) s0 44 [(0, .ref (a 0)), (1, gI x0), (2, gI x1), (3, gI x2)] [] := by
          intro  hq hT
          have hq40 := hq
          rw [hj10c] at hT
          refine k_aloadn (pc := 44) E 0 dX9_sheet_44 rfl rfl ?_
          refine k_getf (pc := 45) (q0 := 0) (f := 12) (v := .ref (a 8)) E inX9 rfl rfl (by decide) wm_910 rfl rfl dX9_sheet_45 ?_
          refine k_iloadn (pc := 48) E 1 dX9_sheet_48 rfl rfl ?_
          refine k_iloadn (pc := 49) E 2 dX9_sheet_49 rfl rfl ?_
          refine k_iastore (pc := 50) (q0 := 8) (t0 := 0) (k := 12) (n := 4) E rfl rfl rfl rfl (by decide) (by omega) (by omega) (by omega) dX9_sheet_50 ?_
          obtain ⟨s11, hs11, hT⟩ := glx hT
          refine k_sg hs11.symm ?_
          have hf_s11 : fr [12, 13, 14] s0 s11 := hs11 ▸ hf_s0.set (by decide)
          have hSO_s11 : SO s11 := hs11 ▸ SO_set hSO_s0 (by omega)
          have hSZ_s11 : SZ s11 := fun i => by rw [hs11, mset_ne _ _ _ _ _ (by decide)]; exact hSZ_s0 i
          refine k_aloadn (pc := 51) E 0 dX9_sheet_51 rfl rfl ?_
          refine k_getf (pc := 52) (q0 := 0) (f := 13) (v := .ref (a 9)) E inX9 rfl rfl (by decide) wm_911 rfl rfl dX9_sheet_52 ?_
          refine k_iloadn (pc := 55) E 1 dX9_sheet_55 rfl rfl ?_
          refine k_iloadn (pc := 56) E 2 dX9_sheet_56 rfl rfl ?_
          refine k_iconst (pc := 57) E dX9_sheet_57 ?_
          obtain ⟨z39, hz39, hT⟩ := gl1x hT
          have j13 : ∀ (v14 : Int), ((in32 v14) ∧ (0 ≤ v14 ∧ v14 ≤ 40)) → z39 = v14 → gK D vwCl (wdM a cI cJ) lgM A p l e { frames := 2, cells := 0, slots := 0, locals := 128 } s m args below meth c 5 (gQQ D vwCl (wdM a cI cJ) lgM A kI in32 below args s) (f_X9_sheet x0 x1 x2 s0) s11 66 [(0, .ref (a 0)), (1, gI x0)] [gI v14, gI x0, .ref (a 9)] := by
            intro v14 hq hz
            obtain ⟨hq37, hq38⟩ := hq
            replace hT := gl1y hT hz
            refine k_iastore (pc := 66) (q0 := 9) (t0 := 0) (k := 13) (n := 4) E rfl rfl rfl rfl (by decide) (by omega) (by omega) (by omega) dX9_sheet_66 ?_
            obtain ⟨s15, hs15, hT⟩ := glx hT
            refine k_sg hs15.symm ?_
            have hf_s15 : fr [12, 13, 14] s0 s15 := hs15 ▸ hf_s11.set (by decide)
            have hSO_s15 : SO s15 := fun i => by rw [hs15, mset_ne _ _ _ _ _ (by decide)]; exact hSO_s11 i
            have hSZ_s15 : SZ s15 := hs15 ▸ SZ_set hSZ_s11 (by omega)
            refine k_iconst (pc := 67) E dX9_sheet_67 ?_
            refine k_istore (pc := 68) (lv' := [(4, gI 0), (0, .ref (a 0)), (1, gI x0)]) E dX9_sheet_68 (by decide) rfl ?_
            have L23 : ∀ (n24 : Nat) (v21 : Int) (s22 : gMem), ((in32 v21) ∧ (fr [12, 13, 14] s0 s22) ∧ (SO s22) ∧ (SZ s22) ∧ (0 ≤ v21 ∧ v21 ≤ 40)) → 40 - v21 < (n24 : Int) → (∀ (w25 : Int) (s26 : gMem), (w_X9_sheet_70 x0 n24 v21 s22) = (w25, s26) → ((in32 w25) ∧ (fr [12, 13, 14] s0 s26) ∧ (SO s26) ∧ (SZ s26) ∧ (0 ≤ w25 ∧ w25 ≤ 40)) → gK D vwCl (wdM a cI cJ) lgM A p l e { frames := 2, cells := 0, slots := 0, locals := 128 } s m args below meth c 5 (gQQ D vwCl (wdM a cI cJ) lgM A kI in32 below args s) (f_X9_sheet x0 x1 x2 s0) s26 96 [] []) → gK D vwCl (wdM a cI cJ) lgM A p l e { frames := 2, cells := 0, slots := 0, locals := 128 } s m args below meth c 5 (gQQ D vwCl (wdM a cI cJ) lgM A kI in32 below args s) (f_X9_sheet x0 x1 x2 s0) s22 70 [(0, .ref (a 0)), (1, gI x0), (4, gI v21)] [] := by
              intro n24; induction n24 with
              | zero =>
                intro v21 s22 hq hm hk
                exfalso
                obtain ⟨hq29, hf_s22, hSO_s22, hSZ_s22, hq30⟩ := hq
                omega
              | succ n24 ih =>
                intro v21 s22 hq hm hk
                obtain ⟨hq31, hf_s22, hSO_s22, hSZ_s22, hq32⟩ := hq
                have hT := w_X9_sheet_70_s x0 n24 v21 s22
                refine k_iload (pc := 70) E 2 dX9_sheet_70 rfl ?_
                refine k_bipush (pc := 72) E dX9_sheet_72 (by decide) ?_
                by_cases h27 : v21 < 40
                · replace hT := hT.trans (if_pos h27)
                  refine k_icmp_ge_f (pc := 74) (tgt := 96) E (by omega) (by omega) dX9_sheet_74 (by decide) h27 ?_
                  refine k_aloadn (pc := 77) E 0 dX9_sheet_77 rfl rfl ?_
                  refine k_getf (pc := 78) (q0 := 0) (f := 14) (v := .ref (a 10)) E inX9 rfl rfl (by decide) wm_912 rfl rfl dX9_sheet_78 ?_
                  refine k_bipush (pc := 81) E dX9_sheet_81 (by decide) ?_
                  refine k_iloadn (pc := 83) E 1 dX9_sheet_83 rfl rfl ?_
                  refine k_imul (pc := 84) E dX9_sheet_84 ?_
                  refine k_iload (pc := 85) E 2 dX9_sheet_85 rfl ?_
                  refine k_iadd (pc := 87) E dX9_sheet_87 ?_
                  refine k_iconst (pc := 88) E dX9_sheet_88 ?_
                  refine k_iastore (pc := 89) (q0 := 10) (t0 := 0) (k := 14) (n := 160) E rfl rfl rfl rfl (by decide) (by omega) (by omega) (by omega) dX9_sheet_89 ?_
                  obtain ⟨s28, hs28, hT⟩ := glx hT
                  refine k_sg hs28.symm ?_
                  have hf_s28 : fr [12, 13, 14] s0 s28 := hs28 ▸ hf_s22.set (by decide)
                  have hSO_s28 : SO s28 := fun i => by rw [hs28, mset_ne _ _ _ _ _ (by decide)]; exact hSO_s22 i
                  have hSZ_s28 : SZ s28 := fun i => by rw [hs28, mset_ne _ _ _ _ _ (by decide)]; exact hSZ_s22 i
                  refine k_iinc (pc := 90) (lv' := [(4, gI (v21 + 1)), (0, .ref (a 0)), (1, gI x0)]) E 2 dX9_sheet_90 rfl (by decide) rfl ?_
                  refine k_goto (pc := 93) (tgt := 70) E dX9_sheet_93 (by decide) ?_
                  refine k_lv (lv' := [(0, .ref (a 0)), (1, gI x0), (4, gI (v21 + 1))]) [1, 2, 0] rfl ?_
                  exact ih (v21 + 1) s28 ⟨(by omega), hf_s28, hSO_s28, hSZ_s28, (by first | assumption | omega)⟩ (by omega) (fun w25 s26 hw hi => hk w25 s26 (hT.trans hw) hi)
                · replace hT := hT.trans (if_neg h27)
                  refine k_icmp_ge_t (pc := 74) (tgt := 96) E (by omega) (by omega) dX9_sheet_74 (by decide) h27 ?_
                  refine k_lv (lv' := []) [] rfl ?_
                  exact hk v21 s22 hT ⟨(by omega), hf_s22, hSO_s22, hSZ_s22, (by first | assumption | omega)⟩
            refine k_lv (lv' := [(0, .ref (a 0)), (1, gI x0), (4, gI 0)]) [1, 2, 0] rfl ?_
            refine L23 41 0 s15 ⟨(by omega), hf_s15, hSO_s15, hSZ_s15, (by first | assumption | omega)⟩ (by omega) (fun v33 s34 hw hq => ?_)
            obtain ⟨hq35, hf_s34, hSO_s34, hSZ_s34, hq36⟩ := hq
            replace hT := gl2y hT hw
            refine k_iconst (pc := 96) E dX9_sheet_96 ?_
            exact k_rho hT (k_iret (pc := 97) E dX9_sheet_97 (by omega))
          replace hT := hz39
          by_cases h12 : x1 = (-1)
          · replace hT := hT.trans (if_pos h12)
            refine k_icmp_ne_f (pc := 58) (tgt := 65) E (by omega) (by omega) dX9_sheet_58 (by decide) h12 ?_
            refine k_iconst (pc := 61) E dX9_sheet_61 ?_
            refine k_goto (pc := 62) (tgt := 66) E dX9_sheet_62 (by decide) ?_
            refine k_lv (lv' := [(0, .ref (a 0)), (1, gI x0)]) [0, 1] rfl ?_
            exact j13 0 ⟨(by omega), (by first | assumption | omega)⟩ hT
          · replace hT := hT.trans (if_neg h12)
            refine k_icmp_ne_t (pc := 58) (tgt := 65) E (by omega) (by omega) dX9_sheet_58 (by decide) h12 ?_
            refine k_iloadn (pc := 65) E 3 dX9_sheet_65 rfl rfl ?_
            refine k_lv (lv' := [(0, .ref (a 0)), (1, gI x0)]) [0, 1] rfl ?_
            exact j13 x2 ⟨(by omega), (by first | assumption | omega)⟩ hT
        by_cases h9 : x1 = (-1)
        · replace hT := hT.trans (if_pos h9)
          refine k_icmp_eq_t (pc := 34) (tgt := 44) E (by omega) (by omega) dX9_sheet_34 (by decide) h9 ?_
          exact j10  (by first | assumption | omega) hT
        · replace hT := hT.trans (if_neg h9)
          refine k_icmp_eq_f (pc := 34) (tgt := 44) E (by omega) (by omega) dX9_sheet_34 (by decide) h9 ?_
          refine k_iloadn (pc := 37) E 3 dX9_sheet_37 rfl rfl ?_
          by_cases h41 : x2 < 0
          · replace hT := hT.trans (if_pos h41)
            refine k_if_ge_f (pc := 38) (tgt := 44) E (by omega) dX9_sheet_38 (by decide) h41 ?_
            refine k_bipush (pc := 41) E dX9_sheet_41 (by decide) ?_
            exact k_rho hT (k_iret (pc := 43) E dX9_sheet_43 (by omega))
          · replace hT := hT.trans (if_neg h41)
            refine k_if_ge_t (pc := 38) (tgt := 44) E (by omega) dX9_sheet_38 (by decide) h41 ?_
            exact j10  (by first | assumption | omega) hT
      by_cases h7 : x1 = (-1)
      · replace hT := hT.trans (if_pos h7)
        refine k_icmp_eq_t (pc := 20) (tgt := 32) E (by omega) (by omega) dX9_sheet_20 (by decide) h7 ?_
        exact j8  (by first | assumption | omega) hT
      · replace hT := hT.trans (if_neg h7)
        refine k_icmp_eq_f (pc := 20) (tgt := 32) E (by omega) (by omega) dX9_sheet_20 (by decide) h7 ?_
        refine k_iloadn (pc := 23) E 3 dX9_sheet_23 rfl rfl ?_
        refine k_bipush (pc := 24) E dX9_sheet_24 (by decide) ?_
        by_cases h43 : 40 < x2
        · replace hT := hT.trans (if_pos h43)
          refine k_icmp_le_f (pc := 26) (tgt := 32) E (by omega) (by omega) dX9_sheet_26 (by decide) h43 ?_
          refine k_bipush (pc := 29) E dX9_sheet_29 (by decide) ?_
          exact k_rho hT (k_iret (pc := 31) E dX9_sheet_31 (by omega))
        · replace hT := hT.trans (if_neg h43)
          refine k_icmp_le_t (pc := 26) (tgt := 32) E (by omega) (by omega) dX9_sheet_26 (by decide) h43 ?_
          exact j8  (by first | assumption | omega) hT

def f_X9_cell (x0 : Int) (x1 : Int) (x2 : Int) (s0 : gMem) : gRes := (if (f_X9_in x0 0 3) = 0 then ((-2), s0) else (if (s0 12 x0) = (-1) then ((-11), s0) else (if (f_X9_in x1 0 ((s0 13 x0) - 1)) = 0 then ((-12), s0) else (gl ((if (s0 12 x0) = 0 then ((Int32.ofInt x2).toInt8.toInt) else (if (s0 12 x0) = 1 then ((Int32.ofInt x2).toInt16.toInt) else x2))) (fun v16 => gl (mset s0 14 ((40 * x0) + x1) v16) (fun s17 => (1, s17)))))))
theorem f_X9_cell_e (x0 : Int) (x1 : Int) (x2 : Int) (s0 : gMem) : f_X9_cell x0 x1 x2 s0 = (if (f_X9_in x0 0 3) = 0 then ((-2), s0) else (if (s0 12 x0) = (-1) then ((-11), s0) else (if (f_X9_in x1 0 ((s0 13 x0) - 1)) = 0 then ((-12), s0) else (gl ((if (s0 12 x0) = 0 then ((Int32.ofInt x2).toInt8.toInt) else (if (s0 12 x0) = 1 then ((Int32.ofInt x2).toInt16.toInt) else x2))) (fun v16 => gl (mset s0 14 ((40 * x0) + x1) v16) (fun s17 => (1, s17))))))) := rfl
set_option maxRecDepth 100000 in
set_option maxHeartbeats 4000000 in
theorem f_X9_cell_p (x0 : Int) (x1 : Int) (x2 : Int) (s0 : gMem) (hx0 : in32 x0) (hx1 : in32 x1) (hx2 : in32 x2) (hm_s0 : gMR lgM s0) (hpre0 : SO s0) (hpre1 : SZ s0) (rZ : Int) (sZ : gMem) (hres : f_X9_cell x0 x1 x2 s0 = (rZ, sZ)) : (fr [14] s0 sZ) ∧ (gMR lgM sZ) ∧ (in32 rZ) := by
  have hT := f_X9_cell_e x0 x1 x2 s0
  have hf_s0 : fr [14] s0 s0 := fr.rf _ _
  have hp2 := f_X9_in_p x0 0 3 (by omega) (by omega) (by omega) 
  by_cases h3 : (f_X9_in x0 0 3) = 0
  · replace hT := hT.trans (if_pos h3)
    obtain ⟨rfl, rfl⟩ := Prod.mk.inj (hT.symm.trans hres)
    exact ⟨hf_s0, hm_s0, (by omega)⟩
  · replace hT := hT.trans (if_neg h3)
    have hr4 := (hm_s0 12 x0).1 rfl
    have hi5 := hpre0 x0
    by_cases h6 : (s0 12 x0) = (-1)
    · replace hT := hT.trans (if_pos h6)
      obtain ⟨rfl, rfl⟩ := Prod.mk.inj (hT.symm.trans hres)
      exact ⟨hf_s0, hm_s0, (by omega)⟩
    · replace hT := hT.trans (if_neg h6)
      have hr7 := (hm_s0 13 x0).1 rfl
      have hi8 := hpre1 x0
      have hp10 := f_X9_in_p x1 0 ((s0 13 x0) - 1) (by omega) (by omega) (by omega) 
      by_cases h11 : (f_X9_in x1 0 ((s0 13 x0) - 1)) = 0
      · replace hT := hT.trans (if_pos h11)
        obtain ⟨rfl, rfl⟩ := Prod.mk.inj (hT.symm.trans hres)
        exact ⟨hf_s0, hm_s0, (by omega)⟩
      · replace hT := hT.trans (if_neg h11)
        have hr12 := (hm_s0 12 x0).1 rfl
        have hi13 := hpre0 x0
        obtain ⟨z19, hz19, hT⟩ := gl1x hT
        have j15 : ∀ (v16 : Int), ((in32 v16)) → z19 = v16 → (fr [14] s0 sZ) ∧ (gMR lgM sZ) ∧ (in32 rZ) := by
          intro v16 hq hz
          have hq18 := hq
          replace hT := gl1y hT hz
          obtain ⟨s17, hs17, hT⟩ := glx hT
          have hf_s17 : fr [14] s0 s17 := hs17 ▸ hf_s0.set (by decide)
          have hm_s17 : gMR lgM s17 := hs17 ▸ hm_s0.set32 rfl (by omega)
          obtain ⟨rfl, rfl⟩ := Prod.mk.inj (hT.symm.trans hres)
          exact ⟨hf_s17, hm_s17, (by omega)⟩
        replace hT := hz19
        by_cases h14 : (s0 12 x0) = 0
        · replace hT := hT.trans (if_pos h14)
          have hb20 := i8_rg x2
          exact j15 ((Int32.ofInt x2).toInt8.toInt) (by omega) hT
        · replace hT := hT.trans (if_neg h14)
          have hr21 := (hm_s0 12 x0).1 rfl
          have hi22 := hpre0 x0
          by_cases h23 : (s0 12 x0) = 1
          · replace hT := hT.trans (if_pos h23)
            have hb24 := i16_rg x2
            exact j15 ((Int32.ofInt x2).toInt16.toInt) (by omega) hT
          · replace hT := hT.trans (if_neg h23)
            exact j15 x2 (by omega) hT
set_option maxRecDepth 100000 in
set_option maxHeartbeats 4000000 in
theorem c_X9_cell (l : Launch) (D : va_G) (a : Nat → Nat) (cI cJ cS cT : ClassId) (s0 : gMem) (x0 : Int) (x1 : Int) (x2 : Int) (hx0 : in32 x0) (hx1 : in32 x1) (hx2 : in32 x2) (hpre0 : SO s0) (hpre1 : SZ s0) : gC l yX9_cell cX9_cell 4 (some .int) 2 128 D vwCl (gT cI cJ cS cT) (wdM a cI cJ) lgM kI in32 [.ref (a 0), gI x0, gI x1, gI x2] s0 (f_X9_cell x0 x1 x2 s0) := by
  refine gC_of (by decide +kernel) (hwdM a cI cJ) (Nat.le_of_ble_eq_true rfl) ?_
  intro A p e R s m args below meth c hR E
  subst hR
  have hT := f_X9_cell_e x0 x1 x2 s0
  have hf_s0 : fr [14] s0 s0 := fr.rf _ _
  refine k_lv0 (lv' := [(0, .ref (a 0)), (1, gI x0), (2, gI x1), (3, gI x2)]) rfl ?_
  refine k_mr (fun hm_s0 => ?_)
  refine k_iloadn (pc := 0) E 1 dX9_cell_0 rfl rfl ?_
  refine k_iconst (pc := 1) E dX9_cell_1 ?_
  refine k_iconst (pc := 2) E dX9_cell_2 ?_
  refine k_mr (fun hm_s0 => ?_)
  refine k_callS (pc := 3) (np := 3) (As := [gI x0, gI 0, gI 3]) (st := []) E (c_X9_in l D a cI cJ cS cT s0 x0 0 3 (by omega) (by omega) (by omega)) wm_861 wm_11 wm_859 wm_860 (by decide +kernel) ⟨by decide, by decide⟩ rfl (Nat.le_of_ble_eq_true rfl) dX9_cell_3 (ro_kk (fun hr1 => ?_))
  have hp2 := f_X9_in_p x0 0 3 (by omega) (by omega) (by omega) 
  refine k_st (st' := [gI (f_X9_in x0 0 3)]) rfl ?_
  by_cases h3 : (f_X9_in x0 0 3) = 0
  · replace hT := hT.trans (if_pos h3)
    refine k_if_ne_f (pc := 6) (tgt := 12) E (by omega) dX9_cell_6 (by decide) h3 ?_
    refine k_bipush (pc := 9) E dX9_cell_9 (by decide) ?_
    exact k_rho hT (k_iret (pc := 11) E dX9_cell_11 (by omega))
  · replace hT := hT.trans (if_neg h3)
    refine k_if_ne_t (pc := 6) (tgt := 12) E (by omega) dX9_cell_6 (by decide) h3 ?_
    refine k_aloadn (pc := 12) E 0 dX9_cell_12 rfl rfl ?_
    refine k_getf (pc := 13) (q0 := 0) (f := 12) (v := .ref (a 8)) E inX9 rfl rfl (by decide) wm_910 rfl rfl dX9_cell_13 ?_
    refine k_iloadn (pc := 16) E 1 dX9_cell_16 rfl rfl ?_
    refine k_iaload (pc := 17) (q0 := 8) (t0 := 0) (k := 12) (n := 4) E rfl rfl rfl (by decide) (by omega) (by omega) dX9_cell_17 (fun hr4 => ?_)
    have hi5 := hpre0 x0
    refine k_iconst (pc := 18) E dX9_cell_18 ?_
    by_cases h6 : (s0 12 x0) = (-1)
    · replace hT := hT.trans (if_pos h6)
      refine k_icmp_ne_f (pc := 19) (tgt := 25) E (by omega) (by omega) dX9_cell_19 (by decide) h6 ?_
      refine k_bipush (pc := 22) E dX9_cell_22 (by decide) ?_
      exact k_rho hT (k_iret (pc := 24) E dX9_cell_24 (by omega))
    · replace hT := hT.trans (if_neg h6)
      refine k_icmp_ne_t (pc := 19) (tgt := 25) E (by omega) (by omega) dX9_cell_19 (by decide) h6 ?_
      refine k_iloadn (pc := 25) E 2 dX9_cell_25 rfl rfl ?_
      refine k_iconst (pc := 26) E dX9_cell_26 ?_
      refine k_aloadn (pc := 27) E 0 dX9_cell_27 rfl rfl ?_
      refine k_getf (pc := 28) (q0 := 0) (f := 13) (v := .ref (a 9)) E inX9 rfl rfl (by decide) wm_911 rfl rfl dX9_cell_28 ?_
      refine k_iloadn (pc := 31) E 1 dX9_cell_31 rfl rfl ?_
      refine k_iaload (pc := 32) (q0 := 9) (t0 := 0) (k := 13) (n := 4) E rfl rfl rfl (by decide) (by omega) (by omega) dX9_cell_32 (fun hr7 => ?_)
      have hi8 := hpre1 x0
      refine k_iconst (pc := 33) E dX9_cell_33 ?_
      refine k_isub (pc := 34) E dX9_cell_34 ?_
      refine k_mr (fun hm_s0 => ?_)
      refine k_callS (pc := 35) (np := 3) (As := [gI x1, gI 0, gI ((s0 13 x0) - 1)]) (st := []) E (c_X9_in l D a cI cJ cS cT s0 x1 0 ((s0 13 x0) - 1) (by omega) (by omega) (by omega)) wm_861 wm_11 wm_859 wm_860 (by decide +kernel) ⟨by decide, by decide⟩ rfl (Nat.le_of_ble_eq_true rfl) dX9_cell_35 (ro_kk (fun hr9 => ?_))
      have hp10 := f_X9_in_p x1 0 ((s0 13 x0) - 1) (by omega) (by omega) (by omega) 
      refine k_st (st' := [gI (f_X9_in x1 0 ((s0 13 x0) - 1))]) rfl ?_
      by_cases h11 : (f_X9_in x1 0 ((s0 13 x0) - 1)) = 0
      · replace hT := hT.trans (if_pos h11)
        refine k_if_ne_f (pc := 38) (tgt := 44) E (by omega) dX9_cell_38 (by decide) h11 ?_
        refine k_bipush (pc := 41) E dX9_cell_41 (by decide) ?_
        exact k_rho hT (k_iret (pc := 43) E dX9_cell_43 (by omega))
      · replace hT := hT.trans (if_neg h11)
        refine k_if_ne_t (pc := 38) (tgt := 44) E (by omega) dX9_cell_38 (by decide) h11 ?_
        refine k_aloadn (pc := 44) E 0 dX9_cell_44 rfl rfl ?_
        refine k_getf (pc := 45) (q0 := 0) (f := 14) (v := .ref (a 10)) E inX9 rfl rfl (by decide) wm_912 rfl rfl dX9_cell_45 ?_
        refine k_bipush (pc := 48) E dX9_cell_48 (by decide) ?_
        refine k_iloadn (pc := 50) E 1 dX9_cell_50 rfl rfl ?_
        refine k_imul (pc := 51) E dX9_cell_51 ?_
        refine k_iloadn (pc := 52) E 2 dX9_cell_52 rfl rfl ?_
        refine k_iadd (pc := 53) E dX9_cell_53 ?_
        refine k_aloadn (pc := 54) E 0 dX9_cell_54 rfl rfl ?_
        refine k_getf (pc := 55) (q0 := 0) (f := 12) (v := .ref (a 8)) E inX9 rfl rfl (by decide) wm_910 rfl rfl dX9_cell_55 ?_
        refine k_iloadn (pc := 58) E 1 dX9_cell_58 rfl rfl ?_
        refine k_iaload (pc := 59) (q0 := 8) (t0 := 0) (k := 12) (n := 4) E rfl rfl rfl (by decide) (by omega) (by omega) dX9_cell_59 (fun hr12 => ?_)
        have hi13 := hpre0 x0
        obtain ⟨z19, hz19, hT⟩ := gl1x hT
        have j15 : ∀ (v16 : Int), ((in32 v16)) → z19 = v16 → gK D vwCl (wdM a cI cJ) lgM A p l e { frames := 2, cells := 0, slots := 0, locals := 128 } s m args below meth c 4 (gQQ D vwCl (wdM a cI cJ) lgM A kI in32 below args s) (f_X9_cell x0 x1 x2 s0) s0 84 [] [gI v16, gI ((40 * x0) + x1), .ref (a 10)] := by
          intro v16 hq hz
          have hq18 := hq
          replace hT := gl1y hT hz
          refine k_iastore (pc := 84) (q0 := 10) (t0 := 0) (k := 14) (n := 160) E rfl rfl rfl rfl (by decide) (by omega) (by omega) (by omega) dX9_cell_84 ?_
          obtain ⟨s17, hs17, hT⟩ := glx hT
          refine k_sg hs17.symm ?_
          have hf_s17 : fr [14] s0 s17 := hs17 ▸ hf_s0.set (by decide)
          refine k_iconst (pc := 85) E dX9_cell_85 ?_
          exact k_rho hT (k_iret (pc := 86) E dX9_cell_86 (by omega))
        replace hT := hz19
        by_cases h14 : (s0 12 x0) = 0
        · replace hT := hT.trans (if_pos h14)
          refine k_if_ne_f (pc := 60) (tgt := 68) E (by omega) dX9_cell_60 (by decide) h14 ?_
          refine k_iloadn (pc := 63) E 3 dX9_cell_63 rfl rfl ?_
          refine k_i2b (pc := 64) E dX9_cell_64 ?_
          have hb20 := i8_rg x2
          refine k_goto (pc := 65) (tgt := 84) E dX9_cell_65 (by decide) ?_
          refine k_lv (lv' := []) [] rfl ?_
          exact j15 ((Int32.ofInt x2).toInt8.toInt) (by omega) hT
        · replace hT := hT.trans (if_neg h14)
          refine k_if_ne_t (pc := 60) (tgt := 68) E (by omega) dX9_cell_60 (by decide) h14 ?_
          refine k_aloadn (pc := 68) E 0 dX9_cell_68 rfl rfl ?_
          refine k_getf (pc := 69) (q0 := 0) (f := 12) (v := .ref (a 8)) E inX9 rfl rfl (by decide) wm_910 rfl rfl dX9_cell_69 ?_
          refine k_iloadn (pc := 72) E 1 dX9_cell_72 rfl rfl ?_
          refine k_iaload (pc := 73) (q0 := 8) (t0 := 0) (k := 12) (n := 4) E rfl rfl rfl (by decide) (by omega) (by omega) dX9_cell_73 (fun hr21 => ?_)
          have hi22 := hpre0 x0
          refine k_iconst (pc := 74) E dX9_cell_74 ?_
          by_cases h23 : (s0 12 x0) = 1
          · replace hT := hT.trans (if_pos h23)
            refine k_icmp_ne_f (pc := 75) (tgt := 83) E (by omega) (by omega) dX9_cell_75 (by decide) h23 ?_
            refine k_iloadn (pc := 78) E 3 dX9_cell_78 rfl rfl ?_
            refine k_i2s (pc := 79) E dX9_cell_79 ?_
            have hb24 := i16_rg x2
            refine k_goto (pc := 80) (tgt := 84) E dX9_cell_80 (by decide) ?_
            refine k_lv (lv' := []) [] rfl ?_
            exact j15 ((Int32.ofInt x2).toInt16.toInt) (by omega) hT
          · replace hT := hT.trans (if_neg h23)
            refine k_icmp_ne_t (pc := 75) (tgt := 83) E (by omega) (by omega) dX9_cell_75 (by decide) h23 ?_
            refine k_iloadn (pc := 83) E 3 dX9_cell_83 rfl rfl ?_
            refine k_lv (lv' := []) [] rfl ?_
            exact j15 x2 (by omega) hT

def w_X9_copy_147 (c5 : Int) (c6 : Int) (c7 : Int) : Nat → Int → gMem → Int × gMem
  | 0, v33, s34 => (v33, s34)
  | n35 + 1, v33, s34 => (if v33 < c5 then (gl ((if c6 < c7 then ((c5 - 1) - v33) else v33)) (fun v39 => gl (mset s34 14 (c7 + v39) (s34 14 (c6 + v39))) (fun s41 => (w_X9_copy_147 c5 c6 c7 n35 (v33 + 1) s41)))) else (v33, s34))
theorem w_X9_copy_147_s (c5 : Int) (c6 : Int) (c7 : Int) (n35 : Nat) (v33 : Int) (s34 : gMem) : w_X9_copy_147 c5 c6 c7 (n35 + 1) v33 s34 = (if v33 < c5 then (gl ((if c6 < c7 then ((c5 - 1) - v33) else v33)) (fun v39 => gl (mset s34 14 (c7 + v39) (s34 14 (c6 + v39))) (fun s41 => (w_X9_copy_147 c5 c6 c7 n35 (v33 + 1) s41)))) else (v33, s34)) := rfl
def f_X9_copy (x0 : Int) (x1 : Int) (x2 : Int) (x3 : Int) (x4 : Int) (s0 : gMem) : gRes := (if (f_X9_in x0 0 3) = 0 then ((-2), s0) else (if (f_X9_in x2 0 3) = 0 then ((-2), s0) else (if (s0 12 x0) = (-1) then ((-11), s0) else (if (s0 12 x2) = (-1) then ((-11), s0) else (if (s0 12 x0) = (s0 12 x2) then (if x4 < 0 then ((-12), s0) else (if x1 < 0 then ((-12), s0) else (if x3 < 0 then ((-12), s0) else (if (s0 13 x0) < x1 then ((-12), s0) else (if (s0 13 x2) < x3 then ((-12), s0) else (if ((s0 13 x0) - x1) < x4 then ((-12), s0) else (if ((s0 13 x2) - x3) < x4 then ((-12), s0) else (gl2 (w_X9_copy_147 x4 ((40 * x0) + x1) ((40 * x2) + x3) 41 0 s0) (fun v62 s63 => (x4, s63)))))))))) else ((-13), s0))))))
theorem f_X9_copy_e (x0 : Int) (x1 : Int) (x2 : Int) (x3 : Int) (x4 : Int) (s0 : gMem) : f_X9_copy x0 x1 x2 x3 x4 s0 = (if (f_X9_in x0 0 3) = 0 then ((-2), s0) else (if (f_X9_in x2 0 3) = 0 then ((-2), s0) else (if (s0 12 x0) = (-1) then ((-11), s0) else (if (s0 12 x2) = (-1) then ((-11), s0) else (if (s0 12 x0) = (s0 12 x2) then (if x4 < 0 then ((-12), s0) else (if x1 < 0 then ((-12), s0) else (if x3 < 0 then ((-12), s0) else (if (s0 13 x0) < x1 then ((-12), s0) else (if (s0 13 x2) < x3 then ((-12), s0) else (if ((s0 13 x0) - x1) < x4 then ((-12), s0) else (if ((s0 13 x2) - x3) < x4 then ((-12), s0) else (gl2 (w_X9_copy_147 x4 ((40 * x0) + x1) ((40 * x2) + x3) 41 0 s0) (fun v62 s63 => (x4, s63)))))))))) else ((-13), s0)))))) := rfl
set_option maxRecDepth 100000 in
set_option maxHeartbeats 4000000 in
theorem f_X9_copy_p (x0 : Int) (x1 : Int) (x2 : Int) (x3 : Int) (x4 : Int) (s0 : gMem) (hx0 : in32 x0) (hx1 : in32 x1) (hx2 : in32 x2) (hx3 : in32 x3) (hx4 : in32 x4) (hm_s0 : gMR lgM s0) (hpre0 : SO s0) (hpre1 : SZ s0) (rZ : Int) (sZ : gMem) (hres : f_X9_copy x0 x1 x2 x3 x4 s0 = (rZ, sZ)) : (fr [14] s0 sZ) ∧ (gMR lgM sZ) ∧ (in32 rZ) := by
  have hT := f_X9_copy_e x0 x1 x2 x3 x4 s0
  have hf_s0 : fr [14] s0 s0 := fr.rf _ _
  have hp2 := f_X9_in_p x0 0 3 (by omega) (by omega) (by omega) 
  by_cases h3 : (f_X9_in x0 0 3) = 0
  · replace hT := hT.trans (if_pos h3)
    obtain ⟨rfl, rfl⟩ := Prod.mk.inj (hT.symm.trans hres)
    exact ⟨hf_s0, hm_s0, (by omega)⟩
  · replace hT := hT.trans (if_neg h3)
    have hp5 := f_X9_in_p x2 0 3 (by omega) (by omega) (by omega) 
    by_cases h6 : (f_X9_in x2 0 3) = 0
    · replace hT := hT.trans (if_pos h6)
      obtain ⟨rfl, rfl⟩ := Prod.mk.inj (hT.symm.trans hres)
      exact ⟨hf_s0, hm_s0, (by omega)⟩
    · replace hT := hT.trans (if_neg h6)
      have hr7 := (hm_s0 12 x0).1 rfl
      have hi8 := hpre0 x0
      by_cases h9 : (s0 12 x0) = (-1)
      · replace hT := hT.trans (if_pos h9)
        obtain ⟨rfl, rfl⟩ := Prod.mk.inj (hT.symm.trans hres)
        exact ⟨hf_s0, hm_s0, (by omega)⟩
      · replace hT := hT.trans (if_neg h9)
        have hr10 := (hm_s0 12 x2).1 rfl
        have hi11 := hpre0 x2
        by_cases h12 : (s0 12 x2) = (-1)
        · replace hT := hT.trans (if_pos h12)
          obtain ⟨rfl, rfl⟩ := Prod.mk.inj (hT.symm.trans hres)
          exact ⟨hf_s0, hm_s0, (by omega)⟩
        · replace hT := hT.trans (if_neg h12)
          have hr13 := (hm_s0 12 x0).1 rfl
          have hi14 := hpre0 x0
          have hr15 := (hm_s0 12 x2).1 rfl
          have hi16 := hpre0 x2
          by_cases h17 : (s0 12 x0) = (s0 12 x2)
          · replace hT := hT.trans (if_pos h17)
            by_cases h18 : x4 < 0
            · replace hT := hT.trans (if_pos h18)
              obtain ⟨rfl, rfl⟩ := Prod.mk.inj (hT.symm.trans hres)
              exact ⟨hf_s0, hm_s0, (by omega)⟩
            · replace hT := hT.trans (if_neg h18)
              by_cases h19 : x1 < 0
              · replace hT := hT.trans (if_pos h19)
                obtain ⟨rfl, rfl⟩ := Prod.mk.inj (hT.symm.trans hres)
                exact ⟨hf_s0, hm_s0, (by omega)⟩
              · replace hT := hT.trans (if_neg h19)
                by_cases h20 : x3 < 0
                · replace hT := hT.trans (if_pos h20)
                  obtain ⟨rfl, rfl⟩ := Prod.mk.inj (hT.symm.trans hres)
                  exact ⟨hf_s0, hm_s0, (by omega)⟩
                · replace hT := hT.trans (if_neg h20)
                  have hr21 := (hm_s0 13 x0).1 rfl
                  have hi22 := hpre1 x0
                  by_cases h23 : (s0 13 x0) < x1
                  · replace hT := hT.trans (if_pos h23)
                    obtain ⟨rfl, rfl⟩ := Prod.mk.inj (hT.symm.trans hres)
                    exact ⟨hf_s0, hm_s0, (by omega)⟩
                  · replace hT := hT.trans (if_neg h23)
                    have hr24 := (hm_s0 13 x2).1 rfl
                    have hi25 := hpre1 x2
                    by_cases h26 : (s0 13 x2) < x3
                    · replace hT := hT.trans (if_pos h26)
                      obtain ⟨rfl, rfl⟩ := Prod.mk.inj (hT.symm.trans hres)
                      exact ⟨hf_s0, hm_s0, (by omega)⟩
                    · replace hT := hT.trans (if_neg h26)
                      have hr27 := (hm_s0 13 x0).1 rfl
                      have hi28 := hpre1 x0
                      by_cases h29 : ((s0 13 x0) - x1) < x4
                      · replace hT := hT.trans (if_pos h29)
                        obtain ⟨rfl, rfl⟩ := Prod.mk.inj (hT.symm.trans hres)
                        exact ⟨hf_s0, hm_s0, (by omega)⟩
                      · replace hT := hT.trans (if_neg h29)
                        have hr30 := (hm_s0 13 x2).1 rfl
                        have hi31 := hpre1 x2
                        by_cases h32 : ((s0 13 x2) - x3) < x4
                        · replace hT := hT.trans (if_pos h32)
                          obtain ⟨rfl, rfl⟩ := Prod.mk.inj (hT.symm.trans hres)
                          exact ⟨hf_s0, hm_s0, (by omega)⟩
                        · replace hT := hT.trans (if_neg h32)
                          have L46 : ∀ (n47 : Nat) (v44 : Int) (s45 : gMem), ((in32 v44) ∧ (fr [14] s0 s45) ∧ (gMR lgM s45) ∧ (0 ≤ v44 ∧ v44 ≤ x4)) → x4 - v44 < (n47 : Int) → (∀ (w48 : Int) (s49 : gMem), (w_X9_copy_147 x4 ((40 * x0) + x1) ((40 * x2) + x3) n47 v44 s45) = (w48, s49) → ((in32 w48) ∧ (fr [14] s0 s49) ∧ (gMR lgM s49) ∧ (0 ≤ w48 ∧ w48 ≤ x4)) → (fr [14] s0 sZ) ∧ (gMR lgM sZ) ∧ (in32 rZ)) → (fr [14] s0 sZ) ∧ (gMR lgM sZ) ∧ (in32 rZ) := by
                            intro n47; induction n47 with
                            | zero =>
                              intro v44 s45 hq hm hk
                              exfalso
                              obtain ⟨hq58, hf_s45, hm_s45, hq59⟩ := hq
                              omega
                            | succ n47 ih =>
                              intro v44 s45 hq hm hk
                              obtain ⟨hq60, hf_s45, hm_s45, hq61⟩ := hq
                              have hT := w_X9_copy_147_s x4 ((40 * x0) + x1) ((40 * x2) + x3) n47 v44 s45
                              by_cases h50 : v44 < x4
                              · replace hT := hT.trans (if_pos h50)
                                obtain ⟨z57, hz57, hT⟩ := gl1x hT
                                have j52 : ∀ (v53 : Int), ((in32 v53)) → z57 = v53 → (fr [14] s0 sZ) ∧ (gMR lgM sZ) ∧ (in32 rZ) := by
                                  intro v53 hq hz
                                  have hq56 := hq
                                  replace hT := gl1y hT hz
                                  have hr54 := (hm_s45 14 (((40 * x0) + x1) + v53)).1 rfl
                                  obtain ⟨s55, hs55, hT⟩ := glx hT
                                  have hf_s55 : fr [14] s0 s55 := hs55 ▸ hf_s45.set (by decide)
                                  have hm_s55 : gMR lgM s55 := hs55 ▸ hm_s45.set32 rfl (by omega)
                                  exact ih (v44 + 1) s55 ⟨(by omega), hf_s55, hm_s55, (by first | assumption | omega)⟩ (by omega) (fun w48 s49 hw hi => hk w48 s49 (hT.trans hw) hi)
                                replace hT := hz57
                                by_cases h51 : ((40 * x0) + x1) < ((40 * x2) + x3)
                                · replace hT := hT.trans (if_pos h51)
                                  exact j52 ((x4 - 1) - v44) (by omega) hT
                                · replace hT := hT.trans (if_neg h51)
                                  exact j52 v44 (by omega) hT
                              · replace hT := hT.trans (if_neg h50)
                                exact hk v44 s45 hT ⟨(by omega), hf_s45, hm_s45, (by first | assumption | omega)⟩
                          refine L46 41 0 s0 ⟨(by omega), hf_s0, hm_s0, (by first | assumption | omega)⟩ (by omega) (fun v62 s63 hw hq => ?_)
                          obtain ⟨hq64, hf_s63, hm_s63, hq65⟩ := hq
                          replace hT := gl2y hT hw
                          obtain ⟨rfl, rfl⟩ := Prod.mk.inj (hT.symm.trans hres)
                          exact ⟨hf_s63, hm_s63, (by omega)⟩
          · replace hT := hT.trans (if_neg h17)
            obtain ⟨rfl, rfl⟩ := Prod.mk.inj (hT.symm.trans hres)
            exact ⟨hf_s0, hm_s0, (by omega)⟩
set_option maxRecDepth 100000 in
set_option maxHeartbeats 4000000 in
theorem c_X9_copy (l : Launch) (D : va_G) (a : Nat → Nat) (cI cJ cS cT : ClassId) (s0 : gMem) (x0 : Int) (x1 : Int) (x2 : Int) (x3 : Int) (x4 : Int) (hx0 : in32 x0) (hx1 : in32 x1) (hx2 : in32 x2) (hx3 : in32 x3) (hx4 : in32 x4) (hpre0 : SO s0) (hpre1 : SZ s0) : gC l yX9_copy cX9_copy 10 (some .int) 2 128 D vwCl (gT cI cJ cS cT) (wdM a cI cJ) lgM kI in32 [.ref (a 0), gI x0, gI x1, gI x2, gI x3, gI x4] s0 (f_X9_copy x0 x1 x2 x3 x4 s0) := by
  refine gC_of (by decide +kernel) (hwdM a cI cJ) (Nat.le_of_ble_eq_true rfl) ?_
  intro A p e R s m args below meth c hR E
  subst hR
  have hT := f_X9_copy_e x0 x1 x2 x3 x4 s0
  have hf_s0 : fr [14] s0 s0 := fr.rf _ _
  refine k_lv0 (lv' := [(0, .ref (a 0)), (1, gI x0), (2, gI x1), (3, gI x2), (4, gI x3), (5, gI x4)]) rfl ?_
  refine k_mr (fun hm_s0 => ?_)
  refine k_iloadn (pc := 0) E 1 dX9_copy_0 rfl rfl ?_
  refine k_iconst (pc := 1) E dX9_copy_1 ?_
  refine k_iconst (pc := 2) E dX9_copy_2 ?_
  refine k_mr (fun hm_s0 => ?_)
  refine k_callS (pc := 3) (np := 3) (As := [gI x0, gI 0, gI 3]) (st := []) E (c_X9_in l D a cI cJ cS cT s0 x0 0 3 (by omega) (by omega) (by omega)) wm_861 wm_11 wm_859 wm_860 (by decide +kernel) ⟨by decide, by decide⟩ rfl (Nat.le_of_ble_eq_true rfl) dX9_copy_3 (ro_kk (fun hr1 => ?_))
  have hp2 := f_X9_in_p x0 0 3 (by omega) (by omega) (by omega) 
  refine k_st (st' := [gI (f_X9_in x0 0 3)]) rfl ?_
  by_cases h3 : (f_X9_in x0 0 3) = 0
  · replace hT := hT.trans (if_pos h3)
    refine k_if_eq_t (pc := 6) (tgt := 18) E (by omega) dX9_copy_6 (by decide) h3 ?_
    refine k_bipush (pc := 18) E dX9_copy_18 (by decide) ?_
    exact k_rho hT (k_iret (pc := 20) E dX9_copy_20 (by omega))
  · replace hT := hT.trans (if_neg h3)
    refine k_if_eq_f (pc := 6) (tgt := 18) E (by omega) dX9_copy_6 (by decide) h3 ?_
    refine k_iloadn (pc := 9) E 3 dX9_copy_9 rfl rfl ?_
    refine k_iconst (pc := 10) E dX9_copy_10 ?_
    refine k_iconst (pc := 11) E dX9_copy_11 ?_
    refine k_mr (fun hm_s0 => ?_)
    refine k_callS (pc := 12) (np := 3) (As := [gI x2, gI 0, gI 3]) (st := []) E (c_X9_in l D a cI cJ cS cT s0 x2 0 3 (by omega) (by omega) (by omega)) wm_861 wm_11 wm_859 wm_860 (by decide +kernel) ⟨by decide, by decide⟩ rfl (Nat.le_of_ble_eq_true rfl) dX9_copy_12 (ro_kk (fun hr4 => ?_))
    have hp5 := f_X9_in_p x2 0 3 (by omega) (by omega) (by omega) 
    refine k_st (st' := [gI (f_X9_in x2 0 3)]) rfl ?_
    by_cases h6 : (f_X9_in x2 0 3) = 0
    · replace hT := hT.trans (if_pos h6)
      refine k_if_ne_f (pc := 15) (tgt := 21) E (by omega) dX9_copy_15 (by decide) h6 ?_
      refine k_bipush (pc := 18) E dX9_copy_18 (by decide) ?_
      exact k_rho hT (k_iret (pc := 20) E dX9_copy_20 (by omega))
    · replace hT := hT.trans (if_neg h6)
      refine k_if_ne_t (pc := 15) (tgt := 21) E (by omega) dX9_copy_15 (by decide) h6 ?_
      refine k_aloadn (pc := 21) E 0 dX9_copy_21 rfl rfl ?_
      refine k_getf (pc := 22) (q0 := 0) (f := 12) (v := .ref (a 8)) E inX9 rfl rfl (by decide) wm_910 rfl rfl dX9_copy_22 ?_
      refine k_iloadn (pc := 25) E 1 dX9_copy_25 rfl rfl ?_
      refine k_iaload (pc := 26) (q0 := 8) (t0 := 0) (k := 12) (n := 4) E rfl rfl rfl (by decide) (by omega) (by omega) dX9_copy_26 (fun hr7 => ?_)
      have hi8 := hpre0 x0
      refine k_iconst (pc := 27) E dX9_copy_27 ?_
      by_cases h9 : (s0 12 x0) = (-1)
      · replace hT := hT.trans (if_pos h9)
        refine k_icmp_eq_t (pc := 28) (tgt := 41) E (by omega) (by omega) dX9_copy_28 (by decide) h9 ?_
        refine k_bipush (pc := 41) E dX9_copy_41 (by decide) ?_
        exact k_rho hT (k_iret (pc := 43) E dX9_copy_43 (by omega))
      · replace hT := hT.trans (if_neg h9)
        refine k_icmp_eq_f (pc := 28) (tgt := 41) E (by omega) (by omega) dX9_copy_28 (by decide) h9 ?_
        refine k_aloadn (pc := 31) E 0 dX9_copy_31 rfl rfl ?_
        refine k_getf (pc := 32) (q0 := 0) (f := 12) (v := .ref (a 8)) E inX9 rfl rfl (by decide) wm_910 rfl rfl dX9_copy_32 ?_
        refine k_iloadn (pc := 35) E 3 dX9_copy_35 rfl rfl ?_
        refine k_iaload (pc := 36) (q0 := 8) (t0 := 0) (k := 12) (n := 4) E rfl rfl rfl (by decide) (by omega) (by omega) dX9_copy_36 (fun hr10 => ?_)
        have hi11 := hpre0 x2
        refine k_iconst (pc := 37) E dX9_copy_37 ?_
        by_cases h12 : (s0 12 x2) = (-1)
        · replace hT := hT.trans (if_pos h12)
          refine k_icmp_ne_f (pc := 38) (tgt := 44) E (by omega) (by omega) dX9_copy_38 (by decide) h12 ?_
          refine k_bipush (pc := 41) E dX9_copy_41 (by decide) ?_
          exact k_rho hT (k_iret (pc := 43) E dX9_copy_43 (by omega))
        · replace hT := hT.trans (if_neg h12)
          refine k_icmp_ne_t (pc := 38) (tgt := 44) E (by omega) (by omega) dX9_copy_38 (by decide) h12 ?_
          refine k_aloadn (pc := 44) E 0 dX9_copy_44 rfl rfl ?_
          refine k_getf (pc := 45) (q0 := 0) (f := 12) (v := .ref (a 8)) E inX9 rfl rfl (by decide) wm_910 rfl rfl dX9_copy_45 ?_
          refine k_iloadn (pc := 48) E 1 dX9_copy_48 rfl rfl ?_
          refine k_iaload (pc := 49) (q0 := 8) (t0 := 0) (k := 12) (n := 4) E rfl rfl rfl (by decide) (by omega) (by omega) dX9_copy_49 (fun hr13 => ?_)
          have hi14 := hpre0 x0
          refine k_aloadn (pc := 50) E 0 dX9_copy_50 rfl rfl ?_
          refine k_getf (pc := 51) (q0 := 0) (f := 12) (v := .ref (a 8)) E inX9 rfl rfl (by decide) wm_910 rfl rfl dX9_copy_51 ?_
          refine k_iloadn (pc := 54) E 3 dX9_copy_54 rfl rfl ?_
          refine k_iaload (pc := 55) (q0 := 8) (t0 := 0) (k := 12) (n := 4) E rfl rfl rfl (by decide) (by omega) (by omega) dX9_copy_55 (fun hr15 => ?_)
          have hi16 := hpre0 x2
          by_cases h17 : (s0 12 x0) = (s0 12 x2)
          · replace hT := hT.trans (if_pos h17)
            refine k_icmp_eq_t (pc := 56) (tgt := 62) E (by omega) (by omega) dX9_copy_56 (by decide) h17 ?_
            refine k_iload (pc := 62) E 5 dX9_copy_62 rfl ?_
            by_cases h18 : x4 < 0
            · replace hT := hT.trans (if_pos h18)
              refine k_if_lt_t (pc := 64) (tgt := 124) E (by omega) dX9_copy_64 (by decide) h18 ?_
              refine k_bipush (pc := 124) E dX9_copy_124 (by decide) ?_
              exact k_rho hT (k_iret (pc := 126) E dX9_copy_126 (by omega))
            · replace hT := hT.trans (if_neg h18)
              refine k_if_lt_f (pc := 64) (tgt := 124) E (by omega) dX9_copy_64 (by decide) h18 ?_
              refine k_iloadn (pc := 67) E 2 dX9_copy_67 rfl rfl ?_
              by_cases h19 : x1 < 0
              · replace hT := hT.trans (if_pos h19)
                refine k_if_lt_t (pc := 68) (tgt := 124) E (by omega) dX9_copy_68 (by decide) h19 ?_
                refine k_bipush (pc := 124) E dX9_copy_124 (by decide) ?_
                exact k_rho hT (k_iret (pc := 126) E dX9_copy_126 (by omega))
              · replace hT := hT.trans (if_neg h19)
                refine k_if_lt_f (pc := 68) (tgt := 124) E (by omega) dX9_copy_68 (by decide) h19 ?_
                refine k_iload (pc := 71) E 4 dX9_copy_71 rfl ?_
                by_cases h20 : x3 < 0
                · replace hT := hT.trans (if_pos h20)
                  refine k_if_lt_t (pc := 73) (tgt := 124) E (by omega) dX9_copy_73 (by decide) h20 ?_
                  refine k_bipush (pc := 124) E dX9_copy_124 (by decide) ?_
                  exact k_rho hT (k_iret (pc := 126) E dX9_copy_126 (by omega))
                · replace hT := hT.trans (if_neg h20)
                  refine k_if_lt_f (pc := 73) (tgt := 124) E (by omega) dX9_copy_73 (by decide) h20 ?_
                  refine k_iloadn (pc := 76) E 2 dX9_copy_76 rfl rfl ?_
                  refine k_aloadn (pc := 77) E 0 dX9_copy_77 rfl rfl ?_
                  refine k_getf (pc := 78) (q0 := 0) (f := 13) (v := .ref (a 9)) E inX9 rfl rfl (by decide) wm_911 rfl rfl dX9_copy_78 ?_
                  refine k_iloadn (pc := 81) E 1 dX9_copy_81 rfl rfl ?_
                  refine k_iaload (pc := 82) (q0 := 9) (t0 := 0) (k := 13) (n := 4) E rfl rfl rfl (by decide) (by omega) (by omega) dX9_copy_82 (fun hr21 => ?_)
                  have hi22 := hpre1 x0
                  by_cases h23 : (s0 13 x0) < x1
                  · replace hT := hT.trans (if_pos h23)
                    refine k_icmp_gt_t (pc := 83) (tgt := 124) E (by omega) (by omega) dX9_copy_83 (by decide) h23 ?_
                    refine k_bipush (pc := 124) E dX9_copy_124 (by decide) ?_
                    exact k_rho hT (k_iret (pc := 126) E dX9_copy_126 (by omega))
                  · replace hT := hT.trans (if_neg h23)
                    refine k_icmp_gt_f (pc := 83) (tgt := 124) E (by omega) (by omega) dX9_copy_83 (by decide) h23 ?_
                    refine k_iload (pc := 86) E 4 dX9_copy_86 rfl ?_
                    refine k_aloadn (pc := 88) E 0 dX9_copy_88 rfl rfl ?_
                    refine k_getf (pc := 89) (q0 := 0) (f := 13) (v := .ref (a 9)) E inX9 rfl rfl (by decide) wm_911 rfl rfl dX9_copy_89 ?_
                    refine k_iloadn (pc := 92) E 3 dX9_copy_92 rfl rfl ?_
                    refine k_iaload (pc := 93) (q0 := 9) (t0 := 0) (k := 13) (n := 4) E rfl rfl rfl (by decide) (by omega) (by omega) dX9_copy_93 (fun hr24 => ?_)
                    have hi25 := hpre1 x2
                    by_cases h26 : (s0 13 x2) < x3
                    · replace hT := hT.trans (if_pos h26)
                      refine k_icmp_gt_t (pc := 94) (tgt := 124) E (by omega) (by omega) dX9_copy_94 (by decide) h26 ?_
                      refine k_bipush (pc := 124) E dX9_copy_124 (by decide) ?_
                      exact k_rho hT (k_iret (pc := 126) E dX9_copy_126 (by omega))
                    · replace hT := hT.trans (if_neg h26)
                      refine k_icmp_gt_f (pc := 94) (tgt := 124) E (by omega) (by omega) dX9_copy_94 (by decide) h26 ?_
                      refine k_iload (pc := 97) E 5 dX9_copy_97 rfl ?_
                      refine k_aloadn (pc := 99) E 0 dX9_copy_99 rfl rfl ?_
                      refine k_getf (pc := 100) (q0 := 0) (f := 13) (v := .ref (a 9)) E inX9 rfl rfl (by decide) wm_911 rfl rfl dX9_copy_100 ?_
                      refine k_iloadn (pc := 103) E 1 dX9_copy_103 rfl rfl ?_
                      refine k_iaload (pc := 104) (q0 := 9) (t0 := 0) (k := 13) (n := 4) E rfl rfl rfl (by decide) (by omega) (by omega) dX9_copy_104 (fun hr27 => ?_)
                      have hi28 := hpre1 x0
                      refine k_iloadn (pc := 105) E 2 dX9_copy_105 rfl rfl ?_
                      refine k_isub (pc := 106) E dX9_copy_106 ?_
                      by_cases h29 : ((s0 13 x0) - x1) < x4
                      · replace hT := hT.trans (if_pos h29)
                        refine k_icmp_gt_t (pc := 107) (tgt := 124) E (by omega) (by omega) dX9_copy_107 (by decide) h29 ?_
                        refine k_bipush (pc := 124) E dX9_copy_124 (by decide) ?_
                        exact k_rho hT (k_iret (pc := 126) E dX9_copy_126 (by omega))
                      · replace hT := hT.trans (if_neg h29)
                        refine k_icmp_gt_f (pc := 107) (tgt := 124) E (by omega) (by omega) dX9_copy_107 (by decide) h29 ?_
                        refine k_iload (pc := 110) E 5 dX9_copy_110 rfl ?_
                        refine k_aloadn (pc := 112) E 0 dX9_copy_112 rfl rfl ?_
                        refine k_getf (pc := 113) (q0 := 0) (f := 13) (v := .ref (a 9)) E inX9 rfl rfl (by decide) wm_911 rfl rfl dX9_copy_113 ?_
                        refine k_iloadn (pc := 116) E 3 dX9_copy_116 rfl rfl ?_
                        refine k_iaload (pc := 117) (q0 := 9) (t0 := 0) (k := 13) (n := 4) E rfl rfl rfl (by decide) (by omega) (by omega) dX9_copy_117 (fun hr30 => ?_)
                        have hi31 := hpre1 x2
                        refine k_iload (pc := 118) E 4 dX9_copy_118 rfl ?_
                        refine k_isub (pc := 120) E dX9_copy_120 ?_
                        by_cases h32 : ((s0 13 x2) - x3) < x4
                        · replace hT := hT.trans (if_pos h32)
                          refine k_icmp_le_f (pc := 121) (tgt := 127) E (by omega) (by omega) dX9_copy_121 (by decide) h32 ?_
                          refine k_bipush (pc := 124) E dX9_copy_124 (by decide) ?_
                          exact k_rho hT (k_iret (pc := 126) E dX9_copy_126 (by omega))
                        · replace hT := hT.trans (if_neg h32)
                          refine k_icmp_le_t (pc := 121) (tgt := 127) E (by omega) (by omega) dX9_copy_121 (by decide) h32 ?_
                          refine k_bipush (pc := 127) E dX9_copy_127 (by decide) ?_
                          refine k_iloadn (pc := 129) E 1 dX9_copy_129 rfl rfl ?_
                          refine k_imul (pc := 130) E dX9_copy_130 ?_
                          refine k_iloadn (pc := 131) E 2 dX9_copy_131 rfl rfl ?_
                          refine k_iadd (pc := 132) E dX9_copy_132 ?_
                          refine k_istore (pc := 133) (lv' := [(6, gI ((40 * x0) + x1)), (0, .ref (a 0)), (1, gI x0), (2, gI x1), (3, gI x2), (4, gI x3), (5, gI x4)]) E dX9_copy_133 (by decide) rfl ?_
                          refine k_bipush (pc := 135) E dX9_copy_135 (by decide) ?_
                          refine k_iloadn (pc := 137) E 4 dX9_copy_137 rfl rfl ?_
                          refine k_imul (pc := 138) E dX9_copy_138 ?_
                          refine k_iload (pc := 139) E 5 dX9_copy_139 rfl ?_
                          refine k_iadd (pc := 141) E dX9_copy_141 ?_
                          refine k_istore (pc := 142) (lv' := [(7, gI ((40 * x2) + x3)), (6, gI ((40 * x0) + x1)), (0, .ref (a 0)), (1, gI x0), (2, gI x1), (3, gI x2), (4, gI x3), (5, gI x4)]) E dX9_copy_142 (by decide) rfl ?_
                          refine k_iconst (pc := 144) E dX9_copy_144 ?_
                          refine k_istore (pc := 145) (lv' := [(8, gI 0), (7, gI ((40 * x2) + x3)), (6, gI ((40 * x0) + x1)), (0, .ref (a 0)), (1, gI x0), (2, gI x1), (3, gI x2), (4, gI x3), (5, gI x4)]) E dX9_copy_145 (by decide) rfl ?_
                          have L46 : ∀ (n47 : Nat) (v44 : Int) (s45 : gMem), ((in32 v44) ∧ (fr [14] s0 s45) ∧ (0 ≤ v44 ∧ v44 ≤ x4)) → x4 - v44 < (n47 : Int) → (∀ (w48 : Int) (s49 : gMem), (w_X9_copy_147 x4 ((40 * x0) + x1) ((40 * x2) + x3) n47 v44 s45) = (w48, s49) → ((in32 w48) ∧ (fr [14] s0 s49) ∧ (0 ≤ w48 ∧ w48 ≤ x4)) → gK D vwCl (wdM a cI cJ) lgM A p l e { frames := 2, cells := 0, slots := 0, locals := 128 } s m args below meth c 10 (gQQ D vwCl (wdM a cI cJ) lgM A kI in32 below args s) (f_X9_copy x0 x1 x2 x3 x4 s0) s49 201 [(5, gI x4)] []) → gK D vwCl (wdM a cI cJ) lgM A p l e { frames := 2, cells := 0, slots := 0, locals := 128 } s m args below meth c 10 (gQQ D vwCl (wdM a cI cJ) lgM A kI in32 below args s) (f_X9_copy x0 x1 x2 x3 x4 s0) s45 147 [(0, .ref (a 0)), (5, gI x4), (6, gI ((40 * x0) + x1)), (7, gI ((40 * x2) + x3)), (8, gI v44)] [] := by
                            intro n47; induction n47 with
                            | zero =>
                              intro v44 s45 hq hm hk
                              exfalso
                              obtain ⟨hq58, hf_s45, hq59⟩ := hq
                              omega
                            | succ n47 ih =>
                              intro v44 s45 hq hm hk
                              obtain ⟨hq60, hf_s45, hq61⟩ := hq
                              have hT := w_X9_copy_147_s x4 ((40 * x0) + x1) ((40 * x2) + x3) n47 v44 s45
                              refine k_iload (pc := 147) E 4 dX9_copy_147 rfl ?_
                              refine k_iload (pc := 149) E 1 dX9_copy_149 rfl ?_
                              by_cases h50 : v44 < x4
                              · replace hT := hT.trans (if_pos h50)
                                refine k_icmp_ge_f (pc := 151) (tgt := 201) E (by omega) (by omega) dX9_copy_151 (by decide) h50 ?_
                                refine k_iload (pc := 154) E 2 dX9_copy_154 rfl ?_
                                refine k_iload (pc := 156) E 3 dX9_copy_156 rfl ?_
                                obtain ⟨z57, hz57, hT⟩ := gl1x hT
                                have j52 : ∀ (v53 : Int), ((in32 v53)) → z57 = v53 → gK D vwCl (wdM a cI cJ) lgM A p l e { frames := 2, cells := 0, slots := 0, locals := 128 } s m args below meth c 10 (gQQ D vwCl (wdM a cI cJ) lgM A kI in32 below args s) (f_X9_copy x0 x1 x2 x3 x4 s0) s45 173 [(0, .ref (a 0)), (5, gI x4), (6, gI ((40 * x0) + x1)), (7, gI ((40 * x2) + x3)), (8, gI v44)] [gI v53] := by
                                  intro v53 hq hz
                                  have hq56 := hq
                                  replace hT := gl1y hT hz
                                  refine k_istore (pc := 173) (lv' := [(9, gI v53), (0, .ref (a 0)), (5, gI x4), (6, gI ((40 * x0) + x1)), (7, gI ((40 * x2) + x3)), (8, gI v44)]) E dX9_copy_173 (by decide) rfl ?_
                                  refine k_aloadn (pc := 175) E 1 dX9_copy_175 rfl rfl ?_
                                  refine k_getf (pc := 176) (q0 := 0) (f := 14) (v := .ref (a 10)) E inX9 rfl rfl (by decide) wm_912 rfl rfl dX9_copy_176 ?_
                                  refine k_iload (pc := 179) E 4 dX9_copy_179 rfl ?_
                                  refine k_iload (pc := 181) E 0 dX9_copy_181 rfl ?_
                                  refine k_iadd (pc := 183) E dX9_copy_183 ?_
                                  refine k_aloadn (pc := 184) E 1 dX9_copy_184 rfl rfl ?_
                                  refine k_getf (pc := 185) (q0 := 0) (f := 14) (v := .ref (a 10)) E inX9 rfl rfl (by decide) wm_912 rfl rfl dX9_copy_185 ?_
                                  refine k_iload (pc := 188) E 3 dX9_copy_188 rfl ?_
                                  refine k_iload (pc := 190) E 0 dX9_copy_190 rfl ?_
                                  refine k_iadd (pc := 192) E dX9_copy_192 ?_
                                  refine k_iaload (pc := 193) (q0 := 10) (t0 := 0) (k := 14) (n := 160) E rfl rfl rfl (by decide) (by omega) (by omega) dX9_copy_193 (fun hr54 => ?_)
                                  refine k_iastore (pc := 194) (q0 := 10) (t0 := 0) (k := 14) (n := 160) E rfl rfl rfl rfl (by decide) (by omega) (by omega) (by omega) dX9_copy_194 ?_
                                  obtain ⟨s55, hs55, hT⟩ := glx hT
                                  refine k_sg hs55.symm ?_
                                  have hf_s55 : fr [14] s0 s55 := hs55 ▸ hf_s45.set (by decide)
                                  refine k_iinc (pc := 195) (lv' := [(8, gI (v44 + 1)), (9, gI v53), (0, .ref (a 0)), (5, gI x4), (6, gI ((40 * x0) + x1)), (7, gI ((40 * x2) + x3))]) E 5 dX9_copy_195 rfl (by decide) rfl ?_
                                  refine k_goto (pc := 198) (tgt := 147) E dX9_copy_198 (by decide) ?_
                                  refine k_lv (lv' := [(0, .ref (a 0)), (5, gI x4), (6, gI ((40 * x0) + x1)), (7, gI ((40 * x2) + x3)), (8, gI (v44 + 1))]) [2, 3, 4, 5, 0] rfl ?_
                                  exact ih (v44 + 1) s55 ⟨(by omega), hf_s55, (by first | assumption | omega)⟩ (by omega) (fun w48 s49 hw hi => hk w48 s49 (hT.trans hw) hi)
                                replace hT := hz57
                                by_cases h51 : ((40 * x0) + x1) < ((40 * x2) + x3)
                                · replace hT := hT.trans (if_pos h51)
                                  refine k_icmp_ge_f (pc := 158) (tgt := 171) E (by omega) (by omega) dX9_copy_158 (by decide) h51 ?_
                                  refine k_iload (pc := 161) E 1 dX9_copy_161 rfl ?_
                                  refine k_iconst (pc := 163) E dX9_copy_163 ?_
                                  refine k_isub (pc := 164) E dX9_copy_164 ?_
                                  refine k_iload (pc := 165) E 4 dX9_copy_165 rfl ?_
                                  refine k_isub (pc := 167) E dX9_copy_167 ?_
                                  refine k_goto (pc := 168) (tgt := 173) E dX9_copy_168 (by decide) ?_
                                  exact j52 ((x4 - 1) - v44) (by omega) hT
                                · replace hT := hT.trans (if_neg h51)
                                  refine k_icmp_ge_t (pc := 158) (tgt := 171) E (by omega) (by omega) dX9_copy_158 (by decide) h51 ?_
                                  refine k_iload (pc := 171) E 4 dX9_copy_171 rfl ?_
                                  exact j52 v44 (by omega) hT
                              · replace hT := hT.trans (if_neg h50)
                                refine k_icmp_ge_t (pc := 151) (tgt := 201) E (by omega) (by omega) dX9_copy_151 (by decide) h50 ?_
                                refine k_lv (lv' := [(5, gI x4)]) [1] rfl ?_
                                exact hk v44 s45 hT ⟨(by omega), hf_s45, (by first | assumption | omega)⟩
                          refine k_lv (lv' := [(0, .ref (a 0)), (5, gI x4), (6, gI ((40 * x0) + x1)), (7, gI ((40 * x2) + x3)), (8, gI 0)]) [3, 8, 2, 1, 0] rfl ?_
                          refine L46 41 0 s0 ⟨(by omega), hf_s0, (by first | assumption | omega)⟩ (by omega) (fun v62 s63 hw hq => ?_)
                          obtain ⟨hq64, hf_s63, hq65⟩ := hq
                          replace hT := gl2y hT hw
                          refine k_iload (pc := 201) E 0 dX9_copy_201 rfl ?_
                          exact k_rho hT (k_iret (pc := 203) E dX9_copy_203 (by omega))
          · replace hT := hT.trans (if_neg h17)
            refine k_icmp_eq_f (pc := 56) (tgt := 62) E (by omega) (by omega) dX9_copy_56 (by decide) h17 ?_
            refine k_bipush (pc := 59) E dX9_copy_59 (by decide) ?_
            exact k_rho hT (k_iret (pc := 61) E dX9_copy_61 (by omega))

def t_X9_layBy_64 (c1 : Int) (c3 : Int) (c4 : Int) : Nat → Int → Int → gMem → gRes
  | 0, v16, v17, s18 => (0, s18)
  | n19 + 1, v16, v17, s18 => (if v17 < c4 then (if c3 < 0 then ((-12), s18) else (if (iwr (c3 + (3 * v17))) < c3 then ((-12), s18) else (if ((s18 13 c1) - 3) < (iwr (c3 + (3 * v17))) then ((-12), s18) else gl ((40 * c1) + (iwr (c3 + (3 * v17)))) (fun v27 => gb (f_X9_lay (s18 14 v27) (s18 14 (v27 + 1)) (s18 14 (v27 + 2)) s18) (fun r32 s33 => (gl ((if r32 < 0 then 0 else 1)) (fun v38 => (t_X9_layBy_64 c1 c3 c4 n19 (v16 + v38) (v17 + 1) s33)))))))) else (v16, s18))
theorem t_X9_layBy_64_s (c1 : Int) (c3 : Int) (c4 : Int) (n19 : Nat) (v16 : Int) (v17 : Int) (s18 : gMem) : t_X9_layBy_64 c1 c3 c4 (n19 + 1) v16 v17 s18 = (if v17 < c4 then (if c3 < 0 then ((-12), s18) else (if (iwr (c3 + (3 * v17))) < c3 then ((-12), s18) else (if ((s18 13 c1) - 3) < (iwr (c3 + (3 * v17))) then ((-12), s18) else gl ((40 * c1) + (iwr (c3 + (3 * v17)))) (fun v27 => gb (f_X9_lay (s18 14 v27) (s18 14 (v27 + 1)) (s18 14 (v27 + 2)) s18) (fun r32 s33 => (gl ((if r32 < 0 then 0 else 1)) (fun v38 => (t_X9_layBy_64 c1 c3 c4 n19 (v16 + v38) (v17 + 1) s33)))))))) else (v16, s18)) := rfl
def f_X9_layBy (x0 : Int) (x1 : Int) (x2 : Int) (x3 : Int) (s0 : gMem) : gRes := (if (f_X9_in x0 0 3) = 0 then ((-2), s0) else (if (f_X9_in x1 0 2) = 0 then ((-2), s0) else (if (f_X9_in x3 0 13) = 0 then ((-2), s0) else (if (s0 12 x0) = (-1) then ((-11), s0) else (if (s0 12 x0) = x1 then (t_X9_layBy_64 x0 x2 x3 14 0 0 s0) else ((-13), s0))))))
theorem f_X9_layBy_e (x0 : Int) (x1 : Int) (x2 : Int) (x3 : Int) (s0 : gMem) : f_X9_layBy x0 x1 x2 x3 s0 = (if (f_X9_in x0 0 3) = 0 then ((-2), s0) else (if (f_X9_in x1 0 2) = 0 then ((-2), s0) else (if (f_X9_in x3 0 13) = 0 then ((-2), s0) else (if (s0 12 x0) = (-1) then ((-11), s0) else (if (s0 12 x0) = x1 then (t_X9_layBy_64 x0 x2 x3 14 0 0 s0) else ((-13), s0)))))) := rfl
set_option maxRecDepth 100000 in
set_option maxHeartbeats 4000000 in
theorem f_X9_layBy_p (x0 : Int) (x1 : Int) (x2 : Int) (x3 : Int) (s0 : gMem) (hx0 : in32 x0) (hx1 : in32 x1) (hx2 : in32 x2) (hx3 : in32 x3) (hm_s0 : gMR lgM s0) (hpre0 : KN s0) (hpre1 : MO s0) (hpre2 : SO s0) (hpre3 : SZ s0) (rZ : Int) (sZ : gMem) (hres : f_X9_layBy x0 x1 x2 x3 s0 = (rZ, sZ)) : (fr [0, 1] s0 sZ) ∧ (gMR lgM sZ) ∧ (in32 rZ) ∧ (KN sZ) ∧ (MO sZ) := by
  have hT := f_X9_layBy_e x0 x1 x2 x3 s0
  have hf_s0 : fr [0, 1] s0 s0 := fr.rf _ _
  have hKN_s0 := hpre0
  have hMO_s0 := hpre1
  have hp2 := f_X9_in_p x0 0 3 (by omega) (by omega) (by omega) 
  by_cases h3 : (f_X9_in x0 0 3) = 0
  · replace hT := hT.trans (if_pos h3)
    obtain ⟨rfl, rfl⟩ := Prod.mk.inj (hT.symm.trans hres)
    exact ⟨hf_s0, hm_s0, (by omega), hKN_s0, hMO_s0⟩
  · replace hT := hT.trans (if_neg h3)
    have hp5 := f_X9_in_p x1 0 2 (by omega) (by omega) (by omega) 
    by_cases h6 : (f_X9_in x1 0 2) = 0
    · replace hT := hT.trans (if_pos h6)
      obtain ⟨rfl, rfl⟩ := Prod.mk.inj (hT.symm.trans hres)
      exact ⟨hf_s0, hm_s0, (by omega), hKN_s0, hMO_s0⟩
    · replace hT := hT.trans (if_neg h6)
      have hp8 := f_X9_in_p x3 0 13 (by omega) (by omega) (by omega) 
      by_cases h9 : (f_X9_in x3 0 13) = 0
      · replace hT := hT.trans (if_pos h9)
        obtain ⟨rfl, rfl⟩ := Prod.mk.inj (hT.symm.trans hres)
        exact ⟨hf_s0, hm_s0, (by omega), hKN_s0, hMO_s0⟩
      · replace hT := hT.trans (if_neg h9)
        have hr10 := (hm_s0 12 x0).1 rfl
        have hi11 := hpre2 x0
        by_cases h12 : (s0 12 x0) = (-1)
        · replace hT := hT.trans (if_pos h12)
          obtain ⟨rfl, rfl⟩ := Prod.mk.inj (hT.symm.trans hres)
          exact ⟨hf_s0, hm_s0, (by omega), hKN_s0, hMO_s0⟩
        · replace hT := hT.trans (if_neg h12)
          have hr13 := (hm_s0 12 x0).1 rfl
          have hi14 := hpre2 x0
          by_cases h15 : (s0 12 x0) = x1
          · replace hT := hT.trans (if_pos h15)
            have L45 : ∀ (n46 : Nat) (v42 : Int) (v43 : Int) (s44 : gMem), ((in32 v42) ∧ (in32 v43) ∧ (fr [0, 1] s0 s44) ∧ (gMR lgM s44) ∧ (KN s44) ∧ (MO s44) ∧ (0 ≤ v43 ∧ v43 ≤ 13) ∧ (0 ≤ v42 ∧ v42 ≤ v43)) → 13 - v43 < (n46 : Int) → (f_X9_layBy x0 x1 x2 x3 s0) = (t_X9_layBy_64 x0 x2 x3 n46 v42 v43 s44) → (fr [0, 1] s0 sZ) ∧ (gMR lgM sZ) ∧ (in32 rZ) ∧ (KN sZ) ∧ (MO sZ) := by
              intro n46; induction n46 with
              | zero =>
                intro v42 v43 s44 hq hm hT
                exfalso
                obtain ⟨hq72, hq73, hf_s44, hm_s44, hKN_s44, hMO_s44, hq74, hq75⟩ := hq
                omega
              | succ n46 ih =>
                intro v42 v43 s44 hq hm hT
                obtain ⟨hq76, hq77, hf_s44, hm_s44, hKN_s44, hMO_s44, hq78, hq79⟩ := hq
                replace hT := hT.trans (t_X9_layBy_64_s x0 x2 x3 n46 v42 v43 s44)
                by_cases h50 : v43 < x3
                · replace hT := hT.trans (if_pos h50)
                  have hb51 := iwr_rg (x2 + (3 * v43))
                  by_cases h52 : x2 < 0
                  · replace hT := hT.trans (if_pos h52)
                    obtain ⟨rfl, rfl⟩ := Prod.mk.inj (hT.symm.trans hres)
                    exact ⟨hf_s44, hm_s44, (by omega), hKN_s44, hMO_s44⟩
                  · replace hT := hT.trans (if_neg h52)
                    by_cases h53 : (iwr (x2 + (3 * v43))) < x2
                    · replace hT := hT.trans (if_pos h53)
                      obtain ⟨rfl, rfl⟩ := Prod.mk.inj (hT.symm.trans hres)
                      exact ⟨hf_s44, hm_s44, (by omega), hKN_s44, hMO_s44⟩
                    · replace hT := hT.trans (if_neg h53)
                      have hr54 := (hm_s44 13 x0).1 rfl
                      have hi55 := hpre3 x0
                      rw [← hf_s44 13 (by decide)] at hi55
                      by_cases h56 : ((s44 13 x0) - 3) < (iwr (x2 + (3 * v43)))
                      · replace hT := hT.trans (if_pos h56)
                        obtain ⟨rfl, rfl⟩ := Prod.mk.inj (hT.symm.trans hres)
                        exact ⟨hf_s44, hm_s44, (by omega), hKN_s44, hMO_s44⟩
                      · replace hT := hT.trans (if_neg h56)
                        obtain ⟨v57, hv57, hT⟩ := glx hT
                        have hr58 := (hm_s44 14 v57).1 rfl
                        have hr59 := (hm_s44 14 (v57 + 1)).1 rfl
                        have hr60 := (hm_s44 14 (v57 + 2)).1 rfl
                        obtain ⟨r62, s63, hs63⟩ : ∃ rr ss, (f_X9_lay (s44 14 v57) (s44 14 (v57 + 1)) (s44 14 (v57 + 2)) s44) = (rr, ss) := ⟨_, _, rfl⟩
                        replace hT := gby hT hs63
                        have hp64 := f_X9_lay_p (s44 14 v57) (s44 14 (v57 + 1)) (s44 14 (v57 + 2)) s44 (by omega) (by omega) (by omega) hm_s44 hKN_s44 hMO_s44 r62 s63 hs63
                        obtain ⟨hfc_s63, hm_s63, hp65, hKN_s63, hMO_s63⟩ := hp64
                        have hf_s63 : fr [0, 1] s0 s63 := hf_s44.call (by decide) hfc_s63
                        obtain ⟨z71, hz71, hT⟩ := gl1x hT
                        have j67 : ∀ (v68 : Int), ((in32 v68) ∧ (0 ≤ v68 ∧ v68 ≤ 1)) → z71 = v68 → (fr [0, 1] s0 sZ) ∧ (gMR lgM sZ) ∧ (in32 rZ) ∧ (KN sZ) ∧ (MO sZ) := by
                          intro v68 hq hz
                          obtain ⟨hq69, hq70⟩ := hq
                          replace hT := gl1y hT hz
                          exact ih (v42 + v68) (v43 + 1) s63 ⟨(by omega), (by omega), hf_s63, hm_s63, hKN_s63, hMO_s63, (by first | assumption | omega), (by first | assumption | omega)⟩ (by omega) hT
                        replace hT := hz71
                        by_cases h66 : r62 < 0
                        · replace hT := hT.trans (if_pos h66)
                          exact j67 0 ⟨(by omega), (by first | assumption | omega)⟩ hT
                        · replace hT := hT.trans (if_neg h66)
                          exact j67 1 ⟨(by omega), (by first | assumption | omega)⟩ hT
                · replace hT := hT.trans (if_neg h50)
                  obtain ⟨rfl, rfl⟩ := Prod.mk.inj (hT.symm.trans hres)
                  exact ⟨hf_s44, hm_s44, (by omega), hKN_s44, hMO_s44⟩
            exact L45 14 0 0 s0 ⟨(by omega), (by omega), hf_s0, hm_s0, hKN_s0, hMO_s0, (by first | assumption | omega), (by first | assumption | omega)⟩ (by omega) hT
          · replace hT := hT.trans (if_neg h15)
            obtain ⟨rfl, rfl⟩ := Prod.mk.inj (hT.symm.trans hres)
            exact ⟨hf_s0, hm_s0, (by omega), hKN_s0, hMO_s0⟩
set_option maxRecDepth 100000 in
set_option maxHeartbeats 4000000 in
theorem c_X9_layBy (l : Launch) (D : va_G) (a : Nat → Nat) (cI cJ cS cT : ClassId) (s0 : gMem) (x0 : Int) (x1 : Int) (x2 : Int) (x3 : Int) (hx0 : in32 x0) (hx1 : in32 x1) (hx2 : in32 x2) (hx3 : in32 x3) (hpre0 : KN s0) (hpre1 : MO s0) (hpre2 : SO s0) (hpre3 : SZ s0) : gC l yX9_layBy cX9_layBy 9 (some .int) 4 256 D vwCl (gT cI cJ cS cT) (wdM a cI cJ) lgM kI in32 [.ref (a 0), gI x0, gI x1, gI x2, gI x3] s0 (f_X9_layBy x0 x1 x2 x3 s0) := by
  refine gC_of (by decide +kernel) (hwdM a cI cJ) (Nat.le_of_ble_eq_true rfl) ?_
  intro A p e R s m args below meth c hR E
  subst hR
  have hT := f_X9_layBy_e x0 x1 x2 x3 s0
  have hf_s0 : fr [0, 1] s0 s0 := fr.rf _ _
  refine k_lv0 (lv' := [(0, .ref (a 0)), (1, gI x0), (2, gI x1), (3, gI x2), (4, gI x3)]) rfl ?_
  refine k_mr (fun hm_s0 => ?_)
  have hKN_s0 := hpre0
  have hMO_s0 := hpre1
  refine k_iloadn (pc := 0) E 1 dX9_layBy_0 rfl rfl ?_
  refine k_iconst (pc := 1) E dX9_layBy_1 ?_
  refine k_iconst (pc := 2) E dX9_layBy_2 ?_
  refine k_mr (fun hm_s0 => ?_)
  refine k_callS (pc := 3) (np := 3) (As := [gI x0, gI 0, gI 3]) (st := []) E (c_X9_in l D a cI cJ cS cT s0 x0 0 3 (by omega) (by omega) (by omega)) wm_861 wm_11 wm_859 wm_860 (by decide +kernel) ⟨by decide, by decide⟩ rfl (Nat.le_of_ble_eq_true rfl) dX9_layBy_3 (ro_kk (fun hr1 => ?_))
  have hp2 := f_X9_in_p x0 0 3 (by omega) (by omega) (by omega) 
  refine k_st (st' := [gI (f_X9_in x0 0 3)]) rfl ?_
  by_cases h3 : (f_X9_in x0 0 3) = 0
  · replace hT := hT.trans (if_pos h3)
    refine k_if_eq_t (pc := 6) (tgt := 29) E (by omega) dX9_layBy_6 (by decide) h3 ?_
    refine k_bipush (pc := 29) E dX9_layBy_29 (by decide) ?_
    exact k_rho hT (k_iret (pc := 31) E dX9_layBy_31 (by omega))
  · replace hT := hT.trans (if_neg h3)
    refine k_if_eq_f (pc := 6) (tgt := 29) E (by omega) dX9_layBy_6 (by decide) h3 ?_
    refine k_iloadn (pc := 9) E 2 dX9_layBy_9 rfl rfl ?_
    refine k_iconst (pc := 10) E dX9_layBy_10 ?_
    refine k_iconst (pc := 11) E dX9_layBy_11 ?_
    refine k_mr (fun hm_s0 => ?_)
    refine k_callS (pc := 12) (np := 3) (As := [gI x1, gI 0, gI 2]) (st := []) E (c_X9_in l D a cI cJ cS cT s0 x1 0 2 (by omega) (by omega) (by omega)) wm_861 wm_11 wm_859 wm_860 (by decide +kernel) ⟨by decide, by decide⟩ rfl (Nat.le_of_ble_eq_true rfl) dX9_layBy_12 (ro_kk (fun hr4 => ?_))
    have hp5 := f_X9_in_p x1 0 2 (by omega) (by omega) (by omega) 
    refine k_st (st' := [gI (f_X9_in x1 0 2)]) rfl ?_
    by_cases h6 : (f_X9_in x1 0 2) = 0
    · replace hT := hT.trans (if_pos h6)
      refine k_if_eq_t (pc := 15) (tgt := 29) E (by omega) dX9_layBy_15 (by decide) h6 ?_
      refine k_bipush (pc := 29) E dX9_layBy_29 (by decide) ?_
      exact k_rho hT (k_iret (pc := 31) E dX9_layBy_31 (by omega))
    · replace hT := hT.trans (if_neg h6)
      refine k_if_eq_f (pc := 15) (tgt := 29) E (by omega) dX9_layBy_15 (by decide) h6 ?_
      refine k_iload (pc := 18) E 4 dX9_layBy_18 rfl ?_
      refine k_iconst (pc := 20) E dX9_layBy_20 ?_
      refine k_bipush (pc := 21) E dX9_layBy_21 (by decide) ?_
      refine k_mr (fun hm_s0 => ?_)
      refine k_callS (pc := 23) (np := 3) (As := [gI x3, gI 0, gI 13]) (st := []) E (c_X9_in l D a cI cJ cS cT s0 x3 0 13 (by omega) (by omega) (by omega)) wm_861 wm_11 wm_859 wm_860 (by decide +kernel) ⟨by decide, by decide⟩ rfl (Nat.le_of_ble_eq_true rfl) dX9_layBy_23 (ro_kk (fun hr7 => ?_))
      have hp8 := f_X9_in_p x3 0 13 (by omega) (by omega) (by omega) 
      refine k_st (st' := [gI (f_X9_in x3 0 13)]) rfl ?_
      by_cases h9 : (f_X9_in x3 0 13) = 0
      · replace hT := hT.trans (if_pos h9)
        refine k_if_ne_f (pc := 26) (tgt := 32) E (by omega) dX9_layBy_26 (by decide) h9 ?_
        refine k_bipush (pc := 29) E dX9_layBy_29 (by decide) ?_
        exact k_rho hT (k_iret (pc := 31) E dX9_layBy_31 (by omega))
      · replace hT := hT.trans (if_neg h9)
        refine k_if_ne_t (pc := 26) (tgt := 32) E (by omega) dX9_layBy_26 (by decide) h9 ?_
        refine k_aloadn (pc := 32) E 0 dX9_layBy_32 rfl rfl ?_
        refine k_getf (pc := 33) (q0 := 0) (f := 12) (v := .ref (a 8)) E inX9 rfl rfl (by decide) wm_910 rfl rfl dX9_layBy_33 ?_
        refine k_iloadn (pc := 36) E 1 dX9_layBy_36 rfl rfl ?_
        refine k_iaload (pc := 37) (q0 := 8) (t0 := 0) (k := 12) (n := 4) E rfl rfl rfl (by decide) (by omega) (by omega) dX9_layBy_37 (fun hr10 => ?_)
        have hi11 := hpre2 x0
        refine k_iconst (pc := 38) E dX9_layBy_38 ?_
        by_cases h12 : (s0 12 x0) = (-1)
        · replace hT := hT.trans (if_pos h12)
          refine k_icmp_ne_f (pc := 39) (tgt := 45) E (by omega) (by omega) dX9_layBy_39 (by decide) h12 ?_
          refine k_bipush (pc := 42) E dX9_layBy_42 (by decide) ?_
          exact k_rho hT (k_iret (pc := 44) E dX9_layBy_44 (by omega))
        · replace hT := hT.trans (if_neg h12)
          refine k_icmp_ne_t (pc := 39) (tgt := 45) E (by omega) (by omega) dX9_layBy_39 (by decide) h12 ?_
          refine k_aloadn (pc := 45) E 0 dX9_layBy_45 rfl rfl ?_
          refine k_getf (pc := 46) (q0 := 0) (f := 12) (v := .ref (a 8)) E inX9 rfl rfl (by decide) wm_910 rfl rfl dX9_layBy_46 ?_
          refine k_iloadn (pc := 49) E 1 dX9_layBy_49 rfl rfl ?_
          refine k_iaload (pc := 50) (q0 := 8) (t0 := 0) (k := 12) (n := 4) E rfl rfl rfl (by decide) (by omega) (by omega) dX9_layBy_50 (fun hr13 => ?_)
          have hi14 := hpre2 x0
          refine k_iloadn (pc := 51) E 2 dX9_layBy_51 rfl rfl ?_
          by_cases h15 : (s0 12 x0) = x1
          · replace hT := hT.trans (if_pos h15)
            refine k_icmp_eq_t (pc := 52) (tgt := 58) E (by omega) (by omega) dX9_layBy_52 (by decide) h15 ?_
            refine k_iconst (pc := 58) E dX9_layBy_58 ?_
            refine k_istore (pc := 59) (lv' := [(5, gI 0), (0, .ref (a 0)), (1, gI x0), (2, gI x1), (3, gI x2), (4, gI x3)]) E dX9_layBy_59 (by decide) rfl ?_
            refine k_iconst (pc := 61) E dX9_layBy_61 ?_
            refine k_istore (pc := 62) (lv' := [(6, gI 0), (5, gI 0), (0, .ref (a 0)), (1, gI x0), (2, gI x1), (3, gI x2), (4, gI x3)]) E dX9_layBy_62 (by decide) rfl ?_
            have L45 : ∀ (n46 : Nat) (v42 : Int) (v43 : Int) (s44 : gMem), ((in32 v42) ∧ (in32 v43) ∧ (fr [0, 1] s0 s44) ∧ (KN s44) ∧ (MO s44) ∧ (0 ≤ v43 ∧ v43 ≤ 13) ∧ (0 ≤ v42 ∧ v42 ≤ v43)) → 13 - v43 < (n46 : Int) → (f_X9_layBy x0 x1 x2 x3 s0) = (t_X9_layBy_64 x0 x2 x3 n46 v42 v43 s44) → gK D vwCl (wdM a cI cJ) lgM A p l e { frames := 4, cells := 0, slots := 0, locals := 256 } s m args below meth c 9 (gQQ D vwCl (wdM a cI cJ) lgM A kI in32 below args s) (f_X9_layBy x0 x1 x2 x3 s0) s44 64 [(0, .ref (a 0)), (1, gI x0), (3, gI x2), (4, gI x3), (5, gI v42), (6, gI v43)] [] := by
              intro n46; induction n46 with
              | zero =>
                intro v42 v43 s44 hq hm hT
                exfalso
                obtain ⟨hq72, hq73, hf_s44, hKN_s44, hMO_s44, hq74, hq75⟩ := hq
                omega
              | succ n46 ih =>
                intro v42 v43 s44 hq hm hT
                obtain ⟨hq76, hq77, hf_s44, hKN_s44, hMO_s44, hq78, hq79⟩ := hq
                replace hT := hT.trans (t_X9_layBy_64_s x0 x2 x3 n46 v42 v43 s44)
                refine k_iload (pc := 64) E 5 dX9_layBy_64 rfl ?_
                refine k_iload (pc := 66) E 3 dX9_layBy_66 rfl ?_
                by_cases h50 : v43 < x3
                · replace hT := hT.trans (if_pos h50)
                  refine k_icmp_ge_f (pc := 68) (tgt := 162) E (by omega) (by omega) dX9_layBy_68 (by decide) h50 ?_
                  refine k_iloadn (pc := 71) E 2 dX9_layBy_71 rfl rfl ?_
                  refine k_iconst (pc := 72) E dX9_layBy_72 ?_
                  refine k_iload (pc := 73) E 5 dX9_layBy_73 rfl ?_
                  refine k_imul (pc := 75) E dX9_layBy_75 ?_
                  refine k_iadd (pc := 76) E dX9_layBy_76 ?_
                  refine k_st (st' := [gI (iwr (x2 + (3 * v43)))]) (congrArg (fun q => q :: []) (gIw (x2 + (3 * v43)))) ?_
                  have hb51 := iwr_rg (x2 + (3 * v43))
                  refine k_istore (pc := 77) (lv' := [(7, gI (iwr (x2 + (3 * v43)))), (0, .ref (a 0)), (1, gI x0), (3, gI x2), (4, gI x3), (5, gI v42), (6, gI v43)]) E dX9_layBy_77 (by decide) rfl ?_
                  refine k_iloadn (pc := 79) E 3 dX9_layBy_79 rfl rfl ?_
                  by_cases h52 : x2 < 0
                  · replace hT := hT.trans (if_pos h52)
                    refine k_if_lt_t (pc := 80) (tgt := 102) E (by omega) dX9_layBy_80 (by decide) h52 ?_
                    refine k_bipush (pc := 102) E dX9_layBy_102 (by decide) ?_
                    exact k_rho hT (k_iret (pc := 104) E dX9_layBy_104 (by omega))
                  · replace hT := hT.trans (if_neg h52)
                    refine k_if_lt_f (pc := 80) (tgt := 102) E (by omega) dX9_layBy_80 (by decide) h52 ?_
                    refine k_iload (pc := 83) E 0 dX9_layBy_83 rfl ?_
                    refine k_iloadn (pc := 85) E 3 dX9_layBy_85 rfl rfl ?_
                    by_cases h53 : (iwr (x2 + (3 * v43))) < x2
                    · replace hT := hT.trans (if_pos h53)
                      refine k_icmp_lt_t (pc := 86) (tgt := 102) E (by omega) (by omega) dX9_layBy_86 (by decide) h53 ?_
                      refine k_bipush (pc := 102) E dX9_layBy_102 (by decide) ?_
                      exact k_rho hT (k_iret (pc := 104) E dX9_layBy_104 (by omega))
                    · replace hT := hT.trans (if_neg h53)
                      refine k_icmp_lt_f (pc := 86) (tgt := 102) E (by omega) (by omega) dX9_layBy_86 (by decide) h53 ?_
                      refine k_iload (pc := 89) E 0 dX9_layBy_89 rfl ?_
                      refine k_aloadn (pc := 91) E 1 dX9_layBy_91 rfl rfl ?_
                      refine k_getf (pc := 92) (q0 := 0) (f := 13) (v := .ref (a 9)) E inX9 rfl rfl (by decide) wm_911 rfl rfl dX9_layBy_92 ?_
                      refine k_iloadn (pc := 95) E 2 dX9_layBy_95 rfl rfl ?_
                      refine k_iaload (pc := 96) (q0 := 9) (t0 := 0) (k := 13) (n := 4) E rfl rfl rfl (by decide) (by omega) (by omega) dX9_layBy_96 (fun hr54 => ?_)
                      have hi55 := hpre3 x0
                      rw [← hf_s44 13 (by decide)] at hi55
                      refine k_iconst (pc := 97) E dX9_layBy_97 ?_
                      refine k_isub (pc := 98) E dX9_layBy_98 ?_
                      by_cases h56 : ((s44 13 x0) - 3) < (iwr (x2 + (3 * v43)))
                      · replace hT := hT.trans (if_pos h56)
                        refine k_icmp_le_f (pc := 99) (tgt := 105) E (by omega) (by omega) dX9_layBy_99 (by decide) h56 ?_
                        refine k_bipush (pc := 102) E dX9_layBy_102 (by decide) ?_
                        exact k_rho hT (k_iret (pc := 104) E dX9_layBy_104 (by omega))
                      · replace hT := hT.trans (if_neg h56)
                        refine k_icmp_le_t (pc := 99) (tgt := 105) E (by omega) (by omega) dX9_layBy_99 (by decide) h56 ?_
                        refine k_bipush (pc := 105) E dX9_layBy_105 (by decide) ?_
                        refine k_iloadn (pc := 107) E 2 dX9_layBy_107 rfl rfl ?_
                        refine k_imul (pc := 108) E dX9_layBy_108 ?_
                        refine k_iload (pc := 109) E 0 dX9_layBy_109 rfl ?_
                        refine k_iadd (pc := 111) E dX9_layBy_111 ?_
                        obtain ⟨v57, hv57, hT⟩ := glx hT
                        refine k_st (st' := [gI v57]) (by rw [hv57]) ?_
                        refine k_istore (pc := 112) (lv' := [(8, gI v57), (7, gI (iwr (x2 + (3 * v43)))), (0, .ref (a 0)), (1, gI x0), (3, gI x2), (4, gI x3), (5, gI v42), (6, gI v43)]) E dX9_layBy_112 (by decide) rfl ?_
                        refine k_iload (pc := 114) E 6 dX9_layBy_114 rfl ?_
                        refine k_aloadn (pc := 116) E 2 dX9_layBy_116 rfl rfl ?_
                        refine k_aloadn (pc := 117) E 2 dX9_layBy_117 rfl rfl ?_
                        refine k_getf (pc := 118) (q0 := 0) (f := 14) (v := .ref (a 10)) E inX9 rfl rfl (by decide) wm_912 rfl rfl dX9_layBy_118 ?_
                        refine k_iload (pc := 121) E 0 dX9_layBy_121 rfl ?_
                        refine k_iaload (pc := 123) (q0 := 10) (t0 := 0) (k := 14) (n := 160) E rfl rfl rfl (by decide) (by omega) (by omega) dX9_layBy_123 (fun hr58 => ?_)
                        refine k_aloadn (pc := 124) E 2 dX9_layBy_124 rfl rfl ?_
                        refine k_getf (pc := 125) (q0 := 0) (f := 14) (v := .ref (a 10)) E inX9 rfl rfl (by decide) wm_912 rfl rfl dX9_layBy_125 ?_
                        refine k_iload (pc := 128) E 0 dX9_layBy_128 rfl ?_
                        refine k_iconst (pc := 130) E dX9_layBy_130 ?_
                        refine k_iadd (pc := 131) E dX9_layBy_131 ?_
                        refine k_iaload (pc := 132) (q0 := 10) (t0 := 0) (k := 14) (n := 160) E rfl rfl rfl (by decide) (by omega) (by omega) dX9_layBy_132 (fun hr59 => ?_)
                        refine k_aloadn (pc := 133) E 2 dX9_layBy_133 rfl rfl ?_
                        refine k_getf (pc := 134) (q0 := 0) (f := 14) (v := .ref (a 10)) E inX9 rfl rfl (by decide) wm_912 rfl rfl dX9_layBy_134 ?_
                        refine k_iload (pc := 137) E 0 dX9_layBy_137 rfl ?_
                        refine k_iconst (pc := 139) E dX9_layBy_139 ?_
                        refine k_iadd (pc := 140) E dX9_layBy_140 ?_
                        refine k_iaload (pc := 141) (q0 := 10) (t0 := 0) (k := 14) (n := 160) E rfl rfl rfl (by decide) (by omega) (by omega) dX9_layBy_141 (fun hr60 => ?_)
                        refine k_mr (fun hm_s44 => ?_)
                        refine k_callV (pc := 142) (np := 3) (As := [gI (s44 14 v57), gI (s44 14 (v57 + 1)), gI (s44 14 (v57 + 2))]) (st := [gI v42]) (q0 := 0) E (c_X9_lay l D a cI cJ cS cT s44 (s44 14 v57) (s44 14 (v57 + 1)) (s44 14 (v57 + 2)) (by omega) (by omega) (by omega) hKN_s44 hMO_s44) wm_1061 wm_11 wm_1285 wm_1059 wm_1060 (by decide +kernel) rfl rfl ⟨by decide, by decide⟩ rfl (Nat.le_of_ble_eq_true rfl) dX9_layBy_142 (fun r62 s63 hs63 hr61 => ?_)
                        replace hT := gby hT hs63
                        have hp64 := f_X9_lay_p (s44 14 v57) (s44 14 (v57 + 1)) (s44 14 (v57 + 2)) s44 (by omega) (by omega) (by omega) hm_s44 hKN_s44 hMO_s44 r62 s63 hs63
                        obtain ⟨hfc_s63, hm_s63, hp65, hKN_s63, hMO_s63⟩ := hp64
                        have hf_s63 : fr [0, 1] s0 s63 := hf_s44.call (by decide) hfc_s63
                        refine k_st (st' := [gI r62, gI v42]) rfl ?_
                        obtain ⟨z71, hz71, hT⟩ := gl1x hT
                        have j67 : ∀ (v68 : Int), ((in32 v68) ∧ (0 ≤ v68 ∧ v68 ≤ 1)) → z71 = v68 → gK D vwCl (wdM a cI cJ) lgM A p l e { frames := 4, cells := 0, slots := 0, locals := 256 } s m args below meth c 9 (gQQ D vwCl (wdM a cI cJ) lgM A kI in32 below args s) (f_X9_layBy x0 x1 x2 x3 s0) s63 153 [(0, .ref (a 0)), (1, gI x0), (3, gI x2), (4, gI x3), (6, gI v43)] [gI v68, gI v42] := by
                          intro v68 hq hz
                          obtain ⟨hq69, hq70⟩ := hq
                          replace hT := gl1y hT hz
                          refine k_iadd (pc := 153) E dX9_layBy_153 ?_
                          refine k_istore (pc := 154) (lv' := [(5, gI (v42 + v68)), (0, .ref (a 0)), (1, gI x0), (3, gI x2), (4, gI x3), (6, gI v43)]) E dX9_layBy_154 (by decide) rfl ?_
                          refine k_iinc (pc := 156) (lv' := [(6, gI (v43 + 1)), (5, gI (v42 + v68)), (0, .ref (a 0)), (1, gI x0), (3, gI x2), (4, gI x3)]) E 5 dX9_layBy_156 rfl (by decide) rfl ?_
                          refine k_goto (pc := 159) (tgt := 64) E dX9_layBy_159 (by decide) ?_
                          refine k_lv (lv' := [(0, .ref (a 0)), (1, gI x0), (3, gI x2), (4, gI x3), (5, gI (v42 + v68)), (6, gI (v43 + 1))]) [2, 3, 4, 5, 1, 0] rfl ?_
                          exact ih (v42 + v68) (v43 + 1) s63 ⟨(by omega), (by omega), hf_s63, hKN_s63, hMO_s63, (by first | assumption | omega), (by first | assumption | omega)⟩ (by omega) hT
                        replace hT := hz71
                        by_cases h66 : r62 < 0
                        · replace hT := hT.trans (if_pos h66)
                          refine k_if_lt_t (pc := 145) (tgt := 152) E (by omega) dX9_layBy_145 (by decide) h66 ?_
                          refine k_iconst (pc := 152) E dX9_layBy_152 ?_
                          refine k_lv (lv' := [(0, .ref (a 0)), (1, gI x0), (3, gI x2), (4, gI x3), (6, gI v43)]) [2, 3, 4, 5, 7] rfl ?_
                          exact j67 0 ⟨(by omega), (by first | assumption | omega)⟩ hT
                        · replace hT := hT.trans (if_neg h66)
                          refine k_if_lt_f (pc := 145) (tgt := 152) E (by omega) dX9_layBy_145 (by decide) h66 ?_
                          refine k_iconst (pc := 148) E dX9_layBy_148 ?_
                          refine k_goto (pc := 149) (tgt := 153) E dX9_layBy_149 (by decide) ?_
                          refine k_lv (lv' := [(0, .ref (a 0)), (1, gI x0), (3, gI x2), (4, gI x3), (6, gI v43)]) [2, 3, 4, 5, 7] rfl ?_
                          exact j67 1 ⟨(by omega), (by first | assumption | omega)⟩ hT
                · replace hT := hT.trans (if_neg h50)
                  refine k_icmp_ge_t (pc := 68) (tgt := 162) E (by omega) (by omega) dX9_layBy_68 (by decide) h50 ?_
                  refine k_iload (pc := 162) E 4 dX9_layBy_162 rfl ?_
                  exact k_rho hT (k_iret (pc := 164) E dX9_layBy_164 (by omega))
            refine k_lv (lv' := [(0, .ref (a 0)), (1, gI x0), (3, gI x2), (4, gI x3), (5, gI 0), (6, gI 0)]) [2, 3, 5, 6, 1, 0] rfl ?_
            exact L45 14 0 0 s0 ⟨(by omega), (by omega), hf_s0, hKN_s0, hMO_s0, (by first | assumption | omega), (by first | assumption | omega)⟩ (by omega) hT
          · replace hT := hT.trans (if_neg h15)
            refine k_icmp_eq_f (pc := 52) (tgt := 58) E (by omega) (by omega) dX9_layBy_52 (by decide) h15 ?_
            refine k_bipush (pc := 55) E dX9_layBy_55 (by decide) ?_
            exact k_rho hT (k_iret (pc := 57) E dX9_layBy_57 (by omega))

def f_X9_isUnder (x0 : Int) (x1 : Int) : Int := (gj (fun j2c => (if x1 = 0 then j2c else (if x0 = x1 then j2c else (gj (fun j5c => (if x1 = 1 then (if x0 = 3 then j2c else j5c) else j5c)) ((if x1 = 2 then (if x0 = 4 then j2c else 0) else 0)))))) (1))
theorem f_X9_isUnder_e (x0 : Int) (x1 : Int) : f_X9_isUnder x0 x1 = (gj (fun j2c => (if x1 = 0 then j2c else (if x0 = x1 then j2c else (gj (fun j5c => (if x1 = 1 then (if x0 = 3 then j2c else j5c) else j5c)) ((if x1 = 2 then (if x0 = 4 then j2c else 0) else 0)))))) (1)) := rfl
set_option maxRecDepth 100000 in
set_option maxHeartbeats 4000000 in
theorem f_X9_isUnder_p (x0 : Int) (x1 : Int) (hx0 : in32 x0) (hx1 : in32 x1)  : (((f_X9_isUnder x0 x1) = 0 ∨ (f_X9_isUnder x0 x1) = 1)) := by
  have hT := f_X9_isUnder_e x0 x1
  obtain ⟨j2c, hj2c, hT⟩ := gjx hT
  have j2 : (True) → (f_X9_isUnder x0 x1) = j2c  → (((f_X9_isUnder x0 x1) = 0 ∨ (f_X9_isUnder x0 x1) = 1)) := by
    intro  hq hT
    rw [hj2c] at hT
    rw [hT]
    exact (by first | exact Or.inl rfl | exact Or.inr rfl | omega)
  by_cases h1 : x1 = 0
  · replace hT := hT.trans (if_pos h1)
    exact j2  trivial hT
  · replace hT := hT.trans (if_neg h1)
    by_cases h3 : x0 = x1
    · replace hT := hT.trans (if_pos h3)
      exact j2  trivial hT
    · replace hT := hT.trans (if_neg h3)
      obtain ⟨j5c, hj5c, hT⟩ := gjx hT
      have j5 : (True) → (f_X9_isUnder x0 x1) = j5c  → (((f_X9_isUnder x0 x1) = 0 ∨ (f_X9_isUnder x0 x1) = 1)) := by
        intro  hq hT
        rw [hj5c] at hT
        by_cases h6 : x1 = 2
        · replace hT := hT.trans (if_pos h6)
          by_cases h7 : x0 = 4
          · replace hT := hT.trans (if_pos h7)
            exact j2  trivial hT
          · replace hT := hT.trans (if_neg h7)
            rw [hT]
            exact (by first | exact Or.inl rfl | exact Or.inr rfl | omega)
        · replace hT := hT.trans (if_neg h6)
          rw [hT]
          exact (by first | exact Or.inl rfl | exact Or.inr rfl | omega)
      by_cases h4 : x1 = 1
      · replace hT := hT.trans (if_pos h4)
        by_cases h8 : x0 = 3
        · replace hT := hT.trans (if_pos h8)
          exact j2  trivial hT
        · replace hT := hT.trans (if_neg h8)
          exact j5  trivial hT
      · replace hT := hT.trans (if_neg h4)
        exact j5  trivial hT
set_option maxRecDepth 100000 in
set_option maxHeartbeats 4000000 in
theorem c_X9_isUnder (l : Launch) (D : va_G) (a : Nat → Nat) (cI cJ cS cT : ClassId) (s0 : gMem) (x0 : Int) (x1 : Int) (hx0 : in32 x0) (hx1 : in32 x1)  : gC l yX9_isUnder cX9_isUnder 2 (some .boolean) 1 64 D vwCl (gT cI cJ cS cT) (wdM a cI cJ) lgM kI rgZ [gI x0, gI x1] s0 ((f_X9_isUnder x0 x1), s0) := by
  refine gC_of (by decide +kernel) (hwdM a cI cJ) (Nat.le_of_ble_eq_true rfl) ?_
  intro A p e R s m args below meth c hR E
  subst hR
  have hT := f_X9_isUnder_e x0 x1
  refine k_lv0 (lv' := [(0, gI x0), (1, gI x1)]) rfl ?_
  refine k_iloadn (pc := 0) E 1 dX9_isUnder_0 rfl rfl ?_
  obtain ⟨j2c, hj2c, hT⟩ := gjx hT
  have j2 : (True) → (f_X9_isUnder x0 x1) = j2c  → gK D vwCl (wdM a cI cJ) lgM A p l e { frames := 1, cells := 0, slots := 0, locals := 64 } s m args below meth c 2 (gQQ D vwCl (wdM a cI cJ) lgM A kI rgZ below args s) ((f_X9_isUnder x0 x1), s0) s0 29 [] [] := by
    intro  hq hT
    rw [hj2c] at hT
    refine k_iconst (pc := 29) E dX9_isUnder_29 ?_
    refine k_goto (pc := 30) (tgt := 34) E dX9_isUnder_30 (by decide) ?_
    exact k_rho (congrArg (fun q => (q, s0)) hT) (k_zret (pc := 34) E dX9_isUnder_34 (by first | exact Or.inl rfl | exact Or.inr rfl | omega))
  by_cases h1 : x1 = 0
  · replace hT := hT.trans (if_pos h1)
    refine k_if_eq_t (pc := 1) (tgt := 29) E (by omega) dX9_isUnder_1 (by decide) h1 ?_
    refine k_lv (lv' := []) [] rfl ?_
    exact j2  trivial hT
  · replace hT := hT.trans (if_neg h1)
    refine k_if_eq_f (pc := 1) (tgt := 29) E (by omega) dX9_isUnder_1 (by decide) h1 ?_
    refine k_iloadn (pc := 4) E 0 dX9_isUnder_4 rfl rfl ?_
    refine k_iloadn (pc := 5) E 1 dX9_isUnder_5 rfl rfl ?_
    by_cases h3 : x0 = x1
    · replace hT := hT.trans (if_pos h3)
      refine k_icmp_eq_t (pc := 6) (tgt := 29) E (by omega) (by omega) dX9_isUnder_6 (by decide) h3 ?_
      refine k_lv (lv' := []) [] rfl ?_
      exact j2  trivial hT
    · replace hT := hT.trans (if_neg h3)
      refine k_icmp_eq_f (pc := 6) (tgt := 29) E (by omega) (by omega) dX9_isUnder_6 (by decide) h3 ?_
      refine k_iloadn (pc := 9) E 1 dX9_isUnder_9 rfl rfl ?_
      refine k_iconst (pc := 10) E dX9_isUnder_10 ?_
      obtain ⟨j5c, hj5c, hT⟩ := gjx hT
      have j5 : (True) → (f_X9_isUnder x0 x1) = j5c  → gK D vwCl (wdM a cI cJ) lgM A p l e { frames := 1, cells := 0, slots := 0, locals := 64 } s m args below meth c 2 (gQQ D vwCl (wdM a cI cJ) lgM A kI rgZ below args s) ((f_X9_isUnder x0 x1), s0) s0 19 [(0, gI x0), (1, gI x1)] [] := by
        intro  hq hT
        rw [hj5c] at hT
        refine k_iloadn (pc := 19) E 1 dX9_isUnder_19 rfl rfl ?_
        refine k_iconst (pc := 20) E dX9_isUnder_20 ?_
        by_cases h6 : x1 = 2
        · replace hT := hT.trans (if_pos h6)
          refine k_icmp_ne_f (pc := 21) (tgt := 33) E (by omega) (by omega) dX9_isUnder_21 (by decide) h6 ?_
          refine k_iloadn (pc := 24) E 0 dX9_isUnder_24 rfl rfl ?_
          refine k_iconst (pc := 25) E dX9_isUnder_25 ?_
          by_cases h7 : x0 = 4
          · replace hT := hT.trans (if_pos h7)
            refine k_icmp_ne_f (pc := 26) (tgt := 33) E (by omega) (by omega) dX9_isUnder_26 (by decide) h7 ?_
            refine k_lv (lv' := []) [] rfl ?_
            exact j2  trivial hT
          · replace hT := hT.trans (if_neg h7)
            refine k_icmp_ne_t (pc := 26) (tgt := 33) E (by omega) (by omega) dX9_isUnder_26 (by decide) h7 ?_
            refine k_iconst (pc := 33) E dX9_isUnder_33 ?_
            exact k_rho (congrArg (fun q => (q, s0)) hT) (k_zret (pc := 34) E dX9_isUnder_34 (by first | exact Or.inl rfl | exact Or.inr rfl | omega))
        · replace hT := hT.trans (if_neg h6)
          refine k_icmp_ne_t (pc := 21) (tgt := 33) E (by omega) (by omega) dX9_isUnder_21 (by decide) h6 ?_
          refine k_iconst (pc := 33) E dX9_isUnder_33 ?_
          exact k_rho (congrArg (fun q => (q, s0)) hT) (k_zret (pc := 34) E dX9_isUnder_34 (by first | exact Or.inl rfl | exact Or.inr rfl | omega))
      by_cases h4 : x1 = 1
      · replace hT := hT.trans (if_pos h4)
        refine k_icmp_ne_f (pc := 11) (tgt := 19) E (by omega) (by omega) dX9_isUnder_11 (by decide) h4 ?_
        refine k_iloadn (pc := 14) E 0 dX9_isUnder_14 rfl rfl ?_
        refine k_iconst (pc := 15) E dX9_isUnder_15 ?_
        by_cases h8 : x0 = 3
        · replace hT := hT.trans (if_pos h8)
          refine k_icmp_eq_t (pc := 16) (tgt := 29) E (by omega) (by omega) dX9_isUnder_16 (by decide) h8 ?_
          refine k_lv (lv' := []) [] rfl ?_
          exact j2  trivial hT
        · replace hT := hT.trans (if_neg h8)
          refine k_icmp_eq_f (pc := 16) (tgt := 29) E (by omega) (by omega) dX9_isUnder_16 (by decide) h8 ?_
          exact j5  trivial hT
      · replace hT := hT.trans (if_neg h4)
        refine k_icmp_ne_t (pc := 11) (tgt := 19) E (by omega) (by omega) dX9_isUnder_11 (by decide) h4 ?_
        exact j5  trivial hT

def f_X9_taken (x0 : Int) (x1 : Int) (s0 : gMem) : Int := (if (f_X9_in x1 0 6) = 0 then (-2) else (if (f_X9_in x0 0 31) = 0 then (-12) else (if x0 < 16 then (if x1 < 6 then (if (f_X9_isUnder (s0 0 x0) x1) = 0 then (-13) else x0) else (-13)) else (if (f_X9_isIn (s0 2 1) (x0 - 16)) = 0 then (-11) else (if x1 = 6 then (f_X9_ones (iand (s0 2 1) ((ishl 1 ((x0 - 16) + 1)) - 1))) else (-13))))))
theorem f_X9_taken_e (x0 : Int) (x1 : Int) (s0 : gMem) : f_X9_taken x0 x1 s0 = (if (f_X9_in x1 0 6) = 0 then (-2) else (if (f_X9_in x0 0 31) = 0 then (-12) else (if x0 < 16 then (if x1 < 6 then (if (f_X9_isUnder (s0 0 x0) x1) = 0 then (-13) else x0) else (-13)) else (if (f_X9_isIn (s0 2 1) (x0 - 16)) = 0 then (-11) else (if x1 = 6 then (f_X9_ones (iand (s0 2 1) ((ishl 1 ((x0 - 16) + 1)) - 1))) else (-13)))))) := rfl
set_option maxRecDepth 100000 in
set_option maxHeartbeats 4000000 in
theorem f_X9_taken_p (x0 : Int) (x1 : Int) (s0 : gMem) (hx0 : in32 x0) (hx1 : in32 x1) (hm_s0 : gMR lgM s0) (hpre0 : TD s0) : (in64 (f_X9_taken x0 x1 s0)) := by
  have hT := f_X9_taken_e x0 x1 s0
  have hp2 := f_X9_in_p x1 0 6 (by omega) (by omega) (by omega) 
  by_cases h3 : (f_X9_in x1 0 6) = 0
  · replace hT := hT.trans (if_pos h3)
    rw [hT]
    exact (by omega)
  · replace hT := hT.trans (if_neg h3)
    have hp5 := f_X9_in_p x0 0 31 (by omega) (by omega) (by omega) 
    by_cases h6 : (f_X9_in x0 0 31) = 0
    · replace hT := hT.trans (if_pos h6)
      rw [hT]
      exact (by omega)
    · replace hT := hT.trans (if_neg h6)
      by_cases h7 : x0 < 16
      · replace hT := hT.trans (if_pos h7)
        by_cases h8 : x1 < 6
        · replace hT := hT.trans (if_pos h8)
          have hr9 := (hm_s0 0 x0).1 rfl
          have hp11 := f_X9_isUnder_p (s0 0 x0) x1 (by omega) (by omega) 
          by_cases h12 : (f_X9_isUnder (s0 0 x0) x1) = 0
          · replace hT := hT.trans (if_pos h12)
            rw [hT]
            exact (by omega)
          · replace hT := hT.trans (if_neg h12)
            rw [hT]
            exact (by omega)
        · replace hT := hT.trans (if_neg h8)
          rw [hT]
          exact (by omega)
      · replace hT := hT.trans (if_neg h7)
        have hr13 := (hm_s0 2 1).1 rfl
        have hi14 := hpre0 1
        have hp16 := f_X9_isIn_p (s0 2 1) (x0 - 16) (by omega) (by omega) 
        by_cases h17 : (f_X9_isIn (s0 2 1) (x0 - 16)) = 0
        · replace hT := hT.trans (if_pos h17)
          rw [hT]
          exact (by omega)
        · replace hT := hT.trans (if_neg h17)
          by_cases h18 : x1 = 6
          · replace hT := hT.trans (if_pos h18)
            have hr19 := (hm_s0 2 1).1 rfl
            have hi20 := hpre0 1
            have hb21 := ishl_rg 1 ((x0 - 16) + 1)
            have hb22 : 0 ≤ ((x0 - 16) + 1) ∧ ((x0 - 16) + 1) ≤ 15 → _ := fun q => ishl_1 q.1 q.2
            have k9 := ishl_2 (p := (x0 - 16) + 1) (by omega) (by omega)
            have hb23 := iand_rg (s0 2 1) ((ishl 1 ((x0 - 16) + 1)) - 1)
            have hp25 := f_X9_ones_p (iand (s0 2 1) ((ishl 1 ((x0 - 16) + 1)) - 1)) (by omega) 
            rw [hT]
            exact (by omega)
          · replace hT := hT.trans (if_neg h18)
            rw [hT]
            exact (by omega)
set_option maxRecDepth 100000 in
set_option maxHeartbeats 4000000 in
theorem c_X9_taken (l : Launch) (D : va_G) (a : Nat → Nat) (cI cJ cS cT : ClassId) (s0 : gMem) (x0 : Int) (x1 : Int) (hx0 : in32 x0) (hx1 : in32 x1) (hpre0 : TD s0) : gC l yX9_taken cX9_taken 4 (some .long) 2 128 D vwCl (gT cI cJ cS cT) (wdM a cI cJ) lgM kJ in64 [.ref (a 0), gI x0, gI x1] s0 ((f_X9_taken x0 x1 s0), s0) := by
  refine gC_of (by decide +kernel) (hwdM a cI cJ) (Nat.le_of_ble_eq_true rfl) ?_
  intro A p e R s m args below meth c hR E
  subst hR
  have hT := f_X9_taken_e x0 x1 s0
  refine k_lv0 (lv' := [(0, .ref (a 0)), (1, gI x0), (2, gI x1)]) rfl ?_
  refine k_mr (fun hm_s0 => ?_)
  refine k_iloadn (pc := 0) E 2 dX9_taken_0 rfl rfl ?_
  refine k_iconst (pc := 1) E dX9_taken_1 ?_
  refine k_bipush (pc := 2) E dX9_taken_2 (by decide) ?_
  refine k_mr (fun hm_s0 => ?_)
  refine k_callS (pc := 4) (np := 3) (As := [gI x1, gI 0, gI 6]) (st := []) E (c_X9_in l D a cI cJ cS cT s0 x1 0 6 (by omega) (by omega) (by omega)) wm_861 wm_11 wm_859 wm_860 (by decide +kernel) ⟨by decide, by decide⟩ rfl (Nat.le_of_ble_eq_true rfl) dX9_taken_4 (ro_kk (fun hr1 => ?_))
  have hp2 := f_X9_in_p x1 0 6 (by omega) (by omega) (by omega) 
  refine k_st (st' := [gI (f_X9_in x1 0 6)]) rfl ?_
  by_cases h3 : (f_X9_in x1 0 6) = 0
  · replace hT := hT.trans (if_pos h3)
    refine k_if_ne_f (pc := 7) (tgt := 14) E (by omega) dX9_taken_7 (by decide) h3 ?_
    refine k_ldc2 (pc := 10) (n := (-2)) E dX9_taken_10 wm_1290 (by decide) ?_
    exact k_rho (congrArg (fun q => (q, s0)) hT) (k_lret (pc := 13) E dX9_taken_13 (by omega))
  · replace hT := hT.trans (if_neg h3)
    refine k_if_ne_t (pc := 7) (tgt := 14) E (by omega) dX9_taken_7 (by decide) h3 ?_
    refine k_iloadn (pc := 14) E 1 dX9_taken_14 rfl rfl ?_
    refine k_iconst (pc := 15) E dX9_taken_15 ?_
    refine k_bipush (pc := 16) E dX9_taken_16 (by decide) ?_
    refine k_mr (fun hm_s0 => ?_)
    refine k_callS (pc := 18) (np := 3) (As := [gI x0, gI 0, gI 31]) (st := []) E (c_X9_in l D a cI cJ cS cT s0 x0 0 31 (by omega) (by omega) (by omega)) wm_861 wm_11 wm_859 wm_860 (by decide +kernel) ⟨by decide, by decide⟩ rfl (Nat.le_of_ble_eq_true rfl) dX9_taken_18 (ro_kk (fun hr4 => ?_))
    have hp5 := f_X9_in_p x0 0 31 (by omega) (by omega) (by omega) 
    refine k_st (st' := [gI (f_X9_in x0 0 31)]) rfl ?_
    by_cases h6 : (f_X9_in x0 0 31) = 0
    · replace hT := hT.trans (if_pos h6)
      refine k_if_ne_f (pc := 21) (tgt := 28) E (by omega) dX9_taken_21 (by decide) h6 ?_
      refine k_ldc2 (pc := 24) (n := (-12)) E dX9_taken_24 wm_1291 (by decide) ?_
      exact k_rho (congrArg (fun q => (q, s0)) hT) (k_lret (pc := 27) E dX9_taken_27 (by omega))
    · replace hT := hT.trans (if_neg h6)
      refine k_if_ne_t (pc := 21) (tgt := 28) E (by omega) dX9_taken_21 (by decide) h6 ?_
      refine k_iloadn (pc := 28) E 1 dX9_taken_28 rfl rfl ?_
      refine k_bipush (pc := 29) E dX9_taken_29 (by decide) ?_
      by_cases h7 : x0 < 16
      · replace hT := hT.trans (if_pos h7)
        refine k_icmp_ge_f (pc := 31) (tgt := 62) E (by omega) (by omega) dX9_taken_31 (by decide) h7 ?_
        refine k_iloadn (pc := 34) E 2 dX9_taken_34 rfl rfl ?_
        refine k_bipush (pc := 35) E dX9_taken_35 (by decide) ?_
        by_cases h8 : x1 < 6
        · replace hT := hT.trans (if_pos h8)
          refine k_icmp_ge_f (pc := 37) (tgt := 58) E (by omega) (by omega) dX9_taken_37 (by decide) h8 ?_
          refine k_aloadn (pc := 40) E 0 dX9_taken_40 rfl rfl ?_
          refine k_getf (pc := 41) (q0 := 0) (f := 0) (v := .ref (a 1)) E inX9 rfl rfl (by decide) wm_898 rfl rfl dX9_taken_41 ?_
          refine k_iloadn (pc := 44) E 1 dX9_taken_44 rfl rfl ?_
          refine k_iaload (pc := 45) (q0 := 1) (t0 := 0) (k := 0) (n := 16) E rfl rfl rfl (by decide) (by omega) (by omega) dX9_taken_45 (fun hr9 => ?_)
          refine k_iloadn (pc := 46) E 2 dX9_taken_46 rfl rfl ?_
          refine k_callS (pc := 47) (np := 2) (As := [gI (s0 0 x0), gI x1]) (st := []) E (c_X9_isUnder l D a cI cJ cS cT s0 (s0 0 x0) x1 (by omega) (by omega)) wm_1294 wm_11 wm_1292 wm_1293 (by decide +kernel) ⟨by decide, by decide⟩ rfl (Nat.le_of_ble_eq_true rfl) dX9_taken_47 (ro_kk (fun hr10 => ?_))
          refine k_st (st' := [gI (f_X9_isUnder (s0 0 x0) x1)]) rfl ?_
          by_cases h12 : (f_X9_isUnder (s0 0 x0) x1) = 0
          · replace hT := hT.trans (if_pos h12)
            refine k_if_eq_t (pc := 50) (tgt := 58) E (by omega) dX9_taken_50 (by decide) h12 ?_
            refine k_ldc2 (pc := 58) (n := (-13)) E dX9_taken_58 wm_1295 (by decide) ?_
            exact k_rho (congrArg (fun q => (q, s0)) hT) (k_lret (pc := 61) E dX9_taken_61 (by omega))
          · replace hT := hT.trans (if_neg h12)
            refine k_if_eq_f (pc := 50) (tgt := 58) E (by omega) dX9_taken_50 (by decide) h12 ?_
            refine k_iloadn (pc := 53) E 1 dX9_taken_53 rfl rfl ?_
            refine k_i2l (pc := 54) E dX9_taken_54 (by omega) ?_
            refine k_goto (pc := 55) (tgt := 61) E dX9_taken_55 (by decide) ?_
            exact k_rho (congrArg (fun q => (q, s0)) hT) (k_lret (pc := 61) E dX9_taken_61 (by omega))
        · replace hT := hT.trans (if_neg h8)
          refine k_icmp_ge_t (pc := 37) (tgt := 58) E (by omega) (by omega) dX9_taken_37 (by decide) h8 ?_
          refine k_ldc2 (pc := 58) (n := (-13)) E dX9_taken_58 wm_1295 (by decide) ?_
          exact k_rho (congrArg (fun q => (q, s0)) hT) (k_lret (pc := 61) E dX9_taken_61 (by omega))
      · replace hT := hT.trans (if_neg h7)
        refine k_icmp_ge_t (pc := 31) (tgt := 62) E (by omega) (by omega) dX9_taken_31 (by decide) h7 ?_
        refine k_iloadn (pc := 62) E 1 dX9_taken_62 rfl rfl ?_
        refine k_bipush (pc := 63) E dX9_taken_63 (by decide) ?_
        refine k_isub (pc := 65) E dX9_taken_65 ?_
        refine k_istoren (pc := 66) (lv' := [(3, gI (x0 - 16)), (0, .ref (a 0)), (1, gI x0), (2, gI x1)]) E dX9_taken_66 rfl (by decide) rfl ?_
        refine k_aloadn (pc := 67) E 1 dX9_taken_67 rfl rfl ?_
        refine k_getf (pc := 68) (q0 := 0) (f := 2) (v := .ref (a 3)) E inX9 rfl rfl (by decide) wm_900 rfl rfl dX9_taken_68 ?_
        refine k_iconst (pc := 71) E dX9_taken_71 ?_
        refine k_iaload (pc := 72) (q0 := 3) (t0 := 0) (k := 2) (n := 4) E rfl rfl rfl (by decide) (by omega) (by omega) dX9_taken_72 (fun hr13 => ?_)
        have hi14 := hpre0 1
        refine k_iloadn (pc := 73) E 0 dX9_taken_73 rfl rfl ?_
        refine k_mr (fun hm_s0 => ?_)
        refine k_callS (pc := 74) (np := 2) (As := [gI (s0 2 1), gI (x0 - 16)]) (st := []) E (c_X9_isIn l D a cI cJ cS cT s0 (s0 2 1) (x0 - 16) (by omega) (by omega)) wm_1088 wm_11 wm_1086 wm_1087 (by decide +kernel) ⟨by decide, by decide⟩ rfl (Nat.le_of_ble_eq_true rfl) dX9_taken_74 (ro_kk (fun hr15 => ?_))
        have hp16 := f_X9_isIn_p (s0 2 1) (x0 - 16) (by omega) (by omega) 
        refine k_st (st' := [gI (f_X9_isIn (s0 2 1) (x0 - 16))]) rfl ?_
        by_cases h17 : (f_X9_isIn (s0 2 1) (x0 - 16)) = 0
        · replace hT := hT.trans (if_pos h17)
          refine k_if_ne_f (pc := 77) (tgt := 86) E (by omega) dX9_taken_77 (by decide) h17 ?_
          refine k_ldc2 (pc := 80) (n := (-11)) E dX9_taken_80 wm_1296 (by decide) ?_
          refine k_goto (pc := 83) (tgt := 116) E dX9_taken_83 (by decide) ?_
          exact k_rho (congrArg (fun q => (q, s0)) hT) (k_lret (pc := 116) E dX9_taken_116 (by omega))
        · replace hT := hT.trans (if_neg h17)
          refine k_if_ne_t (pc := 77) (tgt := 86) E (by omega) dX9_taken_77 (by decide) h17 ?_
          refine k_iloadn (pc := 86) E 3 dX9_taken_86 rfl rfl ?_
          refine k_bipush (pc := 87) E dX9_taken_87 (by decide) ?_
          by_cases h18 : x1 = 6
          · replace hT := hT.trans (if_pos h18)
            refine k_icmp_ne_f (pc := 89) (tgt := 113) E (by omega) (by omega) dX9_taken_89 (by decide) h18 ?_
            refine k_aloadn (pc := 92) E 1 dX9_taken_92 rfl rfl ?_
            refine k_getf (pc := 93) (q0 := 0) (f := 2) (v := .ref (a 3)) E inX9 rfl rfl (by decide) wm_900 rfl rfl dX9_taken_93 ?_
            refine k_iconst (pc := 96) E dX9_taken_96 ?_
            refine k_iaload (pc := 97) (q0 := 3) (t0 := 0) (k := 2) (n := 4) E rfl rfl rfl (by decide) (by omega) (by omega) dX9_taken_97 (fun hr19 => ?_)
            have hi20 := hpre0 1
            refine k_iconst (pc := 98) E dX9_taken_98 ?_
            refine k_iloadn (pc := 99) E 0 dX9_taken_99 rfl rfl ?_
            refine k_iconst (pc := 100) E dX9_taken_100 ?_
            refine k_iadd (pc := 101) E dX9_taken_101 ?_
            refine k_ishl (pc := 102) E dX9_taken_102 ?_
            have hb21 := ishl_rg 1 ((x0 - 16) + 1)
            have hb22 : 0 ≤ ((x0 - 16) + 1) ∧ ((x0 - 16) + 1) ≤ 15 → _ := fun q => ishl_1 q.1 q.2
            have k9 := ishl_2 (p := (x0 - 16) + 1) (by omega) (by omega)
            refine k_iconst (pc := 103) E dX9_taken_103 ?_
            refine k_isub (pc := 104) E dX9_taken_104 ?_
            refine k_iand (pc := 105) E dX9_taken_105 ?_
            have hb23 := iand_rg (s0 2 1) ((ishl 1 ((x0 - 16) + 1)) - 1)
            refine k_mr (fun hm_s0 => ?_)
            refine k_callS (pc := 106) (np := 1) (As := [gI (iand (s0 2 1) ((ishl 1 ((x0 - 16) + 1)) - 1))]) (st := []) E (c_X9_ones l D a cI cJ cS cT s0 (iand (s0 2 1) ((ishl 1 ((x0 - 16) + 1)) - 1)) (by omega)) wm_1047 wm_11 wm_1045 wm_1046 (by decide +kernel) ⟨by decide, by decide⟩ rfl (Nat.le_of_ble_eq_true rfl) dX9_taken_106 (ro_kk (fun hr24 => ?_))
            have hp25 := f_X9_ones_p (iand (s0 2 1) ((ishl 1 ((x0 - 16) + 1)) - 1)) (by omega) 
            refine k_st (st' := [gI (f_X9_ones (iand (s0 2 1) ((ishl 1 ((x0 - 16) + 1)) - 1)))]) rfl ?_
            refine k_i2l (pc := 109) E dX9_taken_109 (by omega) ?_
            refine k_goto (pc := 110) (tgt := 116) E dX9_taken_110 (by decide) ?_
            exact k_rho (congrArg (fun q => (q, s0)) hT) (k_lret (pc := 116) E dX9_taken_116 (by omega))
          · replace hT := hT.trans (if_neg h18)
            refine k_icmp_ne_t (pc := 89) (tgt := 113) E (by omega) (by omega) dX9_taken_89 (by decide) h18 ?_
            refine k_ldc2 (pc := 113) (n := (-13)) E dX9_taken_113 wm_1295 (by decide) ?_
            exact k_rho (congrArg (fun q => (q, s0)) hT) (k_lret (pc := 116) E dX9_taken_116 (by omega))
