def w_X9_closes_132 (c1 : Int) (c3 : Int) (c9 : Int) (c11 : Int) : Nat → Int → gMem → Int × gMem
  | 0, v40, s41 => (v40, s41)
  | n42 + 1, v40, s41 => (if (c1 + c3) < v40 then (v40, s41) else gl (mset s41 34 v40 c11) (fun s44 => (w_X9_closes_132 c1 c3 c9 c11 n42 (v40 + 1) s44)))
theorem w_X9_closes_132_s (c1 : Int) (c3 : Int) (c9 : Int) (c11 : Int) (n42 : Nat) (v40 : Int) (s41 : gMem) : w_X9_closes_132 c1 c3 c9 c11 (n42 + 1) v40 s41 = (if (c1 + c3) < v40 then (v40, s41) else gl (mset s41 34 v40 c11) (fun s44 => (w_X9_closes_132 c1 c3 c9 c11 n42 (v40 + 1) s44))) := rfl
def f_X9_closes (x0 : Int) (s0 : gMem) : gRes := gl (f_X9_runFrom x0 (-1) s0) (fun v3 => (gl ((if 0 < v3 then (s0 34 (f_X9_within (x0 - 1) 0 15)) else 0)) (fun v8 => (gl ((if 0 < (f_X9_runFrom x0 1 s0) then (s0 34 (f_X9_within (x0 + 1) 0 15)) else 0)) (fun v11 => gl (v3 + (f_X9_runFrom x0 1 s0)) (fun v12 => gb (f_X9_fallsOf x0 v12 s0) (fun r14 s15 => gb (f_X9_takesOf x0 s15) (fun r20 s21 => gb (f_X9_asksOf 2 x0 v12 s21) (fun r26 s27 => gl (f_X9_most ((((1000 * (r20 + r26)) * 100) + ((v8 + v11) * r14)) / (100 - r14))) (fun v36 => gl (f_X9_most ((v8 + v11) + v36)) (fun v39 => (gl2 (w_X9_closes_132 x0 (f_X9_runFrom x0 1 s0) v36 v39 17 (x0 - v3) s27) (fun v57 s58 => (v36, s58))))))))))))))
theorem f_X9_closes_e (x0 : Int) (s0 : gMem) : f_X9_closes x0 s0 = gl (f_X9_runFrom x0 (-1) s0) (fun v3 => (gl ((if 0 < v3 then (s0 34 (f_X9_within (x0 - 1) 0 15)) else 0)) (fun v8 => (gl ((if 0 < (f_X9_runFrom x0 1 s0) then (s0 34 (f_X9_within (x0 + 1) 0 15)) else 0)) (fun v11 => gl (v3 + (f_X9_runFrom x0 1 s0)) (fun v12 => gb (f_X9_fallsOf x0 v12 s0) (fun r14 s15 => gb (f_X9_takesOf x0 s15) (fun r20 s21 => gb (f_X9_asksOf 2 x0 v12 s21) (fun r26 s27 => gl (f_X9_most ((((1000 * (r20 + r26)) * 100) + ((v8 + v11) * r14)) / (100 - r14))) (fun v36 => gl (f_X9_most ((v8 + v11) + v36)) (fun v39 => (gl2 (w_X9_closes_132 x0 (f_X9_runFrom x0 1 s0) v36 v39 17 (x0 - v3) s27) (fun v57 s58 => (v36, s58)))))))))))))) := rfl
set_option maxRecDepth 100000 in
set_option maxHeartbeats 4000000 in
theorem f_X9_closes_p (x0 : Int) (s0 : gMem) (hx0 : in32 x0) (hm_s0 : gMR lgM s0) (hpre0 : VS s0) (hpre1 : KN s0) (hpre2 : MO s0) (hpre3 : MN s0) (hpre4 : 0 ≤ x0 ∧ x0 ≤ 15) (rZ : Int) (sZ : gMem) (hres : f_X9_closes x0 s0 = (rZ, sZ)) : (fr [25, 26, 34] s0 sZ) ∧ (gMR lgM sZ) ∧ (in64 rZ) ∧ (MN sZ) ∧ (0 ≤ rZ ∧ rZ ≤ 1000000000000) := by
  have hT := f_X9_closes_e x0 s0
  have hf_s0 : fr [25, 26, 34] s0 s0 := fr.rf _ _
  have hMN_s0 := hpre3
  have hp2 := f_X9_runFrom_p x0 (-1) s0 (by omega) (by omega) hm_s0 hMN_s0 (by first | assumption | omega) (by first | assumption | omega)
  obtain ⟨v3, hv3, hT⟩ := glx hT
  have hp5 := f_X9_runFrom_p x0 1 s0 (by omega) (by omega) hm_s0 hMN_s0 (by first | assumption | omega) (by first | assumption | omega)
  obtain ⟨z70, hz70, hT⟩ := gl1x hT
  have j7 : ∀ (v8 : Int), ((in64 v8) ∧ (-1 ≤ v8 ∧ v8 ≤ 1000000000000)) → z70 = v8 → (fr [25, 26, 34] s0 sZ) ∧ (gMR lgM sZ) ∧ (in64 rZ) ∧ (MN sZ) ∧ (0 ≤ rZ ∧ rZ ≤ 1000000000000) := by
    intro v8 hq hz
    obtain ⟨hq68, hq69⟩ := hq
    replace hT := gl1y hT hz
    obtain ⟨z63, hz63, hT⟩ := gl1x hT
    have j10 : ∀ (v11 : Int), ((in64 v11) ∧ (-1 ≤ v11 ∧ v11 ≤ 1000000000000)) → z63 = v11 → (fr [25, 26, 34] s0 sZ) ∧ (gMR lgM sZ) ∧ (in64 rZ) ∧ (MN sZ) ∧ (0 ≤ rZ ∧ rZ ≤ 1000000000000) := by
      intro v11 hq hz
      obtain ⟨hq61, hq62⟩ := hq
      replace hT := gl1y hT hz
      obtain ⟨v12, hv12, hT⟩ := glx hT
      obtain ⟨r14, s15, hs15⟩ : ∃ rr ss, (f_X9_fallsOf x0 v12 s0) = (rr, ss) := ⟨_, _, rfl⟩
      replace hT := gby hT hs15
      have hp16 := f_X9_fallsOf_p x0 v12 s0 (by omega) (by omega) hm_s0 hpre0 hpre1 hpre2 (by first | assumption | omega) (by first | assumption | omega) r14 s15 hs15
      obtain ⟨hfc_s15, hm_s15, hp17, hp18⟩ := hp16
      have hf_s15 : fr [25, 26, 34] s0 s15 := hf_s0.call (by decide) hfc_s15
      have hMN_s15 : MN s15 := fun i => by rw [hfc_s15 34 (by decide)]; exact hMN_s0 i
      obtain ⟨r20, s21, hs21⟩ : ∃ rr ss, (f_X9_takesOf x0 s15) = (rr, ss) := ⟨_, _, rfl⟩
      replace hT := gby hT hs21
      have hp22 := f_X9_takesOf_p x0 s15 (by omega) hm_s15 (by unfold VS; rw [hf_s15 5 (by decide), hf_s15 6 (by decide), hf_s15 7 (by decide), hf_s15 8 (by decide)]; exact hpre0) (by unfold KN; rw [hf_s15 0 (by decide)]; exact hpre1) (by unfold MO; rw [hf_s15 1 (by decide)]; exact hpre2) (by first | assumption | omega) r20 s21 hs21
      obtain ⟨hfc_s21, hm_s21, hp23, hp24⟩ := hp22
      have hf_s21 : fr [25, 26, 34] s0 s21 := hf_s15.call (by decide) hfc_s21
      have hMN_s21 : MN s21 := fun i => by rw [hfc_s21 34 (by decide)]; exact hMN_s15 i
      obtain ⟨r26, s27, hs27⟩ : ∃ rr ss, (f_X9_asksOf 2 x0 v12 s21) = (rr, ss) := ⟨_, _, rfl⟩
      replace hT := gby hT hs27
      have hp28 := f_X9_asksOf_p 2 x0 v12 s21 (by omega) (by omega) (by omega) hm_s21 (by unfold VS; rw [hf_s21 5 (by decide), hf_s21 6 (by decide), hf_s21 7 (by decide), hf_s21 8 (by decide)]; exact hpre0) (by first | assumption | omega) (by first | assumption | omega) r26 s27 hs27
      obtain ⟨hfc_s27, hm_s27, hp29, hp30⟩ := hp28
      have hf_s27 : fr [25, 26, 34] s0 s27 := hf_s21.call (by decide) hfc_s27
      have hMN_s27 : MN s27 := fun i => by rw [hfc_s27 34 (by decide)]; exact hMN_s21 i
      have km := mul_rg2 (c := 2) (a := 2000000000000) (b := 99) (x := (v8 + v11)) (y := r14) (by omega) (by omega) (by omega) (by omega) (by decide) (by decide)
      have kd := dv_lo (x := (((1000 * (r20 + r26)) * 100) + ((v8 + v11) * r14))) (y := (100 - r14)) (by omega) (by omega) (by omega)
      have hd31 : (0 : Int) ≤ (((1000 * (r20 + r26)) * 100) + ((v8 + v11) * r14)) := (by omega)
      have hd32 : (0 : Int) < (100 - r14) := (by omega)
      have hb33 := dv_rg hd31 hd32
      have hp35 := f_X9_most_p ((((1000 * (r20 + r26)) * 100) + ((v8 + v11) * r14)) / (100 - r14)) (by omega) 
      obtain ⟨v36, hv36, hT⟩ := glx hT
      have hp38 := f_X9_most_p ((v8 + v11) + v36) (by omega) 
      obtain ⟨v39, hv39, hT⟩ := glx hT
      have L47 : ∀ (n48 : Nat) (v45 : Int) (s46 : gMem), ((in32 v45) ∧ (fr [25, 26, 34] s0 s46) ∧ (gMR lgM s46) ∧ (MN s46) ∧ (0 ≤ v45 ∧ v45 ≤ x0 + (f_X9_runFrom x0 1 s0) + 1)) → x0 + (f_X9_runFrom x0 1 s0) + 1 - v45 < (n48 : Int) → (∀ (w49 : Int) (s50 : gMem), (w_X9_closes_132 x0 (f_X9_runFrom x0 1 s0) v36 v39 n48 v45 s46) = (w49, s50) → ((in32 w49) ∧ (fr [25, 26, 34] s0 s50) ∧ (gMR lgM s50) ∧ (MN s50) ∧ (0 ≤ w49 ∧ w49 ≤ x0 + (f_X9_runFrom x0 1 s0) + 1)) → (fr [25, 26, 34] s0 sZ) ∧ (gMR lgM sZ) ∧ (in64 rZ) ∧ (MN sZ) ∧ (0 ≤ rZ ∧ rZ ≤ 1000000000000)) → (fr [25, 26, 34] s0 sZ) ∧ (gMR lgM sZ) ∧ (in64 rZ) ∧ (MN sZ) ∧ (0 ≤ rZ ∧ rZ ≤ 1000000000000) := by
        intro n48; induction n48 with
        | zero =>
          intro v45 s46 hq hm hk
          exfalso
          obtain ⟨hq53, hf_s46, hm_s46, hMN_s46, hq54⟩ := hq
          omega
        | succ n48 ih =>
          intro v45 s46 hq hm hk
          obtain ⟨hq55, hf_s46, hm_s46, hMN_s46, hq56⟩ := hq
          have hT := w_X9_closes_132_s x0 (f_X9_runFrom x0 1 s0) v36 v39 n48 v45 s46
          by_cases h51 : (x0 + (f_X9_runFrom x0 1 s0)) < v45
          · replace hT := hT.trans (if_pos h51)
            exact hk v45 s46 hT ⟨(by omega), hf_s46, hm_s46, hMN_s46, (by first | assumption | omega)⟩
          · replace hT := hT.trans (if_neg h51)
            obtain ⟨s52, hs52, hT⟩ := glx hT
            have hf_s52 : fr [25, 26, 34] s0 s52 := hs52 ▸ hf_s46.set (by decide)
            have hm_s52 : gMR lgM s52 := hs52 ▸ hm_s46.set64 rfl (by omega)
            have hMN_s52 : MN s52 := hs52 ▸ MN_set hMN_s46 (by omega)
            exact ih (v45 + 1) s52 ⟨(by omega), hf_s52, hm_s52, hMN_s52, (by first | assumption | omega)⟩ (by omega) (fun w49 s50 hw hi => hk w49 s50 (hT.trans hw) hi)
      refine L47 17 (x0 - v3) s27 ⟨(by omega), hf_s27, hm_s27, hMN_s27, (by first | assumption | omega)⟩ (by omega) (fun v57 s58 hw hq => ?_)
      obtain ⟨hq59, hf_s58, hm_s58, hMN_s58, hq60⟩ := hq
      replace hT := gl2y hT hw
      obtain ⟨rfl, rfl⟩ := Prod.mk.inj (hT.symm.trans hres)
      exact ⟨hf_s58, hm_s58, (by omega), hMN_s58, (by first | assumption | omega)⟩
    replace hT := hz63
    by_cases h9 : 0 < (f_X9_runFrom x0 1 s0)
    · replace hT := hT.trans (if_pos h9)
      have hp65 := f_X9_within_p (x0 + 1) 0 15 (by omega) (by omega) (by omega) 
      have hr66 := (hm_s0 34 (f_X9_within (x0 + 1) 0 15)).2 rfl
      have hi67 := hMN_s0 (f_X9_within (x0 + 1) 0 15)
      exact j10 (s0 34 (f_X9_within (x0 + 1) 0 15)) ⟨(by omega), (by first | assumption | omega)⟩ hT
    · replace hT := hT.trans (if_neg h9)
      exact j10 0 ⟨(by omega), (by first | assumption | omega)⟩ hT
  replace hT := hz70
  by_cases h6 : 0 < v3
  · replace hT := hT.trans (if_pos h6)
    have hp72 := f_X9_within_p (x0 - 1) 0 15 (by omega) (by omega) (by omega) 
    have hr73 := (hm_s0 34 (f_X9_within (x0 - 1) 0 15)).2 rfl
    have hi74 := hMN_s0 (f_X9_within (x0 - 1) 0 15)
    exact j7 (s0 34 (f_X9_within (x0 - 1) 0 15)) ⟨(by omega), (by first | assumption | omega)⟩ hT
  · replace hT := hT.trans (if_neg h6)
    exact j7 0 ⟨(by omega), (by first | assumption | omega)⟩ hT
set_option maxRecDepth 100000 in
set_option maxHeartbeats 4000000 in
theorem c_X9_closes (l : Launch) (D : va_G) (a : Nat → Nat) (cI cJ cS cT : ClassId) (s0 : gMem) (x0 : Int) (hx0 : in32 x0) (hpre0 : VS s0) (hpre1 : KN s0) (hpre2 : MO s0) (hpre3 : MN s0) (hpre4 : 0 ≤ x0 ∧ x0 ≤ 15) : gC l yX9_closes cX9_closes 14 (some .long) 5 320 D vwCl (gT cI cJ cS cT) (wdM a cI cJ) lgM kJ in64 [.ref (a 0), gI x0] s0 (f_X9_closes x0 s0) := by
  refine gC_of (by decide +kernel) (hwdM a cI cJ) (Nat.le_of_ble_eq_true rfl) ?_
  intro A p e R s m args below meth c hR E
  subst hR
  have hT := f_X9_closes_e x0 s0
  have hf_s0 : fr [25, 26, 34] s0 s0 := fr.rf _ _
  refine k_lv0 (lv' := [(0, .ref (a 0)), (1, gI x0)]) rfl ?_
  refine k_mr (fun hm_s0 => ?_)
  have hMN_s0 := hpre3
  refine k_aloadn (pc := 0) E 0 dX9_closes_0 rfl rfl ?_
  refine k_iloadn (pc := 1) E 1 dX9_closes_1 rfl rfl ?_
  refine k_iconst (pc := 2) E dX9_closes_2 ?_
  refine k_mr (fun hm_s0 => ?_)
  refine k_callV (pc := 3) (np := 2) (As := [gI x0, gI (-1)]) (st := []) (q0 := 0) E (c_X9_runFrom l D a cI cJ cS cT s0 x0 (-1) (by omega) (by omega) hMN_s0 (by first | assumption | omega) (by first | assumption | omega)) wm_1123 wm_11 wm_1120 wm_1122 wp_45 (by decide +kernel) rfl rfl ⟨by decide, by decide⟩ rfl (Nat.le_of_ble_eq_true rfl) dX9_closes_3 (ro_kk (fun hr1 => ?_))
  have hp2 := f_X9_runFrom_p x0 (-1) s0 (by omega) (by omega) hm_s0 hMN_s0 (by first | assumption | omega) (by first | assumption | omega)
  refine k_st (st' := [gI (f_X9_runFrom x0 (-1) s0)]) rfl ?_
  obtain ⟨v3, hv3, hT⟩ := glx hT
  refine k_st (st' := [gI v3]) (by rw [hv3]) ?_
  refine k_istoren (pc := 6) (lv' := [(2, gI v3), (0, .ref (a 0)), (1, gI x0)]) E dX9_closes_6 rfl (by decide) rfl ?_
  refine k_aloadn (pc := 7) E 1 dX9_closes_7 rfl rfl ?_
  refine k_iloadn (pc := 8) E 2 dX9_closes_8 rfl rfl ?_
  refine k_iconst (pc := 9) E dX9_closes_9 ?_
  refine k_mr (fun hm_s0 => ?_)
  refine k_callV (pc := 10) (np := 2) (As := [gI x0, gI 1]) (st := []) (q0 := 0) E (c_X9_runFrom l D a cI cJ cS cT s0 x0 1 (by omega) (by omega) hMN_s0 (by first | assumption | omega) (by first | assumption | omega)) wm_1123 wm_11 wm_1120 wm_1122 wp_45 (by decide +kernel) rfl rfl ⟨by decide, by decide⟩ rfl (Nat.le_of_ble_eq_true rfl) dX9_closes_10 (ro_kk (fun hr4 => ?_))
  have hp5 := f_X9_runFrom_p x0 1 s0 (by omega) (by omega) hm_s0 hMN_s0 (by first | assumption | omega) (by first | assumption | omega)
  refine k_st (st' := [gI (f_X9_runFrom x0 1 s0)]) rfl ?_
  refine k_istoren (pc := 13) (lv' := [(3, gI (f_X9_runFrom x0 1 s0)), (2, gI v3), (0, .ref (a 0)), (1, gI x0)]) E dX9_closes_13 rfl (by decide) rfl ?_
  refine k_iloadn (pc := 14) E 1 dX9_closes_14 rfl rfl ?_
  obtain ⟨z70, hz70, hT⟩ := gl1x hT
  have j7 : ∀ (v8 : Int), ((in64 v8) ∧ (-1 ≤ v8 ∧ v8 ≤ 1000000000000)) → z70 = v8 → gK D vwCl (wdM a cI cJ) lgM A p l e { frames := 5, cells := 0, slots := 0, locals := 320 } s m args below meth c 14 (gQQ D vwCl (wdM a cI cJ) lgM A kJ in64 below args s) (f_X9_closes x0 s0) s0 36 [(0, .ref (a 0)), (1, gI x0), (2, gI v3), (3, gI (f_X9_runFrom x0 1 s0))] [gL v8] := by
    intro v8 hq hz
    obtain ⟨hq68, hq69⟩ := hq
    replace hT := gl1y hT hz
    refine k_iloadn (pc := 36) E 3 dX9_closes_36 rfl rfl ?_
    obtain ⟨z63, hz63, hT⟩ := gl1x hT
    have j10 : ∀ (v11 : Int), ((in64 v11) ∧ (-1 ≤ v11 ∧ v11 ≤ 1000000000000)) → z63 = v11 → gK D vwCl (wdM a cI cJ) lgM A p l e { frames := 5, cells := 0, slots := 0, locals := 320 } s m args below meth c 14 (gQQ D vwCl (wdM a cI cJ) lgM A kJ in64 below args s) (f_X9_closes x0 s0) s0 58 [(0, .ref (a 0)), (1, gI x0), (2, gI v3), (3, gI (f_X9_runFrom x0 1 s0))] [gL v11, gL v8] := by
      intro v11 hq hz
      obtain ⟨hq61, hq62⟩ := hq
      replace hT := gl1y hT hz
      refine k_ladd (pc := 58) E dX9_closes_58 ?_
      refine k_lstore (pc := 59) (lv' := [(4, gL (v8 + v11)), (0, .ref (a 0)), (1, gI x0), (2, gI v3), (3, gI (f_X9_runFrom x0 1 s0))]) E dX9_closes_59 (by decide) rfl ?_
      refine k_iloadn (pc := 61) E 3 dX9_closes_61 rfl rfl ?_
      refine k_iloadn (pc := 62) E 4 dX9_closes_62 rfl rfl ?_
      refine k_iadd (pc := 63) E dX9_closes_63 ?_
      obtain ⟨v12, hv12, hT⟩ := glx hT
      refine k_st (st' := [gI v12]) (by rw [hv12]) ?_
      refine k_istore (pc := 64) (lv' := [(6, gI v12), (4, gL (v8 + v11)), (0, .ref (a 0)), (1, gI x0), (2, gI v3), (3, gI (f_X9_runFrom x0 1 s0))]) E dX9_closes_64 (by decide) rfl ?_
      refine k_aloadn (pc := 66) E 2 dX9_closes_66 rfl rfl ?_
      refine k_iloadn (pc := 67) E 3 dX9_closes_67 rfl rfl ?_
      refine k_iload (pc := 68) E 0 dX9_closes_68 rfl ?_
      refine k_mr (fun hm_s0 => ?_)
      refine k_callV (pc := 70) (np := 2) (As := [gI x0, gI v12]) (st := []) (q0 := 0) E (c_X9_fallsOf l D a cI cJ cS cT s0 x0 v12 (by omega) (by omega) hpre0 hpre1 hpre2 (by first | assumption | omega) (by first | assumption | omega)) wm_1069 wm_11 wm_1066 wm_1068 wp_36 (by decide +kernel) rfl rfl ⟨by decide, by decide⟩ rfl (Nat.le_of_ble_eq_true rfl) dX9_closes_70 (fun r14 s15 hs15 hr13 => ?_)
      replace hT := gby hT hs15
      have hp16 := f_X9_fallsOf_p x0 v12 s0 (by omega) (by omega) hm_s0 hpre0 hpre1 hpre2 (by first | assumption | omega) (by first | assumption | omega) r14 s15 hs15
      obtain ⟨hfc_s15, hm_s15, hp17, hp18⟩ := hp16
      have hf_s15 : fr [25, 26, 34] s0 s15 := hf_s0.call (by decide) hfc_s15
      have hMN_s15 : MN s15 := fun i => by rw [hfc_s15 34 (by decide)]; exact hMN_s0 i
      refine k_st (st' := [gI r14]) rfl ?_
      refine k_i2l (pc := 73) E dX9_closes_73 (by omega) ?_
      refine k_lstore (pc := 74) (lv' := [(7, gL r14), (6, gI v12), (4, gL (v8 + v11)), (0, .ref (a 0)), (1, gI x0), (2, gI v3), (3, gI (f_X9_runFrom x0 1 s0))]) E dX9_closes_74 (by decide) rfl ?_
      refine k_ldc2 (pc := 76) (n := 1000) E dX9_closes_76 wm_1110 (by decide) ?_
      refine k_aloadn (pc := 79) E 3 dX9_closes_79 rfl rfl ?_
      refine k_iloadn (pc := 80) E 4 dX9_closes_80 rfl rfl ?_
      refine k_mr (fun hm_s15 => ?_)
      refine k_callV (pc := 81) (np := 1) (As := [gI x0]) (st := [gL 1000]) (q0 := 0) E (c_X9_takesOf l D a cI cJ cS cT s15 x0 (by omega) (by unfold VS; rw [hf_s15 5 (by decide), hf_s15 6 (by decide), hf_s15 7 (by decide), hf_s15 8 (by decide)]; exact hpre0) (by unfold KN; rw [hf_s15 0 (by decide)]; exact hpre1) (by unfold MO; rw [hf_s15 1 (by decide)]; exact hpre2) (by first | assumption | omega)) wm_1073 wm_11 wm_1070 wm_1072 wp_37 (by decide +kernel) rfl rfl ⟨by decide, by decide⟩ rfl (Nat.le_of_ble_eq_true rfl) dX9_closes_81 (fun r20 s21 hs21 hr19 => ?_)
      replace hT := gby hT hs21
      have hp22 := f_X9_takesOf_p x0 s15 (by omega) hm_s15 (by unfold VS; rw [hf_s15 5 (by decide), hf_s15 6 (by decide), hf_s15 7 (by decide), hf_s15 8 (by decide)]; exact hpre0) (by unfold KN; rw [hf_s15 0 (by decide)]; exact hpre1) (by unfold MO; rw [hf_s15 1 (by decide)]; exact hpre2) (by first | assumption | omega) r20 s21 hs21
      obtain ⟨hfc_s21, hm_s21, hp23, hp24⟩ := hp22
      have hf_s21 : fr [25, 26, 34] s0 s21 := hf_s15.call (by decide) hfc_s21
      have hMN_s21 : MN s21 := fun i => by rw [hfc_s21 34 (by decide)]; exact hMN_s15 i
      refine k_st (st' := [gI r20, gL 1000]) rfl ?_
      refine k_aloadn (pc := 84) E 3 dX9_closes_84 rfl rfl ?_
      refine k_iconst (pc := 85) E dX9_closes_85 ?_
      refine k_iloadn (pc := 86) E 4 dX9_closes_86 rfl rfl ?_
      refine k_iload (pc := 87) E 1 dX9_closes_87 rfl ?_
      refine k_mr (fun hm_s21 => ?_)
      refine k_callV (pc := 89) (np := 3) (As := [gI 2, gI x0, gI v12]) (st := [gI r20, gL 1000]) (q0 := 0) E (c_X9_asksOf l D a cI cJ cS cT s21 2 x0 v12 (by omega) (by omega) (by omega) (by unfold VS; rw [hf_s21 5 (by decide), hf_s21 6 (by decide), hf_s21 7 (by decide), hf_s21 8 (by decide)]; exact hpre0) (by first | assumption | omega) (by first | assumption | omega)) wm_1044 wm_11 wm_1041 wm_1043 wp_34 (by decide +kernel) rfl rfl ⟨by decide, by decide⟩ rfl (Nat.le_of_ble_eq_true rfl) dX9_closes_89 (fun r26 s27 hs27 hr25 => ?_)
      replace hT := gby hT hs27
      have hp28 := f_X9_asksOf_p 2 x0 v12 s21 (by omega) (by omega) (by omega) hm_s21 (by unfold VS; rw [hf_s21 5 (by decide), hf_s21 6 (by decide), hf_s21 7 (by decide), hf_s21 8 (by decide)]; exact hpre0) (by first | assumption | omega) (by first | assumption | omega) r26 s27 hs27
      obtain ⟨hfc_s27, hm_s27, hp29, hp30⟩ := hp28
      have hf_s27 : fr [25, 26, 34] s0 s27 := hf_s21.call (by decide) hfc_s27
      have hMN_s27 : MN s27 := fun i => by rw [hfc_s27 34 (by decide)]; exact hMN_s21 i
      refine k_st (st' := [gI r26, gI r20, gL 1000]) rfl ?_
      refine k_iadd (pc := 92) E dX9_closes_92 ?_
      refine k_i2l (pc := 93) E dX9_closes_93 (by omega) ?_
      refine k_lmul (pc := 94) E dX9_closes_94 ?_
      refine k_ldc2 (pc := 95) (n := 100) E dX9_closes_95 wm_1111 (by decide) ?_
      refine k_lmul (pc := 98) E dX9_closes_98 ?_
      refine k_lload (pc := 99) E 2 dX9_closes_99 rfl ?_
      refine k_lload (pc := 101) E 0 dX9_closes_101 rfl ?_
      have km := mul_rg2 (c := 2) (a := 2000000000000) (b := 99) (x := (v8 + v11)) (y := r14) (by omega) (by omega) (by omega) (by omega) (by decide) (by decide)
      refine k_lmul (pc := 103) E dX9_closes_103 ?_
      refine k_ladd (pc := 104) E dX9_closes_104 ?_
      refine k_ldc2 (pc := 105) (n := 100) E dX9_closes_105 wm_1111 (by decide) ?_
      refine k_lload (pc := 108) E 0 dX9_closes_108 rfl ?_
      refine k_lsub (pc := 110) E dX9_closes_110 ?_
      have kd := dv_lo (x := (((1000 * (r20 + r26)) * 100) + ((v8 + v11) * r14))) (y := (100 - r14)) (by omega) (by omega) (by omega)
      have hd31 : (0 : Int) ≤ (((1000 * (r20 + r26)) * 100) + ((v8 + v11) * r14)) := (by omega)
      have hd32 : (0 : Int) < (100 - r14) := (by omega)
      refine k_ldivN (pc := 111) E (by omega) (by omega) hd31 hd32 dX9_closes_111 ?_
      have hb33 := dv_rg hd31 hd32
      refine k_mr (fun hm_s27 => ?_)
      refine k_callS (pc := 112) (np := 1) (As := [gL ((((1000 * (r20 + r26)) * 100) + ((v8 + v11) * r14)) / (100 - r14))]) (st := []) E (c_X9_most l D a cI cJ cS cT s27 ((((1000 * (r20 + r26)) * 100) + ((v8 + v11) * r14)) / (100 - r14)) (by omega)) wm_1114 wm_11 wm_1112 wm_1113 (by decide +kernel) ⟨by decide, by decide⟩ rfl (Nat.le_of_ble_eq_true rfl) dX9_closes_112 (ro_kk (fun hr34 => ?_))
      have hp35 := f_X9_most_p ((((1000 * (r20 + r26)) * 100) + ((v8 + v11) * r14)) / (100 - r14)) (by omega) 
      refine k_st (st' := [gL (f_X9_most ((((1000 * (r20 + r26)) * 100) + ((v8 + v11) * r14)) / (100 - r14)))]) rfl ?_
      obtain ⟨v36, hv36, hT⟩ := glx hT
      refine k_st (st' := [gL v36]) (by rw [hv36]) ?_
      refine k_lstore (pc := 115) (lv' := [(9, gL v36), (7, gL r14), (6, gI v12), (4, gL (v8 + v11)), (0, .ref (a 0)), (1, gI x0), (2, gI v3), (3, gI (f_X9_runFrom x0 1 s0))]) E dX9_closes_115 (by decide) rfl ?_
      refine k_lload (pc := 117) E 3 dX9_closes_117 rfl ?_
      refine k_lload (pc := 119) E 0 dX9_closes_119 rfl ?_
      refine k_ladd (pc := 121) E dX9_closes_121 ?_
      refine k_mr (fun hm_s27 => ?_)
      refine k_callS (pc := 122) (np := 1) (As := [gL ((v8 + v11) + v36)]) (st := []) E (c_X9_most l D a cI cJ cS cT s27 ((v8 + v11) + v36) (by omega)) wm_1114 wm_11 wm_1112 wm_1113 (by decide +kernel) ⟨by decide, by decide⟩ rfl (Nat.le_of_ble_eq_true rfl) dX9_closes_122 (ro_kk (fun hr37 => ?_))
      have hp38 := f_X9_most_p ((v8 + v11) + v36) (by omega) 
      refine k_st (st' := [gL (f_X9_most ((v8 + v11) + v36))]) rfl ?_
      obtain ⟨v39, hv39, hT⟩ := glx hT
      refine k_st (st' := [gL v39]) (by rw [hv39]) ?_
      refine k_lstore (pc := 125) (lv' := [(11, gL v39), (9, gL v36), (7, gL r14), (6, gI v12), (4, gL (v8 + v11)), (0, .ref (a 0)), (1, gI x0), (2, gI v3), (3, gI (f_X9_runFrom x0 1 s0))]) E dX9_closes_125 (by decide) rfl ?_
      refine k_iloadn (pc := 127) E 6 dX9_closes_127 rfl rfl ?_
      refine k_iloadn (pc := 128) E 7 dX9_closes_128 rfl rfl ?_
      refine k_isub (pc := 129) E dX9_closes_129 ?_
      refine k_istore (pc := 130) (lv' := [(13, gI (x0 - v3)), (11, gL v39), (9, gL v36), (7, gL r14), (6, gI v12), (4, gL (v8 + v11)), (0, .ref (a 0)), (1, gI x0), (2, gI v3), (3, gI (f_X9_runFrom x0 1 s0))]) E dX9_closes_130 (by decide) rfl ?_
      have L47 : ∀ (n48 : Nat) (v45 : Int) (s46 : gMem), ((in32 v45) ∧ (fr [25, 26, 34] s0 s46) ∧ (MN s46) ∧ (0 ≤ v45 ∧ v45 ≤ x0 + (f_X9_runFrom x0 1 s0) + 1)) → x0 + (f_X9_runFrom x0 1 s0) + 1 - v45 < (n48 : Int) → (∀ (w49 : Int) (s50 : gMem), (w_X9_closes_132 x0 (f_X9_runFrom x0 1 s0) v36 v39 n48 v45 s46) = (w49, s50) → ((in32 w49) ∧ (fr [25, 26, 34] s0 s50) ∧ (MN s50) ∧ (0 ≤ w49 ∧ w49 ≤ x0 + (f_X9_runFrom x0 1 s0) + 1)) → gK D vwCl (wdM a cI cJ) lgM A p l e { frames := 5, cells := 0, slots := 0, locals := 320 } s m args below meth c 14 (gQQ D vwCl (wdM a cI cJ) lgM A kJ in64 below args s) (f_X9_closes x0 s0) s50 155 [(9, gL v36)] []) → gK D vwCl (wdM a cI cJ) lgM A p l e { frames := 5, cells := 0, slots := 0, locals := 320 } s m args below meth c 14 (gQQ D vwCl (wdM a cI cJ) lgM A kJ in64 below args s) (f_X9_closes x0 s0) s46 132 [(0, .ref (a 0)), (1, gI x0), (3, gI (f_X9_runFrom x0 1 s0)), (9, gL v36), (11, gL v39), (13, gI v45)] [] := by
        intro n48; induction n48 with
        | zero =>
          intro v45 s46 hq hm hk
          exfalso
          obtain ⟨hq53, hf_s46, hMN_s46, hq54⟩ := hq
          omega
        | succ n48 ih =>
          intro v45 s46 hq hm hk
          obtain ⟨hq55, hf_s46, hMN_s46, hq56⟩ := hq
          have hT := w_X9_closes_132_s x0 (f_X9_runFrom x0 1 s0) v36 v39 n48 v45 s46
          refine k_iload (pc := 132) E 5 dX9_closes_132 rfl ?_
          refine k_iloadn (pc := 134) E 1 dX9_closes_134 rfl rfl ?_
          refine k_iloadn (pc := 135) E 2 dX9_closes_135 rfl rfl ?_
          refine k_iadd (pc := 136) E dX9_closes_136 ?_
          by_cases h51 : (x0 + (f_X9_runFrom x0 1 s0)) < v45
          · replace hT := hT.trans (if_pos h51)
            refine k_icmp_gt_t (pc := 137) (tgt := 155) E (by omega) (by omega) dX9_closes_137 (by decide) h51 ?_
            refine k_lv (lv' := [(9, gL v36)]) [3] rfl ?_
            exact hk v45 s46 hT ⟨(by omega), hf_s46, hMN_s46, (by first | assumption | omega)⟩
          · replace hT := hT.trans (if_neg h51)
            refine k_icmp_gt_f (pc := 137) (tgt := 155) E (by omega) (by omega) dX9_closes_137 (by decide) h51 ?_
            refine k_aloadn (pc := 140) E 0 dX9_closes_140 rfl rfl ?_
            refine k_getf (pc := 141) (q0 := 0) (f := 34) (v := .ref (a 19)) E inX9 rfl rfl (by decide) wm_932 rfl rfl dX9_closes_141 ?_
            refine k_iload (pc := 144) E 5 dX9_closes_144 rfl ?_
            refine k_lload (pc := 146) E 4 dX9_closes_146 rfl ?_
            refine k_lastore (pc := 148) (q0 := 19) (t0 := 1) (k := 34) (n := 16) E rfl rfl rfl rfl (by decide) (by omega) (by omega) (by omega) dX9_closes_148 ?_
            obtain ⟨s52, hs52, hT⟩ := glx hT
            refine k_sg hs52.symm ?_
            have hf_s52 : fr [25, 26, 34] s0 s52 := hs52 ▸ hf_s46.set (by decide)
            have hMN_s52 : MN s52 := hs52 ▸ MN_set hMN_s46 (by omega)
            refine k_iinc (pc := 149) (lv' := [(13, gI (v45 + 1)), (0, .ref (a 0)), (1, gI x0), (3, gI (f_X9_runFrom x0 1 s0)), (9, gL v36), (11, gL v39)]) E 5 dX9_closes_149 rfl (by decide) rfl ?_
            refine k_goto (pc := 152) (tgt := 132) E dX9_closes_152 (by decide) ?_
            refine k_lv (lv' := [(0, .ref (a 0)), (1, gI x0), (3, gI (f_X9_runFrom x0 1 s0)), (9, gL v36), (11, gL v39), (13, gI (v45 + 1))]) [1, 2, 3, 4, 5, 0] rfl ?_
            exact ih (v45 + 1) s52 ⟨(by omega), hf_s52, hMN_s52, (by first | assumption | omega)⟩ (by omega) (fun w49 s50 hw hi => hk w49 s50 (hT.trans hw) hi)
      refine k_lv (lv' := [(0, .ref (a 0)), (1, gI x0), (3, gI (f_X9_runFrom x0 1 s0)), (9, gL v36), (11, gL v39), (13, gI (x0 - v3))]) [6, 7, 9, 2, 1, 0] rfl ?_
      refine L47 17 (x0 - v3) s27 ⟨(by omega), hf_s27, hMN_s27, (by first | assumption | omega)⟩ (by omega) (fun v57 s58 hw hq => ?_)
      obtain ⟨hq59, hf_s58, hMN_s58, hq60⟩ := hq
      replace hT := gl2y hT hw
      refine k_lload (pc := 155) E 0 dX9_closes_155 rfl ?_
      exact k_rho hT (k_lret (pc := 157) E dX9_closes_157 (by omega))
    replace hT := hz63
    by_cases h9 : 0 < (f_X9_runFrom x0 1 s0)
    · replace hT := hT.trans (if_pos h9)
      refine k_if_le_f (pc := 37) (tgt := 57) E (by omega) dX9_closes_37 (by decide) h9 ?_
      refine k_aloadn (pc := 40) E 0 dX9_closes_40 rfl rfl ?_
      refine k_getf (pc := 41) (q0 := 0) (f := 34) (v := .ref (a 19)) E inX9 rfl rfl (by decide) wm_932 rfl rfl dX9_closes_41 ?_
      refine k_iloadn (pc := 44) E 1 dX9_closes_44 rfl rfl ?_
      refine k_iconst (pc := 45) E dX9_closes_45 ?_
      refine k_iadd (pc := 46) E dX9_closes_46 ?_
      refine k_iconst (pc := 47) E dX9_closes_47 ?_
      refine k_bipush (pc := 48) E dX9_closes_48 (by decide) ?_
      refine k_mr (fun hm_s0 => ?_)
      refine k_callS (pc := 50) (np := 3) (As := [gI (x0 + 1), gI 0, gI 15]) (st := [.ref (a 19), gL v8]) E (c_X9_within l D a cI cJ cS cT s0 (x0 + 1) 0 15 (by omega) (by omega) (by omega)) wm_1057 wm_11 wm_1055 wm_1056 (by decide +kernel) ⟨by decide, by decide⟩ rfl (Nat.le_of_ble_eq_true rfl) dX9_closes_50 (ro_kk (fun hr64 => ?_))
      have hp65 := f_X9_within_p (x0 + 1) 0 15 (by omega) (by omega) (by omega) 
      refine k_st (st' := [gI (f_X9_within (x0 + 1) 0 15), .ref (a 19), gL v8]) rfl ?_
      refine k_laload (pc := 53) (q0 := 19) (t0 := 1) (k := 34) (n := 16) E rfl rfl rfl (by decide) (by omega) (by omega) dX9_closes_53 (fun hr66 => ?_)
      have hi67 := hMN_s0 (f_X9_within (x0 + 1) 0 15)
      refine k_goto (pc := 54) (tgt := 58) E dX9_closes_54 (by decide) ?_
      exact j10 (s0 34 (f_X9_within (x0 + 1) 0 15)) ⟨(by omega), (by first | assumption | omega)⟩ hT
    · replace hT := hT.trans (if_neg h9)
      refine k_if_le_t (pc := 37) (tgt := 57) E (by omega) dX9_closes_37 (by decide) h9 ?_
      refine k_lconst0 (pc := 57) E dX9_closes_57 ?_
      exact j10 0 ⟨(by omega), (by first | assumption | omega)⟩ hT
  replace hT := hz70
  by_cases h6 : 0 < v3
  · replace hT := hT.trans (if_pos h6)
    refine k_if_le_f (pc := 15) (tgt := 35) E (by omega) dX9_closes_15 (by decide) h6 ?_
    refine k_aloadn (pc := 18) E 2 dX9_closes_18 rfl rfl ?_
    refine k_getf (pc := 19) (q0 := 0) (f := 34) (v := .ref (a 19)) E inX9 rfl rfl (by decide) wm_932 rfl rfl dX9_closes_19 ?_
    refine k_iloadn (pc := 22) E 3 dX9_closes_22 rfl rfl ?_
    refine k_iconst (pc := 23) E dX9_closes_23 ?_
    refine k_isub (pc := 24) E dX9_closes_24 ?_
    refine k_iconst (pc := 25) E dX9_closes_25 ?_
    refine k_bipush (pc := 26) E dX9_closes_26 (by decide) ?_
    refine k_mr (fun hm_s0 => ?_)
    refine k_callS (pc := 28) (np := 3) (As := [gI (x0 - 1), gI 0, gI 15]) (st := [.ref (a 19)]) E (c_X9_within l D a cI cJ cS cT s0 (x0 - 1) 0 15 (by omega) (by omega) (by omega)) wm_1057 wm_11 wm_1055 wm_1056 (by decide +kernel) ⟨by decide, by decide⟩ rfl (Nat.le_of_ble_eq_true rfl) dX9_closes_28 (ro_kk (fun hr71 => ?_))
    have hp72 := f_X9_within_p (x0 - 1) 0 15 (by omega) (by omega) (by omega) 
    refine k_st (st' := [gI (f_X9_within (x0 - 1) 0 15), .ref (a 19)]) rfl ?_
    refine k_laload (pc := 31) (q0 := 19) (t0 := 1) (k := 34) (n := 16) E rfl rfl rfl (by decide) (by omega) (by omega) dX9_closes_31 (fun hr73 => ?_)
    have hi74 := hMN_s0 (f_X9_within (x0 - 1) 0 15)
    refine k_goto (pc := 32) (tgt := 36) E dX9_closes_32 (by decide) ?_
    refine k_lv (lv' := [(0, .ref (a 0)), (1, gI x0), (2, gI v3), (3, gI (f_X9_runFrom x0 1 s0))]) [2, 3, 1, 0] rfl ?_
    exact j7 (s0 34 (f_X9_within (x0 - 1) 0 15)) ⟨(by omega), (by first | assumption | omega)⟩ hT
  · replace hT := hT.trans (if_neg h6)
    refine k_if_le_t (pc := 15) (tgt := 35) E (by omega) dX9_closes_15 (by decide) h6 ?_
    refine k_lconst0 (pc := 35) E dX9_closes_35 ?_
    refine k_lv (lv' := [(0, .ref (a 0)), (1, gI x0), (2, gI v3), (3, gI (f_X9_runFrom x0 1 s0))]) [2, 3, 1, 0] rfl ?_
    exact j7 0 ⟨(by omega), (by first | assumption | omega)⟩ hT

def w_X9_meanOf_11 (c1 : Int) : Nat → Int → gMem → Int × gMem
  | 0, v9, s10 => (v9, s10)
  | n11 + 1, v9, s10 => (if v9 < 16 then gl (mset s10 34 v9 (-1)) (fun s13 => (w_X9_meanOf_11 c1 n11 (v9 + 1) s13)) else (v9, s10))
theorem w_X9_meanOf_11_s (c1 : Int) (n11 : Nat) (v9 : Int) (s10 : gMem) : w_X9_meanOf_11 c1 (n11 + 1) v9 s10 = (if v9 < 16 then gl (mset s10 34 v9 (-1)) (fun s13 => (w_X9_meanOf_11 c1 n11 (v9 + 1) s13)) else (v9, s10)) := rfl
def w_X9_meanOf_37 (c1 : Int) : Nat → Int → Int → gMem → Int × Int × gMem
  | 0, v40, v41, s42 => (v40, v41, s42)
  | n43 + 1, v40, v41, s42 => (if v41 < (s42 31 0) then gb (f_X9_meanOfStretch v41 s42) (fun r47 s48 => (w_X9_meanOf_37 c1 n43 (f_X9_most (v40 + r47)) (v41 + 1) s48)) else (v40, v41, s42))
theorem w_X9_meanOf_37_s (c1 : Int) (n43 : Nat) (v40 : Int) (v41 : Int) (s42 : gMem) : w_X9_meanOf_37 c1 (n43 + 1) v40 v41 s42 = (if v41 < (s42 31 0) then gb (f_X9_meanOfStretch v41 s42) (fun r47 s48 => (w_X9_meanOf_37 c1 n43 (f_X9_most (v40 + r47)) (v41 + 1) s48)) else (v40, v41, s42)) := rfl
def w_X9_meanOf_67 (c1 : Int) : Nat → Int → Int → gMem → Int × Int × gMem
  | 0, v97, v98, s99 => (v97, v98, s99)
  | n100 + 1, v97, v98, s99 => (if v98 < 16 then (gl2 ((if (f_X9_isIn c1 v98) = 0 then (v97, s99) else gb (f_X9_closes v98 s99) (fun r114 s115 => ((f_X9_most (v97 + r114)), s115)))) (fun v106 s107 => (w_X9_meanOf_67 c1 n100 v106 (v98 + 1) s107))) else (v97, v98, s99))
theorem w_X9_meanOf_67_s (c1 : Int) (n100 : Nat) (v97 : Int) (v98 : Int) (s99 : gMem) : w_X9_meanOf_67 c1 (n100 + 1) v97 v98 s99 = (if v98 < 16 then (gl2 ((if (f_X9_isIn c1 v98) = 0 then (v97, s99) else gb (f_X9_closes v98 s99) (fun r114 s115 => ((f_X9_most (v97 + r114)), s115)))) (fun v106 s107 => (w_X9_meanOf_67 c1 n100 v106 (v98 + 1) s107))) else (v97, v98, s99)) := rfl
def f_X9_meanOf (x0 : Int) (x1 : Int) (s0 : gMem) : gRes := gb (f_X9_orders x0 x1 s0) (fun r2 s3 => (gl2 (w_X9_meanOf_11 x0 17 0 s3) (fun v34 s35 => (gl3 (w_X9_meanOf_37 x0 17 0 0 s35) (fun v88 v89 s90 => (gl3 (w_X9_meanOf_67 x0 17 v88 0 s90) (fun v165 v166 s167 => (v165, s167))))))))
theorem f_X9_meanOf_e (x0 : Int) (x1 : Int) (s0 : gMem) : f_X9_meanOf x0 x1 s0 = gb (f_X9_orders x0 x1 s0) (fun r2 s3 => (gl2 (w_X9_meanOf_11 x0 17 0 s3) (fun v34 s35 => (gl3 (w_X9_meanOf_37 x0 17 0 0 s35) (fun v88 v89 s90 => (gl3 (w_X9_meanOf_67 x0 17 v88 0 s90) (fun v165 v166 s167 => (v165, s167)))))))) := rfl
set_option maxRecDepth 100000 in
set_option maxHeartbeats 4000000 in
theorem f_X9_meanOf_p (x0 : Int) (x1 : Int) (s0 : gMem) (hx0 : in32 x0) (hx1 : in32 x1) (hm_s0 : gMR lgM s0) (hpre0 : VS s0) (hpre1 : KN s0) (hpre2 : MO s0) (hpre3 : OR s0) (hpre4 : BE s0) (hpre5 : FI s0) (hpre6 : MN s0) (hpre7 : 0 ≤ x1 ∧ x1 ≤ 2) (rZ : Int) (sZ : gMem) (hres : f_X9_meanOf x0 x1 s0 = (rZ, sZ)) : (fr [25, 26, 27, 28, 29, 30, 31, 32, 33, 34] s0 sZ) ∧ (gMR lgM sZ) ∧ (in64 rZ) ∧ (OR sZ) ∧ (BE sZ) ∧ (FI sZ) ∧ (MN sZ) ∧ (0 ≤ rZ ∧ rZ ≤ 1000000000000) := by
  have hT := f_X9_meanOf_e x0 x1 s0
  have hf_s0 : fr [25, 26, 27, 28, 29, 30, 31, 32, 33, 34] s0 s0 := fr.rf _ _
  have hOR_s0 := hpre3
  have hBE_s0 := hpre4
  have hFI_s0 := hpre5
  have hMN_s0 := hpre6
  obtain ⟨r2, s3, hs3⟩ : ∃ rr ss, (f_X9_orders x0 x1 s0) = (rr, ss) := ⟨_, _, rfl⟩
  replace hT := gby hT hs3
  have hp4 := f_X9_orders_p x0 x1 s0 (by omega) (by omega) hm_s0 hOR_s0 hBE_s0 hFI_s0 (by first | assumption | omega) r2 s3 hs3
  obtain ⟨hfc_s3, hm_s3, hp5, hOR_s3, hBE_s3, hFI_s3, hp6, hp7, hp8⟩ := hp4
  have hf_s3 : fr [25, 26, 27, 28, 29, 30, 31, 32, 33, 34] s0 s3 := hf_s0.call (by decide) hfc_s3
  have hMN_s3 : MN s3 := fun i => by rw [hfc_s3 34 (by decide)]; exact hMN_s0 i
  have L18 : ∀ (n19 : Nat) (v16 : Int) (s17 : gMem), ((in32 v16) ∧ (fr [25, 26, 27, 28, 29, 30, 31, 32, 33, 34] s0 s17) ∧ (gMR lgM s17) ∧ (OR s17) ∧ (BE s17) ∧ (FI s17) ∧ (MN s17) ∧ (s17 30 0 = s3 30 0) ∧ (s17 31 0 = s3 31 0) ∧ (0 ≤ v16 ∧ v16 ≤ 16)) → 16 - v16 < (n19 : Int) → (∀ (w20 : Int) (s21 : gMem), (w_X9_meanOf_11 x0 n19 v16 s17) = (w20, s21) → ((in32 w20) ∧ (fr [25, 26, 27, 28, 29, 30, 31, 32, 33, 34] s0 s21) ∧ (gMR lgM s21) ∧ (OR s21) ∧ (BE s21) ∧ (FI s21) ∧ (MN s21) ∧ (s21 30 0 = s3 30 0) ∧ (s21 31 0 = s3 31 0) ∧ (0 ≤ w20 ∧ w20 ≤ 16)) → (fr [25, 26, 27, 28, 29, 30, 31, 32, 33, 34] s0 sZ) ∧ (gMR lgM sZ) ∧ (in64 rZ) ∧ (OR sZ) ∧ (BE sZ) ∧ (FI sZ) ∧ (MN sZ) ∧ (0 ≤ rZ ∧ rZ ≤ 1000000000000)) → (fr [25, 26, 27, 28, 29, 30, 31, 32, 33, 34] s0 sZ) ∧ (gMR lgM sZ) ∧ (in64 rZ) ∧ (OR sZ) ∧ (BE sZ) ∧ (FI sZ) ∧ (MN sZ) ∧ (0 ≤ rZ ∧ rZ ≤ 1000000000000) := by
    intro n19; induction n19 with
    | zero =>
      intro v16 s17 hq hm hk
      exfalso
      obtain ⟨hq26, hf_s17, hm_s17, hOR_s17, hBE_s17, hFI_s17, hMN_s17, hq27, hq28, hq29⟩ := hq
      omega
    | succ n19 ih =>
      intro v16 s17 hq hm hk
      obtain ⟨hq30, hf_s17, hm_s17, hOR_s17, hBE_s17, hFI_s17, hMN_s17, hq31, hq32, hq33⟩ := hq
      have hT := w_X9_meanOf_11_s x0 n19 v16 s17
      by_cases h22 : v16 < 16
      · replace hT := hT.trans (if_pos h22)
        obtain ⟨s23, hs23, hT⟩ := glx hT
        have hf_s23 : fr [25, 26, 27, 28, 29, 30, 31, 32, 33, 34] s0 s23 := hs23 ▸ hf_s17.set (by decide)
        have hm_s23 : gMR lgM s23 := hs23 ▸ hm_s17.set64 rfl (by omega)
        have hOR_s23 : OR s23 := fun i => by rw [hs23, mset_ne _ _ _ _ _ (by decide)]; exact hOR_s17 i
        have hBE_s23 : BE s23 := fun i => by rw [hs23, mset_ne _ _ _ _ _ (by decide)]; exact hBE_s17 i
        have hFI_s23 : FI s23 := fun i => by rw [hs23, mset_ne _ _ _ _ _ (by decide)]; exact hFI_s17 i
        have hMN_s23 : MN s23 := hs23 ▸ MN_set hMN_s17 (by omega)
        have ht24 : s23 30 0 = s17 30 0 := by rw [hs23]; exact mset_ne _ _ _ _ _ (by decide)
        have ht25 : s23 31 0 = s17 31 0 := by rw [hs23]; exact mset_ne _ _ _ _ _ (by decide)
        exact ih (v16 + 1) s23 ⟨(by omega), hf_s23, hm_s23, hOR_s23, hBE_s23, hFI_s23, hMN_s23, (by first | assumption | omega), (by first | assumption | omega), (by first | assumption | omega)⟩ (by omega) (fun w20 s21 hw hi => hk w20 s21 (hT.trans hw) hi)
      · replace hT := hT.trans (if_neg h22)
        exact hk v16 s17 hT ⟨(by omega), hf_s17, hm_s17, hOR_s17, hBE_s17, hFI_s17, hMN_s17, (by first | assumption | omega), (by first | assumption | omega), (by first | assumption | omega)⟩
  refine L18 17 0 s3 ⟨(by omega), hf_s3, hm_s3, hOR_s3, hBE_s3, hFI_s3, hMN_s3, (by first | assumption | omega), (by first | assumption | omega), (by first | assumption | omega)⟩ (by omega) (fun v34 s35 hw hq => ?_)
  obtain ⟨hq36, hf_s35, hm_s35, hOR_s35, hBE_s35, hFI_s35, hMN_s35, hq37, hq38, hq39⟩ := hq
  replace hT := gl2y hT hw
  have L59 : ∀ (n60 : Nat) (v56 : Int) (v57 : Int) (s58 : gMem), ((in64 v56) ∧ (in32 v57) ∧ (fr [25, 26, 27, 28, 29, 30, 31, 32, 33, 34] s0 s58) ∧ (gMR lgM s58) ∧ (OR s58) ∧ (BE s58) ∧ (FI s58) ∧ (MN s58) ∧ (s58 30 0 = s35 30 0) ∧ (s58 31 0 = s35 31 0) ∧ (0 ≤ v57 ∧ v57 ≤ 16) ∧ (0 ≤ v56 ∧ v56 ≤ 1000000000000)) → 16 - v57 < (n60 : Int) → (∀ (w61 : Int) (w62 : Int) (s63 : gMem), (w_X9_meanOf_37 x0 n60 v56 v57 s58) = (w61, w62, s63) → ((in64 w61) ∧ (in32 w62) ∧ (fr [25, 26, 27, 28, 29, 30, 31, 32, 33, 34] s0 s63) ∧ (gMR lgM s63) ∧ (OR s63) ∧ (BE s63) ∧ (FI s63) ∧ (MN s63) ∧ (s63 30 0 = s35 30 0) ∧ (s63 31 0 = s35 31 0) ∧ (0 ≤ w62 ∧ w62 ≤ 16) ∧ (0 ≤ w61 ∧ w61 ≤ 1000000000000)) → (fr [25, 26, 27, 28, 29, 30, 31, 32, 33, 34] s0 sZ) ∧ (gMR lgM sZ) ∧ (in64 rZ) ∧ (OR sZ) ∧ (BE sZ) ∧ (FI sZ) ∧ (MN sZ) ∧ (0 ≤ rZ ∧ rZ ≤ 1000000000000)) → (fr [25, 26, 27, 28, 29, 30, 31, 32, 33, 34] s0 sZ) ∧ (gMR lgM sZ) ∧ (in64 rZ) ∧ (OR sZ) ∧ (BE sZ) ∧ (FI sZ) ∧ (MN sZ) ∧ (0 ≤ rZ ∧ rZ ≤ 1000000000000) := by
    intro n60; induction n60 with
    | zero =>
      intro v56 v57 s58 hq hm hk
      exfalso
      obtain ⟨hq76, hq77, hf_s58, hm_s58, hOR_s58, hBE_s58, hFI_s58, hMN_s58, hq78, hq79, hq80, hq81⟩ := hq
      omega
    | succ n60 ih =>
      intro v56 v57 s58 hq hm hk
      obtain ⟨hq82, hq83, hf_s58, hm_s58, hOR_s58, hBE_s58, hFI_s58, hMN_s58, hq84, hq85, hq86, hq87⟩ := hq
      have hT := w_X9_meanOf_37_s x0 n60 v56 v57 s58
      have hr64 := (hm_s58 31 0).1 rfl
      by_cases h65 : v57 < (s58 31 0)
      · replace hT := hT.trans (if_pos h65)
        obtain ⟨r67, s68, hs68⟩ : ∃ rr ss, (f_X9_meanOfStretch v57 s58) = (rr, ss) := ⟨_, _, rfl⟩
        replace hT := gby hT hs68
        have hp69 := f_X9_meanOfStretch_p v57 s58 (by omega) hm_s58 (by unfold VS; rw [hf_s58 5 (by decide), hf_s58 6 (by decide), hf_s58 7 (by decide), hf_s58 8 (by decide)]; exact hpre0) (by unfold KN; rw [hf_s58 0 (by decide)]; exact hpre1) (by unfold MO; rw [hf_s58 1 (by decide)]; exact hpre2) hOR_s58 hBE_s58 hFI_s58 hMN_s58 (by first | assumption | omega) (by first | assumption | omega) (by first | assumption | omega) r67 s68 hs68
        obtain ⟨hfc_s68, hm_s68, hp70, hOR_s68, hBE_s68, hFI_s68, hMN_s68, hp71⟩ := hp69
        have hf_s68 : fr [25, 26, 27, 28, 29, 30, 31, 32, 33, 34] s0 s68 := hf_s58.call (by decide) hfc_s68
        have hOR_s68 : OR s68 := fun i => by rw [hfc_s68 27 (by decide)]; exact hOR_s58 i
        have hBE_s68 : BE s68 := fun i => by rw [hfc_s68 28 (by decide)]; exact hBE_s58 i
        have hFI_s68 : FI s68 := fun i => by rw [hfc_s68 29 (by decide)]; exact hFI_s58 i
        have ht72 : s68 30 0 = s58 30 0 := by rw [hfc_s68 30 (by decide)]
        have ht73 : s68 31 0 = s58 31 0 := by rw [hfc_s68 31 (by decide)]
        have hp75 := f_X9_most_p (v56 + r67) (by omega) 
        exact ih (f_X9_most (v56 + r67)) (v57 + 1) s68 ⟨(by omega), (by omega), hf_s68, hm_s68, hOR_s68, hBE_s68, hFI_s68, hMN_s68, (by first | assumption | omega), (by first | assumption | omega), (by first | assumption | omega), (by first | assumption | omega)⟩ (by omega) (fun w61 w62 s63 hw hi => hk w61 w62 s63 (hT.trans hw) hi)
      · replace hT := hT.trans (if_neg h65)
        exact hk v56 v57 s58 hT ⟨(by omega), (by omega), hf_s58, hm_s58, hOR_s58, hBE_s58, hFI_s58, hMN_s58, (by first | assumption | omega), (by first | assumption | omega), (by first | assumption | omega), (by first | assumption | omega)⟩
  refine L59 17 0 0 s35 ⟨(by omega), (by omega), hf_s35, hm_s35, hOR_s35, hBE_s35, hFI_s35, hMN_s35, (by first | assumption | omega), (by first | assumption | omega), (by first | assumption | omega), (by first | assumption | omega)⟩ (by omega) (fun v88 v89 s90 hw hq => ?_)
  obtain ⟨hq91, hq92, hf_s90, hm_s90, hOR_s90, hBE_s90, hFI_s90, hMN_s90, hq93, hq94, hq95, hq96⟩ := hq
  replace hT := gl3y hT hw
  have L126 : ∀ (n127 : Nat) (v123 : Int) (v124 : Int) (s125 : gMem), ((in64 v123) ∧ (in32 v124) ∧ (fr [25, 26, 27, 28, 29, 30, 31, 32, 33, 34] s0 s125) ∧ (gMR lgM s125) ∧ (OR s125) ∧ (BE s125) ∧ (FI s125) ∧ (MN s125) ∧ (s125 30 0 = s90 30 0) ∧ (s125 31 0 = s90 31 0) ∧ (0 ≤ v124 ∧ v124 ≤ 16) ∧ (0 ≤ v123 ∧ v123 ≤ 1000000000000)) → 16 - v124 < (n127 : Int) → (∀ (w128 : Int) (w129 : Int) (s130 : gMem), (w_X9_meanOf_67 x0 n127 v123 v124 s125) = (w128, w129, s130) → ((in64 w128) ∧ (in32 w129) ∧ (fr [25, 26, 27, 28, 29, 30, 31, 32, 33, 34] s0 s130) ∧ (gMR lgM s130) ∧ (OR s130) ∧ (BE s130) ∧ (FI s130) ∧ (MN s130) ∧ (s130 30 0 = s90 30 0) ∧ (s130 31 0 = s90 31 0) ∧ (0 ≤ w129 ∧ w129 ≤ 16) ∧ (0 ≤ w128 ∧ w128 ≤ 1000000000000)) → (fr [25, 26, 27, 28, 29, 30, 31, 32, 33, 34] s0 sZ) ∧ (gMR lgM sZ) ∧ (in64 rZ) ∧ (OR sZ) ∧ (BE sZ) ∧ (FI sZ) ∧ (MN sZ) ∧ (0 ≤ rZ ∧ rZ ≤ 1000000000000)) → (fr [25, 26, 27, 28, 29, 30, 31, 32, 33, 34] s0 sZ) ∧ (gMR lgM sZ) ∧ (in64 rZ) ∧ (OR sZ) ∧ (BE sZ) ∧ (FI sZ) ∧ (MN sZ) ∧ (0 ≤ rZ ∧ rZ ≤ 1000000000000) := by
    intro n127; induction n127 with
    | zero =>
      intro v123 v124 s125 hq hm hk
      exfalso
      obtain ⟨hq153, hq154, hf_s125, hm_s125, hOR_s125, hBE_s125, hFI_s125, hMN_s125, hq155, hq156, hq157, hq158⟩ := hq
      omega
    | succ n127 ih =>
      intro v123 v124 s125 hq hm hk
      obtain ⟨hq159, hq160, hf_s125, hm_s125, hOR_s125, hBE_s125, hFI_s125, hMN_s125, hq161, hq162, hq163, hq164⟩ := hq
      have hT := w_X9_meanOf_67_s x0 n127 v123 v124 s125
      by_cases h131 : v124 < 16
      · replace hT := hT.trans (if_pos h131)
        have hp133 := f_X9_isIn_p x0 v124 (by omega) (by omega) 
        obtain ⟨z142, hz142, hT⟩ := gl2x hT
        have j135 : ∀ (v136 : Int) (s137 : gMem), ((in64 v136) ∧ (0 ≤ v136 ∧ v136 ≤ 1000000000000) ∧ (fr [25, 26, 27, 28, 29, 30, 31, 32, 33, 34] s0 s137) ∧ (gMR lgM s137) ∧ (OR s137) ∧ (BE s137) ∧ (FI s137) ∧ (MN s137) ∧ (s137 30 0 = s125 30 0) ∧ (s137 31 0 = s125 31 0)) → z142 = (v136, s137) → (fr [25, 26, 27, 28, 29, 30, 31, 32, 33, 34] s0 sZ) ∧ (gMR lgM sZ) ∧ (in64 rZ) ∧ (OR sZ) ∧ (BE sZ) ∧ (FI sZ) ∧ (MN sZ) ∧ (0 ≤ rZ ∧ rZ ≤ 1000000000000) := by
          intro v136 s137 hq hz
          obtain ⟨hq138, hq139, hf_s137, hm_s137, hOR_s137, hBE_s137, hFI_s137, hMN_s137, hq140, hq141⟩ := hq
          replace hT := gl2y hT hz
          exact ih v136 (v124 + 1) s137 ⟨(by omega), (by omega), hf_s137, hm_s137, hOR_s137, hBE_s137, hFI_s137, hMN_s137, (by first | assumption | omega), (by first | assumption | omega), (by first | assumption | omega), (by first | assumption | omega)⟩ (by omega) (fun w128 w129 s130 hw hi => hk w128 w129 s130 (hT.trans hw) hi)
        replace hT := hz142
        by_cases h134 : (f_X9_isIn x0 v124) = 0
        · replace hT := hT.trans (if_pos h134)
          exact j135 v123 s125 ⟨(by omega), (by first | assumption | omega), hf_s125, hm_s125, hOR_s125, hBE_s125, hFI_s125, hMN_s125, (by first | assumption | omega), (by first | assumption | omega)⟩ hT
        · replace hT := hT.trans (if_neg h134)
          obtain ⟨r144, s145, hs145⟩ : ∃ rr ss, (f_X9_closes v124 s125) = (rr, ss) := ⟨_, _, rfl⟩
          replace hT := gby hT hs145
          have hp146 := f_X9_closes_p v124 s125 (by omega) hm_s125 (by unfold VS; rw [hf_s125 5 (by decide), hf_s125 6 (by decide), hf_s125 7 (by decide), hf_s125 8 (by decide)]; exact hpre0) (by unfold KN; rw [hf_s125 0 (by decide)]; exact hpre1) (by unfold MO; rw [hf_s125 1 (by decide)]; exact hpre2) hMN_s125 (by first | assumption | omega) r144 s145 hs145
          obtain ⟨hfc_s145, hm_s145, hp147, hMN_s145, hp148⟩ := hp146
          have hf_s145 : fr [25, 26, 27, 28, 29, 30, 31, 32, 33, 34] s0 s145 := hf_s125.call (by decide) hfc_s145
          have hOR_s145 : OR s145 := fun i => by rw [hfc_s145 27 (by decide)]; exact hOR_s125 i
          have hBE_s145 : BE s145 := fun i => by rw [hfc_s145 28 (by decide)]; exact hBE_s125 i
          have hFI_s145 : FI s145 := fun i => by rw [hfc_s145 29 (by decide)]; exact hFI_s125 i
          have ht149 : s145 30 0 = s125 30 0 := by rw [hfc_s145 30 (by decide)]
          have ht150 : s145 31 0 = s125 31 0 := by rw [hfc_s145 31 (by decide)]
          have hp152 := f_X9_most_p (v123 + r144) (by omega) 
          exact j135 (f_X9_most (v123 + r144)) s145 ⟨(by omega), (by first | assumption | omega), hf_s145, hm_s145, hOR_s145, hBE_s145, hFI_s145, hMN_s145, (by first | assumption | omega), (by first | assumption | omega)⟩ hT
      · replace hT := hT.trans (if_neg h131)
        exact hk v123 v124 s125 hT ⟨(by omega), (by omega), hf_s125, hm_s125, hOR_s125, hBE_s125, hFI_s125, hMN_s125, (by first | assumption | omega), (by first | assumption | omega), (by first | assumption | omega), (by first | assumption | omega)⟩
  refine L126 17 v88 0 s90 ⟨(by omega), (by omega), hf_s90, hm_s90, hOR_s90, hBE_s90, hFI_s90, hMN_s90, (by first | assumption | omega), (by first | assumption | omega), (by first | assumption | omega), (by first | assumption | omega)⟩ (by omega) (fun v165 v166 s167 hw hq => ?_)
  obtain ⟨hq168, hq169, hf_s167, hm_s167, hOR_s167, hBE_s167, hFI_s167, hMN_s167, hq170, hq171, hq172, hq173⟩ := hq
  replace hT := gl3y hT hw
  obtain ⟨rfl, rfl⟩ := Prod.mk.inj (hT.symm.trans hres)
  exact ⟨hf_s167, hm_s167, (by omega), hOR_s167, hBE_s167, hFI_s167, hMN_s167, (by first | assumption | omega)⟩
set_option maxRecDepth 100000 in
set_option maxHeartbeats 4000000 in
theorem c_X9_meanOf (l : Launch) (D : va_G) (a : Nat → Nat) (cI cJ cS cT : ClassId) (s0 : gMem) (x0 : Int) (x1 : Int) (hx0 : in32 x0) (hx1 : in32 x1) (hpre0 : VS s0) (hpre1 : KN s0) (hpre2 : MO s0) (hpre3 : OR s0) (hpre4 : BE s0) (hpre5 : FI s0) (hpre6 : MN s0) (hpre7 : 0 ≤ x1 ∧ x1 ≤ 2) : gC l yX9_meanOf cX9_meanOf 6 (some .long) 6 384 D vwCl (gT cI cJ cS cT) (wdM a cI cJ) lgM kJ in64 [.ref (a 0), gI x0, gI x1] s0 (f_X9_meanOf x0 x1 s0) := by
  refine gC_of (by decide +kernel) (hwdM a cI cJ) (Nat.le_of_ble_eq_true rfl) ?_
  intro A p e R s m args below meth c hR E
  subst hR
  have hT := f_X9_meanOf_e x0 x1 s0
  have hf_s0 : fr [25, 26, 27, 28, 29, 30, 31, 32, 33, 34] s0 s0 := fr.rf _ _
  refine k_lv0 (lv' := [(0, .ref (a 0)), (1, gI x0), (2, gI x1)]) rfl ?_
  refine k_mr (fun hm_s0 => ?_)
  have hOR_s0 := hpre3
  have hBE_s0 := hpre4
  have hFI_s0 := hpre5
  have hMN_s0 := hpre6
  refine k_lconst0 (pc := 0) E dX9_meanOf_0 ?_
  refine k_lstoren (pc := 1) (lv' := [(3, gL 0), (0, .ref (a 0)), (1, gI x0), (2, gI x1)]) E dX9_meanOf_1 rfl (by decide) rfl ?_
  refine k_aloadn (pc := 2) E 1 dX9_meanOf_2 rfl rfl ?_
  refine k_iloadn (pc := 3) E 2 dX9_meanOf_3 rfl rfl ?_
  refine k_iloadn (pc := 4) E 3 dX9_meanOf_4 rfl rfl ?_
  refine k_mr (fun hm_s0 => ?_)
  refine k_callV (pc := 5) (np := 2) (As := [gI x0, gI x1]) (st := []) (q0 := 0) E (c_X9_orders l D a cI cJ cS cT s0 x0 x1 (by omega) (by omega) hOR_s0 hBE_s0 hFI_s0 (by first | assumption | omega)) wm_1085 wm_11 wm_1082 wm_1084 wp_39 (by decide +kernel) rfl rfl ⟨by decide, by decide⟩ rfl (Nat.le_of_ble_eq_true rfl) dX9_meanOf_5 (fun r2 s3 hs3 hr1 => ?_)
  replace hT := gby hT hs3
  have hp4 := f_X9_orders_p x0 x1 s0 (by omega) (by omega) hm_s0 hOR_s0 hBE_s0 hFI_s0 (by first | assumption | omega) r2 s3 hs3
  obtain ⟨hfc_s3, hm_s3, hp5, hOR_s3, hBE_s3, hFI_s3, hp6, hp7, hp8⟩ := hp4
  have hf_s3 : fr [25, 26, 27, 28, 29, 30, 31, 32, 33, 34] s0 s3 := hf_s0.call (by decide) hfc_s3
  have hMN_s3 : MN s3 := fun i => by rw [hfc_s3 34 (by decide)]; exact hMN_s0 i
  refine k_st (st' := []) rfl ?_
  refine k_iconst (pc := 8) E dX9_meanOf_8 ?_
  refine k_istore (pc := 9) (lv' := [(5, gI 0), (3, gL 0), (0, .ref (a 0)), (1, gI x0), (2, gI x1)]) E dX9_meanOf_9 (by decide) rfl ?_
  have L18 : ∀ (n19 : Nat) (v16 : Int) (s17 : gMem), ((in32 v16) ∧ (fr [25, 26, 27, 28, 29, 30, 31, 32, 33, 34] s0 s17) ∧ (OR s17) ∧ (BE s17) ∧ (FI s17) ∧ (MN s17) ∧ (s17 30 0 = s3 30 0) ∧ (s17 31 0 = s3 31 0) ∧ (0 ≤ v16 ∧ v16 ≤ 16)) → 16 - v16 < (n19 : Int) → (∀ (w20 : Int) (s21 : gMem), (w_X9_meanOf_11 x0 n19 v16 s17) = (w20, s21) → ((in32 w20) ∧ (fr [25, 26, 27, 28, 29, 30, 31, 32, 33, 34] s0 s21) ∧ (OR s21) ∧ (BE s21) ∧ (FI s21) ∧ (MN s21) ∧ (s21 30 0 = s3 30 0) ∧ (s21 31 0 = s3 31 0) ∧ (0 ≤ w20 ∧ w20 ≤ 16)) → gK D vwCl (wdM a cI cJ) lgM A p l e { frames := 6, cells := 0, slots := 0, locals := 384 } s m args below meth c 6 (gQQ D vwCl (wdM a cI cJ) lgM A kJ in64 below args s) (f_X9_meanOf x0 x1 s0) s21 34 [(0, .ref (a 0)), (1, gI x0), (3, gL 0)] []) → gK D vwCl (wdM a cI cJ) lgM A p l e { frames := 6, cells := 0, slots := 0, locals := 384 } s m args below meth c 6 (gQQ D vwCl (wdM a cI cJ) lgM A kJ in64 below args s) (f_X9_meanOf x0 x1 s0) s17 11 [(0, .ref (a 0)), (1, gI x0), (3, gL 0), (5, gI v16)] [] := by
    intro n19; induction n19 with
    | zero =>
      intro v16 s17 hq hm hk
      exfalso
      obtain ⟨hq26, hf_s17, hOR_s17, hBE_s17, hFI_s17, hMN_s17, hq27, hq28, hq29⟩ := hq
      omega
    | succ n19 ih =>
      intro v16 s17 hq hm hk
      obtain ⟨hq30, hf_s17, hOR_s17, hBE_s17, hFI_s17, hMN_s17, hq31, hq32, hq33⟩ := hq
      have hT := w_X9_meanOf_11_s x0 n19 v16 s17
      refine k_iload (pc := 11) E 3 dX9_meanOf_11 rfl ?_
      refine k_bipush (pc := 13) E dX9_meanOf_13 (by decide) ?_
      by_cases h22 : v16 < 16
      · replace hT := hT.trans (if_pos h22)
        refine k_icmp_ge_f (pc := 15) (tgt := 34) E (by omega) (by omega) dX9_meanOf_15 (by decide) h22 ?_
        refine k_aloadn (pc := 18) E 0 dX9_meanOf_18 rfl rfl ?_
        refine k_getf (pc := 19) (q0 := 0) (f := 34) (v := .ref (a 19)) E inX9 rfl rfl (by decide) wm_932 rfl rfl dX9_meanOf_19 ?_
        refine k_iload (pc := 22) E 3 dX9_meanOf_22 rfl ?_
        refine k_ldc2 (pc := 24) (n := (-1)) E dX9_meanOf_24 wm_1105 (by decide) ?_
        refine k_lastore (pc := 27) (q0 := 19) (t0 := 1) (k := 34) (n := 16) E rfl rfl rfl rfl (by decide) (by omega) (by omega) (by omega) dX9_meanOf_27 ?_
        obtain ⟨s23, hs23, hT⟩ := glx hT
        refine k_sg hs23.symm ?_
        have hf_s23 : fr [25, 26, 27, 28, 29, 30, 31, 32, 33, 34] s0 s23 := hs23 ▸ hf_s17.set (by decide)
        have hOR_s23 : OR s23 := fun i => by rw [hs23, mset_ne _ _ _ _ _ (by decide)]; exact hOR_s17 i
        have hBE_s23 : BE s23 := fun i => by rw [hs23, mset_ne _ _ _ _ _ (by decide)]; exact hBE_s17 i
        have hFI_s23 : FI s23 := fun i => by rw [hs23, mset_ne _ _ _ _ _ (by decide)]; exact hFI_s17 i
        have hMN_s23 : MN s23 := hs23 ▸ MN_set hMN_s17 (by omega)
        have ht24 : s23 30 0 = s17 30 0 := by rw [hs23]; exact mset_ne _ _ _ _ _ (by decide)
        have ht25 : s23 31 0 = s17 31 0 := by rw [hs23]; exact mset_ne _ _ _ _ _ (by decide)
        refine k_iinc (pc := 28) (lv' := [(5, gI (v16 + 1)), (0, .ref (a 0)), (1, gI x0), (3, gL 0)]) E 3 dX9_meanOf_28 rfl (by decide) rfl ?_
        refine k_goto (pc := 31) (tgt := 11) E dX9_meanOf_31 (by decide) ?_
        refine k_lv (lv' := [(0, .ref (a 0)), (1, gI x0), (3, gL 0), (5, gI (v16 + 1))]) [1, 2, 3, 0] rfl ?_
        exact ih (v16 + 1) s23 ⟨(by omega), hf_s23, hOR_s23, hBE_s23, hFI_s23, hMN_s23, (by first | assumption | omega), (by first | assumption | omega), (by first | assumption | omega)⟩ (by omega) (fun w20 s21 hw hi => hk w20 s21 (hT.trans hw) hi)
      · replace hT := hT.trans (if_neg h22)
        refine k_icmp_ge_t (pc := 15) (tgt := 34) E (by omega) (by omega) dX9_meanOf_15 (by decide) h22 ?_
        refine k_lv (lv' := [(0, .ref (a 0)), (1, gI x0), (3, gL 0)]) [0, 1, 2] rfl ?_
        exact hk v16 s17 hT ⟨(by omega), hf_s17, hOR_s17, hBE_s17, hFI_s17, hMN_s17, (by first | assumption | omega), (by first | assumption | omega), (by first | assumption | omega)⟩
  refine k_lv (lv' := [(0, .ref (a 0)), (1, gI x0), (3, gL 0), (5, gI 0)]) [2, 3, 1, 0] rfl ?_
  refine L18 17 0 s3 ⟨(by omega), hf_s3, hOR_s3, hBE_s3, hFI_s3, hMN_s3, (by first | assumption | omega), (by first | assumption | omega), (by first | assumption | omega)⟩ (by omega) (fun v34 s35 hw hq => ?_)
  obtain ⟨hq36, hf_s35, hOR_s35, hBE_s35, hFI_s35, hMN_s35, hq37, hq38, hq39⟩ := hq
  replace hT := gl2y hT hw
  refine k_iconst (pc := 34) E dX9_meanOf_34 ?_
  refine k_istore (pc := 35) (lv' := [(5, gI 0), (0, .ref (a 0)), (1, gI x0), (3, gL 0)]) E dX9_meanOf_35 (by decide) rfl ?_
  have L59 : ∀ (n60 : Nat) (v56 : Int) (v57 : Int) (s58 : gMem), ((in64 v56) ∧ (in32 v57) ∧ (fr [25, 26, 27, 28, 29, 30, 31, 32, 33, 34] s0 s58) ∧ (OR s58) ∧ (BE s58) ∧ (FI s58) ∧ (MN s58) ∧ (s58 30 0 = s35 30 0) ∧ (s58 31 0 = s35 31 0) ∧ (0 ≤ v57 ∧ v57 ≤ 16) ∧ (0 ≤ v56 ∧ v56 ≤ 1000000000000)) → 16 - v57 < (n60 : Int) → (∀ (w61 : Int) (w62 : Int) (s63 : gMem), (w_X9_meanOf_37 x0 n60 v56 v57 s58) = (w61, w62, s63) → ((in64 w61) ∧ (in32 w62) ∧ (fr [25, 26, 27, 28, 29, 30, 31, 32, 33, 34] s0 s63) ∧ (OR s63) ∧ (BE s63) ∧ (FI s63) ∧ (MN s63) ∧ (s63 30 0 = s35 30 0) ∧ (s63 31 0 = s35 31 0) ∧ (0 ≤ w62 ∧ w62 ≤ 16) ∧ (0 ≤ w61 ∧ w61 ≤ 1000000000000)) → gK D vwCl (wdM a cI cJ) lgM A p l e { frames := 6, cells := 0, slots := 0, locals := 384 } s m args below meth c 6 (gQQ D vwCl (wdM a cI cJ) lgM A kJ in64 below args s) (f_X9_meanOf x0 x1 s0) s63 64 [(0, .ref (a 0)), (1, gI x0), (3, gL w61)] []) → gK D vwCl (wdM a cI cJ) lgM A p l e { frames := 6, cells := 0, slots := 0, locals := 384 } s m args below meth c 6 (gQQ D vwCl (wdM a cI cJ) lgM A kJ in64 below args s) (f_X9_meanOf x0 x1 s0) s58 37 [(0, .ref (a 0)), (1, gI x0), (3, gL v56), (5, gI v57)] [] := by
    intro n60; induction n60 with
    | zero =>
      intro v56 v57 s58 hq hm hk
      exfalso
      obtain ⟨hq76, hq77, hf_s58, hOR_s58, hBE_s58, hFI_s58, hMN_s58, hq78, hq79, hq80, hq81⟩ := hq
      omega
    | succ n60 ih =>
      intro v56 v57 s58 hq hm hk
      obtain ⟨hq82, hq83, hf_s58, hOR_s58, hBE_s58, hFI_s58, hMN_s58, hq84, hq85, hq86, hq87⟩ := hq
      have hT := w_X9_meanOf_37_s x0 n60 v56 v57 s58
      refine k_iload (pc := 37) E 3 dX9_meanOf_37 rfl ?_
      refine k_aloadn (pc := 39) E 0 dX9_meanOf_39 rfl rfl ?_
      refine k_getfI (pc := 40) (q0 := 0) (f := 31) (k := 31) E inX9 rfl rfl (by decide) wm_929 rfl rfl rfl dX9_meanOf_40 (fun hr64 => ?_)
      by_cases h65 : v57 < (s58 31 0)
      · replace hT := hT.trans (if_pos h65)
        refine k_icmp_ge_f (pc := 43) (tgt := 64) E (by omega) (by omega) dX9_meanOf_43 (by decide) h65 ?_
        refine k_lloadn (pc := 46) E 2 dX9_meanOf_46 rfl rfl ?_
        refine k_aloadn (pc := 47) E 0 dX9_meanOf_47 rfl rfl ?_
        refine k_iload (pc := 48) E 3 dX9_meanOf_48 rfl ?_
        refine k_mr (fun hm_s58 => ?_)
        refine k_callV (pc := 50) (np := 1) (As := [gI v57]) (st := [gL v56]) (q0 := 0) E (c_X9_meanOfStretch l D a cI cJ cS cT s58 v57 (by omega) (by unfold VS; rw [hf_s58 5 (by decide), hf_s58 6 (by decide), hf_s58 7 (by decide), hf_s58 8 (by decide)]; exact hpre0) (by unfold KN; rw [hf_s58 0 (by decide)]; exact hpre1) (by unfold MO; rw [hf_s58 1 (by decide)]; exact hpre2) hOR_s58 hBE_s58 hFI_s58 hMN_s58 (by first | assumption | omega) (by first | assumption | omega) (by first | assumption | omega)) wm_1109 wm_11 wm_1106 wm_1108 wp_43 (by decide +kernel) rfl rfl ⟨by decide, by decide⟩ rfl (Nat.le_of_ble_eq_true rfl) dX9_meanOf_50 (fun r67 s68 hs68 hr66 => ?_)
        replace hT := gby hT hs68
        have hp69 := f_X9_meanOfStretch_p v57 s58 (by omega) hm_s58 (by unfold VS; rw [hf_s58 5 (by decide), hf_s58 6 (by decide), hf_s58 7 (by decide), hf_s58 8 (by decide)]; exact hpre0) (by unfold KN; rw [hf_s58 0 (by decide)]; exact hpre1) (by unfold MO; rw [hf_s58 1 (by decide)]; exact hpre2) hOR_s58 hBE_s58 hFI_s58 hMN_s58 (by first | assumption | omega) (by first | assumption | omega) (by first | assumption | omega) r67 s68 hs68
        obtain ⟨hfc_s68, hm_s68, hp70, hOR_s68, hBE_s68, hFI_s68, hMN_s68, hp71⟩ := hp69
        have hf_s68 : fr [25, 26, 27, 28, 29, 30, 31, 32, 33, 34] s0 s68 := hf_s58.call (by decide) hfc_s68
        have hOR_s68 : OR s68 := fun i => by rw [hfc_s68 27 (by decide)]; exact hOR_s58 i
        have hBE_s68 : BE s68 := fun i => by rw [hfc_s68 28 (by decide)]; exact hBE_s58 i
        have hFI_s68 : FI s68 := fun i => by rw [hfc_s68 29 (by decide)]; exact hFI_s58 i
        have ht72 : s68 30 0 = s58 30 0 := by rw [hfc_s68 30 (by decide)]
        have ht73 : s68 31 0 = s58 31 0 := by rw [hfc_s68 31 (by decide)]
        refine k_st (st' := [gL r67, gL v56]) rfl ?_
        refine k_ladd (pc := 53) E dX9_meanOf_53 ?_
        refine k_mr (fun hm_s68 => ?_)
        refine k_callS (pc := 54) (np := 1) (As := [gL (v56 + r67)]) (st := []) E (c_X9_most l D a cI cJ cS cT s68 (v56 + r67) (by omega)) wm_1114 wm_11 wm_1112 wm_1113 (by decide +kernel) ⟨by decide, by decide⟩ rfl (Nat.le_of_ble_eq_true rfl) dX9_meanOf_54 (ro_kk (fun hr74 => ?_))
        have hp75 := f_X9_most_p (v56 + r67) (by omega) 
        refine k_st (st' := [gL (f_X9_most (v56 + r67))]) rfl ?_
        refine k_lstoren (pc := 57) (lv' := [(3, gL (f_X9_most (v56 + r67))), (0, .ref (a 0)), (1, gI x0), (5, gI v57)]) E dX9_meanOf_57 rfl (by decide) rfl ?_
        refine k_iinc (pc := 58) (lv' := [(5, gI (v57 + 1)), (3, gL (f_X9_most (v56 + r67))), (0, .ref (a 0)), (1, gI x0)]) E 3 dX9_meanOf_58 rfl (by decide) rfl ?_
        refine k_goto (pc := 61) (tgt := 37) E dX9_meanOf_61 (by decide) ?_
        refine k_lv (lv' := [(0, .ref (a 0)), (1, gI x0), (3, gL (f_X9_most (v56 + r67))), (5, gI (v57 + 1))]) [2, 3, 1, 0] rfl ?_
        exact ih (f_X9_most (v56 + r67)) (v57 + 1) s68 ⟨(by omega), (by omega), hf_s68, hOR_s68, hBE_s68, hFI_s68, hMN_s68, (by first | assumption | omega), (by first | assumption | omega), (by first | assumption | omega), (by first | assumption | omega)⟩ (by omega) (fun w61 w62 s63 hw hi => hk w61 w62 s63 (hT.trans hw) hi)
      · replace hT := hT.trans (if_neg h65)
        refine k_icmp_ge_t (pc := 43) (tgt := 64) E (by omega) (by omega) dX9_meanOf_43 (by decide) h65 ?_
        refine k_lv (lv' := [(0, .ref (a 0)), (1, gI x0), (3, gL v56)]) [0, 1, 2] rfl ?_
        exact hk v56 v57 s58 hT ⟨(by omega), (by omega), hf_s58, hOR_s58, hBE_s58, hFI_s58, hMN_s58, (by first | assumption | omega), (by first | assumption | omega), (by first | assumption | omega), (by first | assumption | omega)⟩
  refine k_lv (lv' := [(0, .ref (a 0)), (1, gI x0), (3, gL 0), (5, gI 0)]) [1, 2, 3, 0] rfl ?_
  refine L59 17 0 0 s35 ⟨(by omega), (by omega), hf_s35, hOR_s35, hBE_s35, hFI_s35, hMN_s35, (by first | assumption | omega), (by first | assumption | omega), (by first | assumption | omega), (by first | assumption | omega)⟩ (by omega) (fun v88 v89 s90 hw hq => ?_)
  obtain ⟨hq91, hq92, hf_s90, hOR_s90, hBE_s90, hFI_s90, hMN_s90, hq93, hq94, hq95, hq96⟩ := hq
  replace hT := gl3y hT hw
  refine k_iconst (pc := 64) E dX9_meanOf_64 ?_
  refine k_istore (pc := 65) (lv' := [(5, gI 0), (0, .ref (a 0)), (1, gI x0), (3, gL v88)]) E dX9_meanOf_65 (by decide) rfl ?_
  have L126 : ∀ (n127 : Nat) (v123 : Int) (v124 : Int) (s125 : gMem), ((in64 v123) ∧ (in32 v124) ∧ (fr [25, 26, 27, 28, 29, 30, 31, 32, 33, 34] s0 s125) ∧ (OR s125) ∧ (BE s125) ∧ (FI s125) ∧ (MN s125) ∧ (s125 30 0 = s90 30 0) ∧ (s125 31 0 = s90 31 0) ∧ (0 ≤ v124 ∧ v124 ≤ 16) ∧ (0 ≤ v123 ∧ v123 ≤ 1000000000000)) → 16 - v124 < (n127 : Int) → (∀ (w128 : Int) (w129 : Int) (s130 : gMem), (w_X9_meanOf_67 x0 n127 v123 v124 s125) = (w128, w129, s130) → ((in64 w128) ∧ (in32 w129) ∧ (fr [25, 26, 27, 28, 29, 30, 31, 32, 33, 34] s0 s130) ∧ (OR s130) ∧ (BE s130) ∧ (FI s130) ∧ (MN s130) ∧ (s130 30 0 = s90 30 0) ∧ (s130 31 0 = s90 31 0) ∧ (0 ≤ w129 ∧ w129 ≤ 16) ∧ (0 ≤ w128 ∧ w128 ≤ 1000000000000)) → gK D vwCl (wdM a cI cJ) lgM A p l e { frames := 6, cells := 0, slots := 0, locals := 384 } s m args below meth c 6 (gQQ D vwCl (wdM a cI cJ) lgM A kJ in64 below args s) (f_X9_meanOf x0 x1 s0) s130 101 [(3, gL w128)] []) → gK D vwCl (wdM a cI cJ) lgM A p l e { frames := 6, cells := 0, slots := 0, locals := 384 } s m args below meth c 6 (gQQ D vwCl (wdM a cI cJ) lgM A kJ in64 below args s) (f_X9_meanOf x0 x1 s0) s125 67 [(0, .ref (a 0)), (1, gI x0), (3, gL v123), (5, gI v124)] [] := by
    intro n127; induction n127 with
    | zero =>
      intro v123 v124 s125 hq hm hk
      exfalso
      obtain ⟨hq153, hq154, hf_s125, hOR_s125, hBE_s125, hFI_s125, hMN_s125, hq155, hq156, hq157, hq158⟩ := hq
      omega
    | succ n127 ih =>
      intro v123 v124 s125 hq hm hk
      obtain ⟨hq159, hq160, hf_s125, hOR_s125, hBE_s125, hFI_s125, hMN_s125, hq161, hq162, hq163, hq164⟩ := hq
      have hT := w_X9_meanOf_67_s x0 n127 v123 v124 s125
      refine k_iload (pc := 67) E 3 dX9_meanOf_67 rfl ?_
      refine k_bipush (pc := 69) E dX9_meanOf_69 (by decide) ?_
      by_cases h131 : v124 < 16
      · replace hT := hT.trans (if_pos h131)
        refine k_icmp_ge_f (pc := 71) (tgt := 101) E (by omega) (by omega) dX9_meanOf_71 (by decide) h131 ?_
        refine k_iloadn (pc := 74) E 1 dX9_meanOf_74 rfl rfl ?_
        refine k_iload (pc := 75) E 3 dX9_meanOf_75 rfl ?_
        refine k_mr (fun hm_s125 => ?_)
        refine k_callS (pc := 77) (np := 2) (As := [gI x0, gI v124]) (st := []) E (c_X9_isIn l D a cI cJ cS cT s125 x0 v124 (by omega) (by omega)) wm_1088 wm_11 wm_1086 wm_1087 (by decide +kernel) ⟨by decide, by decide⟩ rfl (Nat.le_of_ble_eq_true rfl) dX9_meanOf_77 (ro_kk (fun hr132 => ?_))
        have hp133 := f_X9_isIn_p x0 v124 (by omega) (by omega) 
        refine k_st (st' := [gI (f_X9_isIn x0 v124)]) rfl ?_
        obtain ⟨z142, hz142, hT⟩ := gl2x hT
        have j135 : ∀ (v136 : Int) (s137 : gMem), ((in64 v136) ∧ (0 ≤ v136 ∧ v136 ≤ 1000000000000) ∧ (fr [25, 26, 27, 28, 29, 30, 31, 32, 33, 34] s0 s137) ∧ (OR s137) ∧ (BE s137) ∧ (FI s137) ∧ (MN s137) ∧ (s137 30 0 = s125 30 0) ∧ (s137 31 0 = s125 31 0)) → z142 = (v136, s137) → gK D vwCl (wdM a cI cJ) lgM A p l e { frames := 6, cells := 0, slots := 0, locals := 384 } s m args below meth c 6 (gQQ D vwCl (wdM a cI cJ) lgM A kJ in64 below args s) (f_X9_meanOf x0 x1 s0) s137 95 [(0, .ref (a 0)), (1, gI x0), (3, gL v136), (5, gI v124)] [] := by
          intro v136 s137 hq hz
          obtain ⟨hq138, hq139, hf_s137, hOR_s137, hBE_s137, hFI_s137, hMN_s137, hq140, hq141⟩ := hq
          replace hT := gl2y hT hz
          refine k_iinc (pc := 95) (lv' := [(5, gI (v124 + 1)), (0, .ref (a 0)), (1, gI x0), (3, gL v136)]) E 3 dX9_meanOf_95 rfl (by decide) rfl ?_
          refine k_goto (pc := 98) (tgt := 67) E dX9_meanOf_98 (by decide) ?_
          refine k_lv (lv' := [(0, .ref (a 0)), (1, gI x0), (3, gL v136), (5, gI (v124 + 1))]) [1, 2, 3, 0] rfl ?_
          exact ih v136 (v124 + 1) s137 ⟨(by omega), (by omega), hf_s137, hOR_s137, hBE_s137, hFI_s137, hMN_s137, (by first | assumption | omega), (by first | assumption | omega), (by first | assumption | omega), (by first | assumption | omega)⟩ (by omega) (fun w128 w129 s130 hw hi => hk w128 w129 s130 (hT.trans hw) hi)
        replace hT := hz142
        by_cases h134 : (f_X9_isIn x0 v124) = 0
        · replace hT := hT.trans (if_pos h134)
          refine k_if_eq_t (pc := 80) (tgt := 95) E (by omega) dX9_meanOf_80 (by decide) h134 ?_
          exact j135 v123 s125 ⟨(by omega), (by first | assumption | omega), hf_s125, hOR_s125, hBE_s125, hFI_s125, hMN_s125, (by first | assumption | omega), (by first | assumption | omega)⟩ hT
        · replace hT := hT.trans (if_neg h134)
          refine k_if_eq_f (pc := 80) (tgt := 95) E (by omega) dX9_meanOf_80 (by decide) h134 ?_
          refine k_lloadn (pc := 83) E 2 dX9_meanOf_83 rfl rfl ?_
          refine k_aloadn (pc := 84) E 0 dX9_meanOf_84 rfl rfl ?_
          refine k_iload (pc := 85) E 3 dX9_meanOf_85 rfl ?_
          refine k_mr (fun hm_s125 => ?_)
          refine k_callV (pc := 87) (np := 1) (As := [gI v124]) (st := [gL v123]) (q0 := 0) E (c_X9_closes l D a cI cJ cS cT s125 v124 (by omega) (by unfold VS; rw [hf_s125 5 (by decide), hf_s125 6 (by decide), hf_s125 7 (by decide), hf_s125 8 (by decide)]; exact hpre0) (by unfold KN; rw [hf_s125 0 (by decide)]; exact hpre1) (by unfold MO; rw [hf_s125 1 (by decide)]; exact hpre2) hMN_s125 (by first | assumption | omega)) wm_1119 wm_11 wm_1116 wm_1118 wp_44 (by decide +kernel) rfl rfl ⟨by decide, by decide⟩ rfl (Nat.le_of_ble_eq_true rfl) dX9_meanOf_87 (fun r144 s145 hs145 hr143 => ?_)
          replace hT := gby hT hs145
          have hp146 := f_X9_closes_p v124 s125 (by omega) hm_s125 (by unfold VS; rw [hf_s125 5 (by decide), hf_s125 6 (by decide), hf_s125 7 (by decide), hf_s125 8 (by decide)]; exact hpre0) (by unfold KN; rw [hf_s125 0 (by decide)]; exact hpre1) (by unfold MO; rw [hf_s125 1 (by decide)]; exact hpre2) hMN_s125 (by first | assumption | omega) r144 s145 hs145
          obtain ⟨hfc_s145, hm_s145, hp147, hMN_s145, hp148⟩ := hp146
          have hf_s145 : fr [25, 26, 27, 28, 29, 30, 31, 32, 33, 34] s0 s145 := hf_s125.call (by decide) hfc_s145
          have hOR_s145 : OR s145 := fun i => by rw [hfc_s145 27 (by decide)]; exact hOR_s125 i
          have hBE_s145 : BE s145 := fun i => by rw [hfc_s145 28 (by decide)]; exact hBE_s125 i
          have hFI_s145 : FI s145 := fun i => by rw [hfc_s145 29 (by decide)]; exact hFI_s125 i
          have ht149 : s145 30 0 = s125 30 0 := by rw [hfc_s145 30 (by decide)]
          have ht150 : s145 31 0 = s125 31 0 := by rw [hfc_s145 31 (by decide)]
          refine k_st (st' := [gL r144, gL v123]) rfl ?_
          refine k_ladd (pc := 90) E dX9_meanOf_90 ?_
          refine k_mr (fun hm_s145 => ?_)
          refine k_callS (pc := 91) (np := 1) (As := [gL (v123 + r144)]) (st := []) E (c_X9_most l D a cI cJ cS cT s145 (v123 + r144) (by omega)) wm_1114 wm_11 wm_1112 wm_1113 (by decide +kernel) ⟨by decide, by decide⟩ rfl (Nat.le_of_ble_eq_true rfl) dX9_meanOf_91 (ro_kk (fun hr151 => ?_))
          have hp152 := f_X9_most_p (v123 + r144) (by omega) 
          refine k_st (st' := [gL (f_X9_most (v123 + r144))]) rfl ?_
          refine k_lstoren (pc := 94) (lv' := [(3, gL (f_X9_most (v123 + r144))), (0, .ref (a 0)), (1, gI x0), (5, gI v124)]) E dX9_meanOf_94 rfl (by decide) rfl ?_
          refine k_lv (lv' := [(0, .ref (a 0)), (1, gI x0), (3, gL (f_X9_most (v123 + r144))), (5, gI v124)]) [1, 2, 0, 3] rfl ?_
          exact j135 (f_X9_most (v123 + r144)) s145 ⟨(by omega), (by first | assumption | omega), hf_s145, hOR_s145, hBE_s145, hFI_s145, hMN_s145, (by first | assumption | omega), (by first | assumption | omega)⟩ hT
      · replace hT := hT.trans (if_neg h131)
        refine k_icmp_ge_t (pc := 71) (tgt := 101) E (by omega) (by omega) dX9_meanOf_71 (by decide) h131 ?_
        refine k_lv (lv' := [(3, gL v123)]) [2] rfl ?_
        exact hk v123 v124 s125 hT ⟨(by omega), (by omega), hf_s125, hOR_s125, hBE_s125, hFI_s125, hMN_s125, (by first | assumption | omega), (by first | assumption | omega), (by first | assumption | omega), (by first | assumption | omega)⟩
  refine k_lv (lv' := [(0, .ref (a 0)), (1, gI x0), (3, gL v88), (5, gI 0)]) [1, 2, 3, 0] rfl ?_
  refine L126 17 v88 0 s90 ⟨(by omega), (by omega), hf_s90, hOR_s90, hBE_s90, hFI_s90, hMN_s90, (by first | assumption | omega), (by first | assumption | omega), (by first | assumption | omega), (by first | assumption | omega)⟩ (by omega) (fun v165 v166 s167 hw hq => ?_)
  obtain ⟨hq168, hq169, hf_s167, hOR_s167, hBE_s167, hFI_s167, hMN_s167, hq170, hq171, hq172, hq173⟩ := hq
  replace hT := gl3y hT hw
  refine k_lloadn (pc := 101) E 0 dX9_meanOf_101 rfl rfl ?_
  exact k_rho hT (k_lret (pc := 102) E dX9_meanOf_102 (by omega))

def f_X9_mean (x0 : Int) (x1 : Int) (s0 : gMem) : gRes := (if (f_X9_in x0 0 65535) = 0 then ((-4611686018427387904), s0) else (if (f_X9_in x1 0 2) = 0 then ((-4611686018427387904), s0) else gb (f_X9_meanOf x0 x1 s0) (fun r8 s9 => (r8, s9))))
theorem f_X9_mean_e (x0 : Int) (x1 : Int) (s0 : gMem) : f_X9_mean x0 x1 s0 = (if (f_X9_in x0 0 65535) = 0 then ((-4611686018427387904), s0) else (if (f_X9_in x1 0 2) = 0 then ((-4611686018427387904), s0) else gb (f_X9_meanOf x0 x1 s0) (fun r8 s9 => (r8, s9)))) := rfl
set_option maxRecDepth 100000 in
set_option maxHeartbeats 4000000 in
theorem f_X9_mean_p (x0 : Int) (x1 : Int) (s0 : gMem) (hx0 : in32 x0) (hx1 : in32 x1) (hm_s0 : gMR lgM s0) (hpre0 : VS s0) (hpre1 : KN s0) (hpre2 : MO s0) (hpre3 : OR s0) (hpre4 : BE s0) (hpre5 : FI s0) (hpre6 : MN s0) (rZ : Int) (sZ : gMem) (hres : f_X9_mean x0 x1 s0 = (rZ, sZ)) : (fr [25, 26, 27, 28, 29, 30, 31, 32, 33, 34] s0 sZ) ∧ (gMR lgM sZ) ∧ (in64 rZ) ∧ (OR sZ) ∧ (BE sZ) ∧ (FI sZ) ∧ (MN sZ) := by
  have hT := f_X9_mean_e x0 x1 s0
  have hf_s0 : fr [25, 26, 27, 28, 29, 30, 31, 32, 33, 34] s0 s0 := fr.rf _ _
  have hOR_s0 := hpre3
  have hBE_s0 := hpre4
  have hFI_s0 := hpre5
  have hMN_s0 := hpre6
  have hp2 := f_X9_in_p x0 0 65535 (by omega) (by omega) (by omega) 
  by_cases h3 : (f_X9_in x0 0 65535) = 0
  · replace hT := hT.trans (if_pos h3)
    obtain ⟨rfl, rfl⟩ := Prod.mk.inj (hT.symm.trans hres)
    exact ⟨hf_s0, hm_s0, (by omega), hOR_s0, hBE_s0, hFI_s0, hMN_s0⟩
  · replace hT := hT.trans (if_neg h3)
    have hp5 := f_X9_in_p x1 0 2 (by omega) (by omega) (by omega) 
    by_cases h6 : (f_X9_in x1 0 2) = 0
    · replace hT := hT.trans (if_pos h6)
      obtain ⟨rfl, rfl⟩ := Prod.mk.inj (hT.symm.trans hres)
      exact ⟨hf_s0, hm_s0, (by omega), hOR_s0, hBE_s0, hFI_s0, hMN_s0⟩
    · replace hT := hT.trans (if_neg h6)
      obtain ⟨r8, s9, hs9⟩ : ∃ rr ss, (f_X9_meanOf x0 x1 s0) = (rr, ss) := ⟨_, _, rfl⟩
      replace hT := gby hT hs9
      have hp10 := f_X9_meanOf_p x0 x1 s0 (by omega) (by omega) hm_s0 hpre0 hpre1 hpre2 hOR_s0 hBE_s0 hFI_s0 hMN_s0 (by first | assumption | omega) r8 s9 hs9
      obtain ⟨hfc_s9, hm_s9, hp11, hOR_s9, hBE_s9, hFI_s9, hMN_s9, hp12⟩ := hp10
      have hf_s9 : fr [25, 26, 27, 28, 29, 30, 31, 32, 33, 34] s0 s9 := hf_s0.call (by decide) hfc_s9
      obtain ⟨rfl, rfl⟩ := Prod.mk.inj (hT.symm.trans hres)
      exact ⟨hf_s9, hm_s9, (by omega), hOR_s9, hBE_s9, hFI_s9, hMN_s9⟩
set_option maxRecDepth 100000 in
set_option maxHeartbeats 4000000 in
theorem c_X9_mean (l : Launch) (D : va_G) (a : Nat → Nat) (cI cJ cS cT : ClassId) (s0 : gMem) (x0 : Int) (x1 : Int) (hx0 : in32 x0) (hx1 : in32 x1) (hpre0 : VS s0) (hpre1 : KN s0) (hpre2 : MO s0) (hpre3 : OR s0) (hpre4 : BE s0) (hpre5 : FI s0) (hpre6 : MN s0) : gC l yX9_mean cX9_mean 3 (some .long) 7 448 D vwCl (gT cI cJ cS cT) (wdM a cI cJ) lgM kJ in64 [.ref (a 0), gI x0, gI x1] s0 (f_X9_mean x0 x1 s0) := by
  refine gC_of (by decide +kernel) (hwdM a cI cJ) (Nat.le_of_ble_eq_true rfl) ?_
  intro A p e R s m args below meth c hR E
  subst hR
  have hT := f_X9_mean_e x0 x1 s0
  have hf_s0 : fr [25, 26, 27, 28, 29, 30, 31, 32, 33, 34] s0 s0 := fr.rf _ _
  refine k_lv0 (lv' := [(0, .ref (a 0)), (1, gI x0), (2, gI x1)]) rfl ?_
  refine k_mr (fun hm_s0 => ?_)
  have hOR_s0 := hpre3
  have hBE_s0 := hpre4
  have hFI_s0 := hpre5
  have hMN_s0 := hpre6
  refine k_iloadn (pc := 0) E 1 dX9_mean_0 rfl rfl ?_
  refine k_iconst (pc := 1) E dX9_mean_1 ?_
  refine k_ldc (pc := 2) (n := 65535) E dX9_mean_2 wm_1021 (by decide) ?_
  refine k_mr (fun hm_s0 => ?_)
  refine k_callS (pc := 4) (np := 3) (As := [gI x0, gI 0, gI 65535]) (st := []) E (c_X9_in l D a cI cJ cS cT s0 x0 0 65535 (by omega) (by omega) (by omega)) wm_861 wm_11 wm_859 wm_860 (by decide +kernel) ⟨by decide, by decide⟩ rfl (Nat.le_of_ble_eq_true rfl) dX9_mean_4 (ro_kk (fun hr1 => ?_))
  have hp2 := f_X9_in_p x0 0 65535 (by omega) (by omega) (by omega) 
  refine k_st (st' := [gI (f_X9_in x0 0 65535)]) rfl ?_
  by_cases h3 : (f_X9_in x0 0 65535) = 0
  · replace hT := hT.trans (if_pos h3)
    refine k_if_eq_t (pc := 7) (tgt := 28) E (by omega) dX9_mean_7 (by decide) h3 ?_
    refine k_ldc2 (pc := 28) (n := (-4611686018427387904)) E dX9_mean_28 wm_1128 (by decide) ?_
    exact k_rho hT (k_lret (pc := 31) E dX9_mean_31 (by omega))
  · replace hT := hT.trans (if_neg h3)
    refine k_if_eq_f (pc := 7) (tgt := 28) E (by omega) dX9_mean_7 (by decide) h3 ?_
    refine k_iloadn (pc := 10) E 2 dX9_mean_10 rfl rfl ?_
    refine k_iconst (pc := 11) E dX9_mean_11 ?_
    refine k_iconst (pc := 12) E dX9_mean_12 ?_
    refine k_mr (fun hm_s0 => ?_)
    refine k_callS (pc := 13) (np := 3) (As := [gI x1, gI 0, gI 2]) (st := []) E (c_X9_in l D a cI cJ cS cT s0 x1 0 2 (by omega) (by omega) (by omega)) wm_861 wm_11 wm_859 wm_860 (by decide +kernel) ⟨by decide, by decide⟩ rfl (Nat.le_of_ble_eq_true rfl) dX9_mean_13 (ro_kk (fun hr4 => ?_))
    have hp5 := f_X9_in_p x1 0 2 (by omega) (by omega) (by omega) 
    refine k_st (st' := [gI (f_X9_in x1 0 2)]) rfl ?_
    by_cases h6 : (f_X9_in x1 0 2) = 0
    · replace hT := hT.trans (if_pos h6)
      refine k_if_eq_t (pc := 16) (tgt := 28) E (by omega) dX9_mean_16 (by decide) h6 ?_
      refine k_ldc2 (pc := 28) (n := (-4611686018427387904)) E dX9_mean_28 wm_1128 (by decide) ?_
      exact k_rho hT (k_lret (pc := 31) E dX9_mean_31 (by omega))
    · replace hT := hT.trans (if_neg h6)
      refine k_if_eq_f (pc := 16) (tgt := 28) E (by omega) dX9_mean_16 (by decide) h6 ?_
      refine k_aloadn (pc := 19) E 0 dX9_mean_19 rfl rfl ?_
      refine k_iloadn (pc := 20) E 1 dX9_mean_20 rfl rfl ?_
      refine k_iloadn (pc := 21) E 2 dX9_mean_21 rfl rfl ?_
      refine k_mr (fun hm_s0 => ?_)
      refine k_callV (pc := 22) (np := 2) (As := [gI x0, gI x1]) (st := []) (q0 := 0) E (c_X9_meanOf l D a cI cJ cS cT s0 x0 x1 (by omega) (by omega) hpre0 hpre1 hpre2 hOR_s0 hBE_s0 hFI_s0 hMN_s0 (by first | assumption | omega)) wm_1104 wm_11 wm_1101 wm_1103 wp_42 (by decide +kernel) rfl rfl ⟨by decide, by decide⟩ rfl (Nat.le_of_ble_eq_true rfl) dX9_mean_22 (fun r8 s9 hs9 hr7 => ?_)
      replace hT := gby hT hs9
      have hp10 := f_X9_meanOf_p x0 x1 s0 (by omega) (by omega) hm_s0 hpre0 hpre1 hpre2 hOR_s0 hBE_s0 hFI_s0 hMN_s0 (by first | assumption | omega) r8 s9 hs9
      obtain ⟨hfc_s9, hm_s9, hp11, hOR_s9, hBE_s9, hFI_s9, hMN_s9, hp12⟩ := hp10
      have hf_s9 : fr [25, 26, 27, 28, 29, 30, 31, 32, 33, 34] s0 s9 := hf_s0.call (by decide) hfc_s9
      refine k_st (st' := [gL r8]) rfl ?_
      refine k_goto (pc := 25) (tgt := 31) E dX9_mean_25 (by decide) ?_
      exact k_rho hT (k_lret (pc := 31) E dX9_mean_31 (by omega))

def f_X9_plan  (s0 : gMem) : gRes := gb (f_X9_meanOf (s0 2 0) (s0 2 2) s0) (fun r6 s7 => (r6, s7))
theorem f_X9_plan_e  (s0 : gMem) : f_X9_plan s0 = gb (f_X9_meanOf (s0 2 0) (s0 2 2) s0) (fun r6 s7 => (r6, s7)) := rfl
set_option maxRecDepth 100000 in
set_option maxHeartbeats 4000000 in
theorem f_X9_plan_p  (s0 : gMem)  (hm_s0 : gMR lgM s0) (hpre0 : VS s0) (hpre1 : KN s0) (hpre2 : MO s0) (hpre3 : OR s0) (hpre4 : BE s0) (hpre5 : FI s0) (hpre6 : MN s0) (hpre7 : TD s0) (rZ : Int) (sZ : gMem) (hres : f_X9_plan s0 = (rZ, sZ)) : (fr [25, 26, 27, 28, 29, 30, 31, 32, 33, 34] s0 sZ) ∧ (gMR lgM sZ) ∧ (in64 rZ) ∧ (OR sZ) ∧ (BE sZ) ∧ (FI sZ) ∧ (MN sZ) ∧ (0 ≤ rZ ∧ rZ ≤ 1000000000000) := by
  have hT := f_X9_plan_e  s0
  have hf_s0 : fr [25, 26, 27, 28, 29, 30, 31, 32, 33, 34] s0 s0 := fr.rf _ _
  have hOR_s0 := hpre3
  have hBE_s0 := hpre4
  have hFI_s0 := hpre5
  have hMN_s0 := hpre6
  have hr1 := (hm_s0 2 0).1 rfl
  have hi2 := hpre7 0
  have hr3 := (hm_s0 2 2).1 rfl
  have hi4 := hpre7 2
  obtain ⟨r6, s7, hs7⟩ : ∃ rr ss, (f_X9_meanOf (s0 2 0) (s0 2 2) s0) = (rr, ss) := ⟨_, _, rfl⟩
  replace hT := gby hT hs7
  have hp8 := f_X9_meanOf_p (s0 2 0) (s0 2 2) s0 (by omega) (by omega) hm_s0 hpre0 hpre1 hpre2 hOR_s0 hBE_s0 hFI_s0 hMN_s0 (by first | assumption | omega) r6 s7 hs7
  obtain ⟨hfc_s7, hm_s7, hp9, hOR_s7, hBE_s7, hFI_s7, hMN_s7, hp10⟩ := hp8
  have hf_s7 : fr [25, 26, 27, 28, 29, 30, 31, 32, 33, 34] s0 s7 := hf_s0.call (by decide) hfc_s7
  obtain ⟨rfl, rfl⟩ := Prod.mk.inj (hT.symm.trans hres)
  exact ⟨hf_s7, hm_s7, (by omega), hOR_s7, hBE_s7, hFI_s7, hMN_s7, (by first | assumption | omega)⟩
set_option maxRecDepth 100000 in
set_option maxHeartbeats 4000000 in
theorem c_X9_plan (l : Launch) (D : va_G) (a : Nat → Nat) (cI cJ cS cT : ClassId) (s0 : gMem)   (hpre0 : VS s0) (hpre1 : KN s0) (hpre2 : MO s0) (hpre3 : OR s0) (hpre4 : BE s0) (hpre5 : FI s0) (hpre6 : MN s0) (hpre7 : TD s0) : gC l yX9_plan cX9_plan 1 (some .long) 7 448 D vwCl (gT cI cJ cS cT) (wdM a cI cJ) lgM kJ in64 [.ref (a 0)] s0 (f_X9_plan s0) := by
  refine gC_of (by decide +kernel) (hwdM a cI cJ) (Nat.le_of_ble_eq_true rfl) ?_
  intro A p e R s m args below meth c hR E
  subst hR
  have hT := f_X9_plan_e  s0
  have hf_s0 : fr [25, 26, 27, 28, 29, 30, 31, 32, 33, 34] s0 s0 := fr.rf _ _
  refine k_lv0 (lv' := [(0, .ref (a 0))]) rfl ?_
  refine k_mr (fun hm_s0 => ?_)
  have hOR_s0 := hpre3
  have hBE_s0 := hpre4
  have hFI_s0 := hpre5
  have hMN_s0 := hpre6
  refine k_aloadn (pc := 0) E 0 dX9_plan_0 rfl rfl ?_
  refine k_aloadn (pc := 1) E 0 dX9_plan_1 rfl rfl ?_
  refine k_getf (pc := 2) (q0 := 0) (f := 2) (v := .ref (a 3)) E inX9 rfl rfl (by decide) wm_900 rfl rfl dX9_plan_2 ?_
  refine k_iconst (pc := 5) E dX9_plan_5 ?_
  refine k_iaload (pc := 6) (q0 := 3) (t0 := 0) (k := 2) (n := 4) E rfl rfl rfl (by decide) (by omega) (by omega) dX9_plan_6 (fun hr1 => ?_)
  have hi2 := hpre7 0
  refine k_aloadn (pc := 7) E 0 dX9_plan_7 rfl rfl ?_
  refine k_getf (pc := 8) (q0 := 0) (f := 2) (v := .ref (a 3)) E inX9 rfl rfl (by decide) wm_900 rfl rfl dX9_plan_8 ?_
  refine k_iconst (pc := 11) E dX9_plan_11 ?_
  refine k_iaload (pc := 12) (q0 := 3) (t0 := 0) (k := 2) (n := 4) E rfl rfl rfl (by decide) (by omega) (by omega) dX9_plan_12 (fun hr3 => ?_)
  have hi4 := hpre7 2
  refine k_mr (fun hm_s0 => ?_)
  refine k_callV (pc := 13) (np := 2) (As := [gI (s0 2 0), gI (s0 2 2)]) (st := []) (q0 := 0) E (c_X9_meanOf l D a cI cJ cS cT s0 (s0 2 0) (s0 2 2) (by omega) (by omega) hpre0 hpre1 hpre2 hOR_s0 hBE_s0 hFI_s0 hMN_s0 (by first | assumption | omega)) wm_1104 wm_11 wm_1101 wm_1103 wp_42 (by decide +kernel) rfl rfl ⟨by decide, by decide⟩ rfl (Nat.le_of_ble_eq_true rfl) dX9_plan_13 (fun r6 s7 hs7 hr5 => ?_)
  replace hT := gby hT hs7
  have hp8 := f_X9_meanOf_p (s0 2 0) (s0 2 2) s0 (by omega) (by omega) hm_s0 hpre0 hpre1 hpre2 hOR_s0 hBE_s0 hFI_s0 hMN_s0 (by first | assumption | omega) r6 s7 hs7
  obtain ⟨hfc_s7, hm_s7, hp9, hOR_s7, hBE_s7, hFI_s7, hMN_s7, hp10⟩ := hp8
  have hf_s7 : fr [25, 26, 27, 28, 29, 30, 31, 32, 33, 34] s0 s7 := hf_s0.call (by decide) hfc_s7
  refine k_st (st' := [gL r6]) rfl ?_
  exact k_rho hT (k_lret (pc := 16) E dX9_plan_16 (by omega))

def f_X9_isAhead (x0 : Int) (x1 : Int) : Int := (if (iand (iand (ixor x0 x1) (-(ixor x0 x1))) x0) = 0 then 0 else 1)
theorem f_X9_isAhead_e (x0 : Int) (x1 : Int) : f_X9_isAhead x0 x1 = (if (iand (iand (ixor x0 x1) (-(ixor x0 x1))) x0) = 0 then 0 else 1) := rfl
set_option maxRecDepth 100000 in
set_option maxHeartbeats 4000000 in
theorem f_X9_isAhead_p (x0 : Int) (x1 : Int) (hx0 : in32 x0) (hx1 : in32 x1)  : (((f_X9_isAhead x0 x1) = 0 ∨ (f_X9_isAhead x0 x1) = 1)) := by
  have hT := f_X9_isAhead_e x0 x1
  have hb1 := ixor_rg x0 x1
  have hb2 := iand_rg (ixor x0 x1) (-(ixor x0 x1))
  have hb3 := iand_rg (iand (ixor x0 x1) (-(ixor x0 x1))) x0
  by_cases h4 : (iand (iand (ixor x0 x1) (-(ixor x0 x1))) x0) = 0
  · replace hT := hT.trans (if_pos h4)
    rw [hT]
    exact (by first | exact Or.inl rfl | exact Or.inr rfl | omega)
  · replace hT := hT.trans (if_neg h4)
    rw [hT]
    exact (by first | exact Or.inl rfl | exact Or.inr rfl | omega)
set_option maxRecDepth 100000 in
set_option maxHeartbeats 4000000 in
theorem c_X9_isAhead (l : Launch) (D : va_G) (a : Nat → Nat) (cI cJ cS cT : ClassId) (s0 : gMem) (x0 : Int) (x1 : Int) (hx0 : in32 x0) (hx1 : in32 x1)  : gC l yX9_isAhead cX9_isAhead 3 (some .boolean) 1 64 D vwCl (gT cI cJ cS cT) (wdM a cI cJ) lgM kI rgZ [gI x0, gI x1] s0 ((f_X9_isAhead x0 x1), s0) := by
  refine gC_of (by decide +kernel) (hwdM a cI cJ) (Nat.le_of_ble_eq_true rfl) ?_
  intro A p e R s m args below meth c hR E
  subst hR
  have hT := f_X9_isAhead_e x0 x1
  refine k_lv0 (lv' := [(0, gI x0), (1, gI x1)]) rfl ?_
  refine k_iloadn (pc := 0) E 0 dX9_isAhead_0 rfl rfl ?_
  refine k_iloadn (pc := 1) E 1 dX9_isAhead_1 rfl rfl ?_
  refine k_ixor (pc := 2) E dX9_isAhead_2 ?_
  have hb1 := ixor_rg x0 x1
  refine k_istoren (pc := 3) (lv' := [(2, gI (ixor x0 x1)), (0, gI x0), (1, gI x1)]) E dX9_isAhead_3 rfl (by decide) rfl ?_
  refine k_iloadn (pc := 4) E 0 dX9_isAhead_4 rfl rfl ?_
  refine k_iloadn (pc := 5) E 0 dX9_isAhead_5 rfl rfl ?_
  refine k_ineg (pc := 6) E dX9_isAhead_6 ?_
  refine k_iand (pc := 7) E dX9_isAhead_7 ?_
  have hb2 := iand_rg (ixor x0 x1) (-(ixor x0 x1))
  refine k_iloadn (pc := 8) E 1 dX9_isAhead_8 rfl rfl ?_
  refine k_iand (pc := 9) E dX9_isAhead_9 ?_
  have hb3 := iand_rg (iand (ixor x0 x1) (-(ixor x0 x1))) x0
  by_cases h4 : (iand (iand (ixor x0 x1) (-(ixor x0 x1))) x0) = 0
  · replace hT := hT.trans (if_pos h4)
    refine k_if_eq_t (pc := 10) (tgt := 17) E (by omega) dX9_isAhead_10 (by decide) h4 ?_
    refine k_iconst (pc := 17) E dX9_isAhead_17 ?_
    exact k_rho (congrArg (fun q => (q, s0)) hT) (k_zret (pc := 18) E dX9_isAhead_18 (by first | exact Or.inl rfl | exact Or.inr rfl | omega))
  · replace hT := hT.trans (if_neg h4)
    refine k_if_eq_f (pc := 10) (tgt := 17) E (by omega) dX9_isAhead_10 (by decide) h4 ?_
    refine k_iconst (pc := 13) E dX9_isAhead_13 ?_
    refine k_goto (pc := 14) (tgt := 18) E dX9_isAhead_14 (by decide) ?_
    exact k_rho (congrArg (fun q => (q, s0)) hT) (k_zret (pc := 18) E dX9_isAhead_18 (by first | exact Or.inl rfl | exact Or.inr rfl | omega))

def w_X9_best_43 (c1 : Int) (c2 : Int) : Nat → Int → Int → Int → Int → gMem → Int × Int × Int × Int × gMem
  | 0, v15, v16, v17, v18, s19 => (v15, v16, v17, v18, s19)
  | n20 + 1, v15, v16, v17, v18, s19 => (if 65535 < v18 then (v15, v16, v17, v18, s19) else (gl4 ((if c1 < (f_X9_ones v18) then (v15, v16, v17, s19) else gb (f_X9_meanOf v18 (s19 2 2) s19) (fun r38 s39 => (gj (fun j44c => (if r38 < v17 then j44c else (gj (fun j62c => (if r38 = v17 then (if (f_X9_ones v18) < v16 then j44c else (if (f_X9_ones v18) = v16 then (if (f_X9_isAhead v18 v15) = 0 then j62c else j44c) else j62c)) else j62c)) ((gl ((if (0 : Int) = 0 then v15 else v18)) (fun v65 => (gl ((if (0 : Int) = 0 then v16 else (f_X9_ones v18))) (fun v68 => (gl ((if (0 : Int) = 0 then v17 else r38)) (fun v71 => (v65, v68, v71, s39))))))))))) ((gl ((if (1 : Int) = 0 then v15 else v18)) (fun v47 => (gl ((if (1 : Int) = 0 then v16 else (f_X9_ones v18))) (fun v50 => (gl ((if (1 : Int) = 0 then v17 else r38)) (fun v53 => (v47, v50, v53, s39)))))))))))) (fun v26 v27 v28 s29 => (w_X9_best_43 c1 c2 n20 v26 v27 v28 (v18 + 1) s29))))
theorem w_X9_best_43_s (c1 : Int) (c2 : Int) (n20 : Nat) (v15 : Int) (v16 : Int) (v17 : Int) (v18 : Int) (s19 : gMem) : w_X9_best_43 c1 c2 (n20 + 1) v15 v16 v17 v18 s19 = (if 65535 < v18 then (v15, v16, v17, v18, s19) else (gl4 ((if c1 < (f_X9_ones v18) then (v15, v16, v17, s19) else gb (f_X9_meanOf v18 (s19 2 2) s19) (fun r38 s39 => (gj (fun j44c => (if r38 < v17 then j44c else (gj (fun j62c => (if r38 = v17 then (if (f_X9_ones v18) < v16 then j44c else (if (f_X9_ones v18) = v16 then (if (f_X9_isAhead v18 v15) = 0 then j62c else j44c) else j62c)) else j62c)) ((gl ((if (0 : Int) = 0 then v15 else v18)) (fun v65 => (gl ((if (0 : Int) = 0 then v16 else (f_X9_ones v18))) (fun v68 => (gl ((if (0 : Int) = 0 then v17 else r38)) (fun v71 => (v65, v68, v71, s39))))))))))) ((gl ((if (1 : Int) = 0 then v15 else v18)) (fun v47 => (gl ((if (1 : Int) = 0 then v16 else (f_X9_ones v18))) (fun v50 => (gl ((if (1 : Int) = 0 then v17 else r38)) (fun v53 => (v47, v50, v53, s39)))))))))))) (fun v26 v27 v28 s29 => (w_X9_best_43 c1 c2 n20 v26 v27 v28 (v18 + 1) s29)))) := rfl
def f_X9_best (x0 : Int) (x1 : Int) (s0 : gMem) : gRes := (if (f_X9_in x0 0 4) = 0 then ((-4611686018427387904), s0) else (if (f_X9_in x1 0 1) = 0 then ((-4611686018427387904), s0) else gb (f_X9_meanOf 0 (s0 2 2) s0) (fun r10 s11 => (gl5 (w_X9_best_43 x0 x1 65536 0 0 r10 1 s11) (fun v171 v172 v173 v174 s175 => (if x1 = 0 then (v171, s175) else (v173, s175)))))))
theorem f_X9_best_e (x0 : Int) (x1 : Int) (s0 : gMem) : f_X9_best x0 x1 s0 = (if (f_X9_in x0 0 4) = 0 then ((-4611686018427387904), s0) else (if (f_X9_in x1 0 1) = 0 then ((-4611686018427387904), s0) else gb (f_X9_meanOf 0 (s0 2 2) s0) (fun r10 s11 => (gl5 (w_X9_best_43 x0 x1 65536 0 0 r10 1 s11) (fun v171 v172 v173 v174 s175 => (if x1 = 0 then (v171, s175) else (v173, s175))))))) := rfl
set_option maxRecDepth 100000 in
set_option maxHeartbeats 4000000 in
theorem f_X9_best_p (x0 : Int) (x1 : Int) (s0 : gMem) (hx0 : in32 x0) (hx1 : in32 x1) (hm_s0 : gMR lgM s0) (hpre0 : VS s0) (hpre1 : KN s0) (hpre2 : MO s0) (hpre3 : OR s0) (hpre4 : BE s0) (hpre5 : FI s0) (hpre6 : MN s0) (hpre7 : TD s0) (rZ : Int) (sZ : gMem) (hres : f_X9_best x0 x1 s0 = (rZ, sZ)) : (fr [25, 26, 27, 28, 29, 30, 31, 32, 33, 34] s0 sZ) ∧ (gMR lgM sZ) ∧ (in64 rZ) ∧ (OR sZ) ∧ (BE sZ) ∧ (FI sZ) ∧ (MN sZ) := by
  have hT := f_X9_best_e x0 x1 s0
  have hf_s0 : fr [25, 26, 27, 28, 29, 30, 31, 32, 33, 34] s0 s0 := fr.rf _ _
  have hOR_s0 := hpre3
  have hBE_s0 := hpre4
  have hFI_s0 := hpre5
  have hMN_s0 := hpre6
  have hp2 := f_X9_in_p x0 0 4 (by omega) (by omega) (by omega) 
  by_cases h3 : (f_X9_in x0 0 4) = 0
  · replace hT := hT.trans (if_pos h3)
    obtain ⟨rfl, rfl⟩ := Prod.mk.inj (hT.symm.trans hres)
    exact ⟨hf_s0, hm_s0, (by omega), hOR_s0, hBE_s0, hFI_s0, hMN_s0⟩
  · replace hT := hT.trans (if_neg h3)
    have hp5 := f_X9_in_p x1 0 1 (by omega) (by omega) (by omega) 
    by_cases h6 : (f_X9_in x1 0 1) = 0
    · replace hT := hT.trans (if_pos h6)
      obtain ⟨rfl, rfl⟩ := Prod.mk.inj (hT.symm.trans hres)
      exact ⟨hf_s0, hm_s0, (by omega), hOR_s0, hBE_s0, hFI_s0, hMN_s0⟩
    · replace hT := hT.trans (if_neg h6)
      have hr7 := (hm_s0 2 2).1 rfl
      have hi8 := hpre7 2
      obtain ⟨r10, s11, hs11⟩ : ∃ rr ss, (f_X9_meanOf 0 (s0 2 2) s0) = (rr, ss) := ⟨_, _, rfl⟩
      replace hT := gby hT hs11
      have hp12 := f_X9_meanOf_p 0 (s0 2 2) s0 (by omega) (by omega) hm_s0 hpre0 hpre1 hpre2 hOR_s0 hBE_s0 hFI_s0 hMN_s0 (by first | assumption | omega) r10 s11 hs11
      obtain ⟨hfc_s11, hm_s11, hp13, hOR_s11, hBE_s11, hFI_s11, hMN_s11, hp14⟩ := hp12
      have hf_s11 : fr [25, 26, 27, 28, 29, 30, 31, 32, 33, 34] s0 s11 := hf_s0.call (by decide) hfc_s11
      have L89 : ∀ (n90 : Nat) (v84 : Int) (v85 : Int) (v86 : Int) (v87 : Int) (s88 : gMem), ((in32 v84) ∧ (in32 v85) ∧ (in64 v86) ∧ (in32 v87) ∧ (fr [25, 26, 27, 28, 29, 30, 31, 32, 33, 34] s0 s88) ∧ (gMR lgM s88) ∧ (OR s88) ∧ (BE s88) ∧ (FI s88) ∧ (MN s88) ∧ (1 ≤ v87 ∧ v87 ≤ 65536) ∧ (0 ≤ v86 ∧ v86 ≤ 1000000000000)) → 65536 - v87 < (n90 : Int) → (∀ (w91 : Int) (w92 : Int) (w93 : Int) (w94 : Int) (s95 : gMem), (w_X9_best_43 x0 x1 n90 v84 v85 v86 v87 s88) = (w91, w92, w93, w94, s95) → ((in32 w91) ∧ (in32 w92) ∧ (in64 w93) ∧ (in32 w94) ∧ (fr [25, 26, 27, 28, 29, 30, 31, 32, 33, 34] s0 s95) ∧ (gMR lgM s95) ∧ (OR s95) ∧ (BE s95) ∧ (FI s95) ∧ (MN s95) ∧ (1 ≤ w94 ∧ w94 ≤ 65536) ∧ (0 ≤ w93 ∧ w93 ≤ 1000000000000)) → (fr [25, 26, 27, 28, 29, 30, 31, 32, 33, 34] s0 sZ) ∧ (gMR lgM sZ) ∧ (in64 rZ) ∧ (OR sZ) ∧ (BE sZ) ∧ (FI sZ) ∧ (MN sZ)) → (fr [25, 26, 27, 28, 29, 30, 31, 32, 33, 34] s0 sZ) ∧ (gMR lgM sZ) ∧ (in64 rZ) ∧ (OR sZ) ∧ (BE sZ) ∧ (FI sZ) ∧ (MN sZ) := by
        intro n90; induction n90 with
        | zero =>
          intro v84 v85 v86 v87 s88 hq hm hk
          exfalso
          obtain ⟨hq159, hq160, hq161, hq162, hf_s88, hm_s88, hOR_s88, hBE_s88, hFI_s88, hMN_s88, hq163, hq164⟩ := hq
          omega
        | succ n90 ih =>
          intro v84 v85 v86 v87 s88 hq hm hk
          obtain ⟨hq165, hq166, hq167, hq168, hf_s88, hm_s88, hOR_s88, hBE_s88, hFI_s88, hMN_s88, hq169, hq170⟩ := hq
          have hT := w_X9_best_43_s x0 x1 n90 v84 v85 v86 v87 s88
          by_cases h96 : 65535 < v87
          · replace hT := hT.trans (if_pos h96)
            exact hk v84 v85 v86 v87 s88 hT ⟨(by omega), (by omega), (by omega), (by omega), hf_s88, hm_s88, hOR_s88, hBE_s88, hFI_s88, hMN_s88, (by first | assumption | omega), (by first | assumption | omega)⟩
          · replace hT := hT.trans (if_neg h96)
            have hp98 := f_X9_ones_p v87 (by omega) 
            obtain ⟨z109, hz109, hT⟩ := gl4x hT
            have j100 : ∀ (v101 : Int) (v102 : Int) (v103 : Int) (s104 : gMem), ((in32 v101) ∧ (in32 v102) ∧ (in64 v103) ∧ (0 ≤ v103 ∧ v103 ≤ 1000000000000) ∧ (fr [25, 26, 27, 28, 29, 30, 31, 32, 33, 34] s0 s104) ∧ (gMR lgM s104) ∧ (OR s104) ∧ (BE s104) ∧ (FI s104) ∧ (MN s104)) → z109 = (v101, v102, v103, s104) → (fr [25, 26, 27, 28, 29, 30, 31, 32, 33, 34] s0 sZ) ∧ (gMR lgM sZ) ∧ (in64 rZ) ∧ (OR sZ) ∧ (BE sZ) ∧ (FI sZ) ∧ (MN sZ) := by
              intro v101 v102 v103 s104 hq hz
              obtain ⟨hq105, hq106, hq107, hq108, hf_s104, hm_s104, hOR_s104, hBE_s104, hFI_s104, hMN_s104⟩ := hq
              replace hT := gl4y hT hz
              exact ih v101 v102 v103 (v87 + 1) s104 ⟨(by omega), (by omega), (by omega), (by omega), hf_s104, hm_s104, hOR_s104, hBE_s104, hFI_s104, hMN_s104, (by first | assumption | omega), (by first | assumption | omega)⟩ (by omega) (fun w91 w92 w93 w94 s95 hw hi => hk w91 w92 w93 w94 s95 (hT.trans hw) hi)
            replace hT := hz109
            by_cases h99 : x0 < (f_X9_ones v87)
            · replace hT := hT.trans (if_pos h99)
              exact j100 v84 v85 v86 s88 ⟨(by omega), (by omega), (by omega), (by first | assumption | omega), hf_s88, hm_s88, hOR_s88, hBE_s88, hFI_s88, hMN_s88⟩ hT
            · replace hT := hT.trans (if_neg h99)
              have hr110 := (hm_s88 2 2).1 rfl
              have hi111 := hpre7 2
              rw [← hf_s88 2 (by decide)] at hi111
              obtain ⟨r113, s114, hs114⟩ : ∃ rr ss, (f_X9_meanOf v87 (s88 2 2) s88) = (rr, ss) := ⟨_, _, rfl⟩
              replace hT := gby hT hs114
              have hp115 := f_X9_meanOf_p v87 (s88 2 2) s88 (by omega) (by omega) hm_s88 (by unfold VS; rw [hf_s88 5 (by decide), hf_s88 6 (by decide), hf_s88 7 (by decide), hf_s88 8 (by decide)]; exact hpre0) (by unfold KN; rw [hf_s88 0 (by decide)]; exact hpre1) (by unfold MO; rw [hf_s88 1 (by decide)]; exact hpre2) hOR_s88 hBE_s88 hFI_s88 hMN_s88 (by first | assumption | omega) r113 s114 hs114
              obtain ⟨hfc_s114, hm_s114, hp116, hOR_s114, hBE_s114, hFI_s114, hMN_s114, hp117⟩ := hp115
              have hf_s114 : fr [25, 26, 27, 28, 29, 30, 31, 32, 33, 34] s0 s114 := hf_s88.call (by decide) hfc_s114
              obtain ⟨j119c, hj119c, hT⟩ := gjx hT
              have j119 : (True) → z109 = j119c  → (fr [25, 26, 27, 28, 29, 30, 31, 32, 33, 34] s0 sZ) ∧ (gMR lgM sZ) ∧ (in64 rZ) ∧ (OR sZ) ∧ (BE sZ) ∧ (FI sZ) ∧ (MN sZ) := by
                intro  hq hT
                rw [hj119c] at hT
                obtain ⟨z135, hz135, hT⟩ := gl1x hT
                have j121 : ∀ (v122 : Int), ((in32 v122)) → z135 = v122 → (fr [25, 26, 27, 28, 29, 30, 31, 32, 33, 34] s0 sZ) ∧ (gMR lgM sZ) ∧ (in64 rZ) ∧ (OR sZ) ∧ (BE sZ) ∧ (FI sZ) ∧ (MN sZ) := by
                  intro v122 hq hz
                  have hq134 := hq
                  replace hT := gl1y hT hz
                  obtain ⟨z133, hz133, hT⟩ := gl1x hT
                  have j124 : ∀ (v125 : Int), ((in32 v125)) → z133 = v125 → (fr [25, 26, 27, 28, 29, 30, 31, 32, 33, 34] s0 sZ) ∧ (gMR lgM sZ) ∧ (in64 rZ) ∧ (OR sZ) ∧ (BE sZ) ∧ (FI sZ) ∧ (MN sZ) := by
                    intro v125 hq hz
                    have hq132 := hq
                    replace hT := gl1y hT hz
                    obtain ⟨z131, hz131, hT⟩ := gl1x hT
                    have j127 : ∀ (v128 : Int), ((in64 v128) ∧ (0 ≤ v128 ∧ v128 ≤ 1000000000000)) → z131 = v128 → (fr [25, 26, 27, 28, 29, 30, 31, 32, 33, 34] s0 sZ) ∧ (gMR lgM sZ) ∧ (in64 rZ) ∧ (OR sZ) ∧ (BE sZ) ∧ (FI sZ) ∧ (MN sZ) := by
                      intro v128 hq hz
                      obtain ⟨hq129, hq130⟩ := hq
                      replace hT := gl1y hT hz
                      exact j100 v122 v125 v128 s114 ⟨(by omega), (by omega), (by omega), (by first | assumption | omega), hf_s114, hm_s114, hOR_s114, hBE_s114, hFI_s114, hMN_s114⟩ hT
                    replace hT := hz131
                    by_cases h126 : (1 : Int) = 0
                    · replace hT := hT.trans (if_pos h126)
                      exact j127 v86 ⟨(by omega), (by first | assumption | omega)⟩ hT
                    · replace hT := hT.trans (if_neg h126)
                      exact j127 r113 ⟨(by omega), (by first | assumption | omega)⟩ hT
                  replace hT := hz133
                  by_cases h123 : (1 : Int) = 0
                  · replace hT := hT.trans (if_pos h123)
                    exact j124 v85 (by omega) hT
                  · replace hT := hT.trans (if_neg h123)
                    exact j124 (f_X9_ones v87) (by omega) hT
                replace hT := hz135
                by_cases h120 : (1 : Int) = 0
                · replace hT := hT.trans (if_pos h120)
                  exact j121 v84 (by omega) hT
                · replace hT := hT.trans (if_neg h120)
                  exact j121 v87 (by omega) hT
              by_cases h118 : r113 < v86
              · replace hT := hT.trans (if_pos h118)
                exact j119  trivial hT
              · replace hT := hT.trans (if_neg h118)
                obtain ⟨j137c, hj137c, hT⟩ := gjx hT
                have j137 : (True) → z109 = j137c  → (fr [25, 26, 27, 28, 29, 30, 31, 32, 33, 34] s0 sZ) ∧ (gMR lgM sZ) ∧ (in64 rZ) ∧ (OR sZ) ∧ (BE sZ) ∧ (FI sZ) ∧ (MN sZ) := by
                  intro  hq hT
                  rw [hj137c] at hT
                  obtain ⟨z153, hz153, hT⟩ := gl1x hT
                  have j139 : ∀ (v140 : Int), ((in32 v140)) → z153 = v140 → (fr [25, 26, 27, 28, 29, 30, 31, 32, 33, 34] s0 sZ) ∧ (gMR lgM sZ) ∧ (in64 rZ) ∧ (OR sZ) ∧ (BE sZ) ∧ (FI sZ) ∧ (MN sZ) := by
                    intro v140 hq hz
                    have hq152 := hq
                    replace hT := gl1y hT hz
                    obtain ⟨z151, hz151, hT⟩ := gl1x hT
                    have j142 : ∀ (v143 : Int), ((in32 v143)) → z151 = v143 → (fr [25, 26, 27, 28, 29, 30, 31, 32, 33, 34] s0 sZ) ∧ (gMR lgM sZ) ∧ (in64 rZ) ∧ (OR sZ) ∧ (BE sZ) ∧ (FI sZ) ∧ (MN sZ) := by
                      intro v143 hq hz
                      have hq150 := hq
                      replace hT := gl1y hT hz
                      obtain ⟨z149, hz149, hT⟩ := gl1x hT
                      have j145 : ∀ (v146 : Int), ((in64 v146) ∧ (0 ≤ v146 ∧ v146 ≤ 1000000000000)) → z149 = v146 → (fr [25, 26, 27, 28, 29, 30, 31, 32, 33, 34] s0 sZ) ∧ (gMR lgM sZ) ∧ (in64 rZ) ∧ (OR sZ) ∧ (BE sZ) ∧ (FI sZ) ∧ (MN sZ) := by
                        intro v146 hq hz
                        obtain ⟨hq147, hq148⟩ := hq
                        replace hT := gl1y hT hz
                        exact j100 v140 v143 v146 s114 ⟨(by omega), (by omega), (by omega), (by first | assumption | omega), hf_s114, hm_s114, hOR_s114, hBE_s114, hFI_s114, hMN_s114⟩ hT
                      replace hT := hz149
                      by_cases h144 : (0 : Int) = 0
                      · replace hT := hT.trans (if_pos h144)
                        exact j145 v86 ⟨(by omega), (by first | assumption | omega)⟩ hT
                      · replace hT := hT.trans (if_neg h144)
                        exact j145 r113 ⟨(by omega), (by first | assumption | omega)⟩ hT
                    replace hT := hz151
                    by_cases h141 : (0 : Int) = 0
                    · replace hT := hT.trans (if_pos h141)
                      exact j142 v85 (by omega) hT
                    · replace hT := hT.trans (if_neg h141)
                      exact j142 (f_X9_ones v87) (by omega) hT
                  replace hT := hz153
                  by_cases h138 : (0 : Int) = 0
                  · replace hT := hT.trans (if_pos h138)
                    exact j139 v84 (by omega) hT
                  · replace hT := hT.trans (if_neg h138)
                    exact j139 v87 (by omega) hT
                by_cases h136 : r113 = v86
                · replace hT := hT.trans (if_pos h136)
                  by_cases h154 : (f_X9_ones v87) < v85
                  · replace hT := hT.trans (if_pos h154)
                    exact j119  trivial hT
                  · replace hT := hT.trans (if_neg h154)
                    by_cases h155 : (f_X9_ones v87) = v85
                    · replace hT := hT.trans (if_pos h155)
                      have hp157 := f_X9_isAhead_p v87 v84 (by omega) (by omega) 
                      by_cases h158 : (f_X9_isAhead v87 v84) = 0
                      · replace hT := hT.trans (if_pos h158)
                        exact j137  trivial hT
                      · replace hT := hT.trans (if_neg h158)
                        exact j119  trivial hT
                    · replace hT := hT.trans (if_neg h155)
                      exact j137  trivial hT
                · replace hT := hT.trans (if_neg h136)
                  exact j137  trivial hT
      refine L89 65536 0 0 r10 1 s11 ⟨(by omega), (by omega), (by omega), (by omega), hf_s11, hm_s11, hOR_s11, hBE_s11, hFI_s11, hMN_s11, (by first | assumption | omega), (by first | assumption | omega)⟩ (by omega) (fun v171 v172 v173 v174 s175 hw hq => ?_)
      obtain ⟨hq176, hq177, hq178, hq179, hf_s175, hm_s175, hOR_s175, hBE_s175, hFI_s175, hMN_s175, hq180, hq181⟩ := hq
      replace hT := gl5y hT hw
      by_cases h182 : x1 = 0
      · replace hT := hT.trans (if_pos h182)
        obtain ⟨rfl, rfl⟩ := Prod.mk.inj (hT.symm.trans hres)
        exact ⟨hf_s175, hm_s175, (by omega), hOR_s175, hBE_s175, hFI_s175, hMN_s175⟩
      · replace hT := hT.trans (if_neg h182)
        obtain ⟨rfl, rfl⟩ := Prod.mk.inj (hT.symm.trans hres)
        exact ⟨hf_s175, hm_s175, (by omega), hOR_s175, hBE_s175, hFI_s175, hMN_s175⟩
set_option maxRecDepth 100000 in
set_option maxHeartbeats 4000000 in
theorem c_X9_best (l : Launch) (D : va_G) (a : Nat → Nat) (cI cJ cS cT : ClassId) (s0 : gMem) (x0 : Int) (x1 : Int) (hx0 : in32 x0) (hx1 : in32 x1) (hpre0 : VS s0) (hpre1 : KN s0) (hpre2 : MO s0) (hpre3 : OR s0) (hpre4 : BE s0) (hpre5 : FI s0) (hpre6 : MN s0) (hpre7 : TD s0) : gC l yX9_best cX9_best 12 (some .long) 7 448 D vwCl (gT cI cJ cS cT) (wdM a cI cJ) lgM kJ in64 [.ref (a 0), gI x0, gI x1] s0 (f_X9_best x0 x1 s0) := by
  refine gC_of (by decide +kernel) (hwdM a cI cJ) (Nat.le_of_ble_eq_true rfl) ?_
  intro A p e R s m args below meth c hR E
  subst hR
  have hT := f_X9_best_e x0 x1 s0
  have hf_s0 : fr [25, 26, 27, 28, 29, 30, 31, 32, 33, 34] s0 s0 := fr.rf _ _
  refine k_lv0 (lv' := [(0, .ref (a 0)), (1, gI x0), (2, gI x1)]) rfl ?_
  refine k_mr (fun hm_s0 => ?_)
  have hOR_s0 := hpre3
  have hBE_s0 := hpre4
  have hFI_s0 := hpre5
  have hMN_s0 := hpre6
  refine k_iloadn (pc := 0) E 1 dX9_best_0 rfl rfl ?_
  refine k_iconst (pc := 1) E dX9_best_1 ?_
  refine k_iconst (pc := 2) E dX9_best_2 ?_
  refine k_mr (fun hm_s0 => ?_)
  refine k_callS (pc := 3) (np := 3) (As := [gI x0, gI 0, gI 4]) (st := []) E (c_X9_in l D a cI cJ cS cT s0 x0 0 4 (by omega) (by omega) (by omega)) wm_861 wm_11 wm_859 wm_860 (by decide +kernel) ⟨by decide, by decide⟩ rfl (Nat.le_of_ble_eq_true rfl) dX9_best_3 (ro_kk (fun hr1 => ?_))
  have hp2 := f_X9_in_p x0 0 4 (by omega) (by omega) (by omega) 
  refine k_st (st' := [gI (f_X9_in x0 0 4)]) rfl ?_
  by_cases h3 : (f_X9_in x0 0 4) = 0
  · replace hT := hT.trans (if_pos h3)
    refine k_if_eq_t (pc := 6) (tgt := 18) E (by omega) dX9_best_6 (by decide) h3 ?_
    refine k_ldc2 (pc := 18) (n := (-4611686018427387904)) E dX9_best_18 wm_1128 (by decide) ?_
    exact k_rho hT (k_lret (pc := 21) E dX9_best_21 (by omega))
  · replace hT := hT.trans (if_neg h3)
    refine k_if_eq_f (pc := 6) (tgt := 18) E (by omega) dX9_best_6 (by decide) h3 ?_
    refine k_iloadn (pc := 9) E 2 dX9_best_9 rfl rfl ?_
    refine k_iconst (pc := 10) E dX9_best_10 ?_
    refine k_iconst (pc := 11) E dX9_best_11 ?_
    refine k_mr (fun hm_s0 => ?_)
    refine k_callS (pc := 12) (np := 3) (As := [gI x1, gI 0, gI 1]) (st := []) E (c_X9_in l D a cI cJ cS cT s0 x1 0 1 (by omega) (by omega) (by omega)) wm_861 wm_11 wm_859 wm_860 (by decide +kernel) ⟨by decide, by decide⟩ rfl (Nat.le_of_ble_eq_true rfl) dX9_best_12 (ro_kk (fun hr4 => ?_))
    have hp5 := f_X9_in_p x1 0 1 (by omega) (by omega) (by omega) 
    refine k_st (st' := [gI (f_X9_in x1 0 1)]) rfl ?_
    by_cases h6 : (f_X9_in x1 0 1) = 0
    · replace hT := hT.trans (if_pos h6)
      refine k_if_ne_f (pc := 15) (tgt := 22) E (by omega) dX9_best_15 (by decide) h6 ?_
      refine k_ldc2 (pc := 18) (n := (-4611686018427387904)) E dX9_best_18 wm_1128 (by decide) ?_
      exact k_rho hT (k_lret (pc := 21) E dX9_best_21 (by omega))
    · replace hT := hT.trans (if_neg h6)
      refine k_if_ne_t (pc := 15) (tgt := 22) E (by omega) dX9_best_15 (by decide) h6 ?_
      refine k_iconst (pc := 22) E dX9_best_22 ?_
      refine k_istoren (pc := 23) (lv' := [(3, gI 0), (0, .ref (a 0)), (1, gI x0), (2, gI x1)]) E dX9_best_23 rfl (by decide) rfl ?_
      refine k_iconst (pc := 24) E dX9_best_24 ?_
      refine k_istore (pc := 25) (lv' := [(4, gI 0), (3, gI 0), (0, .ref (a 0)), (1, gI x0), (2, gI x1)]) E dX9_best_25 (by decide) rfl ?_
      refine k_aloadn (pc := 27) E 2 dX9_best_27 rfl rfl ?_
      refine k_iconst (pc := 28) E dX9_best_28 ?_
      refine k_aloadn (pc := 29) E 2 dX9_best_29 rfl rfl ?_
      refine k_getf (pc := 30) (q0 := 0) (f := 2) (v := .ref (a 3)) E inX9 rfl rfl (by decide) wm_900 rfl rfl dX9_best_30 ?_
      refine k_iconst (pc := 33) E dX9_best_33 ?_
      refine k_iaload (pc := 34) (q0 := 3) (t0 := 0) (k := 2) (n := 4) E rfl rfl rfl (by decide) (by omega) (by omega) dX9_best_34 (fun hr7 => ?_)
      have hi8 := hpre7 2
      refine k_mr (fun hm_s0 => ?_)
      refine k_callV (pc := 35) (np := 2) (As := [gI 0, gI (s0 2 2)]) (st := []) (q0 := 0) E (c_X9_meanOf l D a cI cJ cS cT s0 0 (s0 2 2) (by omega) (by omega) hpre0 hpre1 hpre2 hOR_s0 hBE_s0 hFI_s0 hMN_s0 (by first | assumption | omega)) wm_1104 wm_11 wm_1101 wm_1103 wp_42 (by decide +kernel) rfl rfl ⟨by decide, by decide⟩ rfl (Nat.le_of_ble_eq_true rfl) dX9_best_35 (fun r10 s11 hs11 hr9 => ?_)
      replace hT := gby hT hs11
      have hp12 := f_X9_meanOf_p 0 (s0 2 2) s0 (by omega) (by omega) hm_s0 hpre0 hpre1 hpre2 hOR_s0 hBE_s0 hFI_s0 hMN_s0 (by first | assumption | omega) r10 s11 hs11
      obtain ⟨hfc_s11, hm_s11, hp13, hOR_s11, hBE_s11, hFI_s11, hMN_s11, hp14⟩ := hp12
      have hf_s11 : fr [25, 26, 27, 28, 29, 30, 31, 32, 33, 34] s0 s11 := hf_s0.call (by decide) hfc_s11
      refine k_st (st' := [gL r10]) rfl ?_
      refine k_lstore (pc := 38) (lv' := [(5, gL r10), (4, gI 0), (3, gI 0), (0, .ref (a 0)), (1, gI x0), (2, gI x1)]) E dX9_best_38 (by decide) rfl ?_
      refine k_iconst (pc := 40) E dX9_best_40 ?_
      refine k_istore (pc := 41) (lv' := [(7, gI 1), (5, gL r10), (4, gI 0), (3, gI 0), (0, .ref (a 0)), (1, gI x0), (2, gI x1)]) E dX9_best_41 (by decide) rfl ?_
      have L89 : ∀ (n90 : Nat) (v84 : Int) (v85 : Int) (v86 : Int) (v87 : Int) (s88 : gMem), ((in32 v84) ∧ (in32 v85) ∧ (in64 v86) ∧ (in32 v87) ∧ (fr [25, 26, 27, 28, 29, 30, 31, 32, 33, 34] s0 s88) ∧ (OR s88) ∧ (BE s88) ∧ (FI s88) ∧ (MN s88) ∧ (1 ≤ v87 ∧ v87 ≤ 65536) ∧ (0 ≤ v86 ∧ v86 ≤ 1000000000000)) → 65536 - v87 < (n90 : Int) → (∀ (w91 : Int) (w92 : Int) (w93 : Int) (w94 : Int) (s95 : gMem), (w_X9_best_43 x0 x1 n90 v84 v85 v86 v87 s88) = (w91, w92, w93, w94, s95) → ((in32 w91) ∧ (in32 w92) ∧ (in64 w93) ∧ (in32 w94) ∧ (fr [25, 26, 27, 28, 29, 30, 31, 32, 33, 34] s0 s95) ∧ (OR s95) ∧ (BE s95) ∧ (FI s95) ∧ (MN s95) ∧ (1 ≤ w94 ∧ w94 ≤ 65536) ∧ (0 ≤ w93 ∧ w93 ≤ 1000000000000)) → gK D vwCl (wdM a cI cJ) lgM A p l e { frames := 7, cells := 0, slots := 0, locals := 448 } s m args below meth c 12 (gQQ D vwCl (wdM a cI cJ) lgM A kJ in64 below args s) (f_X9_best x0 x1 s0) s95 169 [(2, gI x1), (3, gI w91), (5, gL w93)] []) → gK D vwCl (wdM a cI cJ) lgM A p l e { frames := 7, cells := 0, slots := 0, locals := 448 } s m args below meth c 12 (gQQ D vwCl (wdM a cI cJ) lgM A kJ in64 below args s) (f_X9_best x0 x1 s0) s88 43 [(0, .ref (a 0)), (1, gI x0), (2, gI x1), (3, gI v84), (4, gI v85), (5, gL v86), (7, gI v87)] [] := by
        intro n90; induction n90 with
        | zero =>
          intro v84 v85 v86 v87 s88 hq hm hk
          exfalso
          obtain ⟨hq159, hq160, hq161, hq162, hf_s88, hOR_s88, hBE_s88, hFI_s88, hMN_s88, hq163, hq164⟩ := hq
          omega
        | succ n90 ih =>
          intro v84 v85 v86 v87 s88 hq hm hk
          obtain ⟨hq165, hq166, hq167, hq168, hf_s88, hOR_s88, hBE_s88, hFI_s88, hMN_s88, hq169, hq170⟩ := hq
          have hT := w_X9_best_43_s x0 x1 n90 v84 v85 v86 v87 s88
          refine k_iload (pc := 43) E 6 dX9_best_43 rfl ?_
          refine k_ldc (pc := 45) (n := 65535) E dX9_best_45 wm_1021 (by decide) ?_
          by_cases h96 : 65535 < v87
          · replace hT := hT.trans (if_pos h96)
            refine k_icmp_gt_t (pc := 47) (tgt := 169) E (by omega) (by omega) dX9_best_47 (by decide) h96 ?_
            refine k_lv (lv' := [(2, gI x1), (3, gI v84), (5, gL v86)]) [2, 3, 5] rfl ?_
            exact hk v84 v85 v86 v87 s88 hT ⟨(by omega), (by omega), (by omega), (by omega), hf_s88, hOR_s88, hBE_s88, hFI_s88, hMN_s88, (by first | assumption | omega), (by first | assumption | omega)⟩
          · replace hT := hT.trans (if_neg h96)
            refine k_icmp_gt_f (pc := 47) (tgt := 169) E (by omega) (by omega) dX9_best_47 (by decide) h96 ?_
            refine k_iload (pc := 50) E 6 dX9_best_50 rfl ?_
            refine k_mr (fun hm_s88 => ?_)
            refine k_callS (pc := 52) (np := 1) (As := [gI v87]) (st := []) E (c_X9_ones l D a cI cJ cS cT s88 v87 (by omega)) wm_1047 wm_11 wm_1045 wm_1046 (by decide +kernel) ⟨by decide, by decide⟩ rfl (Nat.le_of_ble_eq_true rfl) dX9_best_52 (ro_kk (fun hr97 => ?_))
            have hp98 := f_X9_ones_p v87 (by omega) 
            refine k_st (st' := [gI (f_X9_ones v87)]) rfl ?_
            refine k_istore (pc := 55) (lv' := [(8, gI (f_X9_ones v87)), (0, .ref (a 0)), (1, gI x0), (2, gI x1), (3, gI v84), (4, gI v85), (5, gL v86), (7, gI v87)]) E dX9_best_55 (by decide) rfl ?_
            refine k_iload (pc := 57) E 0 dX9_best_57 rfl ?_
            refine k_iloadn (pc := 59) E 2 dX9_best_59 rfl rfl ?_
            obtain ⟨z109, hz109, hT⟩ := gl4x hT
            have j100 : ∀ (v101 : Int) (v102 : Int) (v103 : Int) (s104 : gMem), ((in32 v101) ∧ (in32 v102) ∧ (in64 v103) ∧ (0 ≤ v103 ∧ v103 ≤ 1000000000000) ∧ (fr [25, 26, 27, 28, 29, 30, 31, 32, 33, 34] s0 s104) ∧ (OR s104) ∧ (BE s104) ∧ (FI s104) ∧ (MN s104)) → z109 = (v101, v102, v103, s104) → gK D vwCl (wdM a cI cJ) lgM A p l e { frames := 7, cells := 0, slots := 0, locals := 448 } s m args below meth c 12 (gQQ D vwCl (wdM a cI cJ) lgM A kJ in64 below args s) (f_X9_best x0 x1 s0) s104 163 [(0, .ref (a 0)), (1, gI x0), (2, gI x1), (3, gI v101), (4, gI v102), (5, gL v103), (7, gI v87)] [] := by
              intro v101 v102 v103 s104 hq hz
              obtain ⟨hq105, hq106, hq107, hq108, hf_s104, hOR_s104, hBE_s104, hFI_s104, hMN_s104⟩ := hq
              replace hT := gl4y hT hz
              refine k_iinc (pc := 163) (lv' := [(7, gI (v87 + 1)), (0, .ref (a 0)), (1, gI x0), (2, gI x1), (3, gI v101), (4, gI v102), (5, gL v103)]) E 6 dX9_best_163 rfl (by decide) rfl ?_
              refine k_goto (pc := 166) (tgt := 43) E dX9_best_166 (by decide) ?_
              refine k_lv (lv' := [(0, .ref (a 0)), (1, gI x0), (2, gI x1), (3, gI v101), (4, gI v102), (5, gL v103), (7, gI (v87 + 1))]) [1, 2, 3, 4, 5, 6, 0] rfl ?_
              exact ih v101 v102 v103 (v87 + 1) s104 ⟨(by omega), (by omega), (by omega), (by omega), hf_s104, hOR_s104, hBE_s104, hFI_s104, hMN_s104, (by first | assumption | omega), (by first | assumption | omega)⟩ (by omega) (fun w91 w92 w93 w94 s95 hw hi => hk w91 w92 w93 w94 s95 (hT.trans hw) hi)
            replace hT := hz109
            by_cases h99 : x0 < (f_X9_ones v87)
            · replace hT := hT.trans (if_pos h99)
              refine k_icmp_gt_t (pc := 60) (tgt := 163) E (by omega) (by omega) dX9_best_60 (by decide) h99 ?_
              refine k_lv (lv' := [(0, .ref (a 0)), (1, gI x0), (2, gI x1), (3, gI v84), (4, gI v85), (5, gL v86), (7, gI v87)]) [1, 2, 3, 4, 5, 6, 7] rfl ?_
              exact j100 v84 v85 v86 s88 ⟨(by omega), (by omega), (by omega), (by first | assumption | omega), hf_s88, hOR_s88, hBE_s88, hFI_s88, hMN_s88⟩ hT
            · replace hT := hT.trans (if_neg h99)
              refine k_icmp_gt_f (pc := 60) (tgt := 163) E (by omega) (by omega) dX9_best_60 (by decide) h99 ?_
              refine k_aloadn (pc := 63) E 1 dX9_best_63 rfl rfl ?_
              refine k_iload (pc := 64) E 7 dX9_best_64 rfl ?_
              refine k_aloadn (pc := 66) E 1 dX9_best_66 rfl rfl ?_
              refine k_getf (pc := 67) (q0 := 0) (f := 2) (v := .ref (a 3)) E inX9 rfl rfl (by decide) wm_900 rfl rfl dX9_best_67 ?_
              refine k_iconst (pc := 70) E dX9_best_70 ?_
              refine k_iaload (pc := 71) (q0 := 3) (t0 := 0) (k := 2) (n := 4) E rfl rfl rfl (by decide) (by omega) (by omega) dX9_best_71 (fun hr110 => ?_)
              have hi111 := hpre7 2
              rw [← hf_s88 2 (by decide)] at hi111
              refine k_mr (fun hm_s88 => ?_)
              refine k_callV (pc := 72) (np := 2) (As := [gI v87, gI (s88 2 2)]) (st := []) (q0 := 0) E (c_X9_meanOf l D a cI cJ cS cT s88 v87 (s88 2 2) (by omega) (by omega) (by unfold VS; rw [hf_s88 5 (by decide), hf_s88 6 (by decide), hf_s88 7 (by decide), hf_s88 8 (by decide)]; exact hpre0) (by unfold KN; rw [hf_s88 0 (by decide)]; exact hpre1) (by unfold MO; rw [hf_s88 1 (by decide)]; exact hpre2) hOR_s88 hBE_s88 hFI_s88 hMN_s88 (by first | assumption | omega)) wm_1104 wm_11 wm_1101 wm_1103 wp_42 (by decide +kernel) rfl rfl ⟨by decide, by decide⟩ rfl (Nat.le_of_ble_eq_true rfl) dX9_best_72 (fun r113 s114 hs114 hr112 => ?_)
              replace hT := gby hT hs114
              have hp115 := f_X9_meanOf_p v87 (s88 2 2) s88 (by omega) (by omega) hm_s88 (by unfold VS; rw [hf_s88 5 (by decide), hf_s88 6 (by decide), hf_s88 7 (by decide), hf_s88 8 (by decide)]; exact hpre0) (by unfold KN; rw [hf_s88 0 (by decide)]; exact hpre1) (by unfold MO; rw [hf_s88 1 (by decide)]; exact hpre2) hOR_s88 hBE_s88 hFI_s88 hMN_s88 (by first | assumption | omega) r113 s114 hs114
              obtain ⟨hfc_s114, hm_s114, hp116, hOR_s114, hBE_s114, hFI_s114, hMN_s114, hp117⟩ := hp115
              have hf_s114 : fr [25, 26, 27, 28, 29, 30, 31, 32, 33, 34] s0 s114 := hf_s88.call (by decide) hfc_s114
              refine k_st (st' := [gL r113]) rfl ?_
              refine k_lstore (pc := 75) (lv' := [(9, gL r113), (8, gI (f_X9_ones v87)), (0, .ref (a 0)), (1, gI x0), (2, gI x1), (3, gI v84), (4, gI v85), (5, gL v86), (7, gI v87)]) E dX9_best_75 (by decide) rfl ?_
              refine k_lload (pc := 77) E 0 dX9_best_77 rfl ?_
              refine k_lload (pc := 79) E 7 dX9_best_79 rfl ?_
              obtain ⟨j119c, hj119c, hT⟩ := gjx hT
              have j119 : (True) → z109 = j119c  → gK D vwCl (wdM a cI cJ) lgM A p l e { frames := 7, cells := 0, slots := 0, locals := 448 } s m args below meth c 12 (gQQ D vwCl (wdM a cI cJ) lgM A kJ in64 below args s) (f_X9_best x0 x1 s0) s114 116 [(0, .ref (a 0)), (1, gI x0), (2, gI x1), (3, gI v84), (4, gI v85), (5, gL v86), (7, gI v87), (8, gI (f_X9_ones v87)), (9, gL r113)] [] := by
                intro  hq hT
                rw [hj119c] at hT
                refine k_iconst (pc := 116) E dX9_best_116 ?_
                refine k_goto (pc := 117) (tgt := 121) E dX9_best_117 (by decide) ?_
                refine k_istore (pc := 121) (lv' := [(11, gI 1), (0, .ref (a 0)), (1, gI x0), (2, gI x1), (3, gI v84), (4, gI v85), (5, gL v86), (7, gI v87), (8, gI (f_X9_ones v87)), (9, gL r113)]) E dX9_best_121 (by decide) rfl ?_
                refine k_iload (pc := 123) E 0 dX9_best_123 rfl ?_
                obtain ⟨z135, hz135, hT⟩ := gl1x hT
                have j121 : ∀ (v122 : Int), ((in32 v122)) → z135 = v122 → gK D vwCl (wdM a cI cJ) lgM A p l e { frames := 7, cells := 0, slots := 0, locals := 448 } s m args below meth c 12 (gQQ D vwCl (wdM a cI cJ) lgM A kJ in64 below args s) (f_X9_best x0 x1 s0) s114 134 [(0, .ref (a 0)), (1, gI x0), (2, gI x1), (4, gI v85), (5, gL v86), (7, gI v87), (8, gI (f_X9_ones v87)), (9, gL r113), (11, gI 1)] [gI v122] := by
                  intro v122 hq hz
                  have hq134 := hq
                  replace hT := gl1y hT hz
                  refine k_istoren (pc := 134) (lv' := [(3, gI v122), (0, .ref (a 0)), (1, gI x0), (2, gI x1), (4, gI v85), (5, gL v86), (7, gI v87), (8, gI (f_X9_ones v87)), (9, gL r113), (11, gI 1)]) E dX9_best_134 rfl (by decide) rfl ?_
                  refine k_iload (pc := 135) E 9 dX9_best_135 rfl ?_
                  obtain ⟨z133, hz133, hT⟩ := gl1x hT
                  have j124 : ∀ (v125 : Int), ((in32 v125)) → z133 = v125 → gK D vwCl (wdM a cI cJ) lgM A p l e { frames := 7, cells := 0, slots := 0, locals := 448 } s m args below meth c 12 (gQQ D vwCl (wdM a cI cJ) lgM A kJ in64 below args s) (f_X9_best x0 x1 s0) s114 147 [(0, .ref (a 0)), (1, gI x0), (2, gI x1), (3, gI v122), (5, gL v86), (7, gI v87), (9, gL r113), (11, gI 1)] [gI v125] := by
                    intro v125 hq hz
                    have hq132 := hq
                    replace hT := gl1y hT hz
                    refine k_istore (pc := 147) (lv' := [(4, gI v125), (0, .ref (a 0)), (1, gI x0), (2, gI x1), (3, gI v122), (5, gL v86), (7, gI v87), (9, gL r113), (11, gI 1)]) E dX9_best_147 (by decide) rfl ?_
                    refine k_iload (pc := 149) E 8 dX9_best_149 rfl ?_
                    obtain ⟨z131, hz131, hT⟩ := gl1x hT
                    have j127 : ∀ (v128 : Int), ((in64 v128) ∧ (0 ≤ v128 ∧ v128 ≤ 1000000000000)) → z131 = v128 → gK D vwCl (wdM a cI cJ) lgM A p l e { frames := 7, cells := 0, slots := 0, locals := 448 } s m args below meth c 12 (gQQ D vwCl (wdM a cI cJ) lgM A kJ in64 below args s) (f_X9_best x0 x1 s0) s114 161 [(0, .ref (a 0)), (1, gI x0), (2, gI x1), (3, gI v122), (4, gI v125), (7, gI v87)] [gL v128] := by
                      intro v128 hq hz
                      obtain ⟨hq129, hq130⟩ := hq
                      replace hT := gl1y hT hz
                      refine k_lstore (pc := 161) (lv' := [(5, gL v128), (0, .ref (a 0)), (1, gI x0), (2, gI x1), (3, gI v122), (4, gI v125), (7, gI v87)]) E dX9_best_161 (by decide) rfl ?_
                      refine k_lv (lv' := [(0, .ref (a 0)), (1, gI x0), (2, gI x1), (3, gI v122), (4, gI v125), (5, gL v128), (7, gI v87)]) [1, 2, 3, 4, 5, 0, 6] rfl ?_
                      exact j100 v122 v125 v128 s114 ⟨(by omega), (by omega), (by omega), (by first | assumption | omega), hf_s114, hOR_s114, hBE_s114, hFI_s114, hMN_s114⟩ hT
                    replace hT := hz131
                    by_cases h126 : (1 : Int) = 0
                    · replace hT := hT.trans (if_pos h126)
                      refine k_if_eq_t (pc := 151) (tgt := 159) E (by omega) dX9_best_151 (by decide) h126 ?_
                      refine k_lload (pc := 159) E 5 dX9_best_159 rfl ?_
                      refine k_lv (lv' := [(0, .ref (a 0)), (1, gI x0), (2, gI x1), (3, gI v122), (4, gI v125), (7, gI v87)]) [1, 2, 3, 4, 0, 6] rfl ?_
                      exact j127 v86 ⟨(by omega), (by first | assumption | omega)⟩ hT
                    · replace hT := hT.trans (if_neg h126)
                      refine k_if_eq_f (pc := 151) (tgt := 159) E (by omega) dX9_best_151 (by decide) h126 ?_
                      refine k_lload (pc := 154) E 7 dX9_best_154 rfl ?_
                      refine k_goto (pc := 156) (tgt := 161) E dX9_best_156 (by decide) ?_
                      refine k_lv (lv' := [(0, .ref (a 0)), (1, gI x0), (2, gI x1), (3, gI v122), (4, gI v125), (7, gI v87)]) [1, 2, 3, 4, 0, 6] rfl ?_
                      exact j127 r113 ⟨(by omega), (by first | assumption | omega)⟩ hT
                  replace hT := hz133
                  by_cases h123 : (1 : Int) = 0
                  · replace hT := hT.trans (if_pos h123)
                    refine k_if_eq_t (pc := 137) (tgt := 145) E (by omega) dX9_best_137 (by decide) h123 ?_
                    refine k_iload (pc := 145) E 4 dX9_best_145 rfl ?_
                    refine k_lv (lv' := [(0, .ref (a 0)), (1, gI x0), (2, gI x1), (3, gI v122), (5, gL v86), (7, gI v87), (9, gL r113), (11, gI 1)]) [1, 2, 3, 0, 5, 6, 8, 9] rfl ?_
                    exact j124 v85 (by omega) hT
                  · replace hT := hT.trans (if_neg h123)
                    refine k_if_eq_f (pc := 137) (tgt := 145) E (by omega) dX9_best_137 (by decide) h123 ?_
                    refine k_iload (pc := 140) E 7 dX9_best_140 rfl ?_
                    refine k_goto (pc := 142) (tgt := 147) E dX9_best_142 (by decide) ?_
                    refine k_lv (lv' := [(0, .ref (a 0)), (1, gI x0), (2, gI x1), (3, gI v122), (5, gL v86), (7, gI v87), (9, gL r113), (11, gI 1)]) [1, 2, 3, 0, 5, 6, 8, 9] rfl ?_
                    exact j124 (f_X9_ones v87) (by omega) hT
                replace hT := hz135
                by_cases h120 : (1 : Int) = 0
                · replace hT := hT.trans (if_pos h120)
                  refine k_if_eq_t (pc := 125) (tgt := 133) E (by omega) dX9_best_125 (by decide) h120 ?_
                  refine k_iloadn (pc := 133) E 4 dX9_best_133 rfl rfl ?_
                  refine k_lv (lv' := [(0, .ref (a 0)), (1, gI x0), (2, gI x1), (4, gI v85), (5, gL v86), (7, gI v87), (8, gI (f_X9_ones v87)), (9, gL r113), (11, gI 1)]) [1, 2, 3, 5, 6, 7, 8, 9, 0] rfl ?_
                  exact j121 v84 (by omega) hT
                · replace hT := hT.trans (if_neg h120)
                  refine k_if_eq_f (pc := 125) (tgt := 133) E (by omega) dX9_best_125 (by decide) h120 ?_
                  refine k_iload (pc := 128) E 7 dX9_best_128 rfl ?_
                  refine k_goto (pc := 130) (tgt := 134) E dX9_best_130 (by decide) ?_
                  refine k_lv (lv' := [(0, .ref (a 0)), (1, gI x0), (2, gI x1), (4, gI v85), (5, gL v86), (7, gI v87), (8, gI (f_X9_ones v87)), (9, gL r113), (11, gI 1)]) [1, 2, 3, 5, 6, 7, 8, 9, 0] rfl ?_
                  exact j121 v87 (by omega) hT
              by_cases h118 : r113 < v86
              · replace hT := hT.trans (if_pos h118)
                refine k_lcmp (pc := 81) E dX9_best_81 (by omega) (by omega) ?_
                refine k_if_lt_t (pc := 82) (tgt := 116) E (by (repeat' split) <;> omega) dX9_best_82 (by decide) (by (repeat' split) <;> omega) ?_
                refine k_lv (lv' := [(0, .ref (a 0)), (1, gI x0), (2, gI x1), (3, gI v84), (4, gI v85), (5, gL v86), (7, gI v87), (8, gI (f_X9_ones v87)), (9, gL r113)]) [2, 3, 4, 5, 6, 7, 8, 1, 0] rfl ?_
                exact j119  trivial hT
              · replace hT := hT.trans (if_neg h118)
                refine k_lcmp (pc := 81) E dX9_best_81 (by omega) (by omega) ?_
                refine k_if_lt_f (pc := 82) (tgt := 116) E (by (repeat' split) <;> omega) dX9_best_82 (by decide) (by (repeat' split) <;> omega) ?_
                refine k_lload (pc := 85) E 0 dX9_best_85 rfl ?_
                refine k_lload (pc := 87) E 7 dX9_best_87 rfl ?_
                obtain ⟨j137c, hj137c, hT⟩ := gjx hT
                have j137 : (True) → z109 = j137c  → gK D vwCl (wdM a cI cJ) lgM A p l e { frames := 7, cells := 0, slots := 0, locals := 448 } s m args below meth c 12 (gQQ D vwCl (wdM a cI cJ) lgM A kJ in64 below args s) (f_X9_best x0 x1 s0) s114 120 [(0, .ref (a 0)), (1, gI x0), (2, gI x1), (3, gI v84), (4, gI v85), (5, gL v86), (7, gI v87), (8, gI (f_X9_ones v87)), (9, gL r113)] [] := by
                  intro  hq hT
                  rw [hj137c] at hT
                  refine k_iconst (pc := 120) E dX9_best_120 ?_
                  refine k_istore (pc := 121) (lv' := [(11, gI 0), (0, .ref (a 0)), (1, gI x0), (2, gI x1), (3, gI v84), (4, gI v85), (5, gL v86), (7, gI v87), (8, gI (f_X9_ones v87)), (9, gL r113)]) E dX9_best_121 (by decide) rfl ?_
                  refine k_iload (pc := 123) E 0 dX9_best_123 rfl ?_
                  obtain ⟨z153, hz153, hT⟩ := gl1x hT
                  have j139 : ∀ (v140 : Int), ((in32 v140)) → z153 = v140 → gK D vwCl (wdM a cI cJ) lgM A p l e { frames := 7, cells := 0, slots := 0, locals := 448 } s m args below meth c 12 (gQQ D vwCl (wdM a cI cJ) lgM A kJ in64 below args s) (f_X9_best x0 x1 s0) s114 134 [(0, .ref (a 0)), (1, gI x0), (2, gI x1), (4, gI v85), (5, gL v86), (7, gI v87), (8, gI (f_X9_ones v87)), (9, gL r113), (11, gI 0)] [gI v140] := by
                    intro v140 hq hz
                    have hq152 := hq
                    replace hT := gl1y hT hz
                    refine k_istoren (pc := 134) (lv' := [(3, gI v140), (0, .ref (a 0)), (1, gI x0), (2, gI x1), (4, gI v85), (5, gL v86), (7, gI v87), (8, gI (f_X9_ones v87)), (9, gL r113), (11, gI 0)]) E dX9_best_134 rfl (by decide) rfl ?_
                    refine k_iload (pc := 135) E 9 dX9_best_135 rfl ?_
                    obtain ⟨z151, hz151, hT⟩ := gl1x hT
                    have j142 : ∀ (v143 : Int), ((in32 v143)) → z151 = v143 → gK D vwCl (wdM a cI cJ) lgM A p l e { frames := 7, cells := 0, slots := 0, locals := 448 } s m args below meth c 12 (gQQ D vwCl (wdM a cI cJ) lgM A kJ in64 below args s) (f_X9_best x0 x1 s0) s114 147 [(0, .ref (a 0)), (1, gI x0), (2, gI x1), (3, gI v140), (5, gL v86), (7, gI v87), (9, gL r113), (11, gI 0)] [gI v143] := by
                      intro v143 hq hz
                      have hq150 := hq
                      replace hT := gl1y hT hz
                      refine k_istore (pc := 147) (lv' := [(4, gI v143), (0, .ref (a 0)), (1, gI x0), (2, gI x1), (3, gI v140), (5, gL v86), (7, gI v87), (9, gL r113), (11, gI 0)]) E dX9_best_147 (by decide) rfl ?_
                      refine k_iload (pc := 149) E 8 dX9_best_149 rfl ?_
                      obtain ⟨z149, hz149, hT⟩ := gl1x hT
                      have j145 : ∀ (v146 : Int), ((in64 v146) ∧ (0 ≤ v146 ∧ v146 ≤ 1000000000000)) → z149 = v146 → gK D vwCl (wdM a cI cJ) lgM A p l e { frames := 7, cells := 0, slots := 0, locals := 448 } s m args below meth c 12 (gQQ D vwCl (wdM a cI cJ) lgM A kJ in64 below args s) (f_X9_best x0 x1 s0) s114 161 [(0, .ref (a 0)), (1, gI x0), (2, gI x1), (3, gI v140), (4, gI v143), (7, gI v87)] [gL v146] := by
                        intro v146 hq hz
                        obtain ⟨hq147, hq148⟩ := hq
                        replace hT := gl1y hT hz
                        refine k_lstore (pc := 161) (lv' := [(5, gL v146), (0, .ref (a 0)), (1, gI x0), (2, gI x1), (3, gI v140), (4, gI v143), (7, gI v87)]) E dX9_best_161 (by decide) rfl ?_
                        refine k_lv (lv' := [(0, .ref (a 0)), (1, gI x0), (2, gI x1), (3, gI v140), (4, gI v143), (5, gL v146), (7, gI v87)]) [1, 2, 3, 4, 5, 0, 6] rfl ?_
                        exact j100 v140 v143 v146 s114 ⟨(by omega), (by omega), (by omega), (by first | assumption | omega), hf_s114, hOR_s114, hBE_s114, hFI_s114, hMN_s114⟩ hT
                      replace hT := hz149
                      by_cases h144 : (0 : Int) = 0
                      · replace hT := hT.trans (if_pos h144)
                        refine k_if_eq_t (pc := 151) (tgt := 159) E (by omega) dX9_best_151 (by decide) h144 ?_
                        refine k_lload (pc := 159) E 5 dX9_best_159 rfl ?_
                        refine k_lv (lv' := [(0, .ref (a 0)), (1, gI x0), (2, gI x1), (3, gI v140), (4, gI v143), (7, gI v87)]) [1, 2, 3, 4, 0, 6] rfl ?_
                        exact j145 v86 ⟨(by omega), (by first | assumption | omega)⟩ hT
                      · replace hT := hT.trans (if_neg h144)
                        refine k_if_eq_f (pc := 151) (tgt := 159) E (by omega) dX9_best_151 (by decide) h144 ?_
                        refine k_lload (pc := 154) E 7 dX9_best_154 rfl ?_
                        refine k_goto (pc := 156) (tgt := 161) E dX9_best_156 (by decide) ?_
                        refine k_lv (lv' := [(0, .ref (a 0)), (1, gI x0), (2, gI x1), (3, gI v140), (4, gI v143), (7, gI v87)]) [1, 2, 3, 4, 0, 6] rfl ?_
                        exact j145 r113 ⟨(by omega), (by first | assumption | omega)⟩ hT
                    replace hT := hz151
                    by_cases h141 : (0 : Int) = 0
                    · replace hT := hT.trans (if_pos h141)
                      refine k_if_eq_t (pc := 137) (tgt := 145) E (by omega) dX9_best_137 (by decide) h141 ?_
                      refine k_iload (pc := 145) E 4 dX9_best_145 rfl ?_
                      refine k_lv (lv' := [(0, .ref (a 0)), (1, gI x0), (2, gI x1), (3, gI v140), (5, gL v86), (7, gI v87), (9, gL r113), (11, gI 0)]) [1, 2, 3, 0, 5, 6, 8, 9] rfl ?_
                      exact j142 v85 (by omega) hT
                    · replace hT := hT.trans (if_neg h141)
                      refine k_if_eq_f (pc := 137) (tgt := 145) E (by omega) dX9_best_137 (by decide) h141 ?_
                      refine k_iload (pc := 140) E 7 dX9_best_140 rfl ?_
                      refine k_goto (pc := 142) (tgt := 147) E dX9_best_142 (by decide) ?_
                      refine k_lv (lv' := [(0, .ref (a 0)), (1, gI x0), (2, gI x1), (3, gI v140), (5, gL v86), (7, gI v87), (9, gL r113), (11, gI 0)]) [1, 2, 3, 0, 5, 6, 8, 9] rfl ?_
                      exact j142 (f_X9_ones v87) (by omega) hT
                  replace hT := hz153
                  by_cases h138 : (0 : Int) = 0
                  · replace hT := hT.trans (if_pos h138)
                    refine k_if_eq_t (pc := 125) (tgt := 133) E (by omega) dX9_best_125 (by decide) h138 ?_
                    refine k_iloadn (pc := 133) E 4 dX9_best_133 rfl rfl ?_
                    refine k_lv (lv' := [(0, .ref (a 0)), (1, gI x0), (2, gI x1), (4, gI v85), (5, gL v86), (7, gI v87), (8, gI (f_X9_ones v87)), (9, gL r113), (11, gI 0)]) [1, 2, 3, 5, 6, 7, 8, 9, 0] rfl ?_
                    exact j139 v84 (by omega) hT
                  · replace hT := hT.trans (if_neg h138)
                    refine k_if_eq_f (pc := 125) (tgt := 133) E (by omega) dX9_best_125 (by decide) h138 ?_
                    refine k_iload (pc := 128) E 7 dX9_best_128 rfl ?_
                    refine k_goto (pc := 130) (tgt := 134) E dX9_best_130 (by decide) ?_
                    refine k_lv (lv' := [(0, .ref (a 0)), (1, gI x0), (2, gI x1), (4, gI v85), (5, gL v86), (7, gI v87), (8, gI (f_X9_ones v87)), (9, gL r113), (11, gI 0)]) [1, 2, 3, 5, 6, 7, 8, 9, 0] rfl ?_
                    exact j139 v87 (by omega) hT
                by_cases h136 : r113 = v86
                · replace hT := hT.trans (if_pos h136)
                  refine k_lcmp (pc := 89) E dX9_best_89 (by omega) (by omega) ?_
                  refine k_if_ne_f (pc := 90) (tgt := 120) E (by (repeat' split) <;> omega) dX9_best_90 (by decide) (by (repeat' split) <;> omega) ?_
                  refine k_iload (pc := 93) E 1 dX9_best_93 rfl ?_
                  refine k_iload (pc := 95) E 6 dX9_best_95 rfl ?_
                  by_cases h154 : (f_X9_ones v87) < v85
                  · replace hT := hT.trans (if_pos h154)
                    refine k_icmp_lt_t (pc := 97) (tgt := 116) E (by omega) (by omega) dX9_best_97 (by decide) h154 ?_
                    refine k_lv (lv' := [(0, .ref (a 0)), (1, gI x0), (2, gI x1), (3, gI v84), (4, gI v85), (5, gL v86), (7, gI v87), (8, gI (f_X9_ones v87)), (9, gL r113)]) [2, 3, 4, 5, 6, 7, 8, 1, 0] rfl ?_
                    exact j119  trivial hT
                  · replace hT := hT.trans (if_neg h154)
                    refine k_icmp_lt_f (pc := 97) (tgt := 116) E (by omega) (by omega) dX9_best_97 (by decide) h154 ?_
                    refine k_iload (pc := 100) E 1 dX9_best_100 rfl ?_
                    refine k_iload (pc := 102) E 6 dX9_best_102 rfl ?_
                    by_cases h155 : (f_X9_ones v87) = v85
                    · replace hT := hT.trans (if_pos h155)
                      refine k_icmp_ne_f (pc := 104) (tgt := 120) E (by omega) (by omega) dX9_best_104 (by decide) h155 ?_
                      refine k_iload (pc := 107) E 8 dX9_best_107 rfl ?_
                      refine k_iloadn (pc := 109) E 5 dX9_best_109 rfl rfl ?_
                      refine k_callS (pc := 110) (np := 2) (As := [gI v87, gI v84]) (st := []) E (c_X9_isAhead l D a cI cJ cS cT s114 v87 v84 (by omega) (by omega)) wm_1139 wm_11 wm_1137 wm_1138 (by decide +kernel) ⟨by decide, by decide⟩ rfl (Nat.le_of_ble_eq_true rfl) dX9_best_110 (ro_kk (fun hr156 => ?_))
                      refine k_st (st' := [gI (f_X9_isAhead v87 v84)]) rfl ?_
                      by_cases h158 : (f_X9_isAhead v87 v84) = 0
                      · replace hT := hT.trans (if_pos h158)
                        refine k_if_eq_t (pc := 113) (tgt := 120) E (by omega) dX9_best_113 (by decide) h158 ?_
                        refine k_lv (lv' := [(0, .ref (a 0)), (1, gI x0), (2, gI x1), (3, gI v84), (4, gI v85), (5, gL v86), (7, gI v87), (8, gI (f_X9_ones v87)), (9, gL r113)]) [2, 3, 4, 5, 6, 7, 8, 1, 0] rfl ?_
                        exact j137  trivial hT
                      · replace hT := hT.trans (if_neg h158)
                        refine k_if_eq_f (pc := 113) (tgt := 120) E (by omega) dX9_best_113 (by decide) h158 ?_
                        refine k_lv (lv' := [(0, .ref (a 0)), (1, gI x0), (2, gI x1), (3, gI v84), (4, gI v85), (5, gL v86), (7, gI v87), (8, gI (f_X9_ones v87)), (9, gL r113)]) [2, 3, 4, 5, 6, 7, 8, 1, 0] rfl ?_
                        exact j119  trivial hT
                    · replace hT := hT.trans (if_neg h155)
                      refine k_icmp_ne_t (pc := 104) (tgt := 120) E (by omega) (by omega) dX9_best_104 (by decide) h155 ?_
                      refine k_lv (lv' := [(0, .ref (a 0)), (1, gI x0), (2, gI x1), (3, gI v84), (4, gI v85), (5, gL v86), (7, gI v87), (8, gI (f_X9_ones v87)), (9, gL r113)]) [2, 3, 4, 5, 6, 7, 8, 1, 0] rfl ?_
                      exact j137  trivial hT
                · replace hT := hT.trans (if_neg h136)
                  refine k_lcmp (pc := 89) E dX9_best_89 (by omega) (by omega) ?_
                  refine k_if_ne_t (pc := 90) (tgt := 120) E (by (repeat' split) <;> omega) dX9_best_90 (by decide) (by (repeat' split) <;> omega) ?_
                  refine k_lv (lv' := [(0, .ref (a 0)), (1, gI x0), (2, gI x1), (3, gI v84), (4, gI v85), (5, gL v86), (7, gI v87), (8, gI (f_X9_ones v87)), (9, gL r113)]) [2, 3, 4, 5, 6, 7, 8, 1, 0] rfl ?_
                  exact j137  trivial hT
      refine k_lv (lv' := [(0, .ref (a 0)), (1, gI x0), (2, gI x1), (3, gI 0), (4, gI 0), (5, gL r10), (7, gI 1)]) [4, 5, 6, 3, 2, 1, 0] rfl ?_
      refine L89 65536 0 0 r10 1 s11 ⟨(by omega), (by omega), (by omega), (by omega), hf_s11, hOR_s11, hBE_s11, hFI_s11, hMN_s11, (by first | assumption | omega), (by first | assumption | omega)⟩ (by omega) (fun v171 v172 v173 v174 s175 hw hq => ?_)
      obtain ⟨hq176, hq177, hq178, hq179, hf_s175, hOR_s175, hBE_s175, hFI_s175, hMN_s175, hq180, hq181⟩ := hq
      replace hT := gl5y hT hw
      refine k_iloadn (pc := 169) E 0 dX9_best_169 rfl rfl ?_
      by_cases h182 : x1 = 0
      · replace hT := hT.trans (if_pos h182)
        refine k_if_ne_f (pc := 170) (tgt := 178) E (by omega) dX9_best_170 (by decide) h182 ?_
        refine k_iloadn (pc := 173) E 1 dX9_best_173 rfl rfl ?_
        refine k_i2l (pc := 174) E dX9_best_174 (by omega) ?_
        refine k_goto (pc := 175) (tgt := 180) E dX9_best_175 (by decide) ?_
        exact k_rho hT (k_lret (pc := 180) E dX9_best_180 (by omega))
      · replace hT := hT.trans (if_neg h182)
        refine k_if_ne_t (pc := 170) (tgt := 178) E (by omega) dX9_best_170 (by decide) h182 ?_
        refine k_lload (pc := 178) E 2 dX9_best_178 rfl ?_
        exact k_rho hT (k_lret (pc := 180) E dX9_best_180 (by omega))

def w_X9_gapsBy_6 (c0 : Int) : Nat → Int → Int → Int × Int
  | 0, v1, v2 => (v1, v2)
  | n3 + 1, v1, v2 => (if v2 < 16 then (w_X9_gapsBy_6 c0 n3 (ior v1 (ishl 1 v2)) (v2 + c0)) else (v1, v2))
theorem w_X9_gapsBy_6_s (c0 : Int) (n3 : Nat) (v1 : Int) (v2 : Int)  : w_X9_gapsBy_6 c0 (n3 + 1) v1 v2 = (if v2 < 16 then (w_X9_gapsBy_6 c0 n3 (ior v1 (ishl 1 v2)) (v2 + c0)) else (v1, v2)) := rfl
def f_X9_gapsBy (x0 : Int) : Int := (gl2 (w_X9_gapsBy_6 x0 33 0 (x0 - 1)) (fun v24 v25 => v24))
theorem f_X9_gapsBy_e (x0 : Int) : f_X9_gapsBy x0 = (gl2 (w_X9_gapsBy_6 x0 33 0 (x0 - 1)) (fun v24 v25 => v24)) := rfl
set_option maxRecDepth 100000 in
set_option maxHeartbeats 4000000 in
theorem f_X9_gapsBy_p (x0 : Int) (hx0 : in32 x0) (hpre0 : 2 ≤ x0 ∧ x0 ≤ 16) : (in32 (f_X9_gapsBy x0)) := by
  have hT := f_X9_gapsBy_e x0
  have L10 : ∀ (n11 : Nat) (v8 : Int) (v9 : Int), ((in32 v8) ∧ (in32 v9) ∧ (0 ≤ v9 ∧ v9 ≤ 31)) → 32 - v9 < (n11 : Int) → (∀ (w12 : Int) (w13 : Int), (w_X9_gapsBy_6 x0 n11 v8 v9) = (w12, w13) → ((in32 w12) ∧ (in32 w13) ∧ (0 ≤ w13 ∧ w13 ≤ 31)) → (in32 (f_X9_gapsBy x0))) → (in32 (f_X9_gapsBy x0)) := by
    intro n11; induction n11 with
    | zero =>
      intro v8 v9 hq hm hk
      exfalso
      obtain ⟨hq18, hq19, hq20⟩ := hq
      omega
    | succ n11 ih =>
      intro v8 v9 hq hm hk
      obtain ⟨hq21, hq22, hq23⟩ := hq
      have hT := w_X9_gapsBy_6_s x0 n11 v8 v9
      by_cases h14 : v9 < 16
      · replace hT := hT.trans (if_pos h14)
        have hb15 := ishl_rg 1 v9
        have hb16 : 0 ≤ v9 ∧ v9 ≤ 15 → _ := fun q => ishl_1 q.1 q.2
        have hb17 := ior_rg v8 (ishl 1 v9)
        exact ih (ior v8 (ishl 1 v9)) (v9 + x0) ⟨(by omega), (by omega), (by first | assumption | omega)⟩ (by omega) (fun w12 w13 hw hi => hk w12 w13 (hT.trans hw) hi)
      · replace hT := hT.trans (if_neg h14)
        exact hk v8 v9 hT ⟨(by omega), (by omega), (by first | assumption | omega)⟩
  refine L10 33 0 (x0 - 1) ⟨(by omega), (by omega), (by first | assumption | omega)⟩ (by omega) (fun v24 v25 hw hq => ?_)
  obtain ⟨hq26, hq27, hq28⟩ := hq
  replace hT := gl2y hT hw
  rw [hT]
  exact (by omega)
set_option maxRecDepth 100000 in
set_option maxHeartbeats 4000000 in
theorem c_X9_gapsBy (l : Launch) (D : va_G) (a : Nat → Nat) (cI cJ cS cT : ClassId) (s0 : gMem) (x0 : Int) (hx0 : in32 x0) (hpre0 : 2 ≤ x0 ∧ x0 ≤ 16) : gC l yX9_gapsBy cX9_gapsBy 3 (some .int) 1 64 D vwCl (gT cI cJ cS cT) (wdM a cI cJ) lgM kI in32 [gI x0] s0 ((f_X9_gapsBy x0), s0) := by
  refine gC_of (by decide +kernel) (hwdM a cI cJ) (Nat.le_of_ble_eq_true rfl) ?_
  intro A p e R s m args below meth c hR E
  subst hR
  have hT := f_X9_gapsBy_e x0
  refine k_lv0 (lv' := [(0, gI x0)]) rfl ?_
  refine k_iconst (pc := 0) E dX9_gapsBy_0 ?_
  refine k_istoren (pc := 1) (lv' := [(1, gI 0), (0, gI x0)]) E dX9_gapsBy_1 rfl (by decide) rfl ?_
  refine k_iloadn (pc := 2) E 1 dX9_gapsBy_2 rfl rfl ?_
  refine k_iconst (pc := 3) E dX9_gapsBy_3 ?_
  refine k_isub (pc := 4) E dX9_gapsBy_4 ?_
  refine k_istoren (pc := 5) (lv' := [(2, gI (x0 - 1)), (1, gI 0), (0, gI x0)]) E dX9_gapsBy_5 rfl (by decide) rfl ?_
  have L10 : ∀ (n11 : Nat) (v8 : Int) (v9 : Int), ((in32 v8) ∧ (in32 v9) ∧ (0 ≤ v9 ∧ v9 ≤ 31)) → 32 - v9 < (n11 : Int) → (∀ (w12 : Int) (w13 : Int), (w_X9_gapsBy_6 x0 n11 v8 v9) = (w12, w13) → ((in32 w12) ∧ (in32 w13) ∧ (0 ≤ w13 ∧ w13 ≤ 31)) → gK D vwCl (wdM a cI cJ) lgM A p l e { frames := 1, cells := 0, slots := 0, locals := 64 } s m args below meth c 3 (gQQ D vwCl (wdM a cI cJ) lgM A kI in32 below args s) ((f_X9_gapsBy x0), s0) s0 25 [(1, gI w12)] []) → gK D vwCl (wdM a cI cJ) lgM A p l e { frames := 1, cells := 0, slots := 0, locals := 64 } s m args below meth c 3 (gQQ D vwCl (wdM a cI cJ) lgM A kI in32 below args s) ((f_X9_gapsBy x0), s0) s0 6 [(0, gI x0), (1, gI v8), (2, gI v9)] [] := by
    intro n11; induction n11 with
    | zero =>
      intro v8 v9 hq hm hk
      exfalso
      obtain ⟨hq18, hq19, hq20⟩ := hq
      omega
    | succ n11 ih =>
      intro v8 v9 hq hm hk
      obtain ⟨hq21, hq22, hq23⟩ := hq
      have hT := w_X9_gapsBy_6_s x0 n11 v8 v9
      refine k_iloadn (pc := 6) E 2 dX9_gapsBy_6 rfl rfl ?_
      refine k_bipush (pc := 7) E dX9_gapsBy_7 (by decide) ?_
      by_cases h14 : v9 < 16
      · replace hT := hT.trans (if_pos h14)
        refine k_icmp_ge_f (pc := 9) (tgt := 25) E (by omega) (by omega) dX9_gapsBy_9 (by decide) h14 ?_
        refine k_iloadn (pc := 12) E 1 dX9_gapsBy_12 rfl rfl ?_
        refine k_iconst (pc := 13) E dX9_gapsBy_13 ?_
        refine k_iloadn (pc := 14) E 2 dX9_gapsBy_14 rfl rfl ?_
        refine k_ishl (pc := 15) E dX9_gapsBy_15 ?_
        have hb15 := ishl_rg 1 v9
        have hb16 : 0 ≤ v9 ∧ v9 ≤ 15 → _ := fun q => ishl_1 q.1 q.2
        refine k_ior (pc := 16) E dX9_gapsBy_16 ?_
        have hb17 := ior_rg v8 (ishl 1 v9)
        refine k_istoren (pc := 17) (lv' := [(1, gI (ior v8 (ishl 1 v9))), (0, gI x0), (2, gI v9)]) E dX9_gapsBy_17 rfl (by decide) rfl ?_
        refine k_iloadn (pc := 18) E 2 dX9_gapsBy_18 rfl rfl ?_
        refine k_iloadn (pc := 19) E 1 dX9_gapsBy_19 rfl rfl ?_
        refine k_iadd (pc := 20) E dX9_gapsBy_20 ?_
        refine k_istoren (pc := 21) (lv' := [(2, gI (v9 + x0)), (1, gI (ior v8 (ishl 1 v9))), (0, gI x0)]) E dX9_gapsBy_21 rfl (by decide) rfl ?_
        refine k_goto (pc := 22) (tgt := 6) E dX9_gapsBy_22 (by decide) ?_
        refine k_lv (lv' := [(0, gI x0), (1, gI (ior v8 (ishl 1 v9))), (2, gI (v9 + x0))]) [2, 1, 0] rfl ?_
        exact ih (ior v8 (ishl 1 v9)) (v9 + x0) ⟨(by omega), (by omega), (by first | assumption | omega)⟩ (by omega) (fun w12 w13 hw hi => hk w12 w13 (hT.trans hw) hi)
      · replace hT := hT.trans (if_neg h14)
        refine k_icmp_ge_t (pc := 9) (tgt := 25) E (by omega) (by omega) dX9_gapsBy_9 (by decide) h14 ?_
        refine k_lv (lv' := [(1, gI v8)]) [1] rfl ?_
        exact hk v8 v9 hT ⟨(by omega), (by omega), (by first | assumption | omega)⟩
  refine k_lv (lv' := [(0, gI x0), (1, gI 0), (2, gI (x0 - 1))]) [2, 1, 0] rfl ?_
  refine L10 33 0 (x0 - 1) ⟨(by omega), (by omega), (by first | assumption | omega)⟩ (by omega) (fun v24 v25 hw hq => ?_)
  obtain ⟨hq26, hq27, hq28⟩ := hq
  replace hT := gl2y hT hw
  refine k_iloadn (pc := 25) E 0 dX9_gapsBy_25 rfl rfl ?_
  exact k_rho (congrArg (fun q => (q, s0)) hT) (k_iret (pc := 26) E dX9_gapsBy_26 (by omega))

def w_X9_every_20 (c1 : Int) : Nat → Int → Int → Int → gMem → Int × Int × Int × gMem
  | 0, v4, v5, v6, s7 => (v4, v5, v6, s7)
  | n8 + 1, v4, v5, v6, s7 => (if 16 < v6 then (v4, v5, v6, s7) else gb (f_X9_meanOf (f_X9_gapsBy v6) (s7 2 2) s7) (fun r15 s16 => (gj (fun j21c => (if v4 = (-1) then j21c else (if r15 < v5 then j21c else (gl ((if (0 : Int) = 0 then v4 else v6)) (fun v36 => (gl ((if (0 : Int) = 0 then v5 else r15)) (fun v39 => (w_X9_every_20 c1 n8 v36 v39 (v6 + 1) s16)))))))) ((gl ((if (1 : Int) = 0 then v4 else v6)) (fun v24 => (gl ((if (1 : Int) = 0 then v5 else r15)) (fun v27 => (w_X9_every_20 c1 n8 v24 v27 (v6 + 1) s16)))))))))
theorem w_X9_every_20_s (c1 : Int) (n8 : Nat) (v4 : Int) (v5 : Int) (v6 : Int) (s7 : gMem) : w_X9_every_20 c1 (n8 + 1) v4 v5 v6 s7 = (if 16 < v6 then (v4, v5, v6, s7) else gb (f_X9_meanOf (f_X9_gapsBy v6) (s7 2 2) s7) (fun r15 s16 => (gj (fun j21c => (if v4 = (-1) then j21c else (if r15 < v5 then j21c else (gl ((if (0 : Int) = 0 then v4 else v6)) (fun v36 => (gl ((if (0 : Int) = 0 then v5 else r15)) (fun v39 => (w_X9_every_20 c1 n8 v36 v39 (v6 + 1) s16)))))))) ((gl ((if (1 : Int) = 0 then v4 else v6)) (fun v24 => (gl ((if (1 : Int) = 0 then v5 else r15)) (fun v27 => (w_X9_every_20 c1 n8 v24 v27 (v6 + 1) s16))))))))) := rfl
def f_X9_every (x0 : Int) (s0 : gMem) : gRes := (if (f_X9_in x0 0 1) = 0 then ((-4611686018427387904), s0) else (gl4 (w_X9_every_20 x0 16 (-1) 0 2 s0) (fun v101 v102 v103 s104 => (if x0 = 0 then (v101, s104) else (v102, s104)))))
theorem f_X9_every_e (x0 : Int) (s0 : gMem) : f_X9_every x0 s0 = (if (f_X9_in x0 0 1) = 0 then ((-4611686018427387904), s0) else (gl4 (w_X9_every_20 x0 16 (-1) 0 2 s0) (fun v101 v102 v103 s104 => (if x0 = 0 then (v101, s104) else (v102, s104))))) := rfl
set_option maxRecDepth 100000 in
set_option maxHeartbeats 4000000 in
theorem f_X9_every_p (x0 : Int) (s0 : gMem) (hx0 : in32 x0) (hm_s0 : gMR lgM s0) (hpre0 : VS s0) (hpre1 : KN s0) (hpre2 : MO s0) (hpre3 : OR s0) (hpre4 : BE s0) (hpre5 : FI s0) (hpre6 : MN s0) (hpre7 : TD s0) (rZ : Int) (sZ : gMem) (hres : f_X9_every x0 s0 = (rZ, sZ)) : (fr [25, 26, 27, 28, 29, 30, 31, 32, 33, 34] s0 sZ) ∧ (gMR lgM sZ) ∧ (in64 rZ) ∧ (OR sZ) ∧ (BE sZ) ∧ (FI sZ) ∧ (MN sZ) := by
  have hT := f_X9_every_e x0 s0
  have hf_s0 : fr [25, 26, 27, 28, 29, 30, 31, 32, 33, 34] s0 s0 := fr.rf _ _
  have hOR_s0 := hpre3
  have hBE_s0 := hpre4
  have hFI_s0 := hpre5
  have hMN_s0 := hpre6
  have hp2 := f_X9_in_p x0 0 1 (by omega) (by omega) (by omega) 
  by_cases h3 : (f_X9_in x0 0 1) = 0
  · replace hT := hT.trans (if_pos h3)
    obtain ⟨rfl, rfl⟩ := Prod.mk.inj (hT.symm.trans hres)
    exact ⟨hf_s0, hm_s0, (by omega), hOR_s0, hBE_s0, hFI_s0, hMN_s0⟩
  · replace hT := hT.trans (if_neg h3)
    have L49 : ∀ (n50 : Nat) (v45 : Int) (v46 : Int) (v47 : Int) (s48 : gMem), ((in32 v45) ∧ (in64 v46) ∧ (in32 v47) ∧ (fr [25, 26, 27, 28, 29, 30, 31, 32, 33, 34] s0 s48) ∧ (gMR lgM s48) ∧ (OR s48) ∧ (BE s48) ∧ (FI s48) ∧ (MN s48) ∧ (2 ≤ v47 ∧ v47 ≤ 17) ∧ (0 ≤ v46 ∧ v46 ≤ 1000000000000)) → 17 - v47 < (n50 : Int) → (∀ (w51 : Int) (w52 : Int) (w53 : Int) (s54 : gMem), (w_X9_every_20 x0 n50 v45 v46 v47 s48) = (w51, w52, w53, s54) → ((in32 w51) ∧ (in64 w52) ∧ (in32 w53) ∧ (fr [25, 26, 27, 28, 29, 30, 31, 32, 33, 34] s0 s54) ∧ (gMR lgM s54) ∧ (OR s54) ∧ (BE s54) ∧ (FI s54) ∧ (MN s54) ∧ (2 ≤ w53 ∧ w53 ≤ 17) ∧ (0 ≤ w52 ∧ w52 ≤ 1000000000000)) → (fr [25, 26, 27, 28, 29, 30, 31, 32, 33, 34] s0 sZ) ∧ (gMR lgM sZ) ∧ (in64 rZ) ∧ (OR sZ) ∧ (BE sZ) ∧ (FI sZ) ∧ (MN sZ)) → (fr [25, 26, 27, 28, 29, 30, 31, 32, 33, 34] s0 sZ) ∧ (gMR lgM sZ) ∧ (in64 rZ) ∧ (OR sZ) ∧ (BE sZ) ∧ (FI sZ) ∧ (MN sZ) := by
      intro n50; induction n50 with
      | zero =>
        intro v45 v46 v47 s48 hq hm hk
        exfalso
        obtain ⟨hq91, hq92, hq93, hf_s48, hm_s48, hOR_s48, hBE_s48, hFI_s48, hMN_s48, hq94, hq95⟩ := hq
        omega
      | succ n50 ih =>
        intro v45 v46 v47 s48 hq hm hk
        obtain ⟨hq96, hq97, hq98, hf_s48, hm_s48, hOR_s48, hBE_s48, hFI_s48, hMN_s48, hq99, hq100⟩ := hq
        have hT := w_X9_every_20_s x0 n50 v45 v46 v47 s48
        by_cases h55 : 16 < v47
        · replace hT := hT.trans (if_pos h55)
          exact hk v45 v46 v47 s48 hT ⟨(by omega), (by omega), (by omega), hf_s48, hm_s48, hOR_s48, hBE_s48, hFI_s48, hMN_s48, (by first | assumption | omega), (by first | assumption | omega)⟩
        · replace hT := hT.trans (if_neg h55)
          have hp57 := f_X9_gapsBy_p v47 (by omega) (by first | assumption | omega)
          have hr58 := (hm_s48 2 2).1 rfl
          have hi59 := hpre7 2
          rw [← hf_s48 2 (by decide)] at hi59
          obtain ⟨r61, s62, hs62⟩ : ∃ rr ss, (f_X9_meanOf (f_X9_gapsBy v47) (s48 2 2) s48) = (rr, ss) := ⟨_, _, rfl⟩
          replace hT := gby hT hs62
          have hp63 := f_X9_meanOf_p (f_X9_gapsBy v47) (s48 2 2) s48 (by omega) (by omega) hm_s48 (by unfold VS; rw [hf_s48 5 (by decide), hf_s48 6 (by decide), hf_s48 7 (by decide), hf_s48 8 (by decide)]; exact hpre0) (by unfold KN; rw [hf_s48 0 (by decide)]; exact hpre1) (by unfold MO; rw [hf_s48 1 (by decide)]; exact hpre2) hOR_s48 hBE_s48 hFI_s48 hMN_s48 (by first | assumption | omega) r61 s62 hs62
          obtain ⟨hfc_s62, hm_s62, hp64, hOR_s62, hBE_s62, hFI_s62, hMN_s62, hp65⟩ := hp63
          have hf_s62 : fr [25, 26, 27, 28, 29, 30, 31, 32, 33, 34] s0 s62 := hf_s48.call (by decide) hfc_s62
          obtain ⟨j67c, hj67c, hT⟩ := gjx hT
          have j67 : (True) → (w_X9_every_20 x0 (n50 + 1) v45 v46 v47 s48) = j67c  → (fr [25, 26, 27, 28, 29, 30, 31, 32, 33, 34] s0 sZ) ∧ (gMR lgM sZ) ∧ (in64 rZ) ∧ (OR sZ) ∧ (BE sZ) ∧ (FI sZ) ∧ (MN sZ) := by
            intro  hq hT
            rw [hj67c] at hT
            obtain ⟨z78, hz78, hT⟩ := gl1x hT
            have j69 : ∀ (v70 : Int), ((in32 v70)) → z78 = v70 → (fr [25, 26, 27, 28, 29, 30, 31, 32, 33, 34] s0 sZ) ∧ (gMR lgM sZ) ∧ (in64 rZ) ∧ (OR sZ) ∧ (BE sZ) ∧ (FI sZ) ∧ (MN sZ) := by
              intro v70 hq hz
              have hq77 := hq
              replace hT := gl1y hT hz
              obtain ⟨z76, hz76, hT⟩ := gl1x hT
              have j72 : ∀ (v73 : Int), ((in64 v73) ∧ (0 ≤ v73 ∧ v73 ≤ 1000000000000)) → z76 = v73 → (fr [25, 26, 27, 28, 29, 30, 31, 32, 33, 34] s0 sZ) ∧ (gMR lgM sZ) ∧ (in64 rZ) ∧ (OR sZ) ∧ (BE sZ) ∧ (FI sZ) ∧ (MN sZ) := by
                intro v73 hq hz
                obtain ⟨hq74, hq75⟩ := hq
                replace hT := gl1y hT hz
                exact ih v70 v73 (v47 + 1) s62 ⟨(by omega), (by omega), (by omega), hf_s62, hm_s62, hOR_s62, hBE_s62, hFI_s62, hMN_s62, (by first | assumption | omega), (by first | assumption | omega)⟩ (by omega) (fun w51 w52 w53 s54 hw hi => hk w51 w52 w53 s54 (hT.trans hw) hi)
              replace hT := hz76
              by_cases h71 : (1 : Int) = 0
              · replace hT := hT.trans (if_pos h71)
                exact j72 v46 ⟨(by omega), (by first | assumption | omega)⟩ hT
              · replace hT := hT.trans (if_neg h71)
                exact j72 r61 ⟨(by omega), (by first | assumption | omega)⟩ hT
            replace hT := hz78
            by_cases h68 : (1 : Int) = 0
            · replace hT := hT.trans (if_pos h68)
              exact j69 v45 (by omega) hT
            · replace hT := hT.trans (if_neg h68)
              exact j69 v47 (by omega) hT
          by_cases h66 : v45 = (-1)
          · replace hT := hT.trans (if_pos h66)
            exact j67  trivial hT
          · replace hT := hT.trans (if_neg h66)
            by_cases h79 : r61 < v46
            · replace hT := hT.trans (if_pos h79)
              exact j67  trivial hT
            · replace hT := hT.trans (if_neg h79)
              obtain ⟨z90, hz90, hT⟩ := gl1x hT
              have j81 : ∀ (v82 : Int), ((in32 v82)) → z90 = v82 → (fr [25, 26, 27, 28, 29, 30, 31, 32, 33, 34] s0 sZ) ∧ (gMR lgM sZ) ∧ (in64 rZ) ∧ (OR sZ) ∧ (BE sZ) ∧ (FI sZ) ∧ (MN sZ) := by
                intro v82 hq hz
                have hq89 := hq
                replace hT := gl1y hT hz
                obtain ⟨z88, hz88, hT⟩ := gl1x hT
                have j84 : ∀ (v85 : Int), ((in64 v85) ∧ (0 ≤ v85 ∧ v85 ≤ 1000000000000)) → z88 = v85 → (fr [25, 26, 27, 28, 29, 30, 31, 32, 33, 34] s0 sZ) ∧ (gMR lgM sZ) ∧ (in64 rZ) ∧ (OR sZ) ∧ (BE sZ) ∧ (FI sZ) ∧ (MN sZ) := by
                  intro v85 hq hz
                  obtain ⟨hq86, hq87⟩ := hq
                  replace hT := gl1y hT hz
                  exact ih v82 v85 (v47 + 1) s62 ⟨(by omega), (by omega), (by omega), hf_s62, hm_s62, hOR_s62, hBE_s62, hFI_s62, hMN_s62, (by first | assumption | omega), (by first | assumption | omega)⟩ (by omega) (fun w51 w52 w53 s54 hw hi => hk w51 w52 w53 s54 (hT.trans hw) hi)
                replace hT := hz88
                by_cases h83 : (0 : Int) = 0
                · replace hT := hT.trans (if_pos h83)
                  exact j84 v46 ⟨(by omega), (by first | assumption | omega)⟩ hT
                · replace hT := hT.trans (if_neg h83)
                  exact j84 r61 ⟨(by omega), (by first | assumption | omega)⟩ hT
              replace hT := hz90
              by_cases h80 : (0 : Int) = 0
              · replace hT := hT.trans (if_pos h80)
                exact j81 v45 (by omega) hT
              · replace hT := hT.trans (if_neg h80)
                exact j81 v47 (by omega) hT
    refine L49 16 (-1) 0 2 s0 ⟨(by omega), (by omega), (by omega), hf_s0, hm_s0, hOR_s0, hBE_s0, hFI_s0, hMN_s0, (by first | assumption | omega), (by first | assumption | omega)⟩ (by omega) (fun v101 v102 v103 s104 hw hq => ?_)
    obtain ⟨hq105, hq106, hq107, hf_s104, hm_s104, hOR_s104, hBE_s104, hFI_s104, hMN_s104, hq108, hq109⟩ := hq
    replace hT := gl4y hT hw
    by_cases h110 : x0 = 0
    · replace hT := hT.trans (if_pos h110)
      obtain ⟨rfl, rfl⟩ := Prod.mk.inj (hT.symm.trans hres)
      exact ⟨hf_s104, hm_s104, (by omega), hOR_s104, hBE_s104, hFI_s104, hMN_s104⟩
    · replace hT := hT.trans (if_neg h110)
      obtain ⟨rfl, rfl⟩ := Prod.mk.inj (hT.symm.trans hres)
      exact ⟨hf_s104, hm_s104, (by omega), hOR_s104, hBE_s104, hFI_s104, hMN_s104⟩
set_option maxRecDepth 100000 in
set_option maxHeartbeats 4000000 in
theorem c_X9_every (l : Launch) (D : va_G) (a : Nat → Nat) (cI cJ cS cT : ClassId) (s0 : gMem) (x0 : Int) (hx0 : in32 x0) (hpre0 : VS s0) (hpre1 : KN s0) (hpre2 : MO s0) (hpre3 : OR s0) (hpre4 : BE s0) (hpre5 : FI s0) (hpre6 : MN s0) (hpre7 : TD s0) : gC l yX9_every cX9_every 9 (some .long) 7 448 D vwCl (gT cI cJ cS cT) (wdM a cI cJ) lgM kJ in64 [.ref (a 0), gI x0] s0 (f_X9_every x0 s0) := by
  refine gC_of (by decide +kernel) (hwdM a cI cJ) (Nat.le_of_ble_eq_true rfl) ?_
  intro A p e R s m args below meth c hR E
  subst hR
  have hT := f_X9_every_e x0 s0
  have hf_s0 : fr [25, 26, 27, 28, 29, 30, 31, 32, 33, 34] s0 s0 := fr.rf _ _
  refine k_lv0 (lv' := [(0, .ref (a 0)), (1, gI x0)]) rfl ?_
  refine k_mr (fun hm_s0 => ?_)
  have hOR_s0 := hpre3
  have hBE_s0 := hpre4
  have hFI_s0 := hpre5
  have hMN_s0 := hpre6
  refine k_iloadn (pc := 0) E 1 dX9_every_0 rfl rfl ?_
  refine k_iconst (pc := 1) E dX9_every_1 ?_
  refine k_iconst (pc := 2) E dX9_every_2 ?_
  refine k_mr (fun hm_s0 => ?_)
  refine k_callS (pc := 3) (np := 3) (As := [gI x0, gI 0, gI 1]) (st := []) E (c_X9_in l D a cI cJ cS cT s0 x0 0 1 (by omega) (by omega) (by omega)) wm_861 wm_11 wm_859 wm_860 (by decide +kernel) ⟨by decide, by decide⟩ rfl (Nat.le_of_ble_eq_true rfl) dX9_every_3 (ro_kk (fun hr1 => ?_))
  have hp2 := f_X9_in_p x0 0 1 (by omega) (by omega) (by omega) 
  refine k_st (st' := [gI (f_X9_in x0 0 1)]) rfl ?_
  by_cases h3 : (f_X9_in x0 0 1) = 0
  · replace hT := hT.trans (if_pos h3)
    refine k_if_ne_f (pc := 6) (tgt := 13) E (by omega) dX9_every_6 (by decide) h3 ?_
    refine k_ldc2 (pc := 9) (n := (-4611686018427387904)) E dX9_every_9 wm_1128 (by decide) ?_
    exact k_rho hT (k_lret (pc := 12) E dX9_every_12 (by omega))
  · replace hT := hT.trans (if_neg h3)
    refine k_if_ne_t (pc := 6) (tgt := 13) E (by omega) dX9_every_6 (by decide) h3 ?_
    refine k_iconst (pc := 13) E dX9_every_13 ?_
    refine k_istoren (pc := 14) (lv' := [(2, gI (-1)), (0, .ref (a 0)), (1, gI x0)]) E dX9_every_14 rfl (by decide) rfl ?_
    refine k_lconst0 (pc := 15) E dX9_every_15 ?_
    refine k_lstoren (pc := 16) (lv' := [(3, gL 0), (2, gI (-1)), (0, .ref (a 0)), (1, gI x0)]) E dX9_every_16 rfl (by decide) rfl ?_
    refine k_iconst (pc := 17) E dX9_every_17 ?_
    refine k_istore (pc := 18) (lv' := [(5, gI 2), (3, gL 0), (2, gI (-1)), (0, .ref (a 0)), (1, gI x0)]) E dX9_every_18 (by decide) rfl ?_
    have L49 : ∀ (n50 : Nat) (v45 : Int) (v46 : Int) (v47 : Int) (s48 : gMem), ((in32 v45) ∧ (in64 v46) ∧ (in32 v47) ∧ (fr [25, 26, 27, 28, 29, 30, 31, 32, 33, 34] s0 s48) ∧ (OR s48) ∧ (BE s48) ∧ (FI s48) ∧ (MN s48) ∧ (2 ≤ v47 ∧ v47 ≤ 17) ∧ (0 ≤ v46 ∧ v46 ≤ 1000000000000)) → 17 - v47 < (n50 : Int) → (∀ (w51 : Int) (w52 : Int) (w53 : Int) (s54 : gMem), (w_X9_every_20 x0 n50 v45 v46 v47 s48) = (w51, w52, w53, s54) → ((in32 w51) ∧ (in64 w52) ∧ (in32 w53) ∧ (fr [25, 26, 27, 28, 29, 30, 31, 32, 33, 34] s0 s54) ∧ (OR s54) ∧ (BE s54) ∧ (FI s54) ∧ (MN s54) ∧ (2 ≤ w53 ∧ w53 ≤ 17) ∧ (0 ≤ w52 ∧ w52 ≤ 1000000000000)) → gK D vwCl (wdM a cI cJ) lgM A p l e { frames := 7, cells := 0, slots := 0, locals := 448 } s m args below meth c 9 (gQQ D vwCl (wdM a cI cJ) lgM A kJ in64 below args s) (f_X9_every x0 s0) s54 93 [(1, gI x0), (2, gI w51), (3, gL w52)] []) → gK D vwCl (wdM a cI cJ) lgM A p l e { frames := 7, cells := 0, slots := 0, locals := 448 } s m args below meth c 9 (gQQ D vwCl (wdM a cI cJ) lgM A kJ in64 below args s) (f_X9_every x0 s0) s48 20 [(0, .ref (a 0)), (1, gI x0), (2, gI v45), (3, gL v46), (5, gI v47)] [] := by
      intro n50; induction n50 with
      | zero =>
        intro v45 v46 v47 s48 hq hm hk
        exfalso
        obtain ⟨hq91, hq92, hq93, hf_s48, hOR_s48, hBE_s48, hFI_s48, hMN_s48, hq94, hq95⟩ := hq
        omega
      | succ n50 ih =>
        intro v45 v46 v47 s48 hq hm hk
        obtain ⟨hq96, hq97, hq98, hf_s48, hOR_s48, hBE_s48, hFI_s48, hMN_s48, hq99, hq100⟩ := hq
        have hT := w_X9_every_20_s x0 n50 v45 v46 v47 s48
        refine k_iload (pc := 20) E 4 dX9_every_20 rfl ?_
        refine k_bipush (pc := 22) E dX9_every_22 (by decide) ?_
        by_cases h55 : 16 < v47
        · replace hT := hT.trans (if_pos h55)
          refine k_icmp_gt_t (pc := 24) (tgt := 93) E (by omega) (by omega) dX9_every_24 (by decide) h55 ?_
          refine k_lv (lv' := [(1, gI x0), (2, gI v45), (3, gL v46)]) [1, 2, 3] rfl ?_
          exact hk v45 v46 v47 s48 hT ⟨(by omega), (by omega), (by omega), hf_s48, hOR_s48, hBE_s48, hFI_s48, hMN_s48, (by first | assumption | omega), (by first | assumption | omega)⟩
        · replace hT := hT.trans (if_neg h55)
          refine k_icmp_gt_f (pc := 24) (tgt := 93) E (by omega) (by omega) dX9_every_24 (by decide) h55 ?_
          refine k_aloadn (pc := 27) E 0 dX9_every_27 rfl rfl ?_
          refine k_iload (pc := 28) E 4 dX9_every_28 rfl ?_
          refine k_callS (pc := 30) (np := 1) (As := [gI v47]) (st := [.ref (a 0)]) E (c_X9_gapsBy l D a cI cJ cS cT s48 v47 (by omega) (by first | assumption | omega)) wm_1146 wm_11 wm_1144 wm_1145 (by decide +kernel) ⟨by decide, by decide⟩ rfl (Nat.le_of_ble_eq_true rfl) dX9_every_30 (ro_kk (fun hr56 => ?_))
          refine k_st (st' := [gI (f_X9_gapsBy v47), .ref (a 0)]) rfl ?_
          refine k_aloadn (pc := 33) E 0 dX9_every_33 rfl rfl ?_
          refine k_getf (pc := 34) (q0 := 0) (f := 2) (v := .ref (a 3)) E inX9 rfl rfl (by decide) wm_900 rfl rfl dX9_every_34 ?_
          refine k_iconst (pc := 37) E dX9_every_37 ?_
          refine k_iaload (pc := 38) (q0 := 3) (t0 := 0) (k := 2) (n := 4) E rfl rfl rfl (by decide) (by omega) (by omega) dX9_every_38 (fun hr58 => ?_)
          have hi59 := hpre7 2
          rw [← hf_s48 2 (by decide)] at hi59
          refine k_mr (fun hm_s48 => ?_)
          refine k_callV (pc := 39) (np := 2) (As := [gI (f_X9_gapsBy v47), gI (s48 2 2)]) (st := []) (q0 := 0) E (c_X9_meanOf l D a cI cJ cS cT s48 (f_X9_gapsBy v47) (s48 2 2) (by omega) (by omega) (by unfold VS; rw [hf_s48 5 (by decide), hf_s48 6 (by decide), hf_s48 7 (by decide), hf_s48 8 (by decide)]; exact hpre0) (by unfold KN; rw [hf_s48 0 (by decide)]; exact hpre1) (by unfold MO; rw [hf_s48 1 (by decide)]; exact hpre2) hOR_s48 hBE_s48 hFI_s48 hMN_s48 (by first | assumption | omega)) wm_1104 wm_11 wm_1101 wm_1103 wp_42 (by decide +kernel) rfl rfl ⟨by decide, by decide⟩ rfl (Nat.le_of_ble_eq_true rfl) dX9_every_39 (fun r61 s62 hs62 hr60 => ?_)
          replace hT := gby hT hs62
          have hp63 := f_X9_meanOf_p (f_X9_gapsBy v47) (s48 2 2) s48 (by omega) (by omega) hm_s48 (by unfold VS; rw [hf_s48 5 (by decide), hf_s48 6 (by decide), hf_s48 7 (by decide), hf_s48 8 (by decide)]; exact hpre0) (by unfold KN; rw [hf_s48 0 (by decide)]; exact hpre1) (by unfold MO; rw [hf_s48 1 (by decide)]; exact hpre2) hOR_s48 hBE_s48 hFI_s48 hMN_s48 (by first | assumption | omega) r61 s62 hs62
          obtain ⟨hfc_s62, hm_s62, hp64, hOR_s62, hBE_s62, hFI_s62, hMN_s62, hp65⟩ := hp63
          have hf_s62 : fr [25, 26, 27, 28, 29, 30, 31, 32, 33, 34] s0 s62 := hf_s48.call (by decide) hfc_s62
          refine k_st (st' := [gL r61]) rfl ?_
          refine k_lstore (pc := 42) (lv' := [(6, gL r61), (0, .ref (a 0)), (1, gI x0), (2, gI v45), (3, gL v46), (5, gI v47)]) E dX9_every_42 (by decide) rfl ?_
          refine k_iloadn (pc := 44) E 3 dX9_every_44 rfl rfl ?_
          refine k_iconst (pc := 45) E dX9_every_45 ?_
          obtain ⟨j67c, hj67c, hT⟩ := gjx hT
          have j67 : (True) → (w_X9_every_20 x0 (n50 + 1) v45 v46 v47 s48) = j67c  → gK D vwCl (wdM a cI cJ) lgM A p l e { frames := 7, cells := 0, slots := 0, locals := 448 } s m args below meth c 9 (gQQ D vwCl (wdM a cI cJ) lgM A kJ in64 below args s) (f_X9_every x0 s0) s62 56 [(0, .ref (a 0)), (1, gI x0), (2, gI v45), (3, gL v46), (5, gI v47), (6, gL r61)] [] := by
            intro  hq hT
            rw [hj67c] at hT
            refine k_iconst (pc := 56) E dX9_every_56 ?_
            refine k_goto (pc := 57) (tgt := 61) E dX9_every_57 (by decide) ?_
            refine k_istore (pc := 61) (lv' := [(8, gI 1), (0, .ref (a 0)), (1, gI x0), (2, gI v45), (3, gL v46), (5, gI v47), (6, gL r61)]) E dX9_every_61 (by decide) rfl ?_
            refine k_iload (pc := 63) E 0 dX9_every_63 rfl ?_
            obtain ⟨z78, hz78, hT⟩ := gl1x hT
            have j69 : ∀ (v70 : Int), ((in32 v70)) → z78 = v70 → gK D vwCl (wdM a cI cJ) lgM A p l e { frames := 7, cells := 0, slots := 0, locals := 448 } s m args below meth c 9 (gQQ D vwCl (wdM a cI cJ) lgM A kJ in64 below args s) (f_X9_every x0 s0) s62 74 [(0, .ref (a 0)), (1, gI x0), (3, gL v46), (5, gI v47), (6, gL r61), (8, gI 1)] [gI v70] := by
              intro v70 hq hz
              have hq77 := hq
              replace hT := gl1y hT hz
              refine k_istoren (pc := 74) (lv' := [(2, gI v70), (0, .ref (a 0)), (1, gI x0), (3, gL v46), (5, gI v47), (6, gL r61), (8, gI 1)]) E dX9_every_74 rfl (by decide) rfl ?_
              refine k_iload (pc := 75) E 6 dX9_every_75 rfl ?_
              obtain ⟨z76, hz76, hT⟩ := gl1x hT
              have j72 : ∀ (v73 : Int), ((in64 v73) ∧ (0 ≤ v73 ∧ v73 ≤ 1000000000000)) → z76 = v73 → gK D vwCl (wdM a cI cJ) lgM A p l e { frames := 7, cells := 0, slots := 0, locals := 448 } s m args below meth c 9 (gQQ D vwCl (wdM a cI cJ) lgM A kJ in64 below args s) (f_X9_every x0 s0) s62 86 [(0, .ref (a 0)), (1, gI x0), (2, gI v70), (5, gI v47)] [gL v73] := by
                intro v73 hq hz
                obtain ⟨hq74, hq75⟩ := hq
                replace hT := gl1y hT hz
                refine k_lstoren (pc := 86) (lv' := [(3, gL v73), (0, .ref (a 0)), (1, gI x0), (2, gI v70), (5, gI v47)]) E dX9_every_86 rfl (by decide) rfl ?_
                refine k_iinc (pc := 87) (lv' := [(5, gI (v47 + 1)), (3, gL v73), (0, .ref (a 0)), (1, gI x0), (2, gI v70)]) E 4 dX9_every_87 rfl (by decide) rfl ?_
                refine k_goto (pc := 90) (tgt := 20) E dX9_every_90 (by decide) ?_
                refine k_lv (lv' := [(0, .ref (a 0)), (1, gI x0), (2, gI v70), (3, gL v73), (5, gI (v47 + 1))]) [2, 3, 4, 1, 0] rfl ?_
                exact ih v70 v73 (v47 + 1) s62 ⟨(by omega), (by omega), (by omega), hf_s62, hOR_s62, hBE_s62, hFI_s62, hMN_s62, (by first | assumption | omega), (by first | assumption | omega)⟩ (by omega) (fun w51 w52 w53 s54 hw hi => hk w51 w52 w53 s54 (hT.trans hw) hi)
              replace hT := hz76
              by_cases h71 : (1 : Int) = 0
              · replace hT := hT.trans (if_pos h71)
                refine k_if_eq_t (pc := 77) (tgt := 85) E (by omega) dX9_every_77 (by decide) h71 ?_
                refine k_lloadn (pc := 85) E 3 dX9_every_85 rfl rfl ?_
                refine k_lv (lv' := [(0, .ref (a 0)), (1, gI x0), (2, gI v70), (5, gI v47)]) [1, 2, 0, 4] rfl ?_
                exact j72 v46 ⟨(by omega), (by first | assumption | omega)⟩ hT
              · replace hT := hT.trans (if_neg h71)
                refine k_if_eq_f (pc := 77) (tgt := 85) E (by omega) dX9_every_77 (by decide) h71 ?_
                refine k_lload (pc := 80) E 5 dX9_every_80 rfl ?_
                refine k_goto (pc := 82) (tgt := 86) E dX9_every_82 (by decide) ?_
                refine k_lv (lv' := [(0, .ref (a 0)), (1, gI x0), (2, gI v70), (5, gI v47)]) [1, 2, 0, 4] rfl ?_
                exact j72 r61 ⟨(by omega), (by first | assumption | omega)⟩ hT
            replace hT := hz78
            by_cases h68 : (1 : Int) = 0
            · replace hT := hT.trans (if_pos h68)
              refine k_if_eq_t (pc := 65) (tgt := 73) E (by omega) dX9_every_65 (by decide) h68 ?_
              refine k_iloadn (pc := 73) E 3 dX9_every_73 rfl rfl ?_
              refine k_lv (lv' := [(0, .ref (a 0)), (1, gI x0), (3, gL v46), (5, gI v47), (6, gL r61), (8, gI 1)]) [1, 2, 4, 5, 6, 0] rfl ?_
              exact j69 v45 (by omega) hT
            · replace hT := hT.trans (if_neg h68)
              refine k_if_eq_f (pc := 65) (tgt := 73) E (by omega) dX9_every_65 (by decide) h68 ?_
              refine k_iload (pc := 68) E 5 dX9_every_68 rfl ?_
              refine k_goto (pc := 70) (tgt := 74) E dX9_every_70 (by decide) ?_
              refine k_lv (lv' := [(0, .ref (a 0)), (1, gI x0), (3, gL v46), (5, gI v47), (6, gL r61), (8, gI 1)]) [1, 2, 4, 5, 6, 0] rfl ?_
              exact j69 v47 (by omega) hT
          by_cases h66 : v45 = (-1)
          · replace hT := hT.trans (if_pos h66)
            refine k_icmp_eq_t (pc := 46) (tgt := 56) E (by omega) (by omega) dX9_every_46 (by decide) h66 ?_
            refine k_lv (lv' := [(0, .ref (a 0)), (1, gI x0), (2, gI v45), (3, gL v46), (5, gI v47), (6, gL r61)]) [1, 2, 3, 4, 5, 0] rfl ?_
            exact j67  trivial hT
          · replace hT := hT.trans (if_neg h66)
            refine k_icmp_eq_f (pc := 46) (tgt := 56) E (by omega) (by omega) dX9_every_46 (by decide) h66 ?_
            refine k_lload (pc := 49) E 0 dX9_every_49 rfl ?_
            refine k_lloadn (pc := 51) E 4 dX9_every_51 rfl rfl ?_
            by_cases h79 : r61 < v46
            · replace hT := hT.trans (if_pos h79)
              refine k_lcmp (pc := 52) E dX9_every_52 (by omega) (by omega) ?_
              refine k_if_ge_f (pc := 53) (tgt := 60) E (by (repeat' split) <;> omega) dX9_every_53 (by decide) (by (repeat' split) <;> omega) ?_
              refine k_lv (lv' := [(0, .ref (a 0)), (1, gI x0), (2, gI v45), (3, gL v46), (5, gI v47), (6, gL r61)]) [1, 2, 3, 4, 5, 0] rfl ?_
              exact j67  trivial hT
            · replace hT := hT.trans (if_neg h79)
              refine k_lcmp (pc := 52) E dX9_every_52 (by omega) (by omega) ?_
              refine k_if_ge_t (pc := 53) (tgt := 60) E (by (repeat' split) <;> omega) dX9_every_53 (by decide) (by (repeat' split) <;> omega) ?_
              refine k_iconst (pc := 60) E dX9_every_60 ?_
              refine k_istore (pc := 61) (lv' := [(8, gI 0), (6, gL r61), (0, .ref (a 0)), (1, gI x0), (2, gI v45), (3, gL v46), (5, gI v47)]) E dX9_every_61 (by decide) rfl ?_
              refine k_iload (pc := 63) E 0 dX9_every_63 rfl ?_
              obtain ⟨z90, hz90, hT⟩ := gl1x hT
              have j81 : ∀ (v82 : Int), ((in32 v82)) → z90 = v82 → gK D vwCl (wdM a cI cJ) lgM A p l e { frames := 7, cells := 0, slots := 0, locals := 448 } s m args below meth c 9 (gQQ D vwCl (wdM a cI cJ) lgM A kJ in64 below args s) (f_X9_every x0 s0) s62 74 [(0, .ref (a 0)), (1, gI x0), (3, gL v46), (5, gI v47), (6, gL r61), (8, gI 0)] [gI v82] := by
                intro v82 hq hz
                have hq89 := hq
                replace hT := gl1y hT hz
                refine k_istoren (pc := 74) (lv' := [(2, gI v82), (0, .ref (a 0)), (1, gI x0), (3, gL v46), (5, gI v47), (6, gL r61), (8, gI 0)]) E dX9_every_74 rfl (by decide) rfl ?_
                refine k_iload (pc := 75) E 6 dX9_every_75 rfl ?_
                obtain ⟨z88, hz88, hT⟩ := gl1x hT
                have j84 : ∀ (v85 : Int), ((in64 v85) ∧ (0 ≤ v85 ∧ v85 ≤ 1000000000000)) → z88 = v85 → gK D vwCl (wdM a cI cJ) lgM A p l e { frames := 7, cells := 0, slots := 0, locals := 448 } s m args below meth c 9 (gQQ D vwCl (wdM a cI cJ) lgM A kJ in64 below args s) (f_X9_every x0 s0) s62 86 [(0, .ref (a 0)), (1, gI x0), (2, gI v82), (5, gI v47)] [gL v85] := by
                  intro v85 hq hz
                  obtain ⟨hq86, hq87⟩ := hq
                  replace hT := gl1y hT hz
                  refine k_lstoren (pc := 86) (lv' := [(3, gL v85), (0, .ref (a 0)), (1, gI x0), (2, gI v82), (5, gI v47)]) E dX9_every_86 rfl (by decide) rfl ?_
                  refine k_iinc (pc := 87) (lv' := [(5, gI (v47 + 1)), (3, gL v85), (0, .ref (a 0)), (1, gI x0), (2, gI v82)]) E 4 dX9_every_87 rfl (by decide) rfl ?_
                  refine k_goto (pc := 90) (tgt := 20) E dX9_every_90 (by decide) ?_
                  refine k_lv (lv' := [(0, .ref (a 0)), (1, gI x0), (2, gI v82), (3, gL v85), (5, gI (v47 + 1))]) [2, 3, 4, 1, 0] rfl ?_
                  exact ih v82 v85 (v47 + 1) s62 ⟨(by omega), (by omega), (by omega), hf_s62, hOR_s62, hBE_s62, hFI_s62, hMN_s62, (by first | assumption | omega), (by first | assumption | omega)⟩ (by omega) (fun w51 w52 w53 s54 hw hi => hk w51 w52 w53 s54 (hT.trans hw) hi)
                replace hT := hz88
                by_cases h83 : (0 : Int) = 0
                · replace hT := hT.trans (if_pos h83)
                  refine k_if_eq_t (pc := 77) (tgt := 85) E (by omega) dX9_every_77 (by decide) h83 ?_
                  refine k_lloadn (pc := 85) E 3 dX9_every_85 rfl rfl ?_
                  refine k_lv (lv' := [(0, .ref (a 0)), (1, gI x0), (2, gI v82), (5, gI v47)]) [1, 2, 0, 4] rfl ?_
                  exact j84 v46 ⟨(by omega), (by first | assumption | omega)⟩ hT
                · replace hT := hT.trans (if_neg h83)
                  refine k_if_eq_f (pc := 77) (tgt := 85) E (by omega) dX9_every_77 (by decide) h83 ?_
                  refine k_lload (pc := 80) E 5 dX9_every_80 rfl ?_
                  refine k_goto (pc := 82) (tgt := 86) E dX9_every_82 (by decide) ?_
                  refine k_lv (lv' := [(0, .ref (a 0)), (1, gI x0), (2, gI v82), (5, gI v47)]) [1, 2, 0, 4] rfl ?_
                  exact j84 r61 ⟨(by omega), (by first | assumption | omega)⟩ hT
              replace hT := hz90
              by_cases h80 : (0 : Int) = 0
              · replace hT := hT.trans (if_pos h80)
                refine k_if_eq_t (pc := 65) (tgt := 73) E (by omega) dX9_every_65 (by decide) h80 ?_
                refine k_iloadn (pc := 73) E 4 dX9_every_73 rfl rfl ?_
                refine k_lv (lv' := [(0, .ref (a 0)), (1, gI x0), (3, gL v46), (5, gI v47), (6, gL r61), (8, gI 0)]) [2, 3, 5, 6, 1, 0] rfl ?_
                exact j81 v45 (by omega) hT
              · replace hT := hT.trans (if_neg h80)
                refine k_if_eq_f (pc := 65) (tgt := 73) E (by omega) dX9_every_65 (by decide) h80 ?_
                refine k_iload (pc := 68) E 6 dX9_every_68 rfl ?_
                refine k_goto (pc := 70) (tgt := 74) E dX9_every_70 (by decide) ?_
                refine k_lv (lv' := [(0, .ref (a 0)), (1, gI x0), (3, gL v46), (5, gI v47), (6, gL r61), (8, gI 0)]) [2, 3, 5, 6, 1, 0] rfl ?_
                exact j81 v47 (by omega) hT
    refine k_lv (lv' := [(0, .ref (a 0)), (1, gI x0), (2, gI (-1)), (3, gL 0), (5, gI 2)]) [3, 4, 2, 1, 0] rfl ?_
    refine L49 16 (-1) 0 2 s0 ⟨(by omega), (by omega), (by omega), hf_s0, hOR_s0, hBE_s0, hFI_s0, hMN_s0, (by first | assumption | omega), (by first | assumption | omega)⟩ (by omega) (fun v101 v102 v103 s104 hw hq => ?_)
    obtain ⟨hq105, hq106, hq107, hf_s104, hOR_s104, hBE_s104, hFI_s104, hMN_s104, hq108, hq109⟩ := hq
    replace hT := gl4y hT hw
    refine k_iloadn (pc := 93) E 0 dX9_every_93 rfl rfl ?_
    by_cases h110 : x0 = 0
    · replace hT := hT.trans (if_pos h110)
      refine k_if_ne_f (pc := 94) (tgt := 102) E (by omega) dX9_every_94 (by decide) h110 ?_
      refine k_iloadn (pc := 97) E 1 dX9_every_97 rfl rfl ?_
      refine k_i2l (pc := 98) E dX9_every_98 (by omega) ?_
      refine k_goto (pc := 99) (tgt := 103) E dX9_every_99 (by decide) ?_
      exact k_rho hT (k_lret (pc := 103) E dX9_every_103 (by omega))
    · replace hT := hT.trans (if_neg h110)
      refine k_if_ne_t (pc := 94) (tgt := 102) E (by omega) dX9_every_94 (by decide) h110 ?_
      refine k_lloadn (pc := 102) E 2 dX9_every_102 rfl rfl ?_
      exact k_rho hT (k_lret (pc := 103) E dX9_every_103 (by omega))

def w_X9_which_20 (c1 : Int) : Nat → Int → Int → Int → gMem → Int × Int × Int × gMem
  | 0, v4, v5, v6, s7 => (v4, v5, v6, s7)
  | n8 + 1, v4, v5, v6, s7 => (if v6 < 3 then gb (f_X9_meanOf (s7 2 0) v6 s7) (fun r13 s14 => (gj (fun j19c => (if v4 = (-1) then j19c else (if r13 < v5 then j19c else (gl ((if (0 : Int) = 0 then v4 else v6)) (fun v34 => (gl ((if (0 : Int) = 0 then v5 else r13)) (fun v37 => (w_X9_which_20 c1 n8 v34 v37 (v6 + 1) s14)))))))) ((gl ((if (1 : Int) = 0 then v4 else v6)) (fun v22 => (gl ((if (1 : Int) = 0 then v5 else r13)) (fun v25 => (w_X9_which_20 c1 n8 v22 v25 (v6 + 1) s14)))))))) else (v4, v5, v6, s7))
theorem w_X9_which_20_s (c1 : Int) (n8 : Nat) (v4 : Int) (v5 : Int) (v6 : Int) (s7 : gMem) : w_X9_which_20 c1 (n8 + 1) v4 v5 v6 s7 = (if v6 < 3 then gb (f_X9_meanOf (s7 2 0) v6 s7) (fun r13 s14 => (gj (fun j19c => (if v4 = (-1) then j19c else (if r13 < v5 then j19c else (gl ((if (0 : Int) = 0 then v4 else v6)) (fun v34 => (gl ((if (0 : Int) = 0 then v5 else r13)) (fun v37 => (w_X9_which_20 c1 n8 v34 v37 (v6 + 1) s14)))))))) ((gl ((if (1 : Int) = 0 then v4 else v6)) (fun v22 => (gl ((if (1 : Int) = 0 then v5 else r13)) (fun v25 => (w_X9_which_20 c1 n8 v22 v25 (v6 + 1) s14)))))))) else (v4, v5, v6, s7)) := rfl
def f_X9_which (x0 : Int) (s0 : gMem) : gRes := (if (f_X9_in x0 0 1) = 0 then ((-4611686018427387904), s0) else (gl4 (w_X9_which_20 x0 4 (-1) 0 0 s0) (fun v97 v98 v99 s100 => (if x0 = 0 then (v97, s100) else (v98, s100)))))
theorem f_X9_which_e (x0 : Int) (s0 : gMem) : f_X9_which x0 s0 = (if (f_X9_in x0 0 1) = 0 then ((-4611686018427387904), s0) else (gl4 (w_X9_which_20 x0 4 (-1) 0 0 s0) (fun v97 v98 v99 s100 => (if x0 = 0 then (v97, s100) else (v98, s100))))) := rfl
set_option maxRecDepth 100000 in
set_option maxHeartbeats 4000000 in
theorem f_X9_which_p (x0 : Int) (s0 : gMem) (hx0 : in32 x0) (hm_s0 : gMR lgM s0) (hpre0 : VS s0) (hpre1 : KN s0) (hpre2 : MO s0) (hpre3 : OR s0) (hpre4 : BE s0) (hpre5 : FI s0) (hpre6 : MN s0) (hpre7 : TD s0) (rZ : Int) (sZ : gMem) (hres : f_X9_which x0 s0 = (rZ, sZ)) : (fr [25, 26, 27, 28, 29, 30, 31, 32, 33, 34] s0 sZ) ∧ (gMR lgM sZ) ∧ (in64 rZ) ∧ (OR sZ) ∧ (BE sZ) ∧ (FI sZ) ∧ (MN sZ) := by
  have hT := f_X9_which_e x0 s0
  have hf_s0 : fr [25, 26, 27, 28, 29, 30, 31, 32, 33, 34] s0 s0 := fr.rf _ _
  have hOR_s0 := hpre3
  have hBE_s0 := hpre4
  have hFI_s0 := hpre5
  have hMN_s0 := hpre6
  have hp2 := f_X9_in_p x0 0 1 (by omega) (by omega) (by omega) 
  by_cases h3 : (f_X9_in x0 0 1) = 0
  · replace hT := hT.trans (if_pos h3)
    obtain ⟨rfl, rfl⟩ := Prod.mk.inj (hT.symm.trans hres)
    exact ⟨hf_s0, hm_s0, (by omega), hOR_s0, hBE_s0, hFI_s0, hMN_s0⟩
  · replace hT := hT.trans (if_neg h3)
    have L47 : ∀ (n48 : Nat) (v43 : Int) (v44 : Int) (v45 : Int) (s46 : gMem), ((in32 v43) ∧ (in64 v44) ∧ (in32 v45) ∧ (fr [25, 26, 27, 28, 29, 30, 31, 32, 33, 34] s0 s46) ∧ (gMR lgM s46) ∧ (OR s46) ∧ (BE s46) ∧ (FI s46) ∧ (MN s46) ∧ (0 ≤ v45 ∧ v45 ≤ 3) ∧ (0 ≤ v44 ∧ v44 ≤ 1000000000000)) → 3 - v45 < (n48 : Int) → (∀ (w49 : Int) (w50 : Int) (w51 : Int) (s52 : gMem), (w_X9_which_20 x0 n48 v43 v44 v45 s46) = (w49, w50, w51, s52) → ((in32 w49) ∧ (in64 w50) ∧ (in32 w51) ∧ (fr [25, 26, 27, 28, 29, 30, 31, 32, 33, 34] s0 s52) ∧ (gMR lgM s52) ∧ (OR s52) ∧ (BE s52) ∧ (FI s52) ∧ (MN s52) ∧ (0 ≤ w51 ∧ w51 ≤ 3) ∧ (0 ≤ w50 ∧ w50 ≤ 1000000000000)) → (fr [25, 26, 27, 28, 29, 30, 31, 32, 33, 34] s0 sZ) ∧ (gMR lgM sZ) ∧ (in64 rZ) ∧ (OR sZ) ∧ (BE sZ) ∧ (FI sZ) ∧ (MN sZ)) → (fr [25, 26, 27, 28, 29, 30, 31, 32, 33, 34] s0 sZ) ∧ (gMR lgM sZ) ∧ (in64 rZ) ∧ (OR sZ) ∧ (BE sZ) ∧ (FI sZ) ∧ (MN sZ) := by
      intro n48; induction n48 with
      | zero =>
        intro v43 v44 v45 s46 hq hm hk
        exfalso
        obtain ⟨hq87, hq88, hq89, hf_s46, hm_s46, hOR_s46, hBE_s46, hFI_s46, hMN_s46, hq90, hq91⟩ := hq
        omega
      | succ n48 ih =>
        intro v43 v44 v45 s46 hq hm hk
        obtain ⟨hq92, hq93, hq94, hf_s46, hm_s46, hOR_s46, hBE_s46, hFI_s46, hMN_s46, hq95, hq96⟩ := hq
        have hT := w_X9_which_20_s x0 n48 v43 v44 v45 s46
        by_cases h53 : v45 < 3
        · replace hT := hT.trans (if_pos h53)
          have hr54 := (hm_s46 2 0).1 rfl
          have hi55 := hpre7 0
          rw [← hf_s46 2 (by decide)] at hi55
          obtain ⟨r57, s58, hs58⟩ : ∃ rr ss, (f_X9_meanOf (s46 2 0) v45 s46) = (rr, ss) := ⟨_, _, rfl⟩
          replace hT := gby hT hs58
          have hp59 := f_X9_meanOf_p (s46 2 0) v45 s46 (by omega) (by omega) hm_s46 (by unfold VS; rw [hf_s46 5 (by decide), hf_s46 6 (by decide), hf_s46 7 (by decide), hf_s46 8 (by decide)]; exact hpre0) (by unfold KN; rw [hf_s46 0 (by decide)]; exact hpre1) (by unfold MO; rw [hf_s46 1 (by decide)]; exact hpre2) hOR_s46 hBE_s46 hFI_s46 hMN_s46 (by first | assumption | omega) r57 s58 hs58
          obtain ⟨hfc_s58, hm_s58, hp60, hOR_s58, hBE_s58, hFI_s58, hMN_s58, hp61⟩ := hp59
          have hf_s58 : fr [25, 26, 27, 28, 29, 30, 31, 32, 33, 34] s0 s58 := hf_s46.call (by decide) hfc_s58
          obtain ⟨j63c, hj63c, hT⟩ := gjx hT
          have j63 : (True) → (w_X9_which_20 x0 (n48 + 1) v43 v44 v45 s46) = j63c  → (fr [25, 26, 27, 28, 29, 30, 31, 32, 33, 34] s0 sZ) ∧ (gMR lgM sZ) ∧ (in64 rZ) ∧ (OR sZ) ∧ (BE sZ) ∧ (FI sZ) ∧ (MN sZ) := by
            intro  hq hT
            rw [hj63c] at hT
            obtain ⟨z74, hz74, hT⟩ := gl1x hT
            have j65 : ∀ (v66 : Int), ((in32 v66)) → z74 = v66 → (fr [25, 26, 27, 28, 29, 30, 31, 32, 33, 34] s0 sZ) ∧ (gMR lgM sZ) ∧ (in64 rZ) ∧ (OR sZ) ∧ (BE sZ) ∧ (FI sZ) ∧ (MN sZ) := by
              intro v66 hq hz
              have hq73 := hq
              replace hT := gl1y hT hz
              obtain ⟨z72, hz72, hT⟩ := gl1x hT
              have j68 : ∀ (v69 : Int), ((in64 v69) ∧ (0 ≤ v69 ∧ v69 ≤ 1000000000000)) → z72 = v69 → (fr [25, 26, 27, 28, 29, 30, 31, 32, 33, 34] s0 sZ) ∧ (gMR lgM sZ) ∧ (in64 rZ) ∧ (OR sZ) ∧ (BE sZ) ∧ (FI sZ) ∧ (MN sZ) := by
                intro v69 hq hz
                obtain ⟨hq70, hq71⟩ := hq
                replace hT := gl1y hT hz
                exact ih v66 v69 (v45 + 1) s58 ⟨(by omega), (by omega), (by omega), hf_s58, hm_s58, hOR_s58, hBE_s58, hFI_s58, hMN_s58, (by first | assumption | omega), (by first | assumption | omega)⟩ (by omega) (fun w49 w50 w51 s52 hw hi => hk w49 w50 w51 s52 (hT.trans hw) hi)
              replace hT := hz72
              by_cases h67 : (1 : Int) = 0
              · replace hT := hT.trans (if_pos h67)
                exact j68 v44 ⟨(by omega), (by first | assumption | omega)⟩ hT
              · replace hT := hT.trans (if_neg h67)
                exact j68 r57 ⟨(by omega), (by first | assumption | omega)⟩ hT
            replace hT := hz74
            by_cases h64 : (1 : Int) = 0
            · replace hT := hT.trans (if_pos h64)
              exact j65 v43 (by omega) hT
            · replace hT := hT.trans (if_neg h64)
              exact j65 v45 (by omega) hT
          by_cases h62 : v43 = (-1)
          · replace hT := hT.trans (if_pos h62)
            exact j63  trivial hT
          · replace hT := hT.trans (if_neg h62)
            by_cases h75 : r57 < v44
            · replace hT := hT.trans (if_pos h75)
              exact j63  trivial hT
            · replace hT := hT.trans (if_neg h75)
              obtain ⟨z86, hz86, hT⟩ := gl1x hT
              have j77 : ∀ (v78 : Int), ((in32 v78)) → z86 = v78 → (fr [25, 26, 27, 28, 29, 30, 31, 32, 33, 34] s0 sZ) ∧ (gMR lgM sZ) ∧ (in64 rZ) ∧ (OR sZ) ∧ (BE sZ) ∧ (FI sZ) ∧ (MN sZ) := by
                intro v78 hq hz
                have hq85 := hq
                replace hT := gl1y hT hz
                obtain ⟨z84, hz84, hT⟩ := gl1x hT
                have j80 : ∀ (v81 : Int), ((in64 v81) ∧ (0 ≤ v81 ∧ v81 ≤ 1000000000000)) → z84 = v81 → (fr [25, 26, 27, 28, 29, 30, 31, 32, 33, 34] s0 sZ) ∧ (gMR lgM sZ) ∧ (in64 rZ) ∧ (OR sZ) ∧ (BE sZ) ∧ (FI sZ) ∧ (MN sZ) := by
                  intro v81 hq hz
                  obtain ⟨hq82, hq83⟩ := hq
                  replace hT := gl1y hT hz
                  exact ih v78 v81 (v45 + 1) s58 ⟨(by omega), (by omega), (by omega), hf_s58, hm_s58, hOR_s58, hBE_s58, hFI_s58, hMN_s58, (by first | assumption | omega), (by first | assumption | omega)⟩ (by omega) (fun w49 w50 w51 s52 hw hi => hk w49 w50 w51 s52 (hT.trans hw) hi)
                replace hT := hz84
                by_cases h79 : (0 : Int) = 0
                · replace hT := hT.trans (if_pos h79)
                  exact j80 v44 ⟨(by omega), (by first | assumption | omega)⟩ hT
                · replace hT := hT.trans (if_neg h79)
                  exact j80 r57 ⟨(by omega), (by first | assumption | omega)⟩ hT
              replace hT := hz86
              by_cases h76 : (0 : Int) = 0
              · replace hT := hT.trans (if_pos h76)
                exact j77 v43 (by omega) hT
              · replace hT := hT.trans (if_neg h76)
                exact j77 v45 (by omega) hT
        · replace hT := hT.trans (if_neg h53)
          exact hk v43 v44 v45 s46 hT ⟨(by omega), (by omega), (by omega), hf_s46, hm_s46, hOR_s46, hBE_s46, hFI_s46, hMN_s46, (by first | assumption | omega), (by first | assumption | omega)⟩
    refine L47 4 (-1) 0 0 s0 ⟨(by omega), (by omega), (by omega), hf_s0, hm_s0, hOR_s0, hBE_s0, hFI_s0, hMN_s0, (by first | assumption | omega), (by first | assumption | omega)⟩ (by omega) (fun v97 v98 v99 s100 hw hq => ?_)
    obtain ⟨hq101, hq102, hq103, hf_s100, hm_s100, hOR_s100, hBE_s100, hFI_s100, hMN_s100, hq104, hq105⟩ := hq
    replace hT := gl4y hT hw
    by_cases h106 : x0 = 0
    · replace hT := hT.trans (if_pos h106)
      obtain ⟨rfl, rfl⟩ := Prod.mk.inj (hT.symm.trans hres)
      exact ⟨hf_s100, hm_s100, (by omega), hOR_s100, hBE_s100, hFI_s100, hMN_s100⟩
    · replace hT := hT.trans (if_neg h106)
      obtain ⟨rfl, rfl⟩ := Prod.mk.inj (hT.symm.trans hres)
      exact ⟨hf_s100, hm_s100, (by omega), hOR_s100, hBE_s100, hFI_s100, hMN_s100⟩
set_option maxRecDepth 100000 in
set_option maxHeartbeats 4000000 in
theorem c_X9_which (l : Launch) (D : va_G) (a : Nat → Nat) (cI cJ cS cT : ClassId) (s0 : gMem) (x0 : Int) (hx0 : in32 x0) (hpre0 : VS s0) (hpre1 : KN s0) (hpre2 : MO s0) (hpre3 : OR s0) (hpre4 : BE s0) (hpre5 : FI s0) (hpre6 : MN s0) (hpre7 : TD s0) : gC l yX9_which cX9_which 9 (some .long) 7 448 D vwCl (gT cI cJ cS cT) (wdM a cI cJ) lgM kJ in64 [.ref (a 0), gI x0] s0 (f_X9_which x0 s0) := by
  refine gC_of (by decide +kernel) (hwdM a cI cJ) (Nat.le_of_ble_eq_true rfl) ?_
  intro A p e R s m args below meth c hR E
  subst hR
  have hT := f_X9_which_e x0 s0
  have hf_s0 : fr [25, 26, 27, 28, 29, 30, 31, 32, 33, 34] s0 s0 := fr.rf _ _
  refine k_lv0 (lv' := [(0, .ref (a 0)), (1, gI x0)]) rfl ?_
  refine k_mr (fun hm_s0 => ?_)
  have hOR_s0 := hpre3
  have hBE_s0 := hpre4
  have hFI_s0 := hpre5
  have hMN_s0 := hpre6
  refine k_iloadn (pc := 0) E 1 dX9_which_0 rfl rfl ?_
  refine k_iconst (pc := 1) E dX9_which_1 ?_
  refine k_iconst (pc := 2) E dX9_which_2 ?_
  refine k_mr (fun hm_s0 => ?_)
  refine k_callS (pc := 3) (np := 3) (As := [gI x0, gI 0, gI 1]) (st := []) E (c_X9_in l D a cI cJ cS cT s0 x0 0 1 (by omega) (by omega) (by omega)) wm_861 wm_11 wm_859 wm_860 (by decide +kernel) ⟨by decide, by decide⟩ rfl (Nat.le_of_ble_eq_true rfl) dX9_which_3 (ro_kk (fun hr1 => ?_))
  have hp2 := f_X9_in_p x0 0 1 (by omega) (by omega) (by omega) 
  refine k_st (st' := [gI (f_X9_in x0 0 1)]) rfl ?_
  by_cases h3 : (f_X9_in x0 0 1) = 0
  · replace hT := hT.trans (if_pos h3)
    refine k_if_ne_f (pc := 6) (tgt := 13) E (by omega) dX9_which_6 (by decide) h3 ?_
    refine k_ldc2 (pc := 9) (n := (-4611686018427387904)) E dX9_which_9 wm_1128 (by decide) ?_
    exact k_rho hT (k_lret (pc := 12) E dX9_which_12 (by omega))
  · replace hT := hT.trans (if_neg h3)
    refine k_if_ne_t (pc := 6) (tgt := 13) E (by omega) dX9_which_6 (by decide) h3 ?_
    refine k_iconst (pc := 13) E dX9_which_13 ?_
    refine k_istoren (pc := 14) (lv' := [(2, gI (-1)), (0, .ref (a 0)), (1, gI x0)]) E dX9_which_14 rfl (by decide) rfl ?_
    refine k_lconst0 (pc := 15) E dX9_which_15 ?_
    refine k_lstoren (pc := 16) (lv' := [(3, gL 0), (2, gI (-1)), (0, .ref (a 0)), (1, gI x0)]) E dX9_which_16 rfl (by decide) rfl ?_
    refine k_iconst (pc := 17) E dX9_which_17 ?_
    refine k_istore (pc := 18) (lv' := [(5, gI 0), (3, gL 0), (2, gI (-1)), (0, .ref (a 0)), (1, gI x0)]) E dX9_which_18 (by decide) rfl ?_
    have L47 : ∀ (n48 : Nat) (v43 : Int) (v44 : Int) (v45 : Int) (s46 : gMem), ((in32 v43) ∧ (in64 v44) ∧ (in32 v45) ∧ (fr [25, 26, 27, 28, 29, 30, 31, 32, 33, 34] s0 s46) ∧ (OR s46) ∧ (BE s46) ∧ (FI s46) ∧ (MN s46) ∧ (0 ≤ v45 ∧ v45 ≤ 3) ∧ (0 ≤ v44 ∧ v44 ≤ 1000000000000)) → 3 - v45 < (n48 : Int) → (∀ (w49 : Int) (w50 : Int) (w51 : Int) (s52 : gMem), (w_X9_which_20 x0 n48 v43 v44 v45 s46) = (w49, w50, w51, s52) → ((in32 w49) ∧ (in64 w50) ∧ (in32 w51) ∧ (fr [25, 26, 27, 28, 29, 30, 31, 32, 33, 34] s0 s52) ∧ (OR s52) ∧ (BE s52) ∧ (FI s52) ∧ (MN s52) ∧ (0 ≤ w51 ∧ w51 ≤ 3) ∧ (0 ≤ w50 ∧ w50 ≤ 1000000000000)) → gK D vwCl (wdM a cI cJ) lgM A p l e { frames := 7, cells := 0, slots := 0, locals := 448 } s m args below meth c 9 (gQQ D vwCl (wdM a cI cJ) lgM A kJ in64 below args s) (f_X9_which x0 s0) s52 89 [(1, gI x0), (2, gI w49), (3, gL w50)] []) → gK D vwCl (wdM a cI cJ) lgM A p l e { frames := 7, cells := 0, slots := 0, locals := 448 } s m args below meth c 9 (gQQ D vwCl (wdM a cI cJ) lgM A kJ in64 below args s) (f_X9_which x0 s0) s46 20 [(0, .ref (a 0)), (1, gI x0), (2, gI v43), (3, gL v44), (5, gI v45)] [] := by
      intro n48; induction n48 with
      | zero =>
        intro v43 v44 v45 s46 hq hm hk
        exfalso
        obtain ⟨hq87, hq88, hq89, hf_s46, hOR_s46, hBE_s46, hFI_s46, hMN_s46, hq90, hq91⟩ := hq
        omega
      | succ n48 ih =>
        intro v43 v44 v45 s46 hq hm hk
        obtain ⟨hq92, hq93, hq94, hf_s46, hOR_s46, hBE_s46, hFI_s46, hMN_s46, hq95, hq96⟩ := hq
        have hT := w_X9_which_20_s x0 n48 v43 v44 v45 s46
        refine k_iload (pc := 20) E 4 dX9_which_20 rfl ?_
        refine k_iconst (pc := 22) E dX9_which_22 ?_
        by_cases h53 : v45 < 3
        · replace hT := hT.trans (if_pos h53)
          refine k_icmp_ge_f (pc := 23) (tgt := 89) E (by omega) (by omega) dX9_which_23 (by decide) h53 ?_
          refine k_aloadn (pc := 26) E 0 dX9_which_26 rfl rfl ?_
          refine k_aloadn (pc := 27) E 0 dX9_which_27 rfl rfl ?_
          refine k_getf (pc := 28) (q0 := 0) (f := 2) (v := .ref (a 3)) E inX9 rfl rfl (by decide) wm_900 rfl rfl dX9_which_28 ?_
          refine k_iconst (pc := 31) E dX9_which_31 ?_
          refine k_iaload (pc := 32) (q0 := 3) (t0 := 0) (k := 2) (n := 4) E rfl rfl rfl (by decide) (by omega) (by omega) dX9_which_32 (fun hr54 => ?_)
          have hi55 := hpre7 0
          rw [← hf_s46 2 (by decide)] at hi55
          refine k_iload (pc := 33) E 4 dX9_which_33 rfl ?_
          refine k_mr (fun hm_s46 => ?_)
          refine k_callV (pc := 35) (np := 2) (As := [gI (s46 2 0), gI v45]) (st := []) (q0 := 0) E (c_X9_meanOf l D a cI cJ cS cT s46 (s46 2 0) v45 (by omega) (by omega) (by unfold VS; rw [hf_s46 5 (by decide), hf_s46 6 (by decide), hf_s46 7 (by decide), hf_s46 8 (by decide)]; exact hpre0) (by unfold KN; rw [hf_s46 0 (by decide)]; exact hpre1) (by unfold MO; rw [hf_s46 1 (by decide)]; exact hpre2) hOR_s46 hBE_s46 hFI_s46 hMN_s46 (by first | assumption | omega)) wm_1104 wm_11 wm_1101 wm_1103 wp_42 (by decide +kernel) rfl rfl ⟨by decide, by decide⟩ rfl (Nat.le_of_ble_eq_true rfl) dX9_which_35 (fun r57 s58 hs58 hr56 => ?_)
          replace hT := gby hT hs58
          have hp59 := f_X9_meanOf_p (s46 2 0) v45 s46 (by omega) (by omega) hm_s46 (by unfold VS; rw [hf_s46 5 (by decide), hf_s46 6 (by decide), hf_s46 7 (by decide), hf_s46 8 (by decide)]; exact hpre0) (by unfold KN; rw [hf_s46 0 (by decide)]; exact hpre1) (by unfold MO; rw [hf_s46 1 (by decide)]; exact hpre2) hOR_s46 hBE_s46 hFI_s46 hMN_s46 (by first | assumption | omega) r57 s58 hs58
          obtain ⟨hfc_s58, hm_s58, hp60, hOR_s58, hBE_s58, hFI_s58, hMN_s58, hp61⟩ := hp59
          have hf_s58 : fr [25, 26, 27, 28, 29, 30, 31, 32, 33, 34] s0 s58 := hf_s46.call (by decide) hfc_s58
          refine k_st (st' := [gL r57]) rfl ?_
          refine k_lstore (pc := 38) (lv' := [(6, gL r57), (0, .ref (a 0)), (1, gI x0), (2, gI v43), (3, gL v44), (5, gI v45)]) E dX9_which_38 (by decide) rfl ?_
          refine k_iloadn (pc := 40) E 3 dX9_which_40 rfl rfl ?_
          refine k_iconst (pc := 41) E dX9_which_41 ?_
          obtain ⟨j63c, hj63c, hT⟩ := gjx hT
          have j63 : (True) → (w_X9_which_20 x0 (n48 + 1) v43 v44 v45 s46) = j63c  → gK D vwCl (wdM a cI cJ) lgM A p l e { frames := 7, cells := 0, slots := 0, locals := 448 } s m args below meth c 9 (gQQ D vwCl (wdM a cI cJ) lgM A kJ in64 below args s) (f_X9_which x0 s0) s58 52 [(0, .ref (a 0)), (1, gI x0), (2, gI v43), (3, gL v44), (5, gI v45), (6, gL r57)] [] := by
            intro  hq hT
            rw [hj63c] at hT
            refine k_iconst (pc := 52) E dX9_which_52 ?_
            refine k_goto (pc := 53) (tgt := 57) E dX9_which_53 (by decide) ?_
            refine k_istore (pc := 57) (lv' := [(8, gI 1), (0, .ref (a 0)), (1, gI x0), (2, gI v43), (3, gL v44), (5, gI v45), (6, gL r57)]) E dX9_which_57 (by decide) rfl ?_
            refine k_iload (pc := 59) E 0 dX9_which_59 rfl ?_
            obtain ⟨z74, hz74, hT⟩ := gl1x hT
            have j65 : ∀ (v66 : Int), ((in32 v66)) → z74 = v66 → gK D vwCl (wdM a cI cJ) lgM A p l e { frames := 7, cells := 0, slots := 0, locals := 448 } s m args below meth c 9 (gQQ D vwCl (wdM a cI cJ) lgM A kJ in64 below args s) (f_X9_which x0 s0) s58 70 [(0, .ref (a 0)), (1, gI x0), (3, gL v44), (5, gI v45), (6, gL r57), (8, gI 1)] [gI v66] := by
              intro v66 hq hz
              have hq73 := hq
              replace hT := gl1y hT hz
              refine k_istoren (pc := 70) (lv' := [(2, gI v66), (0, .ref (a 0)), (1, gI x0), (3, gL v44), (5, gI v45), (6, gL r57), (8, gI 1)]) E dX9_which_70 rfl (by decide) rfl ?_
              refine k_iload (pc := 71) E 6 dX9_which_71 rfl ?_
              obtain ⟨z72, hz72, hT⟩ := gl1x hT
              have j68 : ∀ (v69 : Int), ((in64 v69) ∧ (0 ≤ v69 ∧ v69 ≤ 1000000000000)) → z72 = v69 → gK D vwCl (wdM a cI cJ) lgM A p l e { frames := 7, cells := 0, slots := 0, locals := 448 } s m args below meth c 9 (gQQ D vwCl (wdM a cI cJ) lgM A kJ in64 below args s) (f_X9_which x0 s0) s58 82 [(0, .ref (a 0)), (1, gI x0), (2, gI v66), (5, gI v45)] [gL v69] := by
                intro v69 hq hz
                obtain ⟨hq70, hq71⟩ := hq
                replace hT := gl1y hT hz
                refine k_lstoren (pc := 82) (lv' := [(3, gL v69), (0, .ref (a 0)), (1, gI x0), (2, gI v66), (5, gI v45)]) E dX9_which_82 rfl (by decide) rfl ?_
                refine k_iinc (pc := 83) (lv' := [(5, gI (v45 + 1)), (3, gL v69), (0, .ref (a 0)), (1, gI x0), (2, gI v66)]) E 4 dX9_which_83 rfl (by decide) rfl ?_
                refine k_goto (pc := 86) (tgt := 20) E dX9_which_86 (by decide) ?_
                refine k_lv (lv' := [(0, .ref (a 0)), (1, gI x0), (2, gI v66), (3, gL v69), (5, gI (v45 + 1))]) [2, 3, 4, 1, 0] rfl ?_
                exact ih v66 v69 (v45 + 1) s58 ⟨(by omega), (by omega), (by omega), hf_s58, hOR_s58, hBE_s58, hFI_s58, hMN_s58, (by first | assumption | omega), (by first | assumption | omega)⟩ (by omega) (fun w49 w50 w51 s52 hw hi => hk w49 w50 w51 s52 (hT.trans hw) hi)
              replace hT := hz72
              by_cases h67 : (1 : Int) = 0
              · replace hT := hT.trans (if_pos h67)
                refine k_if_eq_t (pc := 73) (tgt := 81) E (by omega) dX9_which_73 (by decide) h67 ?_
                refine k_lloadn (pc := 81) E 3 dX9_which_81 rfl rfl ?_
                refine k_lv (lv' := [(0, .ref (a 0)), (1, gI x0), (2, gI v66), (5, gI v45)]) [1, 2, 0, 4] rfl ?_
                exact j68 v44 ⟨(by omega), (by first | assumption | omega)⟩ hT
              · replace hT := hT.trans (if_neg h67)
                refine k_if_eq_f (pc := 73) (tgt := 81) E (by omega) dX9_which_73 (by decide) h67 ?_
                refine k_lload (pc := 76) E 5 dX9_which_76 rfl ?_
                refine k_goto (pc := 78) (tgt := 82) E dX9_which_78 (by decide) ?_
                refine k_lv (lv' := [(0, .ref (a 0)), (1, gI x0), (2, gI v66), (5, gI v45)]) [1, 2, 0, 4] rfl ?_
                exact j68 r57 ⟨(by omega), (by first | assumption | omega)⟩ hT
            replace hT := hz74
            by_cases h64 : (1 : Int) = 0
            · replace hT := hT.trans (if_pos h64)
              refine k_if_eq_t (pc := 61) (tgt := 69) E (by omega) dX9_which_61 (by decide) h64 ?_
              refine k_iloadn (pc := 69) E 3 dX9_which_69 rfl rfl ?_
              refine k_lv (lv' := [(0, .ref (a 0)), (1, gI x0), (3, gL v44), (5, gI v45), (6, gL r57), (8, gI 1)]) [1, 2, 4, 5, 6, 0] rfl ?_
              exact j65 v43 (by omega) hT
            · replace hT := hT.trans (if_neg h64)
              refine k_if_eq_f (pc := 61) (tgt := 69) E (by omega) dX9_which_61 (by decide) h64 ?_
              refine k_iload (pc := 64) E 5 dX9_which_64 rfl ?_
              refine k_goto (pc := 66) (tgt := 70) E dX9_which_66 (by decide) ?_
              refine k_lv (lv' := [(0, .ref (a 0)), (1, gI x0), (3, gL v44), (5, gI v45), (6, gL r57), (8, gI 1)]) [1, 2, 4, 5, 6, 0] rfl ?_
              exact j65 v45 (by omega) hT
          by_cases h62 : v43 = (-1)
          · replace hT := hT.trans (if_pos h62)
            refine k_icmp_eq_t (pc := 42) (tgt := 52) E (by omega) (by omega) dX9_which_42 (by decide) h62 ?_
            refine k_lv (lv' := [(0, .ref (a 0)), (1, gI x0), (2, gI v43), (3, gL v44), (5, gI v45), (6, gL r57)]) [1, 2, 3, 4, 5, 0] rfl ?_
            exact j63  trivial hT
          · replace hT := hT.trans (if_neg h62)
            refine k_icmp_eq_f (pc := 42) (tgt := 52) E (by omega) (by omega) dX9_which_42 (by decide) h62 ?_
            refine k_lload (pc := 45) E 0 dX9_which_45 rfl ?_
            refine k_lloadn (pc := 47) E 4 dX9_which_47 rfl rfl ?_
            by_cases h75 : r57 < v44
            · replace hT := hT.trans (if_pos h75)
              refine k_lcmp (pc := 48) E dX9_which_48 (by omega) (by omega) ?_
              refine k_if_ge_f (pc := 49) (tgt := 56) E (by (repeat' split) <;> omega) dX9_which_49 (by decide) (by (repeat' split) <;> omega) ?_
              refine k_lv (lv' := [(0, .ref (a 0)), (1, gI x0), (2, gI v43), (3, gL v44), (5, gI v45), (6, gL r57)]) [1, 2, 3, 4, 5, 0] rfl ?_
              exact j63  trivial hT
            · replace hT := hT.trans (if_neg h75)
              refine k_lcmp (pc := 48) E dX9_which_48 (by omega) (by omega) ?_
              refine k_if_ge_t (pc := 49) (tgt := 56) E (by (repeat' split) <;> omega) dX9_which_49 (by decide) (by (repeat' split) <;> omega) ?_
              refine k_iconst (pc := 56) E dX9_which_56 ?_
              refine k_istore (pc := 57) (lv' := [(8, gI 0), (6, gL r57), (0, .ref (a 0)), (1, gI x0), (2, gI v43), (3, gL v44), (5, gI v45)]) E dX9_which_57 (by decide) rfl ?_
              refine k_iload (pc := 59) E 0 dX9_which_59 rfl ?_
              obtain ⟨z86, hz86, hT⟩ := gl1x hT
              have j77 : ∀ (v78 : Int), ((in32 v78)) → z86 = v78 → gK D vwCl (wdM a cI cJ) lgM A p l e { frames := 7, cells := 0, slots := 0, locals := 448 } s m args below meth c 9 (gQQ D vwCl (wdM a cI cJ) lgM A kJ in64 below args s) (f_X9_which x0 s0) s58 70 [(0, .ref (a 0)), (1, gI x0), (3, gL v44), (5, gI v45), (6, gL r57), (8, gI 0)] [gI v78] := by
                intro v78 hq hz
                have hq85 := hq
                replace hT := gl1y hT hz
                refine k_istoren (pc := 70) (lv' := [(2, gI v78), (0, .ref (a 0)), (1, gI x0), (3, gL v44), (5, gI v45), (6, gL r57), (8, gI 0)]) E dX9_which_70 rfl (by decide) rfl ?_
                refine k_iload (pc := 71) E 6 dX9_which_71 rfl ?_
                obtain ⟨z84, hz84, hT⟩ := gl1x hT
                have j80 : ∀ (v81 : Int), ((in64 v81) ∧ (0 ≤ v81 ∧ v81 ≤ 1000000000000)) → z84 = v81 → gK D vwCl (wdM a cI cJ) lgM A p l e { frames := 7, cells := 0, slots := 0, locals := 448 } s m args below meth c 9 (gQQ D vwCl (wdM a cI cJ) lgM A kJ in64 below args s) (f_X9_which x0 s0) s58 82 [(0, .ref (a 0)), (1, gI x0), (2, gI v78), (5, gI v45)] [gL v81] := by
                  intro v81 hq hz
                  obtain ⟨hq82, hq83⟩ := hq
                  replace hT := gl1y hT hz
                  refine k_lstoren (pc := 82) (lv' := [(3, gL v81), (0, .ref (a 0)), (1, gI x0), (2, gI v78), (5, gI v45)]) E dX9_which_82 rfl (by decide) rfl ?_
                  refine k_iinc (pc := 83) (lv' := [(5, gI (v45 + 1)), (3, gL v81), (0, .ref (a 0)), (1, gI x0), (2, gI v78)]) E 4 dX9_which_83 rfl (by decide) rfl ?_
                  refine k_goto (pc := 86) (tgt := 20) E dX9_which_86 (by decide) ?_
                  refine k_lv (lv' := [(0, .ref (a 0)), (1, gI x0), (2, gI v78), (3, gL v81), (5, gI (v45 + 1))]) [2, 3, 4, 1, 0] rfl ?_
                  exact ih v78 v81 (v45 + 1) s58 ⟨(by omega), (by omega), (by omega), hf_s58, hOR_s58, hBE_s58, hFI_s58, hMN_s58, (by first | assumption | omega), (by first | assumption | omega)⟩ (by omega) (fun w49 w50 w51 s52 hw hi => hk w49 w50 w51 s52 (hT.trans hw) hi)
                replace hT := hz84
                by_cases h79 : (0 : Int) = 0
                · replace hT := hT.trans (if_pos h79)
                  refine k_if_eq_t (pc := 73) (tgt := 81) E (by omega) dX9_which_73 (by decide) h79 ?_
                  refine k_lloadn (pc := 81) E 3 dX9_which_81 rfl rfl ?_
                  refine k_lv (lv' := [(0, .ref (a 0)), (1, gI x0), (2, gI v78), (5, gI v45)]) [1, 2, 0, 4] rfl ?_
                  exact j80 v44 ⟨(by omega), (by first | assumption | omega)⟩ hT
                · replace hT := hT.trans (if_neg h79)
                  refine k_if_eq_f (pc := 73) (tgt := 81) E (by omega) dX9_which_73 (by decide) h79 ?_
                  refine k_lload (pc := 76) E 5 dX9_which_76 rfl ?_
                  refine k_goto (pc := 78) (tgt := 82) E dX9_which_78 (by decide) ?_
                  refine k_lv (lv' := [(0, .ref (a 0)), (1, gI x0), (2, gI v78), (5, gI v45)]) [1, 2, 0, 4] rfl ?_
                  exact j80 r57 ⟨(by omega), (by first | assumption | omega)⟩ hT
              replace hT := hz86
              by_cases h76 : (0 : Int) = 0
              · replace hT := hT.trans (if_pos h76)
                refine k_if_eq_t (pc := 61) (tgt := 69) E (by omega) dX9_which_61 (by decide) h76 ?_
                refine k_iloadn (pc := 69) E 4 dX9_which_69 rfl rfl ?_
                refine k_lv (lv' := [(0, .ref (a 0)), (1, gI x0), (3, gL v44), (5, gI v45), (6, gL r57), (8, gI 0)]) [2, 3, 5, 6, 1, 0] rfl ?_
                exact j77 v43 (by omega) hT
              · replace hT := hT.trans (if_neg h76)
                refine k_if_eq_f (pc := 61) (tgt := 69) E (by omega) dX9_which_61 (by decide) h76 ?_
                refine k_iload (pc := 64) E 6 dX9_which_64 rfl ?_
                refine k_goto (pc := 66) (tgt := 70) E dX9_which_66 (by decide) ?_
                refine k_lv (lv' := [(0, .ref (a 0)), (1, gI x0), (3, gL v44), (5, gI v45), (6, gL r57), (8, gI 0)]) [2, 3, 5, 6, 1, 0] rfl ?_
                exact j77 v45 (by omega) hT
        · replace hT := hT.trans (if_neg h53)
          refine k_icmp_ge_t (pc := 23) (tgt := 89) E (by omega) (by omega) dX9_which_23 (by decide) h53 ?_
          refine k_lv (lv' := [(1, gI x0), (2, gI v43), (3, gL v44)]) [1, 2, 3] rfl ?_
          exact hk v43 v44 v45 s46 hT ⟨(by omega), (by omega), (by omega), hf_s46, hOR_s46, hBE_s46, hFI_s46, hMN_s46, (by first | assumption | omega), (by first | assumption | omega)⟩
    refine k_lv (lv' := [(0, .ref (a 0)), (1, gI x0), (2, gI (-1)), (3, gL 0), (5, gI 0)]) [3, 4, 2, 1, 0] rfl ?_
    refine L47 4 (-1) 0 0 s0 ⟨(by omega), (by omega), (by omega), hf_s0, hOR_s0, hBE_s0, hFI_s0, hMN_s0, (by first | assumption | omega), (by first | assumption | omega)⟩ (by omega) (fun v97 v98 v99 s100 hw hq => ?_)
    obtain ⟨hq101, hq102, hq103, hf_s100, hOR_s100, hBE_s100, hFI_s100, hMN_s100, hq104, hq105⟩ := hq
    replace hT := gl4y hT hw
    refine k_iloadn (pc := 89) E 0 dX9_which_89 rfl rfl ?_
    by_cases h106 : x0 = 0
    · replace hT := hT.trans (if_pos h106)
      refine k_if_ne_f (pc := 90) (tgt := 98) E (by omega) dX9_which_90 (by decide) h106 ?_
      refine k_iloadn (pc := 93) E 1 dX9_which_93 rfl rfl ?_
      refine k_i2l (pc := 94) E dX9_which_94 (by omega) ?_
      refine k_goto (pc := 95) (tgt := 99) E dX9_which_95 (by decide) ?_
      exact k_rho hT (k_lret (pc := 99) E dX9_which_99 (by omega))
    · replace hT := hT.trans (if_neg h106)
      refine k_if_ne_t (pc := 90) (tgt := 98) E (by omega) dX9_which_90 (by decide) h106 ?_
      refine k_lloadn (pc := 98) E 2 dX9_which_98 rfl rfl ?_
      exact k_rho hT (k_lret (pc := 99) E dX9_which_99 (by omega))

def w_X9_stop_27 (c1 : Int) (c2 : Int) : Nat → Int → Int → Int → gMem → Int × Int × Int × gMem
  | 0, v10, v11, v12, s13 => (v10, v11, v12, s13)
  | n14 + 1, v10, v11, v12, s13 => (if v12 < 16 then gl (mset s13 0 v12 4) (fun s18 => gb (f_X9_plan  s18) (fun r20 s21 => gl (mset s21 0 v12 (s13 0 v12)) (fun s25 => (gl ((if v11 < (c2 - r20) then v12 else v10)) (fun v28 => (gl ((if v11 < (c2 - r20) then (c2 - r20) else v11)) (fun v31 => (w_X9_stop_27 c1 c2 n14 v28 v31 (v12 + 1) s25)))))))) else (v10, v11, v12, s13))
theorem w_X9_stop_27_s (c1 : Int) (c2 : Int) (n14 : Nat) (v10 : Int) (v11 : Int) (v12 : Int) (s13 : gMem) : w_X9_stop_27 c1 c2 (n14 + 1) v10 v11 v12 s13 = (if v12 < 16 then gl (mset s13 0 v12 4) (fun s18 => gb (f_X9_plan  s18) (fun r20 s21 => gl (mset s21 0 v12 (s13 0 v12)) (fun s25 => (gl ((if v11 < (c2 - r20) then v12 else v10)) (fun v28 => (gl ((if v11 < (c2 - r20) then (c2 - r20) else v11)) (fun v31 => (w_X9_stop_27 c1 c2 n14 v28 v31 (v12 + 1) s25)))))))) else (v10, v11, v12, s13)) := rfl
def f_X9_stop (x0 : Int) (s0 : gMem) : gRes := (if (f_X9_in x0 0 1) = 0 then ((-4611686018427387904), s0) else gb (f_X9_plan  s0) (fun r5 s6 => (gl4 (w_X9_stop_27 x0 r5 17 (-1) 0 0 s6) (fun v79 v80 v81 s82 => (if x0 = 0 then (v79, s82) else (v80, s82))))))
theorem f_X9_stop_e (x0 : Int) (s0 : gMem) : f_X9_stop x0 s0 = (if (f_X9_in x0 0 1) = 0 then ((-4611686018427387904), s0) else gb (f_X9_plan  s0) (fun r5 s6 => (gl4 (w_X9_stop_27 x0 r5 17 (-1) 0 0 s6) (fun v79 v80 v81 s82 => (if x0 = 0 then (v79, s82) else (v80, s82)))))) := rfl
set_option maxRecDepth 100000 in
set_option maxHeartbeats 4000000 in
theorem f_X9_stop_p (x0 : Int) (s0 : gMem) (hx0 : in32 x0) (hm_s0 : gMR lgM s0) (hpre0 : VS s0) (hpre1 : KN s0) (hpre2 : MO s0) (hpre3 : OR s0) (hpre4 : BE s0) (hpre5 : FI s0) (hpre6 : MN s0) (hpre7 : TD s0) (rZ : Int) (sZ : gMem) (hres : f_X9_stop x0 s0 = (rZ, sZ)) : (fr [0, 25, 26, 27, 28, 29, 30, 31, 32, 33, 34] s0 sZ) ∧ (gMR lgM sZ) ∧ (in64 rZ) ∧ (KN sZ) ∧ (OR sZ) ∧ (BE sZ) ∧ (FI sZ) ∧ (MN sZ) := by
  have hT := f_X9_stop_e x0 s0
  have hf_s0 : fr [0, 25, 26, 27, 28, 29, 30, 31, 32, 33, 34] s0 s0 := fr.rf _ _
  have hKN_s0 := hpre1
  have hOR_s0 := hpre3
  have hBE_s0 := hpre4
  have hFI_s0 := hpre5
  have hMN_s0 := hpre6
  have hp2 := f_X9_in_p x0 0 1 (by omega) (by omega) (by omega) 
  by_cases h3 : (f_X9_in x0 0 1) = 0
  · replace hT := hT.trans (if_pos h3)
    obtain ⟨rfl, rfl⟩ := Prod.mk.inj (hT.symm.trans hres)
    exact ⟨hf_s0, hm_s0, (by omega), hKN_s0, hOR_s0, hBE_s0, hFI_s0, hMN_s0⟩
  · replace hT := hT.trans (if_neg h3)
    obtain ⟨r5, s6, hs6⟩ : ∃ rr ss, (f_X9_plan  s0) = (rr, ss) := ⟨_, _, rfl⟩
    replace hT := gby hT hs6
    have hp7 := f_X9_plan_p  s0  hm_s0 hpre0 hKN_s0 hpre2 hOR_s0 hBE_s0 hFI_s0 hMN_s0 hpre7 r5 s6 hs6
    obtain ⟨hfc_s6, hm_s6, hp8, hOR_s6, hBE_s6, hFI_s6, hMN_s6, hp9⟩ := hp7
    have hf_s6 : fr [0, 25, 26, 27, 28, 29, 30, 31, 32, 33, 34] s0 s6 := hf_s0.call (by decide) hfc_s6
    have hKN_s6 : KN s6 := fun i => by rw [hfc_s6 0 (by decide)]; exact hKN_s0 i
    have L41 : ∀ (n42 : Nat) (v37 : Int) (v38 : Int) (v39 : Int) (s40 : gMem), ((in32 v37) ∧ (in64 v38) ∧ (in32 v39) ∧ (fr [0, 25, 26, 27, 28, 29, 30, 31, 32, 33, 34] s0 s40) ∧ (gMR lgM s40) ∧ (KN s40) ∧ (OR s40) ∧ (BE s40) ∧ (FI s40) ∧ (MN s40) ∧ (0 ≤ v39 ∧ v39 ≤ 16) ∧ (0 ≤ v38 ∧ v38 ≤ 1000000000000)) → 16 - v39 < (n42 : Int) → (∀ (w43 : Int) (w44 : Int) (w45 : Int) (s46 : gMem), (w_X9_stop_27 x0 r5 n42 v37 v38 v39 s40) = (w43, w44, w45, s46) → ((in32 w43) ∧ (in64 w44) ∧ (in32 w45) ∧ (fr [0, 25, 26, 27, 28, 29, 30, 31, 32, 33, 34] s0 s46) ∧ (gMR lgM s46) ∧ (KN s46) ∧ (OR s46) ∧ (BE s46) ∧ (FI s46) ∧ (MN s46) ∧ (0 ≤ w45 ∧ w45 ≤ 16) ∧ (0 ≤ w44 ∧ w44 ≤ 1000000000000)) → (fr [0, 25, 26, 27, 28, 29, 30, 31, 32, 33, 34] s0 sZ) ∧ (gMR lgM sZ) ∧ (in64 rZ) ∧ (KN sZ) ∧ (OR sZ) ∧ (BE sZ) ∧ (FI sZ) ∧ (MN sZ)) → (fr [0, 25, 26, 27, 28, 29, 30, 31, 32, 33, 34] s0 sZ) ∧ (gMR lgM sZ) ∧ (in64 rZ) ∧ (KN sZ) ∧ (OR sZ) ∧ (BE sZ) ∧ (FI sZ) ∧ (MN sZ) := by
      intro n42; induction n42 with
      | zero =>
        intro v37 v38 v39 s40 hq hm hk
        exfalso
        obtain ⟨hq69, hq70, hq71, hf_s40, hm_s40, hKN_s40, hOR_s40, hBE_s40, hFI_s40, hMN_s40, hq72, hq73⟩ := hq
        omega
      | succ n42 ih =>
        intro v37 v38 v39 s40 hq hm hk
        obtain ⟨hq74, hq75, hq76, hf_s40, hm_s40, hKN_s40, hOR_s40, hBE_s40, hFI_s40, hMN_s40, hq77, hq78⟩ := hq
        have hT := w_X9_stop_27_s x0 r5 n42 v37 v38 v39 s40
        by_cases h47 : v39 < 16
        · replace hT := hT.trans (if_pos h47)
          have hr48 := (hm_s40 0 v39).1 rfl
          have hi49 := hKN_s40 v39
          obtain ⟨s50, hs50, hT⟩ := glx hT
          have hf_s50 : fr [0, 25, 26, 27, 28, 29, 30, 31, 32, 33, 34] s0 s50 := hs50 ▸ hf_s40.set (by decide)
          have hm_s50 : gMR lgM s50 := hs50 ▸ hm_s40.set32 rfl (by omega)
          have hKN_s50 : KN s50 := hs50 ▸ KN_set hKN_s40 (by omega)
          have hOR_s50 : OR s50 := fun i => by rw [hs50, mset_ne _ _ _ _ _ (by decide)]; exact hOR_s40 i
          have hBE_s50 : BE s50 := fun i => by rw [hs50, mset_ne _ _ _ _ _ (by decide)]; exact hBE_s40 i
          have hFI_s50 : FI s50 := fun i => by rw [hs50, mset_ne _ _ _ _ _ (by decide)]; exact hFI_s40 i
          have hMN_s50 : MN s50 := fun i => by rw [hs50, mset_ne _ _ _ _ _ (by decide)]; exact hMN_s40 i
          obtain ⟨r52, s53, hs53⟩ : ∃ rr ss, (f_X9_plan  s50) = (rr, ss) := ⟨_, _, rfl⟩
          replace hT := gby hT hs53
          have hp54 := f_X9_plan_p  s50  hm_s50 (by unfold VS; rw [hf_s50 5 (by decide), hf_s50 6 (by decide), hf_s50 7 (by decide), hf_s50 8 (by decide)]; exact hpre0) hKN_s50 (by unfold MO; rw [hf_s50 1 (by decide)]; exact hpre2) hOR_s50 hBE_s50 hFI_s50 hMN_s50 (by unfold TD; rw [hf_s50 2 (by decide)]; exact hpre7) r52 s53 hs53
          obtain ⟨hfc_s53, hm_s53, hp55, hOR_s53, hBE_s53, hFI_s53, hMN_s53, hp56⟩ := hp54
          have hf_s53 : fr [0, 25, 26, 27, 28, 29, 30, 31, 32, 33, 34] s0 s53 := hf_s50.call (by decide) hfc_s53
          have hKN_s53 : KN s53 := fun i => by rw [hfc_s53 0 (by decide)]; exact hKN_s50 i
          obtain ⟨s57, hs57, hT⟩ := glx hT
          have hf_s57 : fr [0, 25, 26, 27, 28, 29, 30, 31, 32, 33, 34] s0 s57 := hs57 ▸ hf_s53.set (by decide)
          have hm_s57 : gMR lgM s57 := hs57 ▸ hm_s53.set32 rfl (by omega)
          have hKN_s57 : KN s57 := hs57 ▸ KN_set hKN_s53 (by omega)
          have hOR_s57 : OR s57 := fun i => by rw [hs57, mset_ne _ _ _ _ _ (by decide)]; exact hOR_s53 i
          have hBE_s57 : BE s57 := fun i => by rw [hs57, mset_ne _ _ _ _ _ (by decide)]; exact hBE_s53 i
          have hFI_s57 : FI s57 := fun i => by rw [hs57, mset_ne _ _ _ _ _ (by decide)]; exact hFI_s53 i
          have hMN_s57 : MN s57 := fun i => by rw [hs57, mset_ne _ _ _ _ _ (by decide)]; exact hMN_s53 i
          obtain ⟨z68, hz68, hT⟩ := gl1x hT
          have j59 : ∀ (v60 : Int), ((in32 v60)) → z68 = v60 → (fr [0, 25, 26, 27, 28, 29, 30, 31, 32, 33, 34] s0 sZ) ∧ (gMR lgM sZ) ∧ (in64 rZ) ∧ (KN sZ) ∧ (OR sZ) ∧ (BE sZ) ∧ (FI sZ) ∧ (MN sZ) := by
            intro v60 hq hz
            have hq67 := hq
            replace hT := gl1y hT hz
            obtain ⟨z66, hz66, hT⟩ := gl1x hT
            have j62 : ∀ (v63 : Int), ((in64 v63) ∧ (0 ≤ v63 ∧ v63 ≤ 1000000000000)) → z66 = v63 → (fr [0, 25, 26, 27, 28, 29, 30, 31, 32, 33, 34] s0 sZ) ∧ (gMR lgM sZ) ∧ (in64 rZ) ∧ (KN sZ) ∧ (OR sZ) ∧ (BE sZ) ∧ (FI sZ) ∧ (MN sZ) := by
              intro v63 hq hz
              obtain ⟨hq64, hq65⟩ := hq
              replace hT := gl1y hT hz
              exact ih v60 v63 (v39 + 1) s57 ⟨(by omega), (by omega), (by omega), hf_s57, hm_s57, hKN_s57, hOR_s57, hBE_s57, hFI_s57, hMN_s57, (by first | assumption | omega), (by first | assumption | omega)⟩ (by omega) (fun w43 w44 w45 s46 hw hi => hk w43 w44 w45 s46 (hT.trans hw) hi)
            replace hT := hz66
            by_cases h61 : v38 < (r5 - r52)
            · replace hT := hT.trans (if_pos h61)
              exact j62 (r5 - r52) ⟨(by omega), (by first | assumption | omega)⟩ hT
            · replace hT := hT.trans (if_neg h61)
              exact j62 v38 ⟨(by omega), (by first | assumption | omega)⟩ hT
          replace hT := hz68
          by_cases h58 : v38 < (r5 - r52)
          · replace hT := hT.trans (if_pos h58)
            exact j59 v39 (by omega) hT
          · replace hT := hT.trans (if_neg h58)
            exact j59 v37 (by omega) hT
        · replace hT := hT.trans (if_neg h47)
          exact hk v37 v38 v39 s40 hT ⟨(by omega), (by omega), (by omega), hf_s40, hm_s40, hKN_s40, hOR_s40, hBE_s40, hFI_s40, hMN_s40, (by first | assumption | omega), (by first | assumption | omega)⟩
    refine L41 17 (-1) 0 0 s6 ⟨(by omega), (by omega), (by omega), hf_s6, hm_s6, hKN_s6, hOR_s6, hBE_s6, hFI_s6, hMN_s6, (by first | assumption | omega), (by first | assumption | omega)⟩ (by omega) (fun v79 v80 v81 s82 hw hq => ?_)
    obtain ⟨hq83, hq84, hq85, hf_s82, hm_s82, hKN_s82, hOR_s82, hBE_s82, hFI_s82, hMN_s82, hq86, hq87⟩ := hq
    replace hT := gl4y hT hw
    by_cases h88 : x0 = 0
    · replace hT := hT.trans (if_pos h88)
      obtain ⟨rfl, rfl⟩ := Prod.mk.inj (hT.symm.trans hres)
      exact ⟨hf_s82, hm_s82, (by omega), hKN_s82, hOR_s82, hBE_s82, hFI_s82, hMN_s82⟩
    · replace hT := hT.trans (if_neg h88)
      obtain ⟨rfl, rfl⟩ := Prod.mk.inj (hT.symm.trans hres)
      exact ⟨hf_s82, hm_s82, (by omega), hKN_s82, hOR_s82, hBE_s82, hFI_s82, hMN_s82⟩
set_option maxRecDepth 100000 in
set_option maxHeartbeats 4000000 in
theorem c_X9_stop (l : Launch) (D : va_G) (a : Nat → Nat) (cI cJ cS cT : ClassId) (s0 : gMem) (x0 : Int) (hx0 : in32 x0) (hpre0 : VS s0) (hpre1 : KN s0) (hpre2 : MO s0) (hpre3 : OR s0) (hpre4 : BE s0) (hpre5 : FI s0) (hpre6 : MN s0) (hpre7 : TD s0) : gC l yX9_stop cX9_stop 11 (some .long) 8 512 D vwCl (gT cI cJ cS cT) (wdM a cI cJ) lgM kJ in64 [.ref (a 0), gI x0] s0 (f_X9_stop x0 s0) := by
  refine gC_of (by decide +kernel) (hwdM a cI cJ) (Nat.le_of_ble_eq_true rfl) ?_
  intro A p e R s m args below meth c hR E
  subst hR
  have hT := f_X9_stop_e x0 s0
  have hf_s0 : fr [0, 25, 26, 27, 28, 29, 30, 31, 32, 33, 34] s0 s0 := fr.rf _ _
  refine k_lv0 (lv' := [(0, .ref (a 0)), (1, gI x0)]) rfl ?_
  refine k_mr (fun hm_s0 => ?_)
  have hKN_s0 := hpre1
  have hOR_s0 := hpre3
  have hBE_s0 := hpre4
  have hFI_s0 := hpre5
  have hMN_s0 := hpre6
  refine k_iloadn (pc := 0) E 1 dX9_stop_0 rfl rfl ?_
  refine k_iconst (pc := 1) E dX9_stop_1 ?_
  refine k_iconst (pc := 2) E dX9_stop_2 ?_
  refine k_mr (fun hm_s0 => ?_)
  refine k_callS (pc := 3) (np := 3) (As := [gI x0, gI 0, gI 1]) (st := []) E (c_X9_in l D a cI cJ cS cT s0 x0 0 1 (by omega) (by omega) (by omega)) wm_861 wm_11 wm_859 wm_860 (by decide +kernel) ⟨by decide, by decide⟩ rfl (Nat.le_of_ble_eq_true rfl) dX9_stop_3 (ro_kk (fun hr1 => ?_))
  have hp2 := f_X9_in_p x0 0 1 (by omega) (by omega) (by omega) 
  refine k_st (st' := [gI (f_X9_in x0 0 1)]) rfl ?_
  by_cases h3 : (f_X9_in x0 0 1) = 0
  · replace hT := hT.trans (if_pos h3)
    refine k_if_ne_f (pc := 6) (tgt := 13) E (by omega) dX9_stop_6 (by decide) h3 ?_
    refine k_ldc2 (pc := 9) (n := (-4611686018427387904)) E dX9_stop_9 wm_1128 (by decide) ?_
    exact k_rho hT (k_lret (pc := 12) E dX9_stop_12 (by omega))
  · replace hT := hT.trans (if_neg h3)
    refine k_if_ne_t (pc := 6) (tgt := 13) E (by omega) dX9_stop_6 (by decide) h3 ?_
    refine k_aloadn (pc := 13) E 0 dX9_stop_13 rfl rfl ?_
    refine k_mr (fun hm_s0 => ?_)
    refine k_callV (pc := 14) (np := 0) (As := []) (st := []) (q0 := 0) E (c_X9_plan l D a cI cJ cS cT s0  hpre0 hKN_s0 hpre2 hOR_s0 hBE_s0 hFI_s0 hMN_s0 hpre7) wm_1132 wm_11 wm_1155 wm_1130 wm_1131 (by decide +kernel) rfl rfl ⟨by decide, by decide⟩ rfl (Nat.le_of_ble_eq_true rfl) dX9_stop_14 (fun r5 s6 hs6 hr4 => ?_)
    replace hT := gby hT hs6
    have hp7 := f_X9_plan_p  s0  hm_s0 hpre0 hKN_s0 hpre2 hOR_s0 hBE_s0 hFI_s0 hMN_s0 hpre7 r5 s6 hs6
    obtain ⟨hfc_s6, hm_s6, hp8, hOR_s6, hBE_s6, hFI_s6, hMN_s6, hp9⟩ := hp7
    have hf_s6 : fr [0, 25, 26, 27, 28, 29, 30, 31, 32, 33, 34] s0 s6 := hf_s0.call (by decide) hfc_s6
    have hKN_s6 : KN s6 := fun i => by rw [hfc_s6 0 (by decide)]; exact hKN_s0 i
    refine k_st (st' := [gL r5]) rfl ?_
    refine k_lstoren (pc := 17) (lv' := [(2, gL r5), (0, .ref (a 0)), (1, gI x0)]) E dX9_stop_17 rfl (by decide) rfl ?_
    refine k_iconst (pc := 18) E dX9_stop_18 ?_
    refine k_istore (pc := 19) (lv' := [(4, gI (-1)), (2, gL r5), (0, .ref (a 0)), (1, gI x0)]) E dX9_stop_19 (by decide) rfl ?_
    refine k_lconst0 (pc := 21) E dX9_stop_21 ?_
    refine k_lstore (pc := 22) (lv' := [(5, gL 0), (4, gI (-1)), (2, gL r5), (0, .ref (a 0)), (1, gI x0)]) E dX9_stop_22 (by decide) rfl ?_
    refine k_iconst (pc := 24) E dX9_stop_24 ?_
    refine k_istore (pc := 25) (lv' := [(7, gI 0), (5, gL 0), (4, gI (-1)), (2, gL r5), (0, .ref (a 0)), (1, gI x0)]) E dX9_stop_25 (by decide) rfl ?_
    have L41 : ∀ (n42 : Nat) (v37 : Int) (v38 : Int) (v39 : Int) (s40 : gMem), ((in32 v37) ∧ (in64 v38) ∧ (in32 v39) ∧ (fr [0, 25, 26, 27, 28, 29, 30, 31, 32, 33, 34] s0 s40) ∧ (KN s40) ∧ (OR s40) ∧ (BE s40) ∧ (FI s40) ∧ (MN s40) ∧ (0 ≤ v39 ∧ v39 ≤ 16) ∧ (0 ≤ v38 ∧ v38 ≤ 1000000000000)) → 16 - v39 < (n42 : Int) → (∀ (w43 : Int) (w44 : Int) (w45 : Int) (s46 : gMem), (w_X9_stop_27 x0 r5 n42 v37 v38 v39 s40) = (w43, w44, w45, s46) → ((in32 w43) ∧ (in64 w44) ∧ (in32 w45) ∧ (fr [0, 25, 26, 27, 28, 29, 30, 31, 32, 33, 34] s0 s46) ∧ (KN s46) ∧ (OR s46) ∧ (BE s46) ∧ (FI s46) ∧ (MN s46) ∧ (0 ≤ w45 ∧ w45 ≤ 16) ∧ (0 ≤ w44 ∧ w44 ≤ 1000000000000)) → gK D vwCl (wdM a cI cJ) lgM A p l e { frames := 8, cells := 0, slots := 0, locals := 512 } s m args below meth c 11 (gQQ D vwCl (wdM a cI cJ) lgM A kJ in64 below args s) (f_X9_stop x0 s0) s46 108 [(1, gI x0), (4, gI w43), (5, gL w44)] []) → gK D vwCl (wdM a cI cJ) lgM A p l e { frames := 8, cells := 0, slots := 0, locals := 512 } s m args below meth c 11 (gQQ D vwCl (wdM a cI cJ) lgM A kJ in64 below args s) (f_X9_stop x0 s0) s40 27 [(0, .ref (a 0)), (1, gI x0), (2, gL r5), (4, gI v37), (5, gL v38), (7, gI v39)] [] := by
      intro n42; induction n42 with
      | zero =>
        intro v37 v38 v39 s40 hq hm hk
        exfalso
        obtain ⟨hq69, hq70, hq71, hf_s40, hKN_s40, hOR_s40, hBE_s40, hFI_s40, hMN_s40, hq72, hq73⟩ := hq
        omega
      | succ n42 ih =>
        intro v37 v38 v39 s40 hq hm hk
        obtain ⟨hq74, hq75, hq76, hf_s40, hKN_s40, hOR_s40, hBE_s40, hFI_s40, hMN_s40, hq77, hq78⟩ := hq
        have hT := w_X9_stop_27_s x0 r5 n42 v37 v38 v39 s40
        refine k_iload (pc := 27) E 5 dX9_stop_27 rfl ?_
        refine k_bipush (pc := 29) E dX9_stop_29 (by decide) ?_
        by_cases h47 : v39 < 16
        · replace hT := hT.trans (if_pos h47)
          refine k_icmp_ge_f (pc := 31) (tgt := 108) E (by omega) (by omega) dX9_stop_31 (by decide) h47 ?_
          refine k_aloadn (pc := 34) E 0 dX9_stop_34 rfl rfl ?_
          refine k_getf (pc := 35) (q0 := 0) (f := 0) (v := .ref (a 1)) E inX9 rfl rfl (by decide) wm_898 rfl rfl dX9_stop_35 ?_
          refine k_iload (pc := 38) E 5 dX9_stop_38 rfl ?_
          refine k_iaload (pc := 40) (q0 := 1) (t0 := 0) (k := 0) (n := 16) E rfl rfl rfl (by decide) (by omega) (by omega) dX9_stop_40 (fun hr48 => ?_)
          have hi49 := hKN_s40 v39
          refine k_istore (pc := 41) (lv' := [(8, gI (s40 0 v39)), (0, .ref (a 0)), (1, gI x0), (2, gL r5), (4, gI v37), (5, gL v38), (7, gI v39)]) E dX9_stop_41 (by decide) rfl ?_
          refine k_aloadn (pc := 43) E 1 dX9_stop_43 rfl rfl ?_
          refine k_getf (pc := 44) (q0 := 0) (f := 0) (v := .ref (a 1)) E inX9 rfl rfl (by decide) wm_898 rfl rfl dX9_stop_44 ?_
          refine k_iload (pc := 47) E 6 dX9_stop_47 rfl ?_
          refine k_iconst (pc := 49) E dX9_stop_49 ?_
          refine k_iastore (pc := 50) (q0 := 1) (t0 := 0) (k := 0) (n := 16) E rfl rfl rfl rfl (by decide) (by omega) (by omega) (by omega) dX9_stop_50 ?_
          obtain ⟨s50, hs50, hT⟩ := glx hT
          refine k_sg hs50.symm ?_
          have hf_s50 : fr [0, 25, 26, 27, 28, 29, 30, 31, 32, 33, 34] s0 s50 := hs50 ▸ hf_s40.set (by decide)
          have hKN_s50 : KN s50 := hs50 ▸ KN_set hKN_s40 (by omega)
          have hOR_s50 : OR s50 := fun i => by rw [hs50, mset_ne _ _ _ _ _ (by decide)]; exact hOR_s40 i
          have hBE_s50 : BE s50 := fun i => by rw [hs50, mset_ne _ _ _ _ _ (by decide)]; exact hBE_s40 i
          have hFI_s50 : FI s50 := fun i => by rw [hs50, mset_ne _ _ _ _ _ (by decide)]; exact hFI_s40 i
          have hMN_s50 : MN s50 := fun i => by rw [hs50, mset_ne _ _ _ _ _ (by decide)]; exact hMN_s40 i
          refine k_lloadn (pc := 51) E 3 dX9_stop_51 rfl rfl ?_
          refine k_aloadn (pc := 52) E 1 dX9_stop_52 rfl rfl ?_
          refine k_mr (fun hm_s50 => ?_)
          refine k_callV (pc := 53) (np := 0) (As := []) (st := [gL r5]) (q0 := 0) E (c_X9_plan l D a cI cJ cS cT s50  (by unfold VS; rw [hf_s50 5 (by decide), hf_s50 6 (by decide), hf_s50 7 (by decide), hf_s50 8 (by decide)]; exact hpre0) hKN_s50 (by unfold MO; rw [hf_s50 1 (by decide)]; exact hpre2) hOR_s50 hBE_s50 hFI_s50 hMN_s50 (by unfold TD; rw [hf_s50 2 (by decide)]; exact hpre7)) wm_1132 wm_11 wm_1155 wm_1130 wm_1131 (by decide +kernel) rfl rfl ⟨by decide, by decide⟩ rfl (Nat.le_of_ble_eq_true rfl) dX9_stop_53 (fun r52 s53 hs53 hr51 => ?_)
          replace hT := gby hT hs53
          have hp54 := f_X9_plan_p  s50  hm_s50 (by unfold VS; rw [hf_s50 5 (by decide), hf_s50 6 (by decide), hf_s50 7 (by decide), hf_s50 8 (by decide)]; exact hpre0) hKN_s50 (by unfold MO; rw [hf_s50 1 (by decide)]; exact hpre2) hOR_s50 hBE_s50 hFI_s50 hMN_s50 (by unfold TD; rw [hf_s50 2 (by decide)]; exact hpre7) r52 s53 hs53
          obtain ⟨hfc_s53, hm_s53, hp55, hOR_s53, hBE_s53, hFI_s53, hMN_s53, hp56⟩ := hp54
          have hf_s53 : fr [0, 25, 26, 27, 28, 29, 30, 31, 32, 33, 34] s0 s53 := hf_s50.call (by decide) hfc_s53
          have hKN_s53 : KN s53 := fun i => by rw [hfc_s53 0 (by decide)]; exact hKN_s50 i
          refine k_st (st' := [gL r52, gL r5]) rfl ?_
          refine k_lsub (pc := 56) E dX9_stop_56 ?_
          refine k_lstore (pc := 57) (lv' := [(9, gL (r5 - r52)), (8, gI (s40 0 v39)), (0, .ref (a 0)), (1, gI x0), (2, gL r5), (4, gI v37), (5, gL v38), (7, gI v39)]) E dX9_stop_57 (by decide) rfl ?_
          refine k_aloadn (pc := 59) E 2 dX9_stop_59 rfl rfl ?_
          refine k_getf (pc := 60) (q0 := 0) (f := 0) (v := .ref (a 1)) E inX9 rfl rfl (by decide) wm_898 rfl rfl dX9_stop_60 ?_
          refine k_iload (pc := 63) E 7 dX9_stop_63 rfl ?_
          refine k_iload (pc := 65) E 1 dX9_stop_65 rfl ?_
          refine k_iastore (pc := 67) (q0 := 1) (t0 := 0) (k := 0) (n := 16) E rfl rfl rfl rfl (by decide) (by omega) (by omega) (by omega) dX9_stop_67 ?_
          obtain ⟨s57, hs57, hT⟩ := glx hT
          refine k_sg hs57.symm ?_
          have hf_s57 : fr [0, 25, 26, 27, 28, 29, 30, 31, 32, 33, 34] s0 s57 := hs57 ▸ hf_s53.set (by decide)
          have hKN_s57 : KN s57 := hs57 ▸ KN_set hKN_s53 (by omega)
          have hOR_s57 : OR s57 := fun i => by rw [hs57, mset_ne _ _ _ _ _ (by decide)]; exact hOR_s53 i
          have hBE_s57 : BE s57 := fun i => by rw [hs57, mset_ne _ _ _ _ _ (by decide)]; exact hBE_s53 i
          have hFI_s57 : FI s57 := fun i => by rw [hs57, mset_ne _ _ _ _ _ (by decide)]; exact hFI_s53 i
          have hMN_s57 : MN s57 := fun i => by rw [hs57, mset_ne _ _ _ _ _ (by decide)]; exact hMN_s53 i
          refine k_lload (pc := 68) E 0 dX9_stop_68 rfl ?_
          refine k_lload (pc := 70) E 6 dX9_stop_70 rfl ?_
          obtain ⟨z68, hz68, hT⟩ := gl1x hT
          have j59 : ∀ (v60 : Int), ((in32 v60)) → z68 = v60 → gK D vwCl (wdM a cI cJ) lgM A p l e { frames := 8, cells := 0, slots := 0, locals := 512 } s m args below meth c 11 (gQQ D vwCl (wdM a cI cJ) lgM A kJ in64 below args s) (f_X9_stop x0 s0) s57 83 [(0, .ref (a 0)), (1, gI x0), (2, gL r5), (5, gL v38), (7, gI v39), (9, gL (r5 - r52))] [gI v60] := by
            intro v60 hq hz
            have hq67 := hq
            replace hT := gl1y hT hz
            refine k_istore (pc := 83) (lv' := [(4, gI v60), (0, .ref (a 0)), (1, gI x0), (2, gL r5), (5, gL v38), (7, gI v39), (9, gL (r5 - r52))]) E dX9_stop_83 (by decide) rfl ?_
            refine k_lload (pc := 85) E 6 dX9_stop_85 rfl ?_
            refine k_lload (pc := 87) E 4 dX9_stop_87 rfl ?_
            obtain ⟨z66, hz66, hT⟩ := gl1x hT
            have j62 : ∀ (v63 : Int), ((in64 v63) ∧ (0 ≤ v63 ∧ v63 ≤ 1000000000000)) → z66 = v63 → gK D vwCl (wdM a cI cJ) lgM A p l e { frames := 8, cells := 0, slots := 0, locals := 512 } s m args below meth c 11 (gQQ D vwCl (wdM a cI cJ) lgM A kJ in64 below args s) (f_X9_stop x0 s0) s57 100 [(0, .ref (a 0)), (1, gI x0), (2, gL r5), (4, gI v60), (7, gI v39)] [gL v63] := by
              intro v63 hq hz
              obtain ⟨hq64, hq65⟩ := hq
              replace hT := gl1y hT hz
              refine k_lstore (pc := 100) (lv' := [(5, gL v63), (0, .ref (a 0)), (1, gI x0), (2, gL r5), (4, gI v60), (7, gI v39)]) E dX9_stop_100 (by decide) rfl ?_
              refine k_iinc (pc := 102) (lv' := [(7, gI (v39 + 1)), (5, gL v63), (0, .ref (a 0)), (1, gI x0), (2, gL r5), (4, gI v60)]) E 5 dX9_stop_102 rfl (by decide) rfl ?_
              refine k_goto (pc := 105) (tgt := 27) E dX9_stop_105 (by decide) ?_
              refine k_lv (lv' := [(0, .ref (a 0)), (1, gI x0), (2, gL r5), (4, gI v60), (5, gL v63), (7, gI (v39 + 1))]) [2, 3, 4, 5, 1, 0] rfl ?_
              exact ih v60 v63 (v39 + 1) s57 ⟨(by omega), (by omega), (by omega), hf_s57, hKN_s57, hOR_s57, hBE_s57, hFI_s57, hMN_s57, (by first | assumption | omega), (by first | assumption | omega)⟩ (by omega) (fun w43 w44 w45 s46 hw hi => hk w43 w44 w45 s46 (hT.trans hw) hi)
            replace hT := hz66
            by_cases h61 : v38 < (r5 - r52)
            · replace hT := hT.trans (if_pos h61)
              refine k_lcmp (pc := 89) E dX9_stop_89 (by omega) (by omega) ?_
              refine k_if_le_f (pc := 90) (tgt := 98) E (by (repeat' split) <;> omega) dX9_stop_90 (by decide) (by (repeat' split) <;> omega) ?_
              refine k_lload (pc := 93) E 6 dX9_stop_93 rfl ?_
              refine k_goto (pc := 95) (tgt := 100) E dX9_stop_95 (by decide) ?_
              refine k_lv (lv' := [(0, .ref (a 0)), (1, gI x0), (2, gL r5), (4, gI v60), (7, gI v39)]) [1, 2, 3, 0, 5] rfl ?_
              exact j62 (r5 - r52) ⟨(by omega), (by first | assumption | omega)⟩ hT
            · replace hT := hT.trans (if_neg h61)
              refine k_lcmp (pc := 89) E dX9_stop_89 (by omega) (by omega) ?_
              refine k_if_le_t (pc := 90) (tgt := 98) E (by (repeat' split) <;> omega) dX9_stop_90 (by decide) (by (repeat' split) <;> omega) ?_
              refine k_lload (pc := 98) E 4 dX9_stop_98 rfl ?_
              refine k_lv (lv' := [(0, .ref (a 0)), (1, gI x0), (2, gL r5), (4, gI v60), (7, gI v39)]) [1, 2, 3, 0, 5] rfl ?_
              exact j62 v38 ⟨(by omega), (by first | assumption | omega)⟩ hT
          replace hT := hz68
          by_cases h58 : v38 < (r5 - r52)
          · replace hT := hT.trans (if_pos h58)
            refine k_lcmp (pc := 72) E dX9_stop_72 (by omega) (by omega) ?_
            refine k_if_le_f (pc := 73) (tgt := 81) E (by (repeat' split) <;> omega) dX9_stop_73 (by decide) (by (repeat' split) <;> omega) ?_
            refine k_iload (pc := 76) E 7 dX9_stop_76 rfl ?_
            refine k_goto (pc := 78) (tgt := 83) E dX9_stop_78 (by decide) ?_
            refine k_lv (lv' := [(0, .ref (a 0)), (1, gI x0), (2, gL r5), (5, gL v38), (7, gI v39), (9, gL (r5 - r52))]) [2, 3, 4, 6, 7, 0] rfl ?_
            exact j59 v39 (by omega) hT
          · replace hT := hT.trans (if_neg h58)
            refine k_lcmp (pc := 72) E dX9_stop_72 (by omega) (by omega) ?_
            refine k_if_le_t (pc := 73) (tgt := 81) E (by (repeat' split) <;> omega) dX9_stop_73 (by decide) (by (repeat' split) <;> omega) ?_
            refine k_iload (pc := 81) E 5 dX9_stop_81 rfl ?_
            refine k_lv (lv' := [(0, .ref (a 0)), (1, gI x0), (2, gL r5), (5, gL v38), (7, gI v39), (9, gL (r5 - r52))]) [2, 3, 4, 6, 7, 0] rfl ?_
            exact j59 v37 (by omega) hT
        · replace hT := hT.trans (if_neg h47)
          refine k_icmp_ge_t (pc := 31) (tgt := 108) E (by omega) (by omega) dX9_stop_31 (by decide) h47 ?_
          refine k_lv (lv' := [(1, gI x0), (4, gI v37), (5, gL v38)]) [1, 3, 4] rfl ?_
          exact hk v37 v38 v39 s40 hT ⟨(by omega), (by omega), (by omega), hf_s40, hKN_s40, hOR_s40, hBE_s40, hFI_s40, hMN_s40, (by first | assumption | omega), (by first | assumption | omega)⟩
    refine k_lv (lv' := [(0, .ref (a 0)), (1, gI x0), (2, gL r5), (4, gI (-1)), (5, gL 0), (7, gI 0)]) [4, 5, 3, 2, 1, 0] rfl ?_
    refine L41 17 (-1) 0 0 s6 ⟨(by omega), (by omega), (by omega), hf_s6, hKN_s6, hOR_s6, hBE_s6, hFI_s6, hMN_s6, (by first | assumption | omega), (by first | assumption | omega)⟩ (by omega) (fun v79 v80 v81 s82 hw hq => ?_)
    obtain ⟨hq83, hq84, hq85, hf_s82, hKN_s82, hOR_s82, hBE_s82, hFI_s82, hMN_s82, hq86, hq87⟩ := hq
    replace hT := gl4y hT hw
    refine k_iloadn (pc := 108) E 0 dX9_stop_108 rfl rfl ?_
    by_cases h88 : x0 = 0
    · replace hT := hT.trans (if_pos h88)
      refine k_if_ne_f (pc := 109) (tgt := 118) E (by omega) dX9_stop_109 (by decide) h88 ?_
      refine k_iload (pc := 112) E 1 dX9_stop_112 rfl ?_
      refine k_i2l (pc := 114) E dX9_stop_114 (by omega) ?_
      refine k_goto (pc := 115) (tgt := 120) E dX9_stop_115 (by decide) ?_
      exact k_rho hT (k_lret (pc := 120) E dX9_stop_120 (by omega))
    · replace hT := hT.trans (if_neg h88)
      refine k_if_ne_t (pc := 109) (tgt := 118) E (by omega) dX9_stop_109 (by decide) h88 ?_
      refine k_lload (pc := 118) E 2 dX9_stop_118 rfl ?_
      exact k_rho hT (k_lret (pc := 120) E dX9_stop_120 (by omega))

def w_X9_dear_22 (c1 : Int) : Nat → Int → Int → Int → gMem → Int × Int × Int × gMem
  | 0, v4, v5, v6, s7 => (v4, v5, v6, s7)
  | n8 + 1, v4, v5, v6, s7 => (if v6 < 16 then (gl3 ((if (f_X9_isIn (s7 2 0) v6) = 0 then (v4, v5, s7) else gb (f_X9_meanOf (iand (s7 2 0) (ixor (ishl 1 v6) (-1))) (s7 2 2) s7) (fun r32 s33 => (gj (fun j38c => (if v4 = (-1) then j38c else (if r32 < v5 then j38c else (gl ((if (0 : Int) = 0 then v4 else v6)) (fun v53 => (gl ((if (0 : Int) = 0 then v5 else r32)) (fun v56 => (v53, v56, s33)))))))) ((gl ((if (1 : Int) = 0 then v4 else v6)) (fun v41 => (gl ((if (1 : Int) = 0 then v5 else r32)) (fun v44 => (v41, v44, s33)))))))))) (fun v16 v17 s18 => (w_X9_dear_22 c1 n8 v16 v17 (v6 + 1) s18))) else (v4, v5, v6, s7))
theorem w_X9_dear_22_s (c1 : Int) (n8 : Nat) (v4 : Int) (v5 : Int) (v6 : Int) (s7 : gMem) : w_X9_dear_22 c1 (n8 + 1) v4 v5 v6 s7 = (if v6 < 16 then (gl3 ((if (f_X9_isIn (s7 2 0) v6) = 0 then (v4, v5, s7) else gb (f_X9_meanOf (iand (s7 2 0) (ixor (ishl 1 v6) (-1))) (s7 2 2) s7) (fun r32 s33 => (gj (fun j38c => (if v4 = (-1) then j38c else (if r32 < v5 then j38c else (gl ((if (0 : Int) = 0 then v4 else v6)) (fun v53 => (gl ((if (0 : Int) = 0 then v5 else r32)) (fun v56 => (v53, v56, s33)))))))) ((gl ((if (1 : Int) = 0 then v4 else v6)) (fun v41 => (gl ((if (1 : Int) = 0 then v5 else r32)) (fun v44 => (v41, v44, s33)))))))))) (fun v16 v17 s18 => (w_X9_dear_22 c1 n8 v16 v17 (v6 + 1) s18))) else (v4, v5, v6, s7)) := rfl
def f_X9_dear (x0 : Int) (s0 : gMem) : gRes := (if (f_X9_in x0 0 1) = 0 then ((-4611686018427387904), s0) else (gl4 (w_X9_dear_22 x0 17 (-1) (-1) 0 s0) (fun v135 v136 v137 s138 => (if x0 = 0 then (v135, s138) else (v136, s138)))))
theorem f_X9_dear_e (x0 : Int) (s0 : gMem) : f_X9_dear x0 s0 = (if (f_X9_in x0 0 1) = 0 then ((-4611686018427387904), s0) else (gl4 (w_X9_dear_22 x0 17 (-1) (-1) 0 s0) (fun v135 v136 v137 s138 => (if x0 = 0 then (v135, s138) else (v136, s138))))) := rfl
set_option maxRecDepth 100000 in
set_option maxHeartbeats 4000000 in
theorem f_X9_dear_p (x0 : Int) (s0 : gMem) (hx0 : in32 x0) (hm_s0 : gMR lgM s0) (hpre0 : VS s0) (hpre1 : KN s0) (hpre2 : MO s0) (hpre3 : OR s0) (hpre4 : BE s0) (hpre5 : FI s0) (hpre6 : MN s0) (hpre7 : TD s0) (rZ : Int) (sZ : gMem) (hres : f_X9_dear x0 s0 = (rZ, sZ)) : (fr [25, 26, 27, 28, 29, 30, 31, 32, 33, 34] s0 sZ) ∧ (gMR lgM sZ) ∧ (in64 rZ) ∧ (OR sZ) ∧ (BE sZ) ∧ (FI sZ) ∧ (MN sZ) := by
  have hT := f_X9_dear_e x0 s0
  have hf_s0 : fr [25, 26, 27, 28, 29, 30, 31, 32, 33, 34] s0 s0 := fr.rf _ _
  have hOR_s0 := hpre3
  have hBE_s0 := hpre4
  have hFI_s0 := hpre5
  have hMN_s0 := hpre6
  have hp2 := f_X9_in_p x0 0 1 (by omega) (by omega) (by omega) 
  by_cases h3 : (f_X9_in x0 0 1) = 0
  · replace hT := hT.trans (if_pos h3)
    obtain ⟨rfl, rfl⟩ := Prod.mk.inj (hT.symm.trans hres)
    exact ⟨hf_s0, hm_s0, (by omega), hOR_s0, hBE_s0, hFI_s0, hMN_s0⟩
  · replace hT := hT.trans (if_neg h3)
    have L66 : ∀ (n67 : Nat) (v62 : Int) (v63 : Int) (v64 : Int) (s65 : gMem), ((in32 v62) ∧ (in64 v63) ∧ (in32 v64) ∧ (fr [25, 26, 27, 28, 29, 30, 31, 32, 33, 34] s0 s65) ∧ (gMR lgM s65) ∧ (OR s65) ∧ (BE s65) ∧ (FI s65) ∧ (MN s65) ∧ (0 ≤ v64 ∧ v64 ≤ 16) ∧ (-1 ≤ v63 ∧ v63 ≤ 1000000000000)) → 16 - v64 < (n67 : Int) → (∀ (w68 : Int) (w69 : Int) (w70 : Int) (s71 : gMem), (w_X9_dear_22 x0 n67 v62 v63 v64 s65) = (w68, w69, w70, s71) → ((in32 w68) ∧ (in64 w69) ∧ (in32 w70) ∧ (fr [25, 26, 27, 28, 29, 30, 31, 32, 33, 34] s0 s71) ∧ (gMR lgM s71) ∧ (OR s71) ∧ (BE s71) ∧ (FI s71) ∧ (MN s71) ∧ (0 ≤ w70 ∧ w70 ≤ 16) ∧ (-1 ≤ w69 ∧ w69 ≤ 1000000000000)) → (fr [25, 26, 27, 28, 29, 30, 31, 32, 33, 34] s0 sZ) ∧ (gMR lgM sZ) ∧ (in64 rZ) ∧ (OR sZ) ∧ (BE sZ) ∧ (FI sZ) ∧ (MN sZ)) → (fr [25, 26, 27, 28, 29, 30, 31, 32, 33, 34] s0 sZ) ∧ (gMR lgM sZ) ∧ (in64 rZ) ∧ (OR sZ) ∧ (BE sZ) ∧ (FI sZ) ∧ (MN sZ) := by
      intro n67; induction n67 with
      | zero =>
        intro v62 v63 v64 s65 hq hm hk
        exfalso
        obtain ⟨hq125, hq126, hq127, hf_s65, hm_s65, hOR_s65, hBE_s65, hFI_s65, hMN_s65, hq128, hq129⟩ := hq
        omega
      | succ n67 ih =>
        intro v62 v63 v64 s65 hq hm hk
        obtain ⟨hq130, hq131, hq132, hf_s65, hm_s65, hOR_s65, hBE_s65, hFI_s65, hMN_s65, hq133, hq134⟩ := hq
        have hT := w_X9_dear_22_s x0 n67 v62 v63 v64 s65
        by_cases h72 : v64 < 16
        · replace hT := hT.trans (if_pos h72)
          have hr73 := (hm_s65 2 0).1 rfl
          have hi74 := hpre7 0
          rw [← hf_s65 2 (by decide)] at hi74
          have hp76 := f_X9_isIn_p (s65 2 0) v64 (by omega) (by omega) 
          obtain ⟨z85, hz85, hT⟩ := gl3x hT
          have j78 : ∀ (v79 : Int) (v80 : Int) (s81 : gMem), ((in32 v79) ∧ (in64 v80) ∧ (-1 ≤ v80 ∧ v80 ≤ 1000000000000) ∧ (fr [25, 26, 27, 28, 29, 30, 31, 32, 33, 34] s0 s81) ∧ (gMR lgM s81) ∧ (OR s81) ∧ (BE s81) ∧ (FI s81) ∧ (MN s81)) → z85 = (v79, v80, s81) → (fr [25, 26, 27, 28, 29, 30, 31, 32, 33, 34] s0 sZ) ∧ (gMR lgM sZ) ∧ (in64 rZ) ∧ (OR sZ) ∧ (BE sZ) ∧ (FI sZ) ∧ (MN sZ) := by
            intro v79 v80 s81 hq hz
            obtain ⟨hq82, hq83, hq84, hf_s81, hm_s81, hOR_s81, hBE_s81, hFI_s81, hMN_s81⟩ := hq
            replace hT := gl3y hT hz
            exact ih v79 v80 (v64 + 1) s81 ⟨(by omega), (by omega), (by omega), hf_s81, hm_s81, hOR_s81, hBE_s81, hFI_s81, hMN_s81, (by first | assumption | omega), (by first | assumption | omega)⟩ (by omega) (fun w68 w69 w70 s71 hw hi => hk w68 w69 w70 s71 (hT.trans hw) hi)
          replace hT := hz85
          by_cases h77 : (f_X9_isIn (s65 2 0) v64) = 0
          · replace hT := hT.trans (if_pos h77)
            exact j78 v62 v63 s65 ⟨(by omega), (by omega), (by first | assumption | omega), hf_s65, hm_s65, hOR_s65, hBE_s65, hFI_s65, hMN_s65⟩ hT
          · replace hT := hT.trans (if_neg h77)
            have hr86 := (hm_s65 2 0).1 rfl
            have hi87 := hpre7 0
            rw [← hf_s65 2 (by decide)] at hi87
            have hb88 := ishl_rg 1 v64
            have hb89 : 0 ≤ v64 ∧ v64 ≤ 15 → _ := fun q => ishl_1 q.1 q.2
            have hb90 := ixor_rg (ishl 1 v64) (-1)
            have hb91 := iand_rg (s65 2 0) (ixor (ishl 1 v64) (-1))
            have hr92 := (hm_s65 2 2).1 rfl
            have hi93 := hpre7 2
            rw [← hf_s65 2 (by decide)] at hi93
            obtain ⟨r95, s96, hs96⟩ : ∃ rr ss, (f_X9_meanOf (iand (s65 2 0) (ixor (ishl 1 v64) (-1))) (s65 2 2) s65) = (rr, ss) := ⟨_, _, rfl⟩
            replace hT := gby hT hs96
            have hp97 := f_X9_meanOf_p (iand (s65 2 0) (ixor (ishl 1 v64) (-1))) (s65 2 2) s65 (by omega) (by omega) hm_s65 (by unfold VS; rw [hf_s65 5 (by decide), hf_s65 6 (by decide), hf_s65 7 (by decide), hf_s65 8 (by decide)]; exact hpre0) (by unfold KN; rw [hf_s65 0 (by decide)]; exact hpre1) (by unfold MO; rw [hf_s65 1 (by decide)]; exact hpre2) hOR_s65 hBE_s65 hFI_s65 hMN_s65 (by first | assumption | omega) r95 s96 hs96
            obtain ⟨hfc_s96, hm_s96, hp98, hOR_s96, hBE_s96, hFI_s96, hMN_s96, hp99⟩ := hp97
            have hf_s96 : fr [25, 26, 27, 28, 29, 30, 31, 32, 33, 34] s0 s96 := hf_s65.call (by decide) hfc_s96
            obtain ⟨j101c, hj101c, hT⟩ := gjx hT
            have j101 : (True) → z85 = j101c  → (fr [25, 26, 27, 28, 29, 30, 31, 32, 33, 34] s0 sZ) ∧ (gMR lgM sZ) ∧ (in64 rZ) ∧ (OR sZ) ∧ (BE sZ) ∧ (FI sZ) ∧ (MN sZ) := by
              intro  hq hT
              rw [hj101c] at hT
              obtain ⟨z112, hz112, hT⟩ := gl1x hT
              have j103 : ∀ (v104 : Int), ((in32 v104)) → z112 = v104 → (fr [25, 26, 27, 28, 29, 30, 31, 32, 33, 34] s0 sZ) ∧ (gMR lgM sZ) ∧ (in64 rZ) ∧ (OR sZ) ∧ (BE sZ) ∧ (FI sZ) ∧ (MN sZ) := by
                intro v104 hq hz
                have hq111 := hq
                replace hT := gl1y hT hz
                obtain ⟨z110, hz110, hT⟩ := gl1x hT
                have j106 : ∀ (v107 : Int), ((in64 v107) ∧ (-1 ≤ v107 ∧ v107 ≤ 1000000000000)) → z110 = v107 → (fr [25, 26, 27, 28, 29, 30, 31, 32, 33, 34] s0 sZ) ∧ (gMR lgM sZ) ∧ (in64 rZ) ∧ (OR sZ) ∧ (BE sZ) ∧ (FI sZ) ∧ (MN sZ) := by
                  intro v107 hq hz
                  obtain ⟨hq108, hq109⟩ := hq
                  replace hT := gl1y hT hz
                  exact j78 v104 v107 s96 ⟨(by omega), (by omega), (by first | assumption | omega), hf_s96, hm_s96, hOR_s96, hBE_s96, hFI_s96, hMN_s96⟩ hT
                replace hT := hz110
                by_cases h105 : (1 : Int) = 0
                · replace hT := hT.trans (if_pos h105)
                  exact j106 v63 ⟨(by omega), (by first | assumption | omega)⟩ hT
                · replace hT := hT.trans (if_neg h105)
                  exact j106 r95 ⟨(by omega), (by first | assumption | omega)⟩ hT
              replace hT := hz112
              by_cases h102 : (1 : Int) = 0
              · replace hT := hT.trans (if_pos h102)
                exact j103 v62 (by omega) hT
              · replace hT := hT.trans (if_neg h102)
                exact j103 v64 (by omega) hT
            by_cases h100 : v62 = (-1)
            · replace hT := hT.trans (if_pos h100)
              exact j101  trivial hT
            · replace hT := hT.trans (if_neg h100)
              by_cases h113 : r95 < v63
              · replace hT := hT.trans (if_pos h113)
                exact j101  trivial hT
              · replace hT := hT.trans (if_neg h113)
                obtain ⟨z124, hz124, hT⟩ := gl1x hT
                have j115 : ∀ (v116 : Int), ((in32 v116)) → z124 = v116 → (fr [25, 26, 27, 28, 29, 30, 31, 32, 33, 34] s0 sZ) ∧ (gMR lgM sZ) ∧ (in64 rZ) ∧ (OR sZ) ∧ (BE sZ) ∧ (FI sZ) ∧ (MN sZ) := by
                  intro v116 hq hz
                  have hq123 := hq
                  replace hT := gl1y hT hz
                  obtain ⟨z122, hz122, hT⟩ := gl1x hT
                  have j118 : ∀ (v119 : Int), ((in64 v119) ∧ (-1 ≤ v119 ∧ v119 ≤ 1000000000000)) → z122 = v119 → (fr [25, 26, 27, 28, 29, 30, 31, 32, 33, 34] s0 sZ) ∧ (gMR lgM sZ) ∧ (in64 rZ) ∧ (OR sZ) ∧ (BE sZ) ∧ (FI sZ) ∧ (MN sZ) := by
                    intro v119 hq hz
                    obtain ⟨hq120, hq121⟩ := hq
                    replace hT := gl1y hT hz
                    exact j78 v116 v119 s96 ⟨(by omega), (by omega), (by first | assumption | omega), hf_s96, hm_s96, hOR_s96, hBE_s96, hFI_s96, hMN_s96⟩ hT
                  replace hT := hz122
                  by_cases h117 : (0 : Int) = 0
                  · replace hT := hT.trans (if_pos h117)
                    exact j118 v63 ⟨(by omega), (by first | assumption | omega)⟩ hT
                  · replace hT := hT.trans (if_neg h117)
                    exact j118 r95 ⟨(by omega), (by first | assumption | omega)⟩ hT
                replace hT := hz124
                by_cases h114 : (0 : Int) = 0
                · replace hT := hT.trans (if_pos h114)
                  exact j115 v62 (by omega) hT
                · replace hT := hT.trans (if_neg h114)
                  exact j115 v64 (by omega) hT
        · replace hT := hT.trans (if_neg h72)
          exact hk v62 v63 v64 s65 hT ⟨(by omega), (by omega), (by omega), hf_s65, hm_s65, hOR_s65, hBE_s65, hFI_s65, hMN_s65, (by first | assumption | omega), (by first | assumption | omega)⟩
    refine L66 17 (-1) (-1) 0 s0 ⟨(by omega), (by omega), (by omega), hf_s0, hm_s0, hOR_s0, hBE_s0, hFI_s0, hMN_s0, (by first | assumption | omega), (by first | assumption | omega)⟩ (by omega) (fun v135 v136 v137 s138 hw hq => ?_)
    obtain ⟨hq139, hq140, hq141, hf_s138, hm_s138, hOR_s138, hBE_s138, hFI_s138, hMN_s138, hq142, hq143⟩ := hq
    replace hT := gl4y hT hw
    by_cases h144 : x0 = 0
    · replace hT := hT.trans (if_pos h144)
      obtain ⟨rfl, rfl⟩ := Prod.mk.inj (hT.symm.trans hres)
      exact ⟨hf_s138, hm_s138, (by omega), hOR_s138, hBE_s138, hFI_s138, hMN_s138⟩
    · replace hT := hT.trans (if_neg h144)
      obtain ⟨rfl, rfl⟩ := Prod.mk.inj (hT.symm.trans hres)
      exact ⟨hf_s138, hm_s138, (by omega), hOR_s138, hBE_s138, hFI_s138, hMN_s138⟩
set_option maxRecDepth 100000 in
set_option maxHeartbeats 4000000 in
theorem c_X9_dear (l : Launch) (D : va_G) (a : Nat → Nat) (cI cJ cS cT : ClassId) (s0 : gMem) (x0 : Int) (hx0 : in32 x0) (hpre0 : VS s0) (hpre1 : KN s0) (hpre2 : MO s0) (hpre3 : OR s0) (hpre4 : BE s0) (hpre5 : FI s0) (hpre6 : MN s0) (hpre7 : TD s0) : gC l yX9_dear cX9_dear 9 (some .long) 7 448 D vwCl (gT cI cJ cS cT) (wdM a cI cJ) lgM kJ in64 [.ref (a 0), gI x0] s0 (f_X9_dear x0 s0) := by
  refine gC_of (by decide +kernel) (hwdM a cI cJ) (Nat.le_of_ble_eq_true rfl) ?_
  intro A p e R s m args below meth c hR E
  subst hR
  have hT := f_X9_dear_e x0 s0
  have hf_s0 : fr [25, 26, 27, 28, 29, 30, 31, 32, 33, 34] s0 s0 := fr.rf _ _
  refine k_lv0 (lv' := [(0, .ref (a 0)), (1, gI x0)]) rfl ?_
  refine k_mr (fun hm_s0 => ?_)
  have hOR_s0 := hpre3
  have hBE_s0 := hpre4
  have hFI_s0 := hpre5
  have hMN_s0 := hpre6
  refine k_iloadn (pc := 0) E 1 dX9_dear_0 rfl rfl ?_
  refine k_iconst (pc := 1) E dX9_dear_1 ?_
  refine k_iconst (pc := 2) E dX9_dear_2 ?_
  refine k_mr (fun hm_s0 => ?_)
  refine k_callS (pc := 3) (np := 3) (As := [gI x0, gI 0, gI 1]) (st := []) E (c_X9_in l D a cI cJ cS cT s0 x0 0 1 (by omega) (by omega) (by omega)) wm_861 wm_11 wm_859 wm_860 (by decide +kernel) ⟨by decide, by decide⟩ rfl (Nat.le_of_ble_eq_true rfl) dX9_dear_3 (ro_kk (fun hr1 => ?_))
  have hp2 := f_X9_in_p x0 0 1 (by omega) (by omega) (by omega) 
  refine k_st (st' := [gI (f_X9_in x0 0 1)]) rfl ?_
  by_cases h3 : (f_X9_in x0 0 1) = 0
  · replace hT := hT.trans (if_pos h3)
    refine k_if_ne_f (pc := 6) (tgt := 13) E (by omega) dX9_dear_6 (by decide) h3 ?_
    refine k_ldc2 (pc := 9) (n := (-4611686018427387904)) E dX9_dear_9 wm_1128 (by decide) ?_
    exact k_rho hT (k_lret (pc := 12) E dX9_dear_12 (by omega))
  · replace hT := hT.trans (if_neg h3)
    refine k_if_ne_t (pc := 6) (tgt := 13) E (by omega) dX9_dear_6 (by decide) h3 ?_
    refine k_iconst (pc := 13) E dX9_dear_13 ?_
    refine k_istoren (pc := 14) (lv' := [(2, gI (-1)), (0, .ref (a 0)), (1, gI x0)]) E dX9_dear_14 rfl (by decide) rfl ?_
    refine k_ldc2 (pc := 15) (n := (-1)) E dX9_dear_15 wm_1105 (by decide) ?_
    refine k_lstoren (pc := 18) (lv' := [(3, gL (-1)), (2, gI (-1)), (0, .ref (a 0)), (1, gI x0)]) E dX9_dear_18 rfl (by decide) rfl ?_
    refine k_iconst (pc := 19) E dX9_dear_19 ?_
    refine k_istore (pc := 20) (lv' := [(5, gI 0), (3, gL (-1)), (2, gI (-1)), (0, .ref (a 0)), (1, gI x0)]) E dX9_dear_20 (by decide) rfl ?_
    have L66 : ∀ (n67 : Nat) (v62 : Int) (v63 : Int) (v64 : Int) (s65 : gMem), ((in32 v62) ∧ (in64 v63) ∧ (in32 v64) ∧ (fr [25, 26, 27, 28, 29, 30, 31, 32, 33, 34] s0 s65) ∧ (OR s65) ∧ (BE s65) ∧ (FI s65) ∧ (MN s65) ∧ (0 ≤ v64 ∧ v64 ≤ 16) ∧ (-1 ≤ v63 ∧ v63 ≤ 1000000000000)) → 16 - v64 < (n67 : Int) → (∀ (w68 : Int) (w69 : Int) (w70 : Int) (s71 : gMem), (w_X9_dear_22 x0 n67 v62 v63 v64 s65) = (w68, w69, w70, s71) → ((in32 w68) ∧ (in64 w69) ∧ (in32 w70) ∧ (fr [25, 26, 27, 28, 29, 30, 31, 32, 33, 34] s0 s71) ∧ (OR s71) ∧ (BE s71) ∧ (FI s71) ∧ (MN s71) ∧ (0 ≤ w70 ∧ w70 ≤ 16) ∧ (-1 ≤ w69 ∧ w69 ≤ 1000000000000)) → gK D vwCl (wdM a cI cJ) lgM A p l e { frames := 7, cells := 0, slots := 0, locals := 448 } s m args below meth c 9 (gQQ D vwCl (wdM a cI cJ) lgM A kJ in64 below args s) (f_X9_dear x0 s0) s71 117 [(1, gI x0), (2, gI w68), (3, gL w69)] []) → gK D vwCl (wdM a cI cJ) lgM A p l e { frames := 7, cells := 0, slots := 0, locals := 448 } s m args below meth c 9 (gQQ D vwCl (wdM a cI cJ) lgM A kJ in64 below args s) (f_X9_dear x0 s0) s65 22 [(0, .ref (a 0)), (1, gI x0), (2, gI v62), (3, gL v63), (5, gI v64)] [] := by
      intro n67; induction n67 with
      | zero =>
        intro v62 v63 v64 s65 hq hm hk
        exfalso
        obtain ⟨hq125, hq126, hq127, hf_s65, hOR_s65, hBE_s65, hFI_s65, hMN_s65, hq128, hq129⟩ := hq
        omega
      | succ n67 ih =>
        intro v62 v63 v64 s65 hq hm hk
        obtain ⟨hq130, hq131, hq132, hf_s65, hOR_s65, hBE_s65, hFI_s65, hMN_s65, hq133, hq134⟩ := hq
        have hT := w_X9_dear_22_s x0 n67 v62 v63 v64 s65
        refine k_iload (pc := 22) E 4 dX9_dear_22 rfl ?_
        refine k_bipush (pc := 24) E dX9_dear_24 (by decide) ?_
        by_cases h72 : v64 < 16
        · replace hT := hT.trans (if_pos h72)
          refine k_icmp_ge_f (pc := 26) (tgt := 117) E (by omega) (by omega) dX9_dear_26 (by decide) h72 ?_
          refine k_aloadn (pc := 29) E 0 dX9_dear_29 rfl rfl ?_
          refine k_getf (pc := 30) (q0 := 0) (f := 2) (v := .ref (a 3)) E inX9 rfl rfl (by decide) wm_900 rfl rfl dX9_dear_30 ?_
          refine k_iconst (pc := 33) E dX9_dear_33 ?_
          refine k_iaload (pc := 34) (q0 := 3) (t0 := 0) (k := 2) (n := 4) E rfl rfl rfl (by decide) (by omega) (by omega) dX9_dear_34 (fun hr73 => ?_)
          have hi74 := hpre7 0
          rw [← hf_s65 2 (by decide)] at hi74
          refine k_iload (pc := 35) E 4 dX9_dear_35 rfl ?_
          refine k_mr (fun hm_s65 => ?_)
          refine k_callS (pc := 37) (np := 2) (As := [gI (s65 2 0), gI v64]) (st := []) E (c_X9_isIn l D a cI cJ cS cT s65 (s65 2 0) v64 (by omega) (by omega)) wm_1088 wm_11 wm_1086 wm_1087 (by decide +kernel) ⟨by decide, by decide⟩ rfl (Nat.le_of_ble_eq_true rfl) dX9_dear_37 (ro_kk (fun hr75 => ?_))
          have hp76 := f_X9_isIn_p (s65 2 0) v64 (by omega) (by omega) 
          refine k_st (st' := [gI (f_X9_isIn (s65 2 0) v64)]) rfl ?_
          obtain ⟨z85, hz85, hT⟩ := gl3x hT
          have j78 : ∀ (v79 : Int) (v80 : Int) (s81 : gMem), ((in32 v79) ∧ (in64 v80) ∧ (-1 ≤ v80 ∧ v80 ≤ 1000000000000) ∧ (fr [25, 26, 27, 28, 29, 30, 31, 32, 33, 34] s0 s81) ∧ (OR s81) ∧ (BE s81) ∧ (FI s81) ∧ (MN s81)) → z85 = (v79, v80, s81) → gK D vwCl (wdM a cI cJ) lgM A p l e { frames := 7, cells := 0, slots := 0, locals := 448 } s m args below meth c 9 (gQQ D vwCl (wdM a cI cJ) lgM A kJ in64 below args s) (f_X9_dear x0 s0) s81 111 [(0, .ref (a 0)), (1, gI x0), (2, gI v79), (3, gL v80), (5, gI v64)] [] := by
            intro v79 v80 s81 hq hz
            obtain ⟨hq82, hq83, hq84, hf_s81, hOR_s81, hBE_s81, hFI_s81, hMN_s81⟩ := hq
            replace hT := gl3y hT hz
            refine k_iinc (pc := 111) (lv' := [(5, gI (v64 + 1)), (0, .ref (a 0)), (1, gI x0), (2, gI v79), (3, gL v80)]) E 4 dX9_dear_111 rfl (by decide) rfl ?_
            refine k_goto (pc := 114) (tgt := 22) E dX9_dear_114 (by decide) ?_
            refine k_lv (lv' := [(0, .ref (a 0)), (1, gI x0), (2, gI v79), (3, gL v80), (5, gI (v64 + 1))]) [1, 2, 3, 4, 0] rfl ?_
            exact ih v79 v80 (v64 + 1) s81 ⟨(by omega), (by omega), (by omega), hf_s81, hOR_s81, hBE_s81, hFI_s81, hMN_s81, (by first | assumption | omega), (by first | assumption | omega)⟩ (by omega) (fun w68 w69 w70 s71 hw hi => hk w68 w69 w70 s71 (hT.trans hw) hi)
          replace hT := hz85
          by_cases h77 : (f_X9_isIn (s65 2 0) v64) = 0
          · replace hT := hT.trans (if_pos h77)
            refine k_if_eq_t (pc := 40) (tgt := 111) E (by omega) dX9_dear_40 (by decide) h77 ?_
            exact j78 v62 v63 s65 ⟨(by omega), (by omega), (by first | assumption | omega), hf_s65, hOR_s65, hBE_s65, hFI_s65, hMN_s65⟩ hT
          · replace hT := hT.trans (if_neg h77)
            refine k_if_eq_f (pc := 40) (tgt := 111) E (by omega) dX9_dear_40 (by decide) h77 ?_
            refine k_aloadn (pc := 43) E 0 dX9_dear_43 rfl rfl ?_
            refine k_aloadn (pc := 44) E 0 dX9_dear_44 rfl rfl ?_
            refine k_getf (pc := 45) (q0 := 0) (f := 2) (v := .ref (a 3)) E inX9 rfl rfl (by decide) wm_900 rfl rfl dX9_dear_45 ?_
            refine k_iconst (pc := 48) E dX9_dear_48 ?_
            refine k_iaload (pc := 49) (q0 := 3) (t0 := 0) (k := 2) (n := 4) E rfl rfl rfl (by decide) (by omega) (by omega) dX9_dear_49 (fun hr86 => ?_)
            have hi87 := hpre7 0
            rw [← hf_s65 2 (by decide)] at hi87
            refine k_iconst (pc := 50) E dX9_dear_50 ?_
            refine k_iload (pc := 51) E 4 dX9_dear_51 rfl ?_
            refine k_ishl (pc := 53) E dX9_dear_53 ?_
            have hb88 := ishl_rg 1 v64
            have hb89 : 0 ≤ v64 ∧ v64 ≤ 15 → _ := fun q => ishl_1 q.1 q.2
            refine k_iconst (pc := 54) E dX9_dear_54 ?_
            refine k_ixor (pc := 55) E dX9_dear_55 ?_
            have hb90 := ixor_rg (ishl 1 v64) (-1)
            refine k_iand (pc := 56) E dX9_dear_56 ?_
            have hb91 := iand_rg (s65 2 0) (ixor (ishl 1 v64) (-1))
            refine k_aloadn (pc := 57) E 0 dX9_dear_57 rfl rfl ?_
            refine k_getf (pc := 58) (q0 := 0) (f := 2) (v := .ref (a 3)) E inX9 rfl rfl (by decide) wm_900 rfl rfl dX9_dear_58 ?_
            refine k_iconst (pc := 61) E dX9_dear_61 ?_
            refine k_iaload (pc := 62) (q0 := 3) (t0 := 0) (k := 2) (n := 4) E rfl rfl rfl (by decide) (by omega) (by omega) dX9_dear_62 (fun hr92 => ?_)
            have hi93 := hpre7 2
            rw [← hf_s65 2 (by decide)] at hi93
            refine k_mr (fun hm_s65 => ?_)
            refine k_callV (pc := 63) (np := 2) (As := [gI (iand (s65 2 0) (ixor (ishl 1 v64) (-1))), gI (s65 2 2)]) (st := []) (q0 := 0) E (c_X9_meanOf l D a cI cJ cS cT s65 (iand (s65 2 0) (ixor (ishl 1 v64) (-1))) (s65 2 2) (by omega) (by omega) (by unfold VS; rw [hf_s65 5 (by decide), hf_s65 6 (by decide), hf_s65 7 (by decide), hf_s65 8 (by decide)]; exact hpre0) (by unfold KN; rw [hf_s65 0 (by decide)]; exact hpre1) (by unfold MO; rw [hf_s65 1 (by decide)]; exact hpre2) hOR_s65 hBE_s65 hFI_s65 hMN_s65 (by first | assumption | omega)) wm_1104 wm_11 wm_1101 wm_1103 wp_42 (by decide +kernel) rfl rfl ⟨by decide, by decide⟩ rfl (Nat.le_of_ble_eq_true rfl) dX9_dear_63 (fun r95 s96 hs96 hr94 => ?_)
            replace hT := gby hT hs96
            have hp97 := f_X9_meanOf_p (iand (s65 2 0) (ixor (ishl 1 v64) (-1))) (s65 2 2) s65 (by omega) (by omega) hm_s65 (by unfold VS; rw [hf_s65 5 (by decide), hf_s65 6 (by decide), hf_s65 7 (by decide), hf_s65 8 (by decide)]; exact hpre0) (by unfold KN; rw [hf_s65 0 (by decide)]; exact hpre1) (by unfold MO; rw [hf_s65 1 (by decide)]; exact hpre2) hOR_s65 hBE_s65 hFI_s65 hMN_s65 (by first | assumption | omega) r95 s96 hs96
            obtain ⟨hfc_s96, hm_s96, hp98, hOR_s96, hBE_s96, hFI_s96, hMN_s96, hp99⟩ := hp97
            have hf_s96 : fr [25, 26, 27, 28, 29, 30, 31, 32, 33, 34] s0 s96 := hf_s65.call (by decide) hfc_s96
            refine k_st (st' := [gL r95]) rfl ?_
            refine k_lstore (pc := 66) (lv' := [(6, gL r95), (0, .ref (a 0)), (1, gI x0), (2, gI v62), (3, gL v63), (5, gI v64)]) E dX9_dear_66 (by decide) rfl ?_
            refine k_iloadn (pc := 68) E 3 dX9_dear_68 rfl rfl ?_
            refine k_iconst (pc := 69) E dX9_dear_69 ?_
            obtain ⟨j101c, hj101c, hT⟩ := gjx hT
            have j101 : (True) → z85 = j101c  → gK D vwCl (wdM a cI cJ) lgM A p l e { frames := 7, cells := 0, slots := 0, locals := 448 } s m args below meth c 9 (gQQ D vwCl (wdM a cI cJ) lgM A kJ in64 below args s) (f_X9_dear x0 s0) s96 80 [(0, .ref (a 0)), (1, gI x0), (2, gI v62), (3, gL v63), (5, gI v64), (6, gL r95)] [] := by
              intro  hq hT
              rw [hj101c] at hT
              refine k_iconst (pc := 80) E dX9_dear_80 ?_
              refine k_goto (pc := 81) (tgt := 85) E dX9_dear_81 (by decide) ?_
              refine k_istore (pc := 85) (lv' := [(8, gI 1), (0, .ref (a 0)), (1, gI x0), (2, gI v62), (3, gL v63), (5, gI v64), (6, gL r95)]) E dX9_dear_85 (by decide) rfl ?_
              refine k_iload (pc := 87) E 0 dX9_dear_87 rfl ?_
              obtain ⟨z112, hz112, hT⟩ := gl1x hT
              have j103 : ∀ (v104 : Int), ((in32 v104)) → z112 = v104 → gK D vwCl (wdM a cI cJ) lgM A p l e { frames := 7, cells := 0, slots := 0, locals := 448 } s m args below meth c 9 (gQQ D vwCl (wdM a cI cJ) lgM A kJ in64 below args s) (f_X9_dear x0 s0) s96 98 [(0, .ref (a 0)), (1, gI x0), (3, gL v63), (5, gI v64), (6, gL r95), (8, gI 1)] [gI v104] := by
                intro v104 hq hz
                have hq111 := hq
                replace hT := gl1y hT hz
                refine k_istoren (pc := 98) (lv' := [(2, gI v104), (0, .ref (a 0)), (1, gI x0), (3, gL v63), (5, gI v64), (6, gL r95), (8, gI 1)]) E dX9_dear_98 rfl (by decide) rfl ?_
                refine k_iload (pc := 99) E 6 dX9_dear_99 rfl ?_
                obtain ⟨z110, hz110, hT⟩ := gl1x hT
                have j106 : ∀ (v107 : Int), ((in64 v107) ∧ (-1 ≤ v107 ∧ v107 ≤ 1000000000000)) → z110 = v107 → gK D vwCl (wdM a cI cJ) lgM A p l e { frames := 7, cells := 0, slots := 0, locals := 448 } s m args below meth c 9 (gQQ D vwCl (wdM a cI cJ) lgM A kJ in64 below args s) (f_X9_dear x0 s0) s96 110 [(0, .ref (a 0)), (1, gI x0), (2, gI v104), (5, gI v64)] [gL v107] := by
                  intro v107 hq hz
                  obtain ⟨hq108, hq109⟩ := hq
                  replace hT := gl1y hT hz
                  refine k_lstoren (pc := 110) (lv' := [(3, gL v107), (0, .ref (a 0)), (1, gI x0), (2, gI v104), (5, gI v64)]) E dX9_dear_110 rfl (by decide) rfl ?_
                  refine k_lv (lv' := [(0, .ref (a 0)), (1, gI x0), (2, gI v104), (3, gL v107), (5, gI v64)]) [1, 2, 3, 0, 4] rfl ?_
                  exact j78 v104 v107 s96 ⟨(by omega), (by omega), (by first | assumption | omega), hf_s96, hOR_s96, hBE_s96, hFI_s96, hMN_s96⟩ hT
                replace hT := hz110
                by_cases h105 : (1 : Int) = 0
                · replace hT := hT.trans (if_pos h105)
                  refine k_if_eq_t (pc := 101) (tgt := 109) E (by omega) dX9_dear_101 (by decide) h105 ?_
                  refine k_lloadn (pc := 109) E 3 dX9_dear_109 rfl rfl ?_
                  refine k_lv (lv' := [(0, .ref (a 0)), (1, gI x0), (2, gI v104), (5, gI v64)]) [1, 2, 0, 4] rfl ?_
                  exact j106 v63 ⟨(by omega), (by first | assumption | omega)⟩ hT
                · replace hT := hT.trans (if_neg h105)
                  refine k_if_eq_f (pc := 101) (tgt := 109) E (by omega) dX9_dear_101 (by decide) h105 ?_
                  refine k_lload (pc := 104) E 5 dX9_dear_104 rfl ?_
                  refine k_goto (pc := 106) (tgt := 110) E dX9_dear_106 (by decide) ?_
                  refine k_lv (lv' := [(0, .ref (a 0)), (1, gI x0), (2, gI v104), (5, gI v64)]) [1, 2, 0, 4] rfl ?_
                  exact j106 r95 ⟨(by omega), (by first | assumption | omega)⟩ hT
              replace hT := hz112
              by_cases h102 : (1 : Int) = 0
              · replace hT := hT.trans (if_pos h102)
                refine k_if_eq_t (pc := 89) (tgt := 97) E (by omega) dX9_dear_89 (by decide) h102 ?_
                refine k_iloadn (pc := 97) E 3 dX9_dear_97 rfl rfl ?_
                refine k_lv (lv' := [(0, .ref (a 0)), (1, gI x0), (3, gL v63), (5, gI v64), (6, gL r95), (8, gI 1)]) [1, 2, 4, 5, 6, 0] rfl ?_
                exact j103 v62 (by omega) hT
              · replace hT := hT.trans (if_neg h102)
                refine k_if_eq_f (pc := 89) (tgt := 97) E (by omega) dX9_dear_89 (by decide) h102 ?_
                refine k_iload (pc := 92) E 5 dX9_dear_92 rfl ?_
                refine k_goto (pc := 94) (tgt := 98) E dX9_dear_94 (by decide) ?_
                refine k_lv (lv' := [(0, .ref (a 0)), (1, gI x0), (3, gL v63), (5, gI v64), (6, gL r95), (8, gI 1)]) [1, 2, 4, 5, 6, 0] rfl ?_
                exact j103 v64 (by omega) hT
            by_cases h100 : v62 = (-1)
            · replace hT := hT.trans (if_pos h100)
              refine k_icmp_eq_t (pc := 70) (tgt := 80) E (by omega) (by omega) dX9_dear_70 (by decide) h100 ?_
              refine k_lv (lv' := [(0, .ref (a 0)), (1, gI x0), (2, gI v62), (3, gL v63), (5, gI v64), (6, gL r95)]) [1, 2, 3, 4, 5, 0] rfl ?_
              exact j101  trivial hT
            · replace hT := hT.trans (if_neg h100)
              refine k_icmp_eq_f (pc := 70) (tgt := 80) E (by omega) (by omega) dX9_dear_70 (by decide) h100 ?_
              refine k_lload (pc := 73) E 0 dX9_dear_73 rfl ?_
              refine k_lloadn (pc := 75) E 4 dX9_dear_75 rfl rfl ?_
              by_cases h113 : r95 < v63
              · replace hT := hT.trans (if_pos h113)
                refine k_lcmp (pc := 76) E dX9_dear_76 (by omega) (by omega) ?_
                refine k_if_ge_f (pc := 77) (tgt := 84) E (by (repeat' split) <;> omega) dX9_dear_77 (by decide) (by (repeat' split) <;> omega) ?_
                refine k_lv (lv' := [(0, .ref (a 0)), (1, gI x0), (2, gI v62), (3, gL v63), (5, gI v64), (6, gL r95)]) [1, 2, 3, 4, 5, 0] rfl ?_
                exact j101  trivial hT
              · replace hT := hT.trans (if_neg h113)
                refine k_lcmp (pc := 76) E dX9_dear_76 (by omega) (by omega) ?_
                refine k_if_ge_t (pc := 77) (tgt := 84) E (by (repeat' split) <;> omega) dX9_dear_77 (by decide) (by (repeat' split) <;> omega) ?_
                refine k_iconst (pc := 84) E dX9_dear_84 ?_
                refine k_istore (pc := 85) (lv' := [(8, gI 0), (6, gL r95), (0, .ref (a 0)), (1, gI x0), (2, gI v62), (3, gL v63), (5, gI v64)]) E dX9_dear_85 (by decide) rfl ?_
                refine k_iload (pc := 87) E 0 dX9_dear_87 rfl ?_
                obtain ⟨z124, hz124, hT⟩ := gl1x hT
                have j115 : ∀ (v116 : Int), ((in32 v116)) → z124 = v116 → gK D vwCl (wdM a cI cJ) lgM A p l e { frames := 7, cells := 0, slots := 0, locals := 448 } s m args below meth c 9 (gQQ D vwCl (wdM a cI cJ) lgM A kJ in64 below args s) (f_X9_dear x0 s0) s96 98 [(0, .ref (a 0)), (1, gI x0), (3, gL v63), (5, gI v64), (6, gL r95), (8, gI 0)] [gI v116] := by
                  intro v116 hq hz
                  have hq123 := hq
                  replace hT := gl1y hT hz
                  refine k_istoren (pc := 98) (lv' := [(2, gI v116), (0, .ref (a 0)), (1, gI x0), (3, gL v63), (5, gI v64), (6, gL r95), (8, gI 0)]) E dX9_dear_98 rfl (by decide) rfl ?_
                  refine k_iload (pc := 99) E 6 dX9_dear_99 rfl ?_
                  obtain ⟨z122, hz122, hT⟩ := gl1x hT
                  have j118 : ∀ (v119 : Int), ((in64 v119) ∧ (-1 ≤ v119 ∧ v119 ≤ 1000000000000)) → z122 = v119 → gK D vwCl (wdM a cI cJ) lgM A p l e { frames := 7, cells := 0, slots := 0, locals := 448 } s m args below meth c 9 (gQQ D vwCl (wdM a cI cJ) lgM A kJ in64 below args s) (f_X9_dear x0 s0) s96 110 [(0, .ref (a 0)), (1, gI x0), (2, gI v116), (5, gI v64)] [gL v119] := by
                    intro v119 hq hz
                    obtain ⟨hq120, hq121⟩ := hq
                    replace hT := gl1y hT hz
                    refine k_lstoren (pc := 110) (lv' := [(3, gL v119), (0, .ref (a 0)), (1, gI x0), (2, gI v116), (5, gI v64)]) E dX9_dear_110 rfl (by decide) rfl ?_
                    refine k_lv (lv' := [(0, .ref (a 0)), (1, gI x0), (2, gI v116), (3, gL v119), (5, gI v64)]) [1, 2, 3, 0, 4] rfl ?_
                    exact j78 v116 v119 s96 ⟨(by omega), (by omega), (by first | assumption | omega), hf_s96, hOR_s96, hBE_s96, hFI_s96, hMN_s96⟩ hT
                  replace hT := hz122
                  by_cases h117 : (0 : Int) = 0
                  · replace hT := hT.trans (if_pos h117)
                    refine k_if_eq_t (pc := 101) (tgt := 109) E (by omega) dX9_dear_101 (by decide) h117 ?_
                    refine k_lloadn (pc := 109) E 3 dX9_dear_109 rfl rfl ?_
                    refine k_lv (lv' := [(0, .ref (a 0)), (1, gI x0), (2, gI v116), (5, gI v64)]) [1, 2, 0, 4] rfl ?_
                    exact j118 v63 ⟨(by omega), (by first | assumption | omega)⟩ hT
                  · replace hT := hT.trans (if_neg h117)
                    refine k_if_eq_f (pc := 101) (tgt := 109) E (by omega) dX9_dear_101 (by decide) h117 ?_
                    refine k_lload (pc := 104) E 5 dX9_dear_104 rfl ?_
                    refine k_goto (pc := 106) (tgt := 110) E dX9_dear_106 (by decide) ?_
                    refine k_lv (lv' := [(0, .ref (a 0)), (1, gI x0), (2, gI v116), (5, gI v64)]) [1, 2, 0, 4] rfl ?_
                    exact j118 r95 ⟨(by omega), (by first | assumption | omega)⟩ hT
                replace hT := hz124
                by_cases h114 : (0 : Int) = 0
                · replace hT := hT.trans (if_pos h114)
                  refine k_if_eq_t (pc := 89) (tgt := 97) E (by omega) dX9_dear_89 (by decide) h114 ?_
                  refine k_iloadn (pc := 97) E 4 dX9_dear_97 rfl rfl ?_
                  refine k_lv (lv' := [(0, .ref (a 0)), (1, gI x0), (3, gL v63), (5, gI v64), (6, gL r95), (8, gI 0)]) [2, 3, 5, 6, 1, 0] rfl ?_
                  exact j115 v62 (by omega) hT
                · replace hT := hT.trans (if_neg h114)
                  refine k_if_eq_f (pc := 89) (tgt := 97) E (by omega) dX9_dear_89 (by decide) h114 ?_
                  refine k_iload (pc := 92) E 6 dX9_dear_92 rfl ?_
                  refine k_goto (pc := 94) (tgt := 98) E dX9_dear_94 (by decide) ?_
                  refine k_lv (lv' := [(0, .ref (a 0)), (1, gI x0), (3, gL v63), (5, gI v64), (6, gL r95), (8, gI 0)]) [2, 3, 5, 6, 1, 0] rfl ?_
                  exact j115 v64 (by omega) hT
        · replace hT := hT.trans (if_neg h72)
          refine k_icmp_ge_t (pc := 26) (tgt := 117) E (by omega) (by omega) dX9_dear_26 (by decide) h72 ?_
          refine k_lv (lv' := [(1, gI x0), (2, gI v62), (3, gL v63)]) [1, 2, 3] rfl ?_
          exact hk v62 v63 v64 s65 hT ⟨(by omega), (by omega), (by omega), hf_s65, hOR_s65, hBE_s65, hFI_s65, hMN_s65, (by first | assumption | omega), (by first | assumption | omega)⟩
    refine k_lv (lv' := [(0, .ref (a 0)), (1, gI x0), (2, gI (-1)), (3, gL (-1)), (5, gI 0)]) [3, 4, 2, 1, 0] rfl ?_
    refine L66 17 (-1) (-1) 0 s0 ⟨(by omega), (by omega), (by omega), hf_s0, hOR_s0, hBE_s0, hFI_s0, hMN_s0, (by first | assumption | omega), (by first | assumption | omega)⟩ (by omega) (fun v135 v136 v137 s138 hw hq => ?_)
    obtain ⟨hq139, hq140, hq141, hf_s138, hOR_s138, hBE_s138, hFI_s138, hMN_s138, hq142, hq143⟩ := hq
    replace hT := gl4y hT hw
    refine k_iloadn (pc := 117) E 0 dX9_dear_117 rfl rfl ?_
    by_cases h144 : x0 = 0
    · replace hT := hT.trans (if_pos h144)
      refine k_if_ne_f (pc := 118) (tgt := 126) E (by omega) dX9_dear_118 (by decide) h144 ?_
      refine k_iloadn (pc := 121) E 1 dX9_dear_121 rfl rfl ?_
      refine k_i2l (pc := 122) E dX9_dear_122 (by omega) ?_
      refine k_goto (pc := 123) (tgt := 127) E dX9_dear_123 (by decide) ?_
      exact k_rho hT (k_lret (pc := 127) E dX9_dear_127 (by omega))
    · replace hT := hT.trans (if_neg h144)
      refine k_if_ne_t (pc := 118) (tgt := 126) E (by omega) dX9_dear_118 (by decide) h144 ?_
      refine k_lloadn (pc := 126) E 2 dX9_dear_126 rfl rfl ?_
      exact k_rho hT (k_lret (pc := 127) E dX9_dear_127 (by omega))

def w_X9_likely_36 (c1 : Int) : Nat → Int → Int → gMem → Int × Int × gMem
  | 0, v15, v16, s17 => (v15, v16, s17)
  | n18 + 1, v15, v16, s17 => (if v16 < (s17 30 0) then gb (f_X9_fallsOf (s17 27 v16) (s17 28 v16) s17) (fun r26 s27 => gl ((v15 * (100 - r26)) / 100) (fun v35 => (w_X9_likely_36 c1 n18 v35 (v16 + 1) s27))) else (v15, v16, s17))
theorem w_X9_likely_36_s (c1 : Int) (n18 : Nat) (v15 : Int) (v16 : Int) (s17 : gMem) : w_X9_likely_36 c1 (n18 + 1) v15 v16 s17 = (if v16 < (s17 30 0) then gb (f_X9_fallsOf (s17 27 v16) (s17 28 v16) s17) (fun r26 s27 => gl ((v15 * (100 - r26)) / 100) (fun v35 => (w_X9_likely_36 c1 n18 v35 (v16 + 1) s27))) else (v15, v16, s17)) := rfl
def w_X9_likely_84 (c1 : Int) : Nat → Int → Int → gMem → Int × Int × gMem
  | 0, v79, v80, s81 => (v79, v80, s81)
  | n82 + 1, v79, v80, s81 => (if v80 < 16 then (gl2 ((if (f_X9_isIn c1 v80) = 0 then (v79, s81) else gb (f_X9_fallsOf v80 0 s81) (fun r95 s96 => (((v79 * (100 - r95)) / 100), s96)))) (fun v88 s89 => (w_X9_likely_84 c1 n82 v88 (v80 + 1) s89))) else (v79, v80, s81))
theorem w_X9_likely_84_s (c1 : Int) (n82 : Nat) (v79 : Int) (v80 : Int) (s81 : gMem) : w_X9_likely_84 c1 (n82 + 1) v79 v80 s81 = (if v80 < 16 then (gl2 ((if (f_X9_isIn c1 v80) = 0 then (v79, s81) else gb (f_X9_fallsOf v80 0 s81) (fun r95 s96 => (((v79 * (100 - r95)) / 100), s96)))) (fun v88 s89 => (w_X9_likely_84 c1 n82 v88 (v80 + 1) s89))) else (v79, v80, s81)) := rfl
def f_X9_likely (x0 : Int) (x1 : Int) (s0 : gMem) : gRes := (if (f_X9_in x0 0 65535) = 0 then ((-4611686018427387904), s0) else (if (f_X9_in x1 0 2) = 0 then ((-4611686018427387904), s0) else gb (f_X9_orders x0 x1 s0) (fun r8 s9 => (gl3 (w_X9_likely_36 x0 17 1000000000 0 s9) (fun v71 v72 s73 => (gl3 (w_X9_likely_84 x0 17 v71 0 s73) (fun v143 v144 s145 => (v143, s145))))))))
theorem f_X9_likely_e (x0 : Int) (x1 : Int) (s0 : gMem) : f_X9_likely x0 x1 s0 = (if (f_X9_in x0 0 65535) = 0 then ((-4611686018427387904), s0) else (if (f_X9_in x1 0 2) = 0 then ((-4611686018427387904), s0) else gb (f_X9_orders x0 x1 s0) (fun r8 s9 => (gl3 (w_X9_likely_36 x0 17 1000000000 0 s9) (fun v71 v72 s73 => (gl3 (w_X9_likely_84 x0 17 v71 0 s73) (fun v143 v144 s145 => (v143, s145)))))))) := rfl
set_option maxRecDepth 100000 in
set_option maxHeartbeats 4000000 in
theorem f_X9_likely_p (x0 : Int) (x1 : Int) (s0 : gMem) (hx0 : in32 x0) (hx1 : in32 x1) (hm_s0 : gMR lgM s0) (hpre0 : VS s0) (hpre1 : KN s0) (hpre2 : MO s0) (hpre3 : OR s0) (hpre4 : BE s0) (hpre5 : FI s0) (rZ : Int) (sZ : gMem) (hres : f_X9_likely x0 x1 s0 = (rZ, sZ)) : (fr [25, 26, 27, 28, 29, 30, 31, 32, 33] s0 sZ) ∧ (gMR lgM sZ) ∧ (in64 rZ) ∧ (OR sZ) ∧ (BE sZ) ∧ (FI sZ) := by
  have hT := f_X9_likely_e x0 x1 s0
  have hf_s0 : fr [25, 26, 27, 28, 29, 30, 31, 32, 33] s0 s0 := fr.rf _ _
  have hOR_s0 := hpre3
  have hBE_s0 := hpre4
  have hFI_s0 := hpre5
  have hp2 := f_X9_in_p x0 0 65535 (by omega) (by omega) (by omega) 
  by_cases h3 : (f_X9_in x0 0 65535) = 0
  · replace hT := hT.trans (if_pos h3)
    obtain ⟨rfl, rfl⟩ := Prod.mk.inj (hT.symm.trans hres)
    exact ⟨hf_s0, hm_s0, (by omega), hOR_s0, hBE_s0, hFI_s0⟩
  · replace hT := hT.trans (if_neg h3)
    have hp5 := f_X9_in_p x1 0 2 (by omega) (by omega) (by omega) 
    by_cases h6 : (f_X9_in x1 0 2) = 0
    · replace hT := hT.trans (if_pos h6)
      obtain ⟨rfl, rfl⟩ := Prod.mk.inj (hT.symm.trans hres)
      exact ⟨hf_s0, hm_s0, (by omega), hOR_s0, hBE_s0, hFI_s0⟩
    · replace hT := hT.trans (if_neg h6)
      obtain ⟨r8, s9, hs9⟩ : ∃ rr ss, (f_X9_orders x0 x1 s0) = (rr, ss) := ⟨_, _, rfl⟩
      replace hT := gby hT hs9
      have hp10 := f_X9_orders_p x0 x1 s0 (by omega) (by omega) hm_s0 hOR_s0 hBE_s0 hFI_s0 (by first | assumption | omega) r8 s9 hs9
      obtain ⟨hfc_s9, hm_s9, hp11, hOR_s9, hBE_s9, hFI_s9, hp12, hp13, hp14⟩ := hp10
      have hf_s9 : fr [25, 26, 27, 28, 29, 30, 31, 32, 33] s0 s9 := hf_s0.call (by decide) hfc_s9
      have L39 : ∀ (n40 : Nat) (v36 : Int) (v37 : Int) (s38 : gMem), ((in64 v36) ∧ (in32 v37) ∧ (fr [25, 26, 27, 28, 29, 30, 31, 32, 33] s0 s38) ∧ (gMR lgM s38) ∧ (OR s38) ∧ (BE s38) ∧ (FI s38) ∧ (s38 30 0 = s9 30 0) ∧ (0 ≤ v37 ∧ v37 ≤ 16) ∧ (0 ≤ v36 ∧ v36 ≤ 1000000000)) → 16 - v37 < (n40 : Int) → (∀ (w41 : Int) (w42 : Int) (s43 : gMem), (w_X9_likely_36 x0 n40 v36 v37 s38) = (w41, w42, s43) → ((in64 w41) ∧ (in32 w42) ∧ (fr [25, 26, 27, 28, 29, 30, 31, 32, 33] s0 s43) ∧ (gMR lgM s43) ∧ (OR s43) ∧ (BE s43) ∧ (FI s43) ∧ (s43 30 0 = s9 30 0) ∧ (0 ≤ w42 ∧ w42 ≤ 16) ∧ (0 ≤ w41 ∧ w41 ≤ 1000000000)) → (fr [25, 26, 27, 28, 29, 30, 31, 32, 33] s0 sZ) ∧ (gMR lgM sZ) ∧ (in64 rZ) ∧ (OR sZ) ∧ (BE sZ) ∧ (FI sZ)) → (fr [25, 26, 27, 28, 29, 30, 31, 32, 33] s0 sZ) ∧ (gMR lgM sZ) ∧ (in64 rZ) ∧ (OR sZ) ∧ (BE sZ) ∧ (FI sZ) := by
        intro n40; induction n40 with
        | zero =>
          intro v36 v37 s38 hq hm hk
          exfalso
          obtain ⟨hq61, hq62, hf_s38, hm_s38, hOR_s38, hBE_s38, hFI_s38, hq63, hq64, hq65⟩ := hq
          omega
        | succ n40 ih =>
          intro v36 v37 s38 hq hm hk
          obtain ⟨hq66, hq67, hf_s38, hm_s38, hOR_s38, hBE_s38, hFI_s38, hq68, hq69, hq70⟩ := hq
          have hT := w_X9_likely_36_s x0 n40 v36 v37 s38
          have hr44 := (hm_s38 30 0).1 rfl
          by_cases h45 : v37 < (s38 30 0)
          · replace hT := hT.trans (if_pos h45)
            have hr46 := (hm_s38 27 v37).1 rfl
            have hi47 := hOR_s38 v37
            have hr48 := (hm_s38 28 v37).1 rfl
            have hi49 := hBE_s38 v37
            obtain ⟨r51, s52, hs52⟩ : ∃ rr ss, (f_X9_fallsOf (s38 27 v37) (s38 28 v37) s38) = (rr, ss) := ⟨_, _, rfl⟩
            replace hT := gby hT hs52
            have hp53 := f_X9_fallsOf_p (s38 27 v37) (s38 28 v37) s38 (by omega) (by omega) hm_s38 (by unfold VS; rw [hf_s38 5 (by decide), hf_s38 6 (by decide), hf_s38 7 (by decide), hf_s38 8 (by decide)]; exact hpre0) (by unfold KN; rw [hf_s38 0 (by decide)]; exact hpre1) (by unfold MO; rw [hf_s38 1 (by decide)]; exact hpre2) (by first | assumption | omega) (by first | assumption | omega) r51 s52 hs52
            obtain ⟨hfc_s52, hm_s52, hp54, hp55⟩ := hp53
            have hf_s52 : fr [25, 26, 27, 28, 29, 30, 31, 32, 33] s0 s52 := hf_s38.call (by decide) hfc_s52
            have hOR_s52 : OR s52 := fun i => by rw [hfc_s52 27 (by decide)]; exact hOR_s38 i
            have hBE_s52 : BE s52 := fun i => by rw [hfc_s52 28 (by decide)]; exact hBE_s38 i
            have hFI_s52 : FI s52 := fun i => by rw [hfc_s52 29 (by decide)]; exact hFI_s38 i
            have ht56 : s52 30 0 = s38 30 0 := by rw [hfc_s52 30 (by decide)]
            have km := mul_rg (a := 1000000000) (b := 100) (x := v36) (y := (100 - r51)) (by omega) (by omega) (by omega) (by omega)
            have hd57 : (0 : Int) ≤ (v36 * (100 - r51)) := (by omega)
            have hd58 : (0 : Int) < 100 := (by omega)
            have hb59 := dv_rg hd57 hd58
            obtain ⟨v60, hv60, hT⟩ := glx hT
            exact ih v60 (v37 + 1) s52 ⟨(by omega), (by omega), hf_s52, hm_s52, hOR_s52, hBE_s52, hFI_s52, (by first | assumption | omega), (by first | assumption | omega), (by first | assumption | omega)⟩ (by omega) (fun w41 w42 s43 hw hi => hk w41 w42 s43 (hT.trans hw) hi)
          · replace hT := hT.trans (if_neg h45)
            exact hk v36 v37 s38 hT ⟨(by omega), (by omega), hf_s38, hm_s38, hOR_s38, hBE_s38, hFI_s38, (by first | assumption | omega), (by first | assumption | omega), (by first | assumption | omega)⟩
      refine L39 17 1000000000 0 s9 ⟨(by omega), (by omega), hf_s9, hm_s9, hOR_s9, hBE_s9, hFI_s9, (by first | assumption | omega), (by first | assumption | omega), (by first | assumption | omega)⟩ (by omega) (fun v71 v72 s73 hw hq => ?_)
      obtain ⟨hq74, hq75, hf_s73, hm_s73, hOR_s73, hBE_s73, hFI_s73, hq76, hq77, hq78⟩ := hq
      replace hT := gl3y hT hw
      have L107 : ∀ (n108 : Nat) (v104 : Int) (v105 : Int) (s106 : gMem), ((in64 v104) ∧ (in32 v105) ∧ (fr [25, 26, 27, 28, 29, 30, 31, 32, 33] s0 s106) ∧ (gMR lgM s106) ∧ (OR s106) ∧ (BE s106) ∧ (FI s106) ∧ (s106 30 0 = s73 30 0) ∧ (0 ≤ v105 ∧ v105 ≤ 16) ∧ (0 ≤ v104 ∧ v104 ≤ 1000000000)) → 16 - v105 < (n108 : Int) → (∀ (w109 : Int) (w110 : Int) (s111 : gMem), (w_X9_likely_84 x0 n108 v104 v105 s106) = (w109, w110, s111) → ((in64 w109) ∧ (in32 w110) ∧ (fr [25, 26, 27, 28, 29, 30, 31, 32, 33] s0 s111) ∧ (gMR lgM s111) ∧ (OR s111) ∧ (BE s111) ∧ (FI s111) ∧ (s111 30 0 = s73 30 0) ∧ (0 ≤ w110 ∧ w110 ≤ 16) ∧ (0 ≤ w109 ∧ w109 ≤ 1000000000)) → (fr [25, 26, 27, 28, 29, 30, 31, 32, 33] s0 sZ) ∧ (gMR lgM sZ) ∧ (in64 rZ) ∧ (OR sZ) ∧ (BE sZ) ∧ (FI sZ)) → (fr [25, 26, 27, 28, 29, 30, 31, 32, 33] s0 sZ) ∧ (gMR lgM sZ) ∧ (in64 rZ) ∧ (OR sZ) ∧ (BE sZ) ∧ (FI sZ) := by
        intro n108; induction n108 with
        | zero =>
          intro v104 v105 s106 hq hm hk
          exfalso
          obtain ⟨hq133, hq134, hf_s106, hm_s106, hOR_s106, hBE_s106, hFI_s106, hq135, hq136, hq137⟩ := hq
          omega
        | succ n108 ih =>
          intro v104 v105 s106 hq hm hk
          obtain ⟨hq138, hq139, hf_s106, hm_s106, hOR_s106, hBE_s106, hFI_s106, hq140, hq141, hq142⟩ := hq
          have hT := w_X9_likely_84_s x0 n108 v104 v105 s106
          by_cases h112 : v105 < 16
          · replace hT := hT.trans (if_pos h112)
            have hp114 := f_X9_isIn_p x0 v105 (by omega) (by omega) 
            obtain ⟨z122, hz122, hT⟩ := gl2x hT
            have j116 : ∀ (v117 : Int) (s118 : gMem), ((in64 v117) ∧ (0 ≤ v117 ∧ v117 ≤ 1000000000) ∧ (fr [25, 26, 27, 28, 29, 30, 31, 32, 33] s0 s118) ∧ (gMR lgM s118) ∧ (OR s118) ∧ (BE s118) ∧ (FI s118) ∧ (s118 30 0 = s106 30 0)) → z122 = (v117, s118) → (fr [25, 26, 27, 28, 29, 30, 31, 32, 33] s0 sZ) ∧ (gMR lgM sZ) ∧ (in64 rZ) ∧ (OR sZ) ∧ (BE sZ) ∧ (FI sZ) := by
              intro v117 s118 hq hz
              obtain ⟨hq119, hq120, hf_s118, hm_s118, hOR_s118, hBE_s118, hFI_s118, hq121⟩ := hq
              replace hT := gl2y hT hz
              exact ih v117 (v105 + 1) s118 ⟨(by omega), (by omega), hf_s118, hm_s118, hOR_s118, hBE_s118, hFI_s118, (by first | assumption | omega), (by first | assumption | omega), (by first | assumption | omega)⟩ (by omega) (fun w109 w110 s111 hw hi => hk w109 w110 s111 (hT.trans hw) hi)
            replace hT := hz122
            by_cases h115 : (f_X9_isIn x0 v105) = 0
            · replace hT := hT.trans (if_pos h115)
              exact j116 v104 s106 ⟨(by omega), (by first | assumption | omega), hf_s106, hm_s106, hOR_s106, hBE_s106, hFI_s106, (by first | assumption | omega)⟩ hT
            · replace hT := hT.trans (if_neg h115)
              obtain ⟨r124, s125, hs125⟩ : ∃ rr ss, (f_X9_fallsOf v105 0 s106) = (rr, ss) := ⟨_, _, rfl⟩
              replace hT := gby hT hs125
              have hp126 := f_X9_fallsOf_p v105 0 s106 (by omega) (by omega) hm_s106 (by unfold VS; rw [hf_s106 5 (by decide), hf_s106 6 (by decide), hf_s106 7 (by decide), hf_s106 8 (by decide)]; exact hpre0) (by unfold KN; rw [hf_s106 0 (by decide)]; exact hpre1) (by unfold MO; rw [hf_s106 1 (by decide)]; exact hpre2) (by first | assumption | omega) (by first | assumption | omega) r124 s125 hs125
              obtain ⟨hfc_s125, hm_s125, hp127, hp128⟩ := hp126
              have hf_s125 : fr [25, 26, 27, 28, 29, 30, 31, 32, 33] s0 s125 := hf_s106.call (by decide) hfc_s125
              have hOR_s125 : OR s125 := fun i => by rw [hfc_s125 27 (by decide)]; exact hOR_s106 i
              have hBE_s125 : BE s125 := fun i => by rw [hfc_s125 28 (by decide)]; exact hBE_s106 i
              have hFI_s125 : FI s125 := fun i => by rw [hfc_s125 29 (by decide)]; exact hFI_s106 i
              have ht129 : s125 30 0 = s106 30 0 := by rw [hfc_s125 30 (by decide)]
              have km := mul_rg (a := 1000000000) (b := 100) (x := v104) (y := (100 - r124)) (by omega) (by omega) (by omega) (by omega)
              have hd130 : (0 : Int) ≤ (v104 * (100 - r124)) := (by omega)
              have hd131 : (0 : Int) < 100 := (by omega)
              have hb132 := dv_rg hd130 hd131
              exact j116 ((v104 * (100 - r124)) / 100) s125 ⟨(by omega), (by first | assumption | omega), hf_s125, hm_s125, hOR_s125, hBE_s125, hFI_s125, (by first | assumption | omega)⟩ hT
          · replace hT := hT.trans (if_neg h112)
            exact hk v104 v105 s106 hT ⟨(by omega), (by omega), hf_s106, hm_s106, hOR_s106, hBE_s106, hFI_s106, (by first | assumption | omega), (by first | assumption | omega), (by first | assumption | omega)⟩
      refine L107 17 v71 0 s73 ⟨(by omega), (by omega), hf_s73, hm_s73, hOR_s73, hBE_s73, hFI_s73, (by first | assumption | omega), (by first | assumption | omega), (by first | assumption | omega)⟩ (by omega) (fun v143 v144 s145 hw hq => ?_)
      obtain ⟨hq146, hq147, hf_s145, hm_s145, hOR_s145, hBE_s145, hFI_s145, hq148, hq149, hq150⟩ := hq
      replace hT := gl3y hT hw
      obtain ⟨rfl, rfl⟩ := Prod.mk.inj (hT.symm.trans hres)
      exact ⟨hf_s145, hm_s145, (by omega), hOR_s145, hBE_s145, hFI_s145⟩
set_option maxRecDepth 100000 in
set_option maxHeartbeats 4000000 in
theorem c_X9_likely (l : Launch) (D : va_G) (a : Nat → Nat) (cI cJ cS cT : ClassId) (s0 : gMem) (x0 : Int) (x1 : Int) (hx0 : in32 x0) (hx1 : in32 x1) (hpre0 : VS s0) (hpre1 : KN s0) (hpre2 : MO s0) (hpre3 : OR s0) (hpre4 : BE s0) (hpre5 : FI s0) : gC l yX9_likely cX9_likely 6 (some .long) 5 320 D vwCl (gT cI cJ cS cT) (wdM a cI cJ) lgM kJ in64 [.ref (a 0), gI x0, gI x1] s0 (f_X9_likely x0 x1 s0) := by
  refine gC_of (by decide +kernel) (hwdM a cI cJ) (Nat.le_of_ble_eq_true rfl) ?_
  intro A p e R s m args below meth c hR E
  subst hR
  have hT := f_X9_likely_e x0 x1 s0
  have hf_s0 : fr [25, 26, 27, 28, 29, 30, 31, 32, 33] s0 s0 := fr.rf _ _
  refine k_lv0 (lv' := [(0, .ref (a 0)), (1, gI x0), (2, gI x1)]) rfl ?_
  refine k_mr (fun hm_s0 => ?_)
  have hOR_s0 := hpre3
  have hBE_s0 := hpre4
  have hFI_s0 := hpre5
  refine k_iloadn (pc := 0) E 1 dX9_likely_0 rfl rfl ?_
  refine k_iconst (pc := 1) E dX9_likely_1 ?_
  refine k_ldc (pc := 2) (n := 65535) E dX9_likely_2 wm_1021 (by decide) ?_
  refine k_mr (fun hm_s0 => ?_)
  refine k_callS (pc := 4) (np := 3) (As := [gI x0, gI 0, gI 65535]) (st := []) E (c_X9_in l D a cI cJ cS cT s0 x0 0 65535 (by omega) (by omega) (by omega)) wm_861 wm_11 wm_859 wm_860 (by decide +kernel) ⟨by decide, by decide⟩ rfl (Nat.le_of_ble_eq_true rfl) dX9_likely_4 (ro_kk (fun hr1 => ?_))
  have hp2 := f_X9_in_p x0 0 65535 (by omega) (by omega) (by omega) 
  refine k_st (st' := [gI (f_X9_in x0 0 65535)]) rfl ?_
  by_cases h3 : (f_X9_in x0 0 65535) = 0
  · replace hT := hT.trans (if_pos h3)
    refine k_if_eq_t (pc := 7) (tgt := 19) E (by omega) dX9_likely_7 (by decide) h3 ?_
    refine k_ldc2 (pc := 19) (n := (-4611686018427387904)) E dX9_likely_19 wm_1128 (by decide) ?_
    exact k_rho hT (k_lret (pc := 22) E dX9_likely_22 (by omega))
  · replace hT := hT.trans (if_neg h3)
    refine k_if_eq_f (pc := 7) (tgt := 19) E (by omega) dX9_likely_7 (by decide) h3 ?_
    refine k_iloadn (pc := 10) E 2 dX9_likely_10 rfl rfl ?_
    refine k_iconst (pc := 11) E dX9_likely_11 ?_
    refine k_iconst (pc := 12) E dX9_likely_12 ?_
    refine k_mr (fun hm_s0 => ?_)
    refine k_callS (pc := 13) (np := 3) (As := [gI x1, gI 0, gI 2]) (st := []) E (c_X9_in l D a cI cJ cS cT s0 x1 0 2 (by omega) (by omega) (by omega)) wm_861 wm_11 wm_859 wm_860 (by decide +kernel) ⟨by decide, by decide⟩ rfl (Nat.le_of_ble_eq_true rfl) dX9_likely_13 (ro_kk (fun hr4 => ?_))
    have hp5 := f_X9_in_p x1 0 2 (by omega) (by omega) (by omega) 
    refine k_st (st' := [gI (f_X9_in x1 0 2)]) rfl ?_
    by_cases h6 : (f_X9_in x1 0 2) = 0
    · replace hT := hT.trans (if_pos h6)
      refine k_if_ne_f (pc := 16) (tgt := 23) E (by omega) dX9_likely_16 (by decide) h6 ?_
      refine k_ldc2 (pc := 19) (n := (-4611686018427387904)) E dX9_likely_19 wm_1128 (by decide) ?_
      exact k_rho hT (k_lret (pc := 22) E dX9_likely_22 (by omega))
    · replace hT := hT.trans (if_neg h6)
      refine k_if_ne_t (pc := 16) (tgt := 23) E (by omega) dX9_likely_16 (by decide) h6 ?_
      refine k_ldc2 (pc := 23) (n := 1000000000) E dX9_likely_23 wm_1164 (by decide) ?_
      refine k_lstoren (pc := 26) (lv' := [(3, gL 1000000000), (0, .ref (a 0)), (1, gI x0), (2, gI x1)]) E dX9_likely_26 rfl (by decide) rfl ?_
      refine k_aloadn (pc := 27) E 1 dX9_likely_27 rfl rfl ?_
      refine k_iloadn (pc := 28) E 2 dX9_likely_28 rfl rfl ?_
      refine k_iloadn (pc := 29) E 3 dX9_likely_29 rfl rfl ?_
      refine k_mr (fun hm_s0 => ?_)
      refine k_callV (pc := 30) (np := 2) (As := [gI x0, gI x1]) (st := []) (q0 := 0) E (c_X9_orders l D a cI cJ cS cT s0 x0 x1 (by omega) (by omega) hOR_s0 hBE_s0 hFI_s0 (by first | assumption | omega)) wm_1085 wm_11 wm_1082 wm_1084 wp_39 (by decide +kernel) rfl rfl ⟨by decide, by decide⟩ rfl (Nat.le_of_ble_eq_true rfl) dX9_likely_30 (fun r8 s9 hs9 hr7 => ?_)
      replace hT := gby hT hs9
      have hp10 := f_X9_orders_p x0 x1 s0 (by omega) (by omega) hm_s0 hOR_s0 hBE_s0 hFI_s0 (by first | assumption | omega) r8 s9 hs9
      obtain ⟨hfc_s9, hm_s9, hp11, hOR_s9, hBE_s9, hFI_s9, hp12, hp13, hp14⟩ := hp10
      have hf_s9 : fr [25, 26, 27, 28, 29, 30, 31, 32, 33] s0 s9 := hf_s0.call (by decide) hfc_s9
      refine k_st (st' := []) rfl ?_
      refine k_iconst (pc := 33) E dX9_likely_33 ?_
      refine k_istore (pc := 34) (lv' := [(5, gI 0), (3, gL 1000000000), (0, .ref (a 0)), (1, gI x0), (2, gI x1)]) E dX9_likely_34 (by decide) rfl ?_
      have L39 : ∀ (n40 : Nat) (v36 : Int) (v37 : Int) (s38 : gMem), ((in64 v36) ∧ (in32 v37) ∧ (fr [25, 26, 27, 28, 29, 30, 31, 32, 33] s0 s38) ∧ (OR s38) ∧ (BE s38) ∧ (FI s38) ∧ (s38 30 0 = s9 30 0) ∧ (0 ≤ v37 ∧ v37 ≤ 16) ∧ (0 ≤ v36 ∧ v36 ≤ 1000000000)) → 16 - v37 < (n40 : Int) → (∀ (w41 : Int) (w42 : Int) (s43 : gMem), (w_X9_likely_36 x0 n40 v36 v37 s38) = (w41, w42, s43) → ((in64 w41) ∧ (in32 w42) ∧ (fr [25, 26, 27, 28, 29, 30, 31, 32, 33] s0 s43) ∧ (OR s43) ∧ (BE s43) ∧ (FI s43) ∧ (s43 30 0 = s9 30 0) ∧ (0 ≤ w42 ∧ w42 ≤ 16) ∧ (0 ≤ w41 ∧ w41 ≤ 1000000000)) → gK D vwCl (wdM a cI cJ) lgM A p l e { frames := 5, cells := 0, slots := 0, locals := 320 } s m args below meth c 6 (gQQ D vwCl (wdM a cI cJ) lgM A kJ in64 below args s) (f_X9_likely x0 x1 s0) s43 81 [(0, .ref (a 0)), (1, gI x0), (3, gL w41)] []) → gK D vwCl (wdM a cI cJ) lgM A p l e { frames := 5, cells := 0, slots := 0, locals := 320 } s m args below meth c 6 (gQQ D vwCl (wdM a cI cJ) lgM A kJ in64 below args s) (f_X9_likely x0 x1 s0) s38 36 [(0, .ref (a 0)), (1, gI x0), (3, gL v36), (5, gI v37)] [] := by
        intro n40; induction n40 with
        | zero =>
          intro v36 v37 s38 hq hm hk
          exfalso
          obtain ⟨hq61, hq62, hf_s38, hOR_s38, hBE_s38, hFI_s38, hq63, hq64, hq65⟩ := hq
          omega
        | succ n40 ih =>
          intro v36 v37 s38 hq hm hk
          obtain ⟨hq66, hq67, hf_s38, hOR_s38, hBE_s38, hFI_s38, hq68, hq69, hq70⟩ := hq
          have hT := w_X9_likely_36_s x0 n40 v36 v37 s38
          refine k_iload (pc := 36) E 3 dX9_likely_36 rfl ?_
          refine k_aloadn (pc := 38) E 0 dX9_likely_38 rfl rfl ?_
          refine k_getfI (pc := 39) (q0 := 0) (f := 30) (k := 30) E inX9 rfl rfl (by decide) wm_928 rfl rfl rfl dX9_likely_39 (fun hr44 => ?_)
          by_cases h45 : v37 < (s38 30 0)
          · replace hT := hT.trans (if_pos h45)
            refine k_icmp_ge_f (pc := 42) (tgt := 81) E (by omega) (by omega) dX9_likely_42 (by decide) h45 ?_
            refine k_lloadn (pc := 45) E 2 dX9_likely_45 rfl rfl ?_
            refine k_ldc2 (pc := 46) (n := 100) E dX9_likely_46 wm_1111 (by decide) ?_
            refine k_aloadn (pc := 49) E 0 dX9_likely_49 rfl rfl ?_
            refine k_aloadn (pc := 50) E 0 dX9_likely_50 rfl rfl ?_
            refine k_getf (pc := 51) (q0 := 0) (f := 27) (v := .ref (a 16)) E inX9 rfl rfl (by decide) wm_925 rfl rfl dX9_likely_51 ?_
            refine k_iload (pc := 54) E 3 dX9_likely_54 rfl ?_
            refine k_iaload (pc := 56) (q0 := 16) (t0 := 0) (k := 27) (n := 16) E rfl rfl rfl (by decide) (by omega) (by omega) dX9_likely_56 (fun hr46 => ?_)
            have hi47 := hOR_s38 v37
            refine k_aloadn (pc := 57) E 0 dX9_likely_57 rfl rfl ?_
            refine k_getf (pc := 58) (q0 := 0) (f := 28) (v := .ref (a 17)) E inX9 rfl rfl (by decide) wm_926 rfl rfl dX9_likely_58 ?_
            refine k_iload (pc := 61) E 3 dX9_likely_61 rfl ?_
            refine k_iaload (pc := 63) (q0 := 17) (t0 := 0) (k := 28) (n := 16) E rfl rfl rfl (by decide) (by omega) (by omega) dX9_likely_63 (fun hr48 => ?_)
            have hi49 := hBE_s38 v37
            refine k_mr (fun hm_s38 => ?_)
            refine k_callV (pc := 64) (np := 2) (As := [gI (s38 27 v37), gI (s38 28 v37)]) (st := [gL 100, gL v36]) (q0 := 0) E (c_X9_fallsOf l D a cI cJ cS cT s38 (s38 27 v37) (s38 28 v37) (by omega) (by omega) (by unfold VS; rw [hf_s38 5 (by decide), hf_s38 6 (by decide), hf_s38 7 (by decide), hf_s38 8 (by decide)]; exact hpre0) (by unfold KN; rw [hf_s38 0 (by decide)]; exact hpre1) (by unfold MO; rw [hf_s38 1 (by decide)]; exact hpre2) (by first | assumption | omega) (by first | assumption | omega)) wm_1069 wm_11 wm_1066 wm_1068 wp_36 (by decide +kernel) rfl rfl ⟨by decide, by decide⟩ rfl (Nat.le_of_ble_eq_true rfl) dX9_likely_64 (fun r51 s52 hs52 hr50 => ?_)
            replace hT := gby hT hs52
            have hp53 := f_X9_fallsOf_p (s38 27 v37) (s38 28 v37) s38 (by omega) (by omega) hm_s38 (by unfold VS; rw [hf_s38 5 (by decide), hf_s38 6 (by decide), hf_s38 7 (by decide), hf_s38 8 (by decide)]; exact hpre0) (by unfold KN; rw [hf_s38 0 (by decide)]; exact hpre1) (by unfold MO; rw [hf_s38 1 (by decide)]; exact hpre2) (by first | assumption | omega) (by first | assumption | omega) r51 s52 hs52
            obtain ⟨hfc_s52, hm_s52, hp54, hp55⟩ := hp53
            have hf_s52 : fr [25, 26, 27, 28, 29, 30, 31, 32, 33] s0 s52 := hf_s38.call (by decide) hfc_s52
            have hOR_s52 : OR s52 := fun i => by rw [hfc_s52 27 (by decide)]; exact hOR_s38 i
            have hBE_s52 : BE s52 := fun i => by rw [hfc_s52 28 (by decide)]; exact hBE_s38 i
            have hFI_s52 : FI s52 := fun i => by rw [hfc_s52 29 (by decide)]; exact hFI_s38 i
            have ht56 : s52 30 0 = s38 30 0 := by rw [hfc_s52 30 (by decide)]
            refine k_st (st' := [gI r51, gL 100, gL v36]) rfl ?_
            refine k_i2l (pc := 67) E dX9_likely_67 (by omega) ?_
            refine k_lsub (pc := 68) E dX9_likely_68 ?_
            have km := mul_rg (a := 1000000000) (b := 100) (x := v36) (y := (100 - r51)) (by omega) (by omega) (by omega) (by omega)
            refine k_lmul (pc := 69) E dX9_likely_69 ?_
            refine k_ldc2 (pc := 70) (n := 100) E dX9_likely_70 wm_1111 (by decide) ?_
            have hd57 : (0 : Int) ≤ (v36 * (100 - r51)) := (by omega)
            have hd58 : (0 : Int) < 100 := (by omega)
            refine k_ldivN (pc := 73) E (by omega) (by omega) hd57 hd58 dX9_likely_73 ?_
            have hb59 := dv_rg hd57 hd58
            obtain ⟨v60, hv60, hT⟩ := glx hT
            refine k_st (st' := [gL v60]) (by rw [hv60]) ?_
            refine k_lstoren (pc := 74) (lv' := [(3, gL v60), (0, .ref (a 0)), (1, gI x0), (5, gI v37)]) E dX9_likely_74 rfl (by decide) rfl ?_
            refine k_iinc (pc := 75) (lv' := [(5, gI (v37 + 1)), (3, gL v60), (0, .ref (a 0)), (1, gI x0)]) E 3 dX9_likely_75 rfl (by decide) rfl ?_
            refine k_goto (pc := 78) (tgt := 36) E dX9_likely_78 (by decide) ?_
            refine k_lv (lv' := [(0, .ref (a 0)), (1, gI x0), (3, gL v60), (5, gI (v37 + 1))]) [2, 3, 1, 0] rfl ?_
            exact ih v60 (v37 + 1) s52 ⟨(by omega), (by omega), hf_s52, hOR_s52, hBE_s52, hFI_s52, (by first | assumption | omega), (by first | assumption | omega), (by first | assumption | omega)⟩ (by omega) (fun w41 w42 s43 hw hi => hk w41 w42 s43 (hT.trans hw) hi)
          · replace hT := hT.trans (if_neg h45)
            refine k_icmp_ge_t (pc := 42) (tgt := 81) E (by omega) (by omega) dX9_likely_42 (by decide) h45 ?_
            refine k_lv (lv' := [(0, .ref (a 0)), (1, gI x0), (3, gL v36)]) [0, 1, 2] rfl ?_
            exact hk v36 v37 s38 hT ⟨(by omega), (by omega), hf_s38, hOR_s38, hBE_s38, hFI_s38, (by first | assumption | omega), (by first | assumption | omega), (by first | assumption | omega)⟩
      refine k_lv (lv' := [(0, .ref (a 0)), (1, gI x0), (3, gL 1000000000), (5, gI 0)]) [2, 3, 1, 0] rfl ?_
      refine L39 17 1000000000 0 s9 ⟨(by omega), (by omega), hf_s9, hOR_s9, hBE_s9, hFI_s9, (by first | assumption | omega), (by first | assumption | omega), (by first | assumption | omega)⟩ (by omega) (fun v71 v72 s73 hw hq => ?_)
      obtain ⟨hq74, hq75, hf_s73, hOR_s73, hBE_s73, hFI_s73, hq76, hq77, hq78⟩ := hq
      replace hT := gl3y hT hw
      refine k_iconst (pc := 81) E dX9_likely_81 ?_
      refine k_istore (pc := 82) (lv' := [(5, gI 0), (0, .ref (a 0)), (1, gI x0), (3, gL v71)]) E dX9_likely_82 (by decide) rfl ?_
      have L107 : ∀ (n108 : Nat) (v104 : Int) (v105 : Int) (s106 : gMem), ((in64 v104) ∧ (in32 v105) ∧ (fr [25, 26, 27, 28, 29, 30, 31, 32, 33] s0 s106) ∧ (OR s106) ∧ (BE s106) ∧ (FI s106) ∧ (s106 30 0 = s73 30 0) ∧ (0 ≤ v105 ∧ v105 ≤ 16) ∧ (0 ≤ v104 ∧ v104 ≤ 1000000000)) → 16 - v105 < (n108 : Int) → (∀ (w109 : Int) (w110 : Int) (s111 : gMem), (w_X9_likely_84 x0 n108 v104 v105 s106) = (w109, w110, s111) → ((in64 w109) ∧ (in32 w110) ∧ (fr [25, 26, 27, 28, 29, 30, 31, 32, 33] s0 s111) ∧ (OR s111) ∧ (BE s111) ∧ (FI s111) ∧ (s111 30 0 = s73 30 0) ∧ (0 ≤ w110 ∧ w110 ≤ 16) ∧ (0 ≤ w109 ∧ w109 ≤ 1000000000)) → gK D vwCl (wdM a cI cJ) lgM A p l e { frames := 5, cells := 0, slots := 0, locals := 320 } s m args below meth c 6 (gQQ D vwCl (wdM a cI cJ) lgM A kJ in64 below args s) (f_X9_likely x0 x1 s0) s111 129 [(3, gL w109)] []) → gK D vwCl (wdM a cI cJ) lgM A p l e { frames := 5, cells := 0, slots := 0, locals := 320 } s m args below meth c 6 (gQQ D vwCl (wdM a cI cJ) lgM A kJ in64 below args s) (f_X9_likely x0 x1 s0) s106 84 [(0, .ref (a 0)), (1, gI x0), (3, gL v104), (5, gI v105)] [] := by
        intro n108; induction n108 with
        | zero =>
          intro v104 v105 s106 hq hm hk
          exfalso
          obtain ⟨hq133, hq134, hf_s106, hOR_s106, hBE_s106, hFI_s106, hq135, hq136, hq137⟩ := hq
          omega
        | succ n108 ih =>
          intro v104 v105 s106 hq hm hk
          obtain ⟨hq138, hq139, hf_s106, hOR_s106, hBE_s106, hFI_s106, hq140, hq141, hq142⟩ := hq
          have hT := w_X9_likely_84_s x0 n108 v104 v105 s106
          refine k_iload (pc := 84) E 3 dX9_likely_84 rfl ?_
          refine k_bipush (pc := 86) E dX9_likely_86 (by decide) ?_
          by_cases h112 : v105 < 16
          · replace hT := hT.trans (if_pos h112)
            refine k_icmp_ge_f (pc := 88) (tgt := 129) E (by omega) (by omega) dX9_likely_88 (by decide) h112 ?_
            refine k_iloadn (pc := 91) E 1 dX9_likely_91 rfl rfl ?_
            refine k_iload (pc := 92) E 3 dX9_likely_92 rfl ?_
            refine k_mr (fun hm_s106 => ?_)
            refine k_callS (pc := 94) (np := 2) (As := [gI x0, gI v105]) (st := []) E (c_X9_isIn l D a cI cJ cS cT s106 x0 v105 (by omega) (by omega)) wm_1088 wm_11 wm_1086 wm_1087 (by decide +kernel) ⟨by decide, by decide⟩ rfl (Nat.le_of_ble_eq_true rfl) dX9_likely_94 (ro_kk (fun hr113 => ?_))
            have hp114 := f_X9_isIn_p x0 v105 (by omega) (by omega) 
            refine k_st (st' := [gI (f_X9_isIn x0 v105)]) rfl ?_
            obtain ⟨z122, hz122, hT⟩ := gl2x hT
            have j116 : ∀ (v117 : Int) (s118 : gMem), ((in64 v117) ∧ (0 ≤ v117 ∧ v117 ≤ 1000000000) ∧ (fr [25, 26, 27, 28, 29, 30, 31, 32, 33] s0 s118) ∧ (OR s118) ∧ (BE s118) ∧ (FI s118) ∧ (s118 30 0 = s106 30 0)) → z122 = (v117, s118) → gK D vwCl (wdM a cI cJ) lgM A p l e { frames := 5, cells := 0, slots := 0, locals := 320 } s m args below meth c 6 (gQQ D vwCl (wdM a cI cJ) lgM A kJ in64 below args s) (f_X9_likely x0 x1 s0) s118 122 [(0, .ref (a 0)), (1, gI x0), (5, gI v105)] [gL v117] := by
              intro v117 s118 hq hz
              obtain ⟨hq119, hq120, hf_s118, hOR_s118, hBE_s118, hFI_s118, hq121⟩ := hq
              replace hT := gl2y hT hz
              refine k_lstoren (pc := 122) (lv' := [(3, gL v117), (0, .ref (a 0)), (1, gI x0), (5, gI v105)]) E dX9_likely_122 rfl (by decide) rfl ?_
              refine k_iinc (pc := 123) (lv' := [(5, gI (v105 + 1)), (3, gL v117), (0, .ref (a 0)), (1, gI x0)]) E 3 dX9_likely_123 rfl (by decide) rfl ?_
              refine k_goto (pc := 126) (tgt := 84) E dX9_likely_126 (by decide) ?_
              refine k_lv (lv' := [(0, .ref (a 0)), (1, gI x0), (3, gL v117), (5, gI (v105 + 1))]) [2, 3, 1, 0] rfl ?_
              exact ih v117 (v105 + 1) s118 ⟨(by omega), (by omega), hf_s118, hOR_s118, hBE_s118, hFI_s118, (by first | assumption | omega), (by first | assumption | omega), (by first | assumption | omega)⟩ (by omega) (fun w109 w110 s111 hw hi => hk w109 w110 s111 (hT.trans hw) hi)
            replace hT := hz122
            by_cases h115 : (f_X9_isIn x0 v105) = 0
            · replace hT := hT.trans (if_pos h115)
              refine k_if_eq_t (pc := 97) (tgt := 121) E (by omega) dX9_likely_97 (by decide) h115 ?_
              refine k_lloadn (pc := 121) E 2 dX9_likely_121 rfl rfl ?_
              refine k_lv (lv' := [(0, .ref (a 0)), (1, gI x0), (5, gI v105)]) [0, 1, 3] rfl ?_
              exact j116 v104 s106 ⟨(by omega), (by first | assumption | omega), hf_s106, hOR_s106, hBE_s106, hFI_s106, (by first | assumption | omega)⟩ hT
            · replace hT := hT.trans (if_neg h115)
              refine k_if_eq_f (pc := 97) (tgt := 121) E (by omega) dX9_likely_97 (by decide) h115 ?_
              refine k_lloadn (pc := 100) E 2 dX9_likely_100 rfl rfl ?_
              refine k_ldc2 (pc := 101) (n := 100) E dX9_likely_101 wm_1111 (by decide) ?_
              refine k_aloadn (pc := 104) E 0 dX9_likely_104 rfl rfl ?_
              refine k_iload (pc := 105) E 3 dX9_likely_105 rfl ?_
              refine k_iconst (pc := 107) E dX9_likely_107 ?_
              refine k_mr (fun hm_s106 => ?_)
              refine k_callV (pc := 108) (np := 2) (As := [gI v105, gI 0]) (st := [gL 100, gL v104]) (q0 := 0) E (c_X9_fallsOf l D a cI cJ cS cT s106 v105 0 (by omega) (by omega) (by unfold VS; rw [hf_s106 5 (by decide), hf_s106 6 (by decide), hf_s106 7 (by decide), hf_s106 8 (by decide)]; exact hpre0) (by unfold KN; rw [hf_s106 0 (by decide)]; exact hpre1) (by unfold MO; rw [hf_s106 1 (by decide)]; exact hpre2) (by first | assumption | omega) (by first | assumption | omega)) wm_1069 wm_11 wm_1066 wm_1068 wp_36 (by decide +kernel) rfl rfl ⟨by decide, by decide⟩ rfl (Nat.le_of_ble_eq_true rfl) dX9_likely_108 (fun r124 s125 hs125 hr123 => ?_)
              replace hT := gby hT hs125
              have hp126 := f_X9_fallsOf_p v105 0 s106 (by omega) (by omega) hm_s106 (by unfold VS; rw [hf_s106 5 (by decide), hf_s106 6 (by decide), hf_s106 7 (by decide), hf_s106 8 (by decide)]; exact hpre0) (by unfold KN; rw [hf_s106 0 (by decide)]; exact hpre1) (by unfold MO; rw [hf_s106 1 (by decide)]; exact hpre2) (by first | assumption | omega) (by first | assumption | omega) r124 s125 hs125
              obtain ⟨hfc_s125, hm_s125, hp127, hp128⟩ := hp126
              have hf_s125 : fr [25, 26, 27, 28, 29, 30, 31, 32, 33] s0 s125 := hf_s106.call (by decide) hfc_s125
              have hOR_s125 : OR s125 := fun i => by rw [hfc_s125 27 (by decide)]; exact hOR_s106 i
              have hBE_s125 : BE s125 := fun i => by rw [hfc_s125 28 (by decide)]; exact hBE_s106 i
              have hFI_s125 : FI s125 := fun i => by rw [hfc_s125 29 (by decide)]; exact hFI_s106 i
              have ht129 : s125 30 0 = s106 30 0 := by rw [hfc_s125 30 (by decide)]
              refine k_st (st' := [gI r124, gL 100, gL v104]) rfl ?_
              refine k_i2l (pc := 111) E dX9_likely_111 (by omega) ?_
              refine k_lsub (pc := 112) E dX9_likely_112 ?_
              have km := mul_rg (a := 1000000000) (b := 100) (x := v104) (y := (100 - r124)) (by omega) (by omega) (by omega) (by omega)
              refine k_lmul (pc := 113) E dX9_likely_113 ?_
              refine k_ldc2 (pc := 114) (n := 100) E dX9_likely_114 wm_1111 (by decide) ?_
              have hd130 : (0 : Int) ≤ (v104 * (100 - r124)) := (by omega)
              have hd131 : (0 : Int) < 100 := (by omega)
              refine k_ldivN (pc := 117) E (by omega) (by omega) hd130 hd131 dX9_likely_117 ?_
              have hb132 := dv_rg hd130 hd131
              refine k_goto (pc := 118) (tgt := 122) E dX9_likely_118 (by decide) ?_
              refine k_lv (lv' := [(0, .ref (a 0)), (1, gI x0), (5, gI v105)]) [0, 1, 3] rfl ?_
              exact j116 ((v104 * (100 - r124)) / 100) s125 ⟨(by omega), (by first | assumption | omega), hf_s125, hOR_s125, hBE_s125, hFI_s125, (by first | assumption | omega)⟩ hT
          · replace hT := hT.trans (if_neg h112)
            refine k_icmp_ge_t (pc := 88) (tgt := 129) E (by omega) (by omega) dX9_likely_88 (by decide) h112 ?_
            refine k_lv (lv' := [(3, gL v104)]) [2] rfl ?_
            exact hk v104 v105 s106 hT ⟨(by omega), (by omega), hf_s106, hOR_s106, hBE_s106, hFI_s106, (by first | assumption | omega), (by first | assumption | omega), (by first | assumption | omega)⟩
      refine k_lv (lv' := [(0, .ref (a 0)), (1, gI x0), (3, gL v71), (5, gI 0)]) [1, 2, 3, 0] rfl ?_
      refine L107 17 v71 0 s73 ⟨(by omega), (by omega), hf_s73, hOR_s73, hBE_s73, hFI_s73, (by first | assumption | omega), (by first | assumption | omega), (by first | assumption | omega)⟩ (by omega) (fun v143 v144 s145 hw hq => ?_)
      obtain ⟨hq146, hq147, hf_s145, hOR_s145, hBE_s145, hFI_s145, hq148, hq149, hq150⟩ := hq
      replace hT := gl3y hT hw
      refine k_lloadn (pc := 129) E 0 dX9_likely_129 rfl rfl ?_
      exact k_rho hT (k_lret (pc := 130) E dX9_likely_130 (by omega))
