/-! stretches and plans of the class: what its walks need -/
def bitS (x p : Int) : Prop := iand (ishr x p) 1 = 1
def BGN (k : Int → Int) (x p : Int) : Prop := ¬ bitS x p ∧ (p = 0 ∨ bitS x (p - 1) ∨ k (p - 1) = 4 ∨ k p = 4)
def RUN (k : Int → Int) (x a b : Int) : Prop := ∀ j, a < j → j ≤ b → ¬ bitS x j ∧ ¬ k j = 4
theorem RUN_0 (k : Int → Int) (x a : Int) : RUN k x a a := fun j h1 h2 => absurd h1 (by omega)
theorem RUN_s {k : Int → Int} {x a b : Int} (h : RUN k x a b) (h1 : ¬ bitS x (b + 1)) (h2 : ¬ k (b + 1) = 4) : RUN k x a (b + 1) := fun j h3 h4 => by
  by_cases e : j ≤ b
  · exact h j h3 e
  · have e2 : j = b + 1 := by omega
    rw [e2]
    exact ⟨h1, h2⟩
theorem RUN_c {k : Int → Int} {x a b : Int} (h : RUN k x (a + 1) b) (h1 : ¬ bitS x (a + 1)) (h2 : ¬ k (a + 1) = 4) : RUN k x a b := fun j h3 h4 => by
  by_cases e : a + 1 < j
  · exact h j e h4
  · have e2 : j = a + 1 := by omega
    rw [e2]
    exact ⟨h1, h2⟩
def SG (k : Int → Int) (x size p : Int) : Prop := ∀ q, p ≤ q → q ≤ 15 → bitS x q → (∀ j, p ≤ j → j < q → ¬ bitS x j ∧ ¬ k j = 4) → size ≤ q
theorem SG_0 (k : Int → Int) (x : Int) {p : Int} (h : 0 ≤ p) : SG k x 0 p := fun q h1 _ _ _ => by omega
theorem SG_use {k : Int → Int} {x size p : Int} (h : SG k x size p) (h1 : p ≤ 15) (h2 : bitS x p) : size ≤ p := h p (by omega) h1 h2 (fun j h3 h4 => absurd h3 (by omega))
theorem SG_skip {k : Int → Int} {x size p : Int} (h : SG k x size p) (h1 : ¬ bitS x p) (h2 : ¬ k p = 4) : SG k x size (p + 1) := fun q h3 h4 h5 h6 => h q (by omega) h4 h5 (fun j h7 h8 => by
  by_cases e : j = p
  · rw [e]; exact ⟨h1, h2⟩
  · exact h6 j (by omega) h8)
theorem SG_new {k : Int → Int} {x size p b : Int} (h : RUN k x p b) (h1 : size ≤ b + 1) : SG k x size (p + 1) := fun q h3 _ h5 _ => by
  by_cases e : q ≤ b
  · exact absurd h5 (h q (by omega) e).1
  · omega

def f_X2_begins (x0 : Int) (x1 : Int) (s0 : gMem) : Int := (gj (fun j4c => (if (f_X8_has x1 x0) = 0 then (gj (fun j7c => (if x0 = 0 then j7c else (if (f_X8_has x1 (x0 - 1)) = 0 then (if (f_X4_stops (x0 - 1) s0) = 0 then (if (f_X4_stops x0 s0) = 0 then j4c else j7c) else j7c) else j7c))) (1)) else j4c)) (0))
theorem f_X2_begins_e (x0 : Int) (x1 : Int) (s0 : gMem) : f_X2_begins x0 x1 s0 = (gj (fun j4c => (if (f_X8_has x1 x0) = 0 then (gj (fun j7c => (if x0 = 0 then j7c else (if (f_X8_has x1 (x0 - 1)) = 0 then (if (f_X4_stops (x0 - 1) s0) = 0 then (if (f_X4_stops x0 s0) = 0 then j4c else j7c) else j7c) else j7c))) (1)) else j4c)) (0)) := rfl
set_option maxRecDepth 100000 in
set_option maxHeartbeats 4000000 in
theorem f_X2_begins_p (x0 : Int) (x1 : Int) (s0 : gMem) (hx0 : in32 x0) (hx1 : in32 x1) (hm_s0 : gMR lgX s0) (hpre0 : 0 ≤ x0 ∧ x0 ≤ 15) : (((f_X2_begins x0 x1 s0) = 0 ∨ (f_X2_begins x0 x1 s0) = 1)) ∧ (((f_X2_begins x0 x1 s0) = 1 ∧ BGN (s0 40) x1 x0) ∨ ((f_X2_begins x0 x1 s0) = 0 ∧ ¬ BGN (s0 40) x1 x0)) := by
  have hT := f_X2_begins_e x0 x1 s0
  have hp2 := f_X8_has_p x1 x0 (by omega) (by omega) 
  obtain ⟨j4c, hj4c, hT⟩ := gjx hT
  have j4 : ((iand (ishr x1 x0) 1 = 1 ∨ (x0 ≠ 0 ∧ ¬ iand (ishr x1 (x0 - 1)) 1 = 1 ∧ ¬ s0 40 (x0 - 1) = 4 ∧ ¬ s0 40 x0 = 4))) → (f_X2_begins x0 x1 s0) = j4c  → (((f_X2_begins x0 x1 s0) = 0 ∨ (f_X2_begins x0 x1 s0) = 1)) ∧ (((f_X2_begins x0 x1 s0) = 1 ∧ BGN (s0 40) x1 x0) ∨ ((f_X2_begins x0 x1 s0) = 0 ∧ ¬ BGN (s0 40) x1 x0)) := by
    intro  hq hT
    have hq5 := hq
    rw [hj4c] at hT
    rw [hT]
    exact ⟨(by first | exact Or.inl rfl | exact Or.inr rfl | omega), (by unfold BGN bitS; omega)⟩
  by_cases h3 : (f_X8_has x1 x0) = 0
  · replace hT := hT.trans (if_pos h3)
    obtain ⟨j7c, hj7c, hT⟩ := gjx hT
    have j7 : ((x0 = 0 ∨ iand (ishr x1 (x0 - 1)) 1 = 1 ∨ s0 40 (x0 - 1) = 4 ∨ s0 40 x0 = 4)) → (f_X2_begins x0 x1 s0) = j7c  → (((f_X2_begins x0 x1 s0) = 0 ∨ (f_X2_begins x0 x1 s0) = 1)) ∧ (((f_X2_begins x0 x1 s0) = 1 ∧ BGN (s0 40) x1 x0) ∨ ((f_X2_begins x0 x1 s0) = 0 ∧ ¬ BGN (s0 40) x1 x0)) := by
      intro  hq hT
      have hq8 := hq
      rw [hj7c] at hT
      rw [hT]
      exact ⟨(by first | exact Or.inl rfl | exact Or.inr rfl | omega), (by unfold BGN bitS; omega)⟩
    by_cases h6 : x0 = 0
    · replace hT := hT.trans (if_pos h6)
      exact j7  (by first | assumption | omega) hT
    · replace hT := hT.trans (if_neg h6)
      have hp10 := f_X8_has_p x1 (x0 - 1) (by omega) (by omega) 
      by_cases h11 : (f_X8_has x1 (x0 - 1)) = 0
      · replace hT := hT.trans (if_pos h11)
        have hp13 := f_X4_stops_p (x0 - 1) s0 (by omega) hm_s0 (by first | assumption | omega)
        by_cases h14 : (f_X4_stops (x0 - 1) s0) = 0
        · replace hT := hT.trans (if_pos h14)
          have hp16 := f_X4_stops_p x0 s0 (by omega) hm_s0 (by first | assumption | omega)
          by_cases h17 : (f_X4_stops x0 s0) = 0
          · replace hT := hT.trans (if_pos h17)
            exact j4  (by first | assumption | omega) hT
          · replace hT := hT.trans (if_neg h17)
            exact j7  (by first | assumption | omega) hT
        · replace hT := hT.trans (if_neg h14)
          exact j7  (by first | assumption | omega) hT
      · replace hT := hT.trans (if_neg h11)
        exact j7  (by first | assumption | omega) hT
  · replace hT := hT.trans (if_neg h3)
    exact j4  (by first | assumption | omega) hT
set_option maxRecDepth 100000 in
set_option maxHeartbeats 4000000 in
theorem c_X2_begins (l : Launch) (D : va_G) (a : Nat → Nat) (cI cJ cS cT : ClassId) (s0 : gMem) (x0 : Int) (x1 : Int) (hx0 : in32 x0) (hx1 : in32 x1) (hpre0 : 0 ≤ x0 ∧ x0 ≤ 15) : gC l yX2_begins cX2_begins 3 (some .boolean) 2 128 D vwCl (gT cI cJ cS cT) (wdX a cI cJ cS cT) lgX kI rgZ [.ref (a 5), gI x0, gI x1] s0 ((f_X2_begins x0 x1 s0), s0) := by
  refine gC_of (by decide +kernel) (hwdX a cI cJ cS cT) (Nat.le_of_ble_eq_true rfl) ?_
  intro A p e R s m args below meth c hR E
  subst hR
  have hT := f_X2_begins_e x0 x1 s0
  refine k_lv0 (lv' := [(0, .ref (a 5)), (1, gI x0), (2, gI x1)]) rfl ?_
  refine k_mr (fun hm_s0 => ?_)
  refine k_iloadn (pc := 0) E 2 dX2_begins_0 rfl rfl ?_
  refine k_iloadn (pc := 1) E 1 dX2_begins_1 rfl rfl ?_
  refine k_mr (fun hm_s0 => ?_)
  refine k_callSN (pc := 2) (np := 2) (As := [gI x1, gI x0]) (st := []) E (c_X8_has l D a cI cJ cS cT s0 x1 x0 (by omega) (by omega)) wm_552 wm_1 (List.mem_of_getElem? (i := 0) rfl) wm_551 (by decide +kernel) ⟨by decide, by decide⟩ rfl (Nat.le_of_ble_eq_true rfl) dX2_begins_2 (ro_kk (fun hr1 => ?_))
  have hp2 := f_X8_has_p x1 x0 (by omega) (by omega) 
  refine k_st (st' := [gI (f_X8_has x1 x0)]) rfl ?_
  obtain ⟨j4c, hj4c, hT⟩ := gjx hT
  have j4 : ((iand (ishr x1 x0) 1 = 1 ∨ (x0 ≠ 0 ∧ ¬ iand (ishr x1 (x0 - 1)) 1 = 1 ∧ ¬ s0 40 (x0 - 1) = 4 ∧ ¬ s0 40 x0 = 4))) → (f_X2_begins x0 x1 s0) = j4c  → gK D vwCl (wdX a cI cJ cS cT) lgX A p l e { frames := 2, cells := 0, slots := 0, locals := 128 } s m args below meth c 3 (gQQ D vwCl (wdX a cI cJ cS cT) lgX A kI rgZ below args s) ((f_X2_begins x0 x1 s0), s0) s0 50 [] [] := by
    intro  hq hT
    have hq5 := hq
    rw [hj4c] at hT
    refine k_iconst (pc := 50) E dX2_begins_50 ?_
    exact k_rho (congrArg (fun q => (q, s0)) hT) (k_zret (pc := 51) E dX2_begins_51 (by first | exact Or.inl rfl | exact Or.inr rfl | omega))
  by_cases h3 : (f_X8_has x1 x0) = 0
  · replace hT := hT.trans (if_pos h3)
    refine k_if_ne_f (pc := 5) (tgt := 50) E (by omega) dX2_begins_5 (by decide) h3 ?_
    refine k_iloadn (pc := 8) E 1 dX2_begins_8 rfl rfl ?_
    obtain ⟨j7c, hj7c, hT⟩ := gjx hT
    have j7 : ((x0 = 0 ∨ iand (ishr x1 (x0 - 1)) 1 = 1 ∨ s0 40 (x0 - 1) = 4 ∨ s0 40 x0 = 4)) → (f_X2_begins x0 x1 s0) = j7c  → gK D vwCl (wdX a cI cJ cS cT) lgX A p l e { frames := 2, cells := 0, slots := 0, locals := 128 } s m args below meth c 3 (gQQ D vwCl (wdX a cI cJ cS cT) lgX A kI rgZ below args s) ((f_X2_begins x0 x1 s0), s0) s0 46 [] [] := by
      intro  hq hT
      have hq8 := hq
      rw [hj7c] at hT
      refine k_iconst (pc := 46) E dX2_begins_46 ?_
      refine k_goto (pc := 47) (tgt := 51) E dX2_begins_47 (by decide) ?_
      exact k_rho (congrArg (fun q => (q, s0)) hT) (k_zret (pc := 51) E dX2_begins_51 (by first | exact Or.inl rfl | exact Or.inr rfl | omega))
    by_cases h6 : x0 = 0
    · replace hT := hT.trans (if_pos h6)
      refine k_if_eq_t (pc := 9) (tgt := 46) E (by omega) dX2_begins_9 (by decide) h6 ?_
      refine k_lv (lv' := []) [] rfl ?_
      exact j7  (by first | assumption | omega) hT
    · replace hT := hT.trans (if_neg h6)
      refine k_if_eq_f (pc := 9) (tgt := 46) E (by omega) dX2_begins_9 (by decide) h6 ?_
      refine k_iloadn (pc := 12) E 2 dX2_begins_12 rfl rfl ?_
      refine k_iloadn (pc := 13) E 1 dX2_begins_13 rfl rfl ?_
      refine k_iconst (pc := 14) E dX2_begins_14 ?_
      refine k_isub (pc := 15) E dX2_begins_15 ?_
      refine k_mr (fun hm_s0 => ?_)
      refine k_callSN (pc := 16) (np := 2) (As := [gI x1, gI (x0 - 1)]) (st := []) E (c_X8_has l D a cI cJ cS cT s0 x1 (x0 - 1) (by omega) (by omega)) wm_552 wm_1 (List.mem_of_getElem? (i := 0) rfl) wm_551 (by decide +kernel) ⟨by decide, by decide⟩ rfl (Nat.le_of_ble_eq_true rfl) dX2_begins_16 (ro_kk (fun hr9 => ?_))
      have hp10 := f_X8_has_p x1 (x0 - 1) (by omega) (by omega) 
      refine k_st (st' := [gI (f_X8_has x1 (x0 - 1))]) rfl ?_
      by_cases h11 : (f_X8_has x1 (x0 - 1)) = 0
      · replace hT := hT.trans (if_pos h11)
        refine k_if_ne_f (pc := 19) (tgt := 46) E (by omega) dX2_begins_19 (by decide) h11 ?_
        refine k_aloadn (pc := 22) E 0 dX2_begins_22 rfl rfl ?_
        refine k_getf (pc := 23) (q0 := 5) (f := 0) (v := .ref (a 3)) E inX2 rfl rfl (by decide) wm_174 rfl rfl dX2_begins_23 ?_
        refine k_iloadn (pc := 26) E 1 dX2_begins_26 rfl rfl ?_
        refine k_iconst (pc := 27) E dX2_begins_27 ?_
        refine k_isub (pc := 28) E dX2_begins_28 ?_
        refine k_mr (fun hm_s0 => ?_)
        refine k_callV (pc := 29) (np := 1) (As := [gI (x0 - 1)]) (st := []) (q0 := 3) E (c_X4_stops l D a cI cJ cS cT s0 (x0 - 1) (by omega) (by first | assumption | omega)) wm_533 wm_4 wm_553 wm_531 wm_532 (by decide +kernel) rfl rfl ⟨by decide, by decide⟩ rfl (Nat.le_of_ble_eq_true rfl) dX2_begins_29 (ro_kk (fun hr12 => ?_))
        have hp13 := f_X4_stops_p (x0 - 1) s0 (by omega) hm_s0 (by first | assumption | omega)
        refine k_st (st' := [gI (f_X4_stops (x0 - 1) s0)]) rfl ?_
        by_cases h14 : (f_X4_stops (x0 - 1) s0) = 0
        · replace hT := hT.trans (if_pos h14)
          refine k_if_ne_f (pc := 32) (tgt := 46) E (by omega) dX2_begins_32 (by decide) h14 ?_
          refine k_aloadn (pc := 35) E 0 dX2_begins_35 rfl rfl ?_
          refine k_getf (pc := 36) (q0 := 5) (f := 0) (v := .ref (a 3)) E inX2 rfl rfl (by decide) wm_174 rfl rfl dX2_begins_36 ?_
          refine k_iloadn (pc := 39) E 1 dX2_begins_39 rfl rfl ?_
          refine k_mr (fun hm_s0 => ?_)
          refine k_callV (pc := 40) (np := 1) (As := [gI x0]) (st := []) (q0 := 3) E (c_X4_stops l D a cI cJ cS cT s0 x0 (by omega) (by first | assumption | omega)) wm_533 wm_4 wm_553 wm_531 wm_532 (by decide +kernel) rfl rfl ⟨by decide, by decide⟩ rfl (Nat.le_of_ble_eq_true rfl) dX2_begins_40 (ro_kk (fun hr15 => ?_))
          have hp16 := f_X4_stops_p x0 s0 (by omega) hm_s0 (by first | assumption | omega)
          refine k_st (st' := [gI (f_X4_stops x0 s0)]) rfl ?_
          by_cases h17 : (f_X4_stops x0 s0) = 0
          · replace hT := hT.trans (if_pos h17)
            refine k_if_eq_t (pc := 43) (tgt := 50) E (by omega) dX2_begins_43 (by decide) h17 ?_
            refine k_lv (lv' := []) [] rfl ?_
            exact j4  (by first | assumption | omega) hT
          · replace hT := hT.trans (if_neg h17)
            refine k_if_eq_f (pc := 43) (tgt := 50) E (by omega) dX2_begins_43 (by decide) h17 ?_
            refine k_lv (lv' := []) [] rfl ?_
            exact j7  (by first | assumption | omega) hT
        · replace hT := hT.trans (if_neg h14)
          refine k_if_ne_t (pc := 32) (tgt := 46) E (by omega) dX2_begins_32 (by decide) h14 ?_
          refine k_lv (lv' := []) [] rfl ?_
          exact j7  (by first | assumption | omega) hT
      · replace hT := hT.trans (if_neg h11)
        refine k_if_ne_t (pc := 19) (tgt := 46) E (by omega) dX2_begins_19 (by decide) h11 ?_
        refine k_lv (lv' := []) [] rfl ?_
        exact j7  (by first | assumption | omega) hT
  · replace hT := hT.trans (if_neg h3)
    refine k_if_ne_t (pc := 5) (tgt := 50) E (by omega) dX2_begins_5 (by decide) h3 ?_
    refine k_lv (lv' := []) [] rfl ?_
    exact j4  (by first | assumption | omega) hT

def w_X2_lastOf_13 (c2 : Int) (s0 : gMem) : Nat → Int → Int
  | 0, v4 => v4
  | n5 + 1, v4 => (if (v4 + 1) < 16 then (if (f_X8_has c2 (v4 + 1)) = 0 then (if (f_X4_stops (v4 + 1) s0) = 0 then (w_X2_lastOf_13 c2 s0 n5 (v4 + 1)) else v4) else v4) else v4)
theorem w_X2_lastOf_13_s (c2 : Int) (s0 : gMem) (n5 : Nat) (v4 : Int)  : w_X2_lastOf_13 c2 s0 (n5 + 1) v4 = (if (v4 + 1) < 16 then (if (f_X8_has c2 (v4 + 1)) = 0 then (if (f_X4_stops (v4 + 1) s0) = 0 then (w_X2_lastOf_13 c2 s0 n5 (v4 + 1)) else v4) else v4) else v4) := rfl
def f_X2_lastOf (x0 : Int) (x1 : Int) (s0 : gMem) : Int := (if (f_X4_stops x0 s0) = 0 then (gl (w_X2_lastOf_13 x1 s0 17 x0) (fun v32 => v32)) else x0)
theorem f_X2_lastOf_e (x0 : Int) (x1 : Int) (s0 : gMem) : f_X2_lastOf x0 x1 s0 = (if (f_X4_stops x0 s0) = 0 then (gl (w_X2_lastOf_13 x1 s0 17 x0) (fun v32 => v32)) else x0) := rfl
set_option maxRecDepth 100000 in
set_option maxHeartbeats 4000000 in
theorem f_X2_lastOf_p (x0 : Int) (x1 : Int) (s0 : gMem) (hx0 : in32 x0) (hx1 : in32 x1) (hm_s0 : gMR lgX s0) (hpre0 : 0 ≤ x0 ∧ x0 ≤ 15) : (in32 (f_X2_lastOf x0 x1 s0)) ∧ (x0 ≤ (f_X2_lastOf x0 x1 s0) ∧ (f_X2_lastOf x0 x1 s0) ≤ 15) ∧ ((f_X2_lastOf x0 x1 s0) = x0 ∨ ¬ s0 40 x0 = 4) ∧ (RUN (s0 40) x1 x0 (f_X2_lastOf x0 x1 s0)) := by
  have hT := f_X2_lastOf_e x0 x1 s0
  have hp2 := f_X4_stops_p x0 s0 (by omega) hm_s0 (by first | assumption | omega)
  by_cases h3 : (f_X4_stops x0 s0) = 0
  · replace hT := hT.trans (if_pos h3)
    have L14 : ∀ (n15 : Nat) (v13 : Int), ((in32 v13) ∧ (x0 ≤ v13 ∧ v13 ≤ 15) ∧ (v13 = x0 ∨ ¬ s0 40 x0 = 4) ∧ (RUN (s0 40) x1 x0 v13)) → 15 - v13 < (n15 : Int) → (∀ (w16 : Int), (w_X2_lastOf_13 x1 s0 n15 v13) = w16 → ((in32 w16) ∧ (x0 ≤ w16 ∧ w16 ≤ 15) ∧ (w16 = x0 ∨ ¬ s0 40 x0 = 4) ∧ (RUN (s0 40) x1 x0 w16)) → (in32 (f_X2_lastOf x0 x1 s0)) ∧ (x0 ≤ (f_X2_lastOf x0 x1 s0) ∧ (f_X2_lastOf x0 x1 s0) ≤ 15) ∧ ((f_X2_lastOf x0 x1 s0) = x0 ∨ ¬ s0 40 x0 = 4) ∧ (RUN (s0 40) x1 x0 (f_X2_lastOf x0 x1 s0))) → (in32 (f_X2_lastOf x0 x1 s0)) ∧ (x0 ≤ (f_X2_lastOf x0 x1 s0) ∧ (f_X2_lastOf x0 x1 s0) ≤ 15) ∧ ((f_X2_lastOf x0 x1 s0) = x0 ∨ ¬ s0 40 x0 = 4) ∧ (RUN (s0 40) x1 x0 (f_X2_lastOf x0 x1 s0)) := by
      intro n15; induction n15 with
      | zero =>
        intro v13 hq hm hk
        exfalso
        obtain ⟨hq24, hq25, hq26, hq27⟩ := hq
        omega
      | succ n15 ih =>
        intro v13 hq hm hk
        obtain ⟨hq28, hq29, hq30, hq31⟩ := hq
        have hT := w_X2_lastOf_13_s x1 s0 n15 v13
        by_cases h17 : (v13 + 1) < 16
        · replace hT := hT.trans (if_pos h17)
          have hp19 := f_X8_has_p x1 (v13 + 1) (by omega) (by omega) 
          by_cases h20 : (f_X8_has x1 (v13 + 1)) = 0
          · replace hT := hT.trans (if_pos h20)
            have hp22 := f_X4_stops_p (v13 + 1) s0 (by omega) hm_s0 (by first | assumption | omega)
            by_cases h23 : (f_X4_stops (v13 + 1) s0) = 0
            · replace hT := hT.trans (if_pos h23)
              exact ih (v13 + 1) ⟨(by omega), (by first | assumption | omega), (by first | assumption | omega), (by first | assumption | exact RUN_0 _ _ _ | exact RUN_s (by assumption) (by unfold bitS; omega) (by omega))⟩ (by omega) (fun w16 hw hi => hk w16 (hT.trans hw) hi)
            · replace hT := hT.trans (if_neg h23)
              exact hk v13 hT ⟨(by omega), (by first | assumption | omega), (by first | assumption | omega), (by first | assumption | exact RUN_0 _ _ _ | exact RUN_s (by assumption) (by unfold bitS; omega) (by omega))⟩
          · replace hT := hT.trans (if_neg h20)
            exact hk v13 hT ⟨(by omega), (by first | assumption | omega), (by first | assumption | omega), (by first | assumption | exact RUN_0 _ _ _ | exact RUN_s (by assumption) (by unfold bitS; omega) (by omega))⟩
        · replace hT := hT.trans (if_neg h17)
          exact hk v13 hT ⟨(by omega), (by first | assumption | omega), (by first | assumption | omega), (by first | assumption | exact RUN_0 _ _ _ | exact RUN_s (by assumption) (by unfold bitS; omega) (by omega))⟩
    refine L14 17 x0 ⟨(by omega), (by first | assumption | omega), (by first | assumption | omega), (by first | assumption | exact RUN_0 _ _ _ | exact RUN_s (by assumption) (by unfold bitS; omega) (by omega))⟩ (by omega) (fun v32 hw hq => ?_)
    obtain ⟨hq33, hq34, hq35, hq36⟩ := hq
    replace hT := gl1y hT hw
    rw [hT]
    exact ⟨(by omega), (by first | assumption | omega), (by first | assumption | omega), (by first | assumption | exact RUN_0 _ _ _ | exact RUN_s (by assumption) (by unfold bitS; omega) (by omega))⟩
  · replace hT := hT.trans (if_neg h3)
    rw [hT]
    exact ⟨(by omega), (by first | assumption | omega), (by first | assumption | omega), (by first | assumption | exact RUN_0 _ _ _ | exact RUN_s (by assumption) (by unfold bitS; omega) (by omega))⟩
set_option maxRecDepth 100000 in
set_option maxHeartbeats 4000000 in
theorem c_X2_lastOf (l : Launch) (D : va_G) (a : Nat → Nat) (cI cJ cS cT : ClassId) (s0 : gMem) (x0 : Int) (x1 : Int) (hx0 : in32 x0) (hx1 : in32 x1) (hpre0 : 0 ≤ x0 ∧ x0 ≤ 15) : gC l yX2_lastOf cX2_lastOf 4 (some .int) 2 128 D vwCl (gT cI cJ cS cT) (wdX a cI cJ cS cT) lgX kI in32 [.ref (a 5), gI x0, gI x1] s0 ((f_X2_lastOf x0 x1 s0), s0) := by
  refine gC_of (by decide +kernel) (hwdX a cI cJ cS cT) (Nat.le_of_ble_eq_true rfl) ?_
  intro A p e R s m args below meth c hR E
  subst hR
  have hT := f_X2_lastOf_e x0 x1 s0
  refine k_lv0 (lv' := [(0, .ref (a 5)), (1, gI x0), (2, gI x1)]) rfl ?_
  refine k_mr (fun hm_s0 => ?_)
  refine k_iloadn (pc := 0) E 1 dX2_lastOf_0 rfl rfl ?_
  refine k_istoren (pc := 1) (lv' := [(3, gI x0), (0, .ref (a 5)), (1, gI x0), (2, gI x1)]) E dX2_lastOf_1 rfl (by decide) rfl ?_
  refine k_aloadn (pc := 2) E 1 dX2_lastOf_2 rfl rfl ?_
  refine k_getf (pc := 3) (q0 := 5) (f := 0) (v := .ref (a 3)) E inX2 rfl rfl (by decide) wm_174 rfl rfl dX2_lastOf_3 ?_
  refine k_iloadn (pc := 6) E 2 dX2_lastOf_6 rfl rfl ?_
  refine k_mr (fun hm_s0 => ?_)
  refine k_callV (pc := 7) (np := 1) (As := [gI x0]) (st := []) (q0 := 3) E (c_X4_stops l D a cI cJ cS cT s0 x0 (by omega) (by first | assumption | omega)) wm_533 wm_4 wm_553 wm_531 wm_532 (by decide +kernel) rfl rfl ⟨by decide, by decide⟩ rfl (Nat.le_of_ble_eq_true rfl) dX2_lastOf_7 (ro_kk (fun hr1 => ?_))
  have hp2 := f_X4_stops_p x0 s0 (by omega) hm_s0 (by first | assumption | omega)
  refine k_st (st' := [gI (f_X4_stops x0 s0)]) rfl ?_
  by_cases h3 : (f_X4_stops x0 s0) = 0
  · replace hT := hT.trans (if_pos h3)
    refine k_if_ne_f (pc := 10) (tgt := 50) E (by omega) dX2_lastOf_10 (by decide) h3 ?_
    have L14 : ∀ (n15 : Nat) (v13 : Int), ((in32 v13) ∧ (x0 ≤ v13 ∧ v13 ≤ 15) ∧ (v13 = x0 ∨ ¬ s0 40 x0 = 4) ∧ (RUN (s0 40) x1 x0 v13)) → 15 - v13 < (n15 : Int) → (∀ (w16 : Int), (w_X2_lastOf_13 x1 s0 n15 v13) = w16 → ((in32 w16) ∧ (x0 ≤ w16 ∧ w16 ≤ 15) ∧ (w16 = x0 ∨ ¬ s0 40 x0 = 4) ∧ (RUN (s0 40) x1 x0 w16)) → gK D vwCl (wdX a cI cJ cS cT) lgX A p l e { frames := 2, cells := 0, slots := 0, locals := 128 } s m args below meth c 4 (gQQ D vwCl (wdX a cI cJ cS cT) lgX A kI in32 below args s) ((f_X2_lastOf x0 x1 s0), s0) s0 50 [(3, gI w16)] []) → gK D vwCl (wdX a cI cJ cS cT) lgX A p l e { frames := 2, cells := 0, slots := 0, locals := 128 } s m args below meth c 4 (gQQ D vwCl (wdX a cI cJ cS cT) lgX A kI in32 below args s) ((f_X2_lastOf x0 x1 s0), s0) s0 13 [(0, .ref (a 5)), (2, gI x1), (3, gI v13)] [] := by
      intro n15; induction n15 with
      | zero =>
        intro v13 hq hm hk
        exfalso
        obtain ⟨hq24, hq25, hq26, hq27⟩ := hq
        omega
      | succ n15 ih =>
        intro v13 hq hm hk
        obtain ⟨hq28, hq29, hq30, hq31⟩ := hq
        have hT := w_X2_lastOf_13_s x1 s0 n15 v13
        refine k_iloadn (pc := 13) E 2 dX2_lastOf_13 rfl rfl ?_
        refine k_iconst (pc := 14) E dX2_lastOf_14 ?_
        refine k_iadd (pc := 15) E dX2_lastOf_15 ?_
        refine k_bipush (pc := 16) E dX2_lastOf_16 (by decide) ?_
        by_cases h17 : (v13 + 1) < 16
        · replace hT := hT.trans (if_pos h17)
          refine k_icmp_ge_f (pc := 18) (tgt := 50) E (by omega) (by omega) dX2_lastOf_18 (by decide) h17 ?_
          refine k_iloadn (pc := 21) E 1 dX2_lastOf_21 rfl rfl ?_
          refine k_iloadn (pc := 22) E 2 dX2_lastOf_22 rfl rfl ?_
          refine k_iconst (pc := 23) E dX2_lastOf_23 ?_
          refine k_iadd (pc := 24) E dX2_lastOf_24 ?_
          refine k_mr (fun hm_s0 => ?_)
          refine k_callSN (pc := 25) (np := 2) (As := [gI x1, gI (v13 + 1)]) (st := []) E (c_X8_has l D a cI cJ cS cT s0 x1 (v13 + 1) (by omega) (by omega)) wm_552 wm_1 (List.mem_of_getElem? (i := 0) rfl) wm_551 (by decide +kernel) ⟨by decide, by decide⟩ rfl (Nat.le_of_ble_eq_true rfl) dX2_lastOf_25 (ro_kk (fun hr18 => ?_))
          have hp19 := f_X8_has_p x1 (v13 + 1) (by omega) (by omega) 
          refine k_st (st' := [gI (f_X8_has x1 (v13 + 1))]) rfl ?_
          by_cases h20 : (f_X8_has x1 (v13 + 1)) = 0
          · replace hT := hT.trans (if_pos h20)
            refine k_if_ne_f (pc := 28) (tgt := 50) E (by omega) dX2_lastOf_28 (by decide) h20 ?_
            refine k_aloadn (pc := 31) E 0 dX2_lastOf_31 rfl rfl ?_
            refine k_getf (pc := 32) (q0 := 5) (f := 0) (v := .ref (a 3)) E inX2 rfl rfl (by decide) wm_174 rfl rfl dX2_lastOf_32 ?_
            refine k_iloadn (pc := 35) E 2 dX2_lastOf_35 rfl rfl ?_
            refine k_iconst (pc := 36) E dX2_lastOf_36 ?_
            refine k_iadd (pc := 37) E dX2_lastOf_37 ?_
            refine k_mr (fun hm_s0 => ?_)
            refine k_callV (pc := 38) (np := 1) (As := [gI (v13 + 1)]) (st := []) (q0 := 3) E (c_X4_stops l D a cI cJ cS cT s0 (v13 + 1) (by omega) (by first | assumption | omega)) wm_533 wm_4 wm_553 wm_531 wm_532 (by decide +kernel) rfl rfl ⟨by decide, by decide⟩ rfl (Nat.le_of_ble_eq_true rfl) dX2_lastOf_38 (ro_kk (fun hr21 => ?_))
            have hp22 := f_X4_stops_p (v13 + 1) s0 (by omega) hm_s0 (by first | assumption | omega)
            refine k_st (st' := [gI (f_X4_stops (v13 + 1) s0)]) rfl ?_
            by_cases h23 : (f_X4_stops (v13 + 1) s0) = 0
            · replace hT := hT.trans (if_pos h23)
              refine k_if_ne_f (pc := 41) (tgt := 50) E (by omega) dX2_lastOf_41 (by decide) h23 ?_
              refine k_iinc (pc := 44) (lv' := [(3, gI (v13 + 1)), (0, .ref (a 5)), (2, gI x1)]) E 2 dX2_lastOf_44 rfl (by decide) rfl ?_
              refine k_goto (pc := 47) (tgt := 13) E dX2_lastOf_47 (by decide) ?_
              refine k_lv (lv' := [(0, .ref (a 5)), (2, gI x1), (3, gI (v13 + 1))]) [1, 2, 0] rfl ?_
              exact ih (v13 + 1) ⟨(by omega), (by first | assumption | omega), (by first | assumption | omega), (by first | assumption | exact RUN_0 _ _ _ | exact RUN_s (by assumption) (by unfold bitS; omega) (by omega))⟩ (by omega) (fun w16 hw hi => hk w16 (hT.trans hw) hi)
            · replace hT := hT.trans (if_neg h23)
              refine k_if_ne_t (pc := 41) (tgt := 50) E (by omega) dX2_lastOf_41 (by decide) h23 ?_
              refine k_lv (lv' := [(3, gI v13)]) [2] rfl ?_
              exact hk v13 hT ⟨(by omega), (by first | assumption | omega), (by first | assumption | omega), (by first | assumption | exact RUN_0 _ _ _ | exact RUN_s (by assumption) (by unfold bitS; omega) (by omega))⟩
          · replace hT := hT.trans (if_neg h20)
            refine k_if_ne_t (pc := 28) (tgt := 50) E (by omega) dX2_lastOf_28 (by decide) h20 ?_
            refine k_lv (lv' := [(3, gI v13)]) [2] rfl ?_
            exact hk v13 hT ⟨(by omega), (by first | assumption | omega), (by first | assumption | omega), (by first | assumption | exact RUN_0 _ _ _ | exact RUN_s (by assumption) (by unfold bitS; omega) (by omega))⟩
        · replace hT := hT.trans (if_neg h17)
          refine k_icmp_ge_t (pc := 18) (tgt := 50) E (by omega) (by omega) dX2_lastOf_18 (by decide) h17 ?_
          refine k_lv (lv' := [(3, gI v13)]) [2] rfl ?_
          exact hk v13 hT ⟨(by omega), (by first | assumption | omega), (by first | assumption | omega), (by first | assumption | exact RUN_0 _ _ _ | exact RUN_s (by assumption) (by unfold bitS; omega) (by omega))⟩
    refine k_lv (lv' := [(0, .ref (a 5)), (2, gI x1), (3, gI x0)]) [1, 3, 0] rfl ?_
    refine L14 17 x0 ⟨(by omega), (by first | assumption | omega), (by first | assumption | omega), (by first | assumption | exact RUN_0 _ _ _ | exact RUN_s (by assumption) (by unfold bitS; omega) (by omega))⟩ (by omega) (fun v32 hw hq => ?_)
    obtain ⟨hq33, hq34, hq35, hq36⟩ := hq
    replace hT := gl1y hT hw
    refine k_iloadn (pc := 50) E 0 dX2_lastOf_50 rfl rfl ?_
    exact k_rho (congrArg (fun q => (q, s0)) hT) (k_iret (pc := 51) E dX2_lastOf_51 (by omega))
  · replace hT := hT.trans (if_neg h3)
    refine k_if_ne_t (pc := 10) (tgt := 50) E (by omega) dX2_lastOf_10 (by decide) h3 ?_
    refine k_iloadn (pc := 50) E 0 dX2_lastOf_50 rfl rfl ?_
    exact k_rho (congrArg (fun q => (q, s0)) hT) (k_iret (pc := 51) E dX2_lastOf_51 (by omega))

def f_X2_upAfter (x0 : Int) (x1 : Int) (x2 : Int) (s0 : gMem) : Int := (if (s0 64 0) = 0 then (x0 + x2) else (if (s0 64 0) = 1 then (x1 - x2) else (if (x2 % 2) = 1 then (((x0 + x1) / 2) + ((x2 + 1) / 2)) else (((x0 + x1) / 2) - (x2 / 2)))))
theorem f_X2_upAfter_e (x0 : Int) (x1 : Int) (x2 : Int) (s0 : gMem) : f_X2_upAfter x0 x1 x2 s0 = (if (s0 64 0) = 0 then (x0 + x2) else (if (s0 64 0) = 1 then (x1 - x2) else (if (x2 % 2) = 1 then (((x0 + x1) / 2) + ((x2 + 1) / 2)) else (((x0 + x1) / 2) - (x2 / 2))))) := rfl
set_option maxRecDepth 100000 in
set_option maxHeartbeats 4000000 in
theorem f_X2_upAfter_p (x0 : Int) (x1 : Int) (x2 : Int) (s0 : gMem) (hx0 : in32 x0) (hx1 : in32 x1) (hx2 : in32 x2) (hm_s0 : gMR lgX s0) (hpre0 : WY s0) (hpre1 : 0 ≤ x0 ∧ x0 ≤ x1 ∧ x1 ≤ 15) (hpre2 : 0 ≤ x2 ∧ x2 ≤ x1 - x0) : (in32 (f_X2_upAfter x0 x1 x2 s0)) ∧ (x0 ≤ (f_X2_upAfter x0 x1 x2 s0) ∧ (f_X2_upAfter x0 x1 x2 s0) ≤ x1) := by
  have hT := f_X2_upAfter_e x0 x1 x2 s0
  have hr1 := (hm_s0 64 0).1 rfl
  have hi2 := hpre0 0
  by_cases h3 : (s0 64 0) = 0
  · replace hT := hT.trans (if_pos h3)
    rw [hT]
    exact ⟨(by omega), (by first | assumption | omega)⟩
  · replace hT := hT.trans (if_neg h3)
    by_cases h4 : (s0 64 0) = 1
    · replace hT := hT.trans (if_pos h4)
      rw [hT]
      exact ⟨(by omega), (by first | assumption | omega)⟩
    · replace hT := hT.trans (if_neg h4)
      have hd5 : (0 : Int) ≤ (x0 + x1) := (by omega)
      have hd6 : (0 : Int) < 2 := (by omega)
      have hb7 := dv_rg hd5 hd6
      have hd8 : (0 : Int) ≤ x2 := (by omega)
      have hd9 : (0 : Int) < 2 := (by omega)
      have hb10 := rm_rg (x := x2) hd9
      by_cases h11 : (x2 % 2) = 1
      · replace hT := hT.trans (if_pos h11)
        have hd12 : (0 : Int) ≤ (x2 + 1) := (by omega)
        have hd13 : (0 : Int) < 2 := (by omega)
        have hb14 := dv_rg hd12 hd13
        rw [hT]
        exact ⟨(by omega), (by first | assumption | omega)⟩
      · replace hT := hT.trans (if_neg h11)
        have hd15 : (0 : Int) ≤ x2 := (by omega)
        have hd16 : (0 : Int) < 2 := (by omega)
        have hb17 := dv_rg hd15 hd16
        rw [hT]
        exact ⟨(by omega), (by first | assumption | omega)⟩
set_option maxRecDepth 100000 in
set_option maxHeartbeats 4000000 in
theorem c_X2_upAfter (l : Launch) (D : va_G) (a : Nat → Nat) (cI cJ cS cT : ClassId) (s0 : gMem) (x0 : Int) (x1 : Int) (x2 : Int) (hx0 : in32 x0) (hx1 : in32 x1) (hx2 : in32 x2) (hpre0 : WY s0) (hpre1 : 0 ≤ x0 ∧ x0 ≤ x1 ∧ x1 ≤ 15) (hpre2 : 0 ≤ x2 ∧ x2 ≤ x1 - x0) : gC l yX2_upAfter cX2_upAfter 5 (some .int) 1 64 D vwCl (gT cI cJ cS cT) (wdX a cI cJ cS cT) lgX kI in32 [.ref (a 5), gI x0, gI x1, gI x2] s0 ((f_X2_upAfter x0 x1 x2 s0), s0) := by
  refine gC_of (by decide +kernel) (hwdX a cI cJ cS cT) (Nat.le_of_ble_eq_true rfl) ?_
  intro A p e R s m args below meth c hR E
  subst hR
  have hT := f_X2_upAfter_e x0 x1 x2 s0
  refine k_lv0 (lv' := [(0, .ref (a 5)), (1, gI x0), (2, gI x1), (3, gI x2)]) rfl ?_
  refine k_mr (fun hm_s0 => ?_)
  refine k_aloadn (pc := 0) E 0 dX2_upAfter_0 rfl rfl ?_
  refine k_getfI (pc := 1) (q0 := 5) (f := 4) (k := 64) E inX2 rfl rfl (by decide) wm_179 rfl rfl rfl dX2_upAfter_1 (fun hr1 => ?_)
  have hi2 := hpre0 0
  by_cases h3 : (s0 64 0) = 0
  · replace hT := hT.trans (if_pos h3)
    refine k_lookup (pc := 4) (tgt := 32) (off := 28) E dX2_upAfter_4 (by omega) (by decide) (by rw [h3]; rfl) (by decide) ?_
    refine k_iloadn (pc := 32) E 1 dX2_upAfter_32 rfl rfl ?_
    refine k_iloadn (pc := 33) E 3 dX2_upAfter_33 rfl rfl ?_
    refine k_iadd (pc := 34) E dX2_upAfter_34 ?_
    exact k_rho (congrArg (fun q => (q, s0)) hT) (k_iret (pc := 35) E dX2_upAfter_35 (by omega))
  · replace hT := hT.trans (if_neg h3)
    by_cases h4 : (s0 64 0) = 1
    · replace hT := hT.trans (if_pos h4)
      refine k_lookup (pc := 4) (tgt := 36) (off := 32) E dX2_upAfter_4 (by omega) (by decide) (by rw [h4]; rfl) (by decide) ?_
      refine k_iloadn (pc := 36) E 2 dX2_upAfter_36 rfl rfl ?_
      refine k_iloadn (pc := 37) E 3 dX2_upAfter_37 rfl rfl ?_
      refine k_isub (pc := 38) E dX2_upAfter_38 ?_
      exact k_rho (congrArg (fun q => (q, s0)) hT) (k_iret (pc := 39) E dX2_upAfter_39 (by omega))
    · replace hT := hT.trans (if_neg h4)
      refine k_lookup (pc := 4) (tgt := 40) (off := 36) E dX2_upAfter_4 (by omega) (by decide) (by simp [Op.lookupswitch.offset] <;> repeat (first | rw [if_neg (by omega)] | rfl)) (by decide) ?_
      refine k_iloadn (pc := 40) E 1 dX2_upAfter_40 rfl rfl ?_
      refine k_iloadn (pc := 41) E 2 dX2_upAfter_41 rfl rfl ?_
      refine k_iadd (pc := 42) E dX2_upAfter_42 ?_
      refine k_iconst (pc := 43) E dX2_upAfter_43 ?_
      have hd5 : (0 : Int) ≤ (x0 + x1) := (by omega)
      have hd6 : (0 : Int) < 2 := (by omega)
      refine k_idivN (pc := 44) E (by omega) (by omega) hd5 hd6 dX2_upAfter_44 ?_
      have hb7 := dv_rg hd5 hd6
      refine k_istore (pc := 45) (lv' := [(4, gI ((x0 + x1) / 2)), (0, .ref (a 5)), (1, gI x0), (2, gI x1), (3, gI x2)]) E dX2_upAfter_45 (by decide) rfl ?_
      refine k_iloadn (pc := 47) E 4 dX2_upAfter_47 rfl rfl ?_
      refine k_iconst (pc := 48) E dX2_upAfter_48 ?_
      have hd8 : (0 : Int) ≤ x2 := (by omega)
      have hd9 : (0 : Int) < 2 := (by omega)
      refine k_iremN (pc := 49) E (by omega) (by omega) hd8 hd9 dX2_upAfter_49 ?_
      have hb10 := rm_rg (x := x2) hd9
      refine k_iconst (pc := 50) E dX2_upAfter_50 ?_
      by_cases h11 : (x2 % 2) = 1
      · replace hT := hT.trans (if_pos h11)
        refine k_icmp_ne_f (pc := 51) (tgt := 65) E (by omega) (by omega) dX2_upAfter_51 (by decide) h11 ?_
        refine k_iload (pc := 54) E 0 dX2_upAfter_54 rfl ?_
        refine k_iloadn (pc := 56) E 4 dX2_upAfter_56 rfl rfl ?_
        refine k_iconst (pc := 57) E dX2_upAfter_57 ?_
        refine k_iadd (pc := 58) E dX2_upAfter_58 ?_
        refine k_iconst (pc := 59) E dX2_upAfter_59 ?_
        have hd12 : (0 : Int) ≤ (x2 + 1) := (by omega)
        have hd13 : (0 : Int) < 2 := (by omega)
        refine k_idivN (pc := 60) E (by omega) (by omega) hd12 hd13 dX2_upAfter_60 ?_
        have hb14 := dv_rg hd12 hd13
        refine k_iadd (pc := 61) E dX2_upAfter_61 ?_
        refine k_goto (pc := 62) (tgt := 71) E dX2_upAfter_62 (by decide) ?_
        exact k_rho (congrArg (fun q => (q, s0)) hT) (k_iret (pc := 71) E dX2_upAfter_71 (by omega))
      · replace hT := hT.trans (if_neg h11)
        refine k_icmp_ne_t (pc := 51) (tgt := 65) E (by omega) (by omega) dX2_upAfter_51 (by decide) h11 ?_
        refine k_iload (pc := 65) E 0 dX2_upAfter_65 rfl ?_
        refine k_iloadn (pc := 67) E 4 dX2_upAfter_67 rfl rfl ?_
        refine k_iconst (pc := 68) E dX2_upAfter_68 ?_
        have hd15 : (0 : Int) ≤ x2 := (by omega)
        have hd16 : (0 : Int) < 2 := (by omega)
        refine k_idivN (pc := 69) E (by omega) (by omega) hd15 hd16 dX2_upAfter_69 ?_
        have hb17 := dv_rg hd15 hd16
        refine k_isub (pc := 70) E dX2_upAfter_70 ?_
        exact k_rho (congrArg (fun q => (q, s0)) hT) (k_iret (pc := 71) E dX2_upAfter_71 (by omega))

def w_X2_measure_17 (c1 : Int) : Nat → Int → gMem → Int × gMem
  | 0, v13, s14 => (v13, s14)
  | n15 + 1, v13, s14 => (if v13 < 16 then (if (f_X2_begins v13 c1 s14) = 0 then (w_X2_measure_17 c1 n15 (v13 + 1) s14) else gl (((f_X2_lastOf v13 c1 s14) - v13) + 1) (fun v28 => gl (mset s14 67 0 ((s14 67 0) + 1)) (fun s30 => (if (s30 65 0) < v28 then gl (mset s30 65 0 v28) (fun s36 => gl (mset s36 66 0 v13) (fun s40 => (w_X2_measure_17 c1 n15 (v13 + 1) s40))) else (w_X2_measure_17 c1 n15 (v13 + 1) s30))))) else (v13, s14))
theorem w_X2_measure_17_s (c1 : Int) (n15 : Nat) (v13 : Int) (s14 : gMem) : w_X2_measure_17 c1 (n15 + 1) v13 s14 = (if v13 < 16 then (if (f_X2_begins v13 c1 s14) = 0 then (w_X2_measure_17 c1 n15 (v13 + 1) s14) else gl (((f_X2_lastOf v13 c1 s14) - v13) + 1) (fun v28 => gl (mset s14 67 0 ((s14 67 0) + 1)) (fun s30 => (if (s30 65 0) < v28 then gl (mset s30 65 0 v28) (fun s36 => gl (mset s36 66 0 v13) (fun s40 => (w_X2_measure_17 c1 n15 (v13 + 1) s40))) else (w_X2_measure_17 c1 n15 (v13 + 1) s30))))) else (v13, s14)) := rfl
def f_X2_measure (x0 : Int) (s0 : gMem) : gRes := gl (mset s0 65 0 0) (fun s1 => gl (mset s1 66 0 (-1)) (fun s5 => gl (mset s5 67 0 0) (fun s9 => (gl2 (w_X2_measure_17 x0 17 0 s9) (fun v86 s87 => (0, s87))))))
theorem f_X2_measure_e (x0 : Int) (s0 : gMem) : f_X2_measure x0 s0 = gl (mset s0 65 0 0) (fun s1 => gl (mset s1 66 0 (-1)) (fun s5 => gl (mset s5 67 0 0) (fun s9 => (gl2 (w_X2_measure_17 x0 17 0 s9) (fun v86 s87 => (0, s87)))))) := rfl
set_option maxRecDepth 100000 in
set_option maxHeartbeats 4000000 in
theorem f_X2_measure_p (x0 : Int) (s0 : gMem) (hx0 : in32 x0) (hm_s0 : gMR lgX s0)  (rZ : Int) (sZ : gMem) (hres : f_X2_measure x0 s0 = (rZ, sZ)) : (fr [65, 66, 67] s0 sZ) ∧ (gMR lgX sZ) ∧ (True) := by
  have hT := f_X2_measure_e x0 s0
  have hf_s0 : fr [65, 66, 67] s0 s0 := fr.rf _ _
  obtain ⟨s1, hs1, hT⟩ := glx hT
  have hf_s1 : fr [65, 66, 67] s0 s1 := hs1 ▸ hf_s0.set (by decide)
  have hm_s1 : gMR lgX s1 := hs1 ▸ hm_s0.set32 rfl (by omega)
  have ht2 : s1 65 0 = 0 := by rw [hs1]; exact mset_eq _ _ _ _
  have ht3 : s1 66 0 = s0 66 0 := by rw [hs1]; exact mset_ne _ _ _ _ _ (by decide)
  have ht4 : s1 67 0 = s0 67 0 := by rw [hs1]; exact mset_ne _ _ _ _ _ (by decide)
  obtain ⟨s5, hs5, hT⟩ := glx hT
  have hf_s5 : fr [65, 66, 67] s0 s5 := hs5 ▸ hf_s1.set (by decide)
  have hm_s5 : gMR lgX s5 := hs5 ▸ hm_s1.set32 rfl (by omega)
  have ht6 : s5 65 0 = s1 65 0 := by rw [hs5]; exact mset_ne _ _ _ _ _ (by decide)
  have ht7 : s5 66 0 = (-1) := by rw [hs5]; exact mset_eq _ _ _ _
  have ht8 : s5 67 0 = s1 67 0 := by rw [hs5]; exact mset_ne _ _ _ _ _ (by decide)
  obtain ⟨s9, hs9, hT⟩ := glx hT
  have hf_s9 : fr [65, 66, 67] s0 s9 := hs9 ▸ hf_s5.set (by decide)
  have hm_s9 : gMR lgX s9 := hs9 ▸ hm_s5.set32 rfl (by omega)
  have ht10 : s9 65 0 = s5 65 0 := by rw [hs9]; exact mset_ne _ _ _ _ _ (by decide)
  have ht11 : s9 66 0 = s5 66 0 := by rw [hs9]; exact mset_ne _ _ _ _ _ (by decide)
  have ht12 : s9 67 0 = 0 := by rw [hs9]; exact mset_eq _ _ _ _
  have L46 : ∀ (n47 : Nat) (v44 : Int) (s45 : gMem), ((in32 v44) ∧ (fr [65, 66, 67] s0 s45) ∧ (gMR lgX s45) ∧ (0 ≤ v44 ∧ v44 ≤ 16) ∧ (0 ≤ s45 67 0 ∧ s45 67 0 ≤ v44) ∧ (0 ≤ s45 65 0 ∧ s45 65 0 ≤ 16)) → 16 - v44 < (n47 : Int) → (∀ (w48 : Int) (s49 : gMem), (w_X2_measure_17 x0 n47 v44 s45) = (w48, s49) → ((in32 w48) ∧ (fr [65, 66, 67] s0 s49) ∧ (gMR lgX s49) ∧ (0 ≤ w48 ∧ w48 ≤ 16) ∧ (0 ≤ s49 67 0 ∧ s49 67 0 ≤ w48) ∧ (0 ≤ s49 65 0 ∧ s49 65 0 ≤ 16)) → (fr [65, 66, 67] s0 sZ) ∧ (gMR lgX sZ) ∧ (True)) → (fr [65, 66, 67] s0 sZ) ∧ (gMR lgX sZ) ∧ (True) := by
    intro n47; induction n47 with
    | zero =>
      intro v44 s45 hq hm hk
      exfalso
      obtain ⟨hq78, hf_s45, hm_s45, hq79, hq80, hq81⟩ := hq
      omega
    | succ n47 ih =>
      intro v44 s45 hq hm hk
      obtain ⟨hq82, hf_s45, hm_s45, hq83, hq84, hq85⟩ := hq
      have hT := w_X2_measure_17_s x0 n47 v44 s45
      by_cases h50 : v44 < 16
      · replace hT := hT.trans (if_pos h50)
        have hp52 := f_X2_begins_p v44 x0 s45 (by omega) (by omega) hm_s45 (by first | assumption | omega)
        try simp only [hf_s45 40 (by decide)] at hp52
        obtain ⟨hp53, hp54⟩ := hp52
        by_cases h55 : (f_X2_begins v44 x0 s45) = 0
        · replace hT := hT.trans (if_pos h55)
          exact ih (v44 + 1) s45 ⟨(by omega), hf_s45, hm_s45, (by first | assumption | omega), (by first | assumption | omega), (by first | assumption | omega)⟩ (by omega) (fun w48 s49 hw hi => hk w48 s49 (hT.trans hw) hi)
        · replace hT := hT.trans (if_neg h55)
          have hp57 := f_X2_lastOf_p v44 x0 s45 (by omega) (by omega) hm_s45 (by first | assumption | omega)
          try simp only [hf_s45 40 (by decide)] at hp57
          obtain ⟨hp58, hp59, hp60, hp61⟩ := hp57
          obtain ⟨v62, hv62, hT⟩ := glx hT
          have hr63 := (hm_s45 67 0).1 rfl
          obtain ⟨s64, hs64, hT⟩ := glx hT
          have hf_s64 : fr [65, 66, 67] s0 s64 := hs64 ▸ hf_s45.set (by decide)
          have hm_s64 : gMR lgX s64 := hs64 ▸ hm_s45.set32 rfl (by omega)
          have ht65 : s64 65 0 = s45 65 0 := by rw [hs64]; exact mset_ne _ _ _ _ _ (by decide)
          have ht66 : s64 66 0 = s45 66 0 := by rw [hs64]; exact mset_ne _ _ _ _ _ (by decide)
          have ht67 : s64 67 0 = ((s45 67 0) + 1) := by rw [hs64]; exact mset_eq _ _ _ _
          have hr68 := (hm_s64 65 0).1 rfl
          by_cases h69 : (s64 65 0) < v62
          · replace hT := hT.trans (if_pos h69)
            obtain ⟨s70, hs70, hT⟩ := glx hT
            have hf_s70 : fr [65, 66, 67] s0 s70 := hs70 ▸ hf_s64.set (by decide)
            have hm_s70 : gMR lgX s70 := hs70 ▸ hm_s64.set32 rfl (by omega)
            have ht71 : s70 65 0 = v62 := by rw [hs70]; exact mset_eq _ _ _ _
            have ht72 : s70 66 0 = s64 66 0 := by rw [hs70]; exact mset_ne _ _ _ _ _ (by decide)
            have ht73 : s70 67 0 = s64 67 0 := by rw [hs70]; exact mset_ne _ _ _ _ _ (by decide)
            obtain ⟨s74, hs74, hT⟩ := glx hT
            have hf_s74 : fr [65, 66, 67] s0 s74 := hs74 ▸ hf_s70.set (by decide)
            have hm_s74 : gMR lgX s74 := hs74 ▸ hm_s70.set32 rfl (by omega)
            have ht75 : s74 65 0 = s70 65 0 := by rw [hs74]; exact mset_ne _ _ _ _ _ (by decide)
            have ht76 : s74 66 0 = v44 := by rw [hs74]; exact mset_eq _ _ _ _
            have ht77 : s74 67 0 = s70 67 0 := by rw [hs74]; exact mset_ne _ _ _ _ _ (by decide)
            exact ih (v44 + 1) s74 ⟨(by omega), hf_s74, hm_s74, (by first | assumption | omega), (by first | assumption | omega), (by first | assumption | omega)⟩ (by omega) (fun w48 s49 hw hi => hk w48 s49 (hT.trans hw) hi)
          · replace hT := hT.trans (if_neg h69)
            exact ih (v44 + 1) s64 ⟨(by omega), hf_s64, hm_s64, (by first | assumption | omega), (by first | assumption | omega), (by first | assumption | omega)⟩ (by omega) (fun w48 s49 hw hi => hk w48 s49 (hT.trans hw) hi)
      · replace hT := hT.trans (if_neg h50)
        exact hk v44 s45 hT ⟨(by omega), hf_s45, hm_s45, (by first | assumption | omega), (by first | assumption | omega), (by first | assumption | omega)⟩
  refine L46 17 0 s9 ⟨(by omega), hf_s9, hm_s9, (by first | assumption | omega), (by first | assumption | omega), (by first | assumption | omega)⟩ (by omega) (fun v86 s87 hw hq => ?_)
  obtain ⟨hq88, hf_s87, hm_s87, hq89, hq90, hq91⟩ := hq
  replace hT := gl2y hT hw
  obtain ⟨rfl, rfl⟩ := Prod.mk.inj (hT.symm.trans hres)
  exact ⟨hf_s87, hm_s87, trivial⟩
set_option maxRecDepth 100000 in
set_option maxHeartbeats 4000000 in
theorem c_X2_measure (l : Launch) (D : va_G) (a : Nat → Nat) (cI cJ cS cT : ClassId) (s0 : gMem) (x0 : Int) (hx0 : in32 x0)  : gC l yX2_measure cX2_measure 4 none 3 192 D vwCl (gT cI cJ cS cT) (wdX a cI cJ cS cT) lgX kV rgV [.ref (a 5), gI x0] s0 (f_X2_measure x0 s0) := by
  refine gC_of (by decide +kernel) (hwdX a cI cJ cS cT) (Nat.le_of_ble_eq_true rfl) ?_
  intro A p e R s m args below meth c hR E
  subst hR
  have hT := f_X2_measure_e x0 s0
  have hf_s0 : fr [65, 66, 67] s0 s0 := fr.rf _ _
  refine k_lv0 (lv' := [(0, .ref (a 5)), (1, gI x0)]) rfl ?_
  refine k_mr (fun hm_s0 => ?_)
  refine k_aloadn (pc := 0) E 0 dX2_measure_0 rfl rfl ?_
  refine k_iconst (pc := 1) E dX2_measure_1 ?_
  refine k_putfI (pc := 2) (q0 := 5) (f := 5) (k := 65) E tyX2 tyX2_ok nmX2 inX2 rfl rfl (by decide) wm_180 rfl rfl rfl (Nat.le_of_ble_eq_true rfl) rfl rfl (by omega) dX2_measure_2 ?_
  obtain ⟨s1, hs1, hT⟩ := glx hT
  refine k_sg hs1.symm ?_
  have hf_s1 : fr [65, 66, 67] s0 s1 := hs1 ▸ hf_s0.set (by decide)
  have ht2 : s1 65 0 = 0 := by rw [hs1]; exact mset_eq _ _ _ _
  have ht3 : s1 66 0 = s0 66 0 := by rw [hs1]; exact mset_ne _ _ _ _ _ (by decide)
  have ht4 : s1 67 0 = s0 67 0 := by rw [hs1]; exact mset_ne _ _ _ _ _ (by decide)
  refine k_aloadn (pc := 5) E 0 dX2_measure_5 rfl rfl ?_
  refine k_iconst (pc := 6) E dX2_measure_6 ?_
  refine k_putfI (pc := 7) (q0 := 5) (f := 6) (k := 66) E tyX2 tyX2_ok nmX2 inX2 rfl rfl (by decide) wm_182 rfl rfl rfl (Nat.le_of_ble_eq_true rfl) rfl rfl (by omega) dX2_measure_7 ?_
  obtain ⟨s5, hs5, hT⟩ := glx hT
  refine k_sg hs5.symm ?_
  have hf_s5 : fr [65, 66, 67] s0 s5 := hs5 ▸ hf_s1.set (by decide)
  have ht6 : s5 65 0 = s1 65 0 := by rw [hs5]; exact mset_ne _ _ _ _ _ (by decide)
  have ht7 : s5 66 0 = (-1) := by rw [hs5]; exact mset_eq _ _ _ _
  have ht8 : s5 67 0 = s1 67 0 := by rw [hs5]; exact mset_ne _ _ _ _ _ (by decide)
  refine k_aloadn (pc := 10) E 0 dX2_measure_10 rfl rfl ?_
  refine k_iconst (pc := 11) E dX2_measure_11 ?_
  refine k_putfI (pc := 12) (q0 := 5) (f := 7) (k := 67) E tyX2 tyX2_ok nmX2 inX2 rfl rfl (by decide) wm_184 rfl rfl rfl (Nat.le_of_ble_eq_true rfl) rfl rfl (by omega) dX2_measure_12 ?_
  obtain ⟨s9, hs9, hT⟩ := glx hT
  refine k_sg hs9.symm ?_
  have hf_s9 : fr [65, 66, 67] s0 s9 := hs9 ▸ hf_s5.set (by decide)
  have ht10 : s9 65 0 = s5 65 0 := by rw [hs9]; exact mset_ne _ _ _ _ _ (by decide)
  have ht11 : s9 66 0 = s5 66 0 := by rw [hs9]; exact mset_ne _ _ _ _ _ (by decide)
  have ht12 : s9 67 0 = 0 := by rw [hs9]; exact mset_eq _ _ _ _
  refine k_iconst (pc := 15) E dX2_measure_15 ?_
  refine k_istoren (pc := 16) (lv' := [(2, gI 0), (0, .ref (a 5)), (1, gI x0)]) E dX2_measure_16 rfl (by decide) rfl ?_
  have L46 : ∀ (n47 : Nat) (v44 : Int) (s45 : gMem), ((in32 v44) ∧ (fr [65, 66, 67] s0 s45) ∧ (0 ≤ v44 ∧ v44 ≤ 16) ∧ (0 ≤ s45 67 0 ∧ s45 67 0 ≤ v44) ∧ (0 ≤ s45 65 0 ∧ s45 65 0 ≤ 16)) → 16 - v44 < (n47 : Int) → (∀ (w48 : Int) (s49 : gMem), (w_X2_measure_17 x0 n47 v44 s45) = (w48, s49) → ((in32 w48) ∧ (fr [65, 66, 67] s0 s49) ∧ (0 ≤ w48 ∧ w48 ≤ 16) ∧ (0 ≤ s49 67 0 ∧ s49 67 0 ≤ w48) ∧ (0 ≤ s49 65 0 ∧ s49 65 0 ≤ 16)) → gK D vwCl (wdX a cI cJ cS cT) lgX A p l e { frames := 3, cells := 0, slots := 0, locals := 192 } s m args below meth c 4 (gQQ D vwCl (wdX a cI cJ cS cT) lgX A kV rgV below args s) (f_X2_measure x0 s0) s49 77 [] []) → gK D vwCl (wdX a cI cJ cS cT) lgX A p l e { frames := 3, cells := 0, slots := 0, locals := 192 } s m args below meth c 4 (gQQ D vwCl (wdX a cI cJ cS cT) lgX A kV rgV below args s) (f_X2_measure x0 s0) s45 17 [(0, .ref (a 5)), (1, gI x0), (2, gI v44)] [] := by
    intro n47; induction n47 with
    | zero =>
      intro v44 s45 hq hm hk
      exfalso
      obtain ⟨hq78, hf_s45, hq79, hq80, hq81⟩ := hq
      omega
    | succ n47 ih =>
      intro v44 s45 hq hm hk
      obtain ⟨hq82, hf_s45, hq83, hq84, hq85⟩ := hq
      have hT := w_X2_measure_17_s x0 n47 v44 s45
      refine k_iloadn (pc := 17) E 2 dX2_measure_17 rfl rfl ?_
      refine k_bipush (pc := 18) E dX2_measure_18 (by decide) ?_
      by_cases h50 : v44 < 16
      · replace hT := hT.trans (if_pos h50)
        refine k_icmp_ge_f (pc := 20) (tgt := 77) E (by omega) (by omega) dX2_measure_20 (by decide) h50 ?_
        refine k_aloadn (pc := 23) E 0 dX2_measure_23 rfl rfl ?_
        refine k_iloadn (pc := 24) E 2 dX2_measure_24 rfl rfl ?_
        refine k_iloadn (pc := 25) E 1 dX2_measure_25 rfl rfl ?_
        refine k_mr (fun hm_s45 => ?_)
        refine k_callV (pc := 26) (np := 2) (As := [gI v44, gI x0]) (st := []) (q0 := 5) E (c_X2_begins l D a cI cJ cS cT s45 v44 x0 (by omega) (by omega) (by first | assumption | omega)) wm_549 wm_7 wm_546 wm_548 wp_16 (by decide +kernel) rfl rfl ⟨by decide, by decide⟩ rfl (Nat.le_of_ble_eq_true rfl) dX2_measure_26 (ro_kk (fun hr51 => ?_))
        have hp52 := f_X2_begins_p v44 x0 s45 (by omega) (by omega) hm_s45 (by first | assumption | omega)
        try simp only [hf_s45 40 (by decide)] at hp52
        obtain ⟨hp53, hp54⟩ := hp52
        refine k_st (st' := [gI (f_X2_begins v44 x0 s45)]) rfl ?_
        by_cases h55 : (f_X2_begins v44 x0 s45) = 0
        · replace hT := hT.trans (if_pos h55)
          refine k_if_eq_t (pc := 29) (tgt := 71) E (by omega) dX2_measure_29 (by decide) h55 ?_
          refine k_iinc (pc := 71) (lv' := [(2, gI (v44 + 1)), (0, .ref (a 5)), (1, gI x0)]) E 2 dX2_measure_71 rfl (by decide) rfl ?_
          refine k_goto (pc := 74) (tgt := 17) E dX2_measure_74 (by decide) ?_
          refine k_lv (lv' := [(0, .ref (a 5)), (1, gI x0), (2, gI (v44 + 1))]) [1, 2, 0] rfl ?_
          exact ih (v44 + 1) s45 ⟨(by omega), hf_s45, (by first | assumption | omega), (by first | assumption | omega), (by first | assumption | omega)⟩ (by omega) (fun w48 s49 hw hi => hk w48 s49 (hT.trans hw) hi)
        · replace hT := hT.trans (if_neg h55)
          refine k_if_eq_f (pc := 29) (tgt := 71) E (by omega) dX2_measure_29 (by decide) h55 ?_
          refine k_aloadn (pc := 32) E 0 dX2_measure_32 rfl rfl ?_
          refine k_iloadn (pc := 33) E 2 dX2_measure_33 rfl rfl ?_
          refine k_iloadn (pc := 34) E 1 dX2_measure_34 rfl rfl ?_
          refine k_mr (fun hm_s45 => ?_)
          refine k_callV (pc := 35) (np := 2) (As := [gI v44, gI x0]) (st := []) (q0 := 5) E (c_X2_lastOf l D a cI cJ cS cT s45 v44 x0 (by omega) (by omega) (by first | assumption | omega)) wm_557 wm_7 wm_554 wm_556 wp_17 (by decide +kernel) rfl rfl ⟨by decide, by decide⟩ rfl (Nat.le_of_ble_eq_true rfl) dX2_measure_35 (ro_kk (fun hr56 => ?_))
          have hp57 := f_X2_lastOf_p v44 x0 s45 (by omega) (by omega) hm_s45 (by first | assumption | omega)
          try simp only [hf_s45 40 (by decide)] at hp57
          obtain ⟨hp58, hp59, hp60, hp61⟩ := hp57
          refine k_st (st' := [gI (f_X2_lastOf v44 x0 s45)]) rfl ?_
          refine k_iloadn (pc := 38) E 2 dX2_measure_38 rfl rfl ?_
          refine k_isub (pc := 39) E dX2_measure_39 ?_
          refine k_iconst (pc := 40) E dX2_measure_40 ?_
          refine k_iadd (pc := 41) E dX2_measure_41 ?_
          obtain ⟨v62, hv62, hT⟩ := glx hT
          refine k_st (st' := [gI v62]) (by rw [hv62]) ?_
          refine k_istoren (pc := 42) (lv' := [(3, gI v62), (0, .ref (a 5)), (1, gI x0), (2, gI v44)]) E dX2_measure_42 rfl (by decide) rfl ?_
          refine k_aloadn (pc := 43) E 1 dX2_measure_43 rfl rfl ?_
          refine k_dup (pc := 44) E dX2_measure_44 rfl ?_
          refine k_getfI (pc := 45) (q0 := 5) (f := 7) (k := 67) E inX2 rfl rfl (by decide) wm_184 rfl rfl rfl dX2_measure_45 (fun hr63 => ?_)
          refine k_iconst (pc := 48) E dX2_measure_48 ?_
          refine k_iadd (pc := 49) E dX2_measure_49 ?_
          refine k_putfI (pc := 50) (q0 := 5) (f := 7) (k := 67) E tyX2 tyX2_ok nmX2 inX2 rfl rfl (by decide) wm_184 rfl rfl rfl (Nat.le_of_ble_eq_true rfl) rfl rfl (by omega) dX2_measure_50 ?_
          obtain ⟨s64, hs64, hT⟩ := glx hT
          refine k_sg hs64.symm ?_
          have hf_s64 : fr [65, 66, 67] s0 s64 := hs64 ▸ hf_s45.set (by decide)
          have ht65 : s64 65 0 = s45 65 0 := by rw [hs64]; exact mset_ne _ _ _ _ _ (by decide)
          have ht66 : s64 66 0 = s45 66 0 := by rw [hs64]; exact mset_ne _ _ _ _ _ (by decide)
          have ht67 : s64 67 0 = ((s45 67 0) + 1) := by rw [hs64]; exact mset_eq _ _ _ _
          refine k_iloadn (pc := 53) E 0 dX2_measure_53 rfl rfl ?_
          refine k_aloadn (pc := 54) E 1 dX2_measure_54 rfl rfl ?_
          refine k_getfI (pc := 55) (q0 := 5) (f := 5) (k := 65) E inX2 rfl rfl (by decide) wm_180 rfl rfl rfl dX2_measure_55 (fun hr68 => ?_)
          by_cases h69 : (s64 65 0) < v62
          · replace hT := hT.trans (if_pos h69)
            refine k_icmp_le_f (pc := 58) (tgt := 71) E (by omega) (by omega) dX2_measure_58 (by decide) h69 ?_
            refine k_aloadn (pc := 61) E 1 dX2_measure_61 rfl rfl ?_
            refine k_iloadn (pc := 62) E 0 dX2_measure_62 rfl rfl ?_
            refine k_putfI (pc := 63) (q0 := 5) (f := 5) (k := 65) E tyX2 tyX2_ok nmX2 inX2 rfl rfl (by decide) wm_180 rfl rfl rfl (Nat.le_of_ble_eq_true rfl) rfl rfl (by omega) dX2_measure_63 ?_
            obtain ⟨s70, hs70, hT⟩ := glx hT
            refine k_sg hs70.symm ?_
            have hf_s70 : fr [65, 66, 67] s0 s70 := hs70 ▸ hf_s64.set (by decide)
            have ht71 : s70 65 0 = v62 := by rw [hs70]; exact mset_eq _ _ _ _
            have ht72 : s70 66 0 = s64 66 0 := by rw [hs70]; exact mset_ne _ _ _ _ _ (by decide)
            have ht73 : s70 67 0 = s64 67 0 := by rw [hs70]; exact mset_ne _ _ _ _ _ (by decide)
            refine k_aloadn (pc := 66) E 1 dX2_measure_66 rfl rfl ?_
            refine k_iloadn (pc := 67) E 3 dX2_measure_67 rfl rfl ?_
            refine k_putfI (pc := 68) (q0 := 5) (f := 6) (k := 66) E tyX2 tyX2_ok nmX2 inX2 rfl rfl (by decide) wm_182 rfl rfl rfl (Nat.le_of_ble_eq_true rfl) rfl rfl (by omega) dX2_measure_68 ?_
            obtain ⟨s74, hs74, hT⟩ := glx hT
            refine k_sg hs74.symm ?_
            have hf_s74 : fr [65, 66, 67] s0 s74 := hs74 ▸ hf_s70.set (by decide)
            have ht75 : s74 65 0 = s70 65 0 := by rw [hs74]; exact mset_ne _ _ _ _ _ (by decide)
            have ht76 : s74 66 0 = v44 := by rw [hs74]; exact mset_eq _ _ _ _
            have ht77 : s74 67 0 = s70 67 0 := by rw [hs74]; exact mset_ne _ _ _ _ _ (by decide)
            refine k_iinc (pc := 71) (lv' := [(2, gI (v44 + 1)), (3, gI v62), (0, .ref (a 5)), (1, gI x0)]) E 3 dX2_measure_71 rfl (by decide) rfl ?_
            refine k_goto (pc := 74) (tgt := 17) E dX2_measure_74 (by decide) ?_
            refine k_lv (lv' := [(0, .ref (a 5)), (1, gI x0), (2, gI (v44 + 1))]) [2, 3, 0] rfl ?_
            exact ih (v44 + 1) s74 ⟨(by omega), hf_s74, (by first | assumption | omega), (by first | assumption | omega), (by first | assumption | omega)⟩ (by omega) (fun w48 s49 hw hi => hk w48 s49 (hT.trans hw) hi)
          · replace hT := hT.trans (if_neg h69)
            refine k_icmp_le_t (pc := 58) (tgt := 71) E (by omega) (by omega) dX2_measure_58 (by decide) h69 ?_
            refine k_iinc (pc := 71) (lv' := [(2, gI (v44 + 1)), (3, gI v62), (0, .ref (a 5)), (1, gI x0)]) E 3 dX2_measure_71 rfl (by decide) rfl ?_
            refine k_goto (pc := 74) (tgt := 17) E dX2_measure_74 (by decide) ?_
            refine k_lv (lv' := [(0, .ref (a 5)), (1, gI x0), (2, gI (v44 + 1))]) [2, 3, 0] rfl ?_
            exact ih (v44 + 1) s64 ⟨(by omega), hf_s64, (by first | assumption | omega), (by first | assumption | omega), (by first | assumption | omega)⟩ (by omega) (fun w48 s49 hw hi => hk w48 s49 (hT.trans hw) hi)
      · replace hT := hT.trans (if_neg h50)
        refine k_icmp_ge_t (pc := 20) (tgt := 77) E (by omega) (by omega) dX2_measure_20 (by decide) h50 ?_
        refine k_lv (lv' := []) [] rfl ?_
        exact hk v44 s45 hT ⟨(by omega), hf_s45, (by first | assumption | omega), (by first | assumption | omega), (by first | assumption | omega)⟩
  refine k_lv (lv' := [(0, .ref (a 5)), (1, gI x0), (2, gI 0)]) [1, 2, 0] rfl ?_
  refine L46 17 0 s9 ⟨(by omega), hf_s9, (by first | assumption | omega), (by first | assumption | omega), (by first | assumption | omega)⟩ (by omega) (fun v86 s87 hw hq => ?_)
  obtain ⟨hq88, hf_s87, hq89, hq90, hq91⟩ := hq
  replace hT := gl2y hT hw
  exact k_rho hT (k_vret (pc := 77) E dX2_measure_77)

def f_X8_stretch (x0 : Int) (x1 : Int) (s0 : gMem) : gRes := (if (f_X8_outside x0 65536) = 0 then gb (f_X2_measure x0 s0) (fun r5 s6 => (if x1 = 0 then ((s6 65 0), s6) else (if x1 = 1 then ((s6 66 0), s6) else (if x1 = 2 then ((s6 67 0), s6) else ((-2), s6))))) else ((-2), s0))
theorem f_X8_stretch_e (x0 : Int) (x1 : Int) (s0 : gMem) : f_X8_stretch x0 x1 s0 = (if (f_X8_outside x0 65536) = 0 then gb (f_X2_measure x0 s0) (fun r5 s6 => (if x1 = 0 then ((s6 65 0), s6) else (if x1 = 1 then ((s6 66 0), s6) else (if x1 = 2 then ((s6 67 0), s6) else ((-2), s6))))) else ((-2), s0)) := rfl
set_option maxRecDepth 100000 in
set_option maxHeartbeats 4000000 in
theorem f_X8_stretch_p (x0 : Int) (x1 : Int) (s0 : gMem) (hx0 : in32 x0) (hx1 : in32 x1) (hm_s0 : gMR lgX s0)  (rZ : Int) (sZ : gMem) (hres : f_X8_stretch x0 x1 s0 = (rZ, sZ)) : (fr [65, 66, 67] s0 sZ) ∧ (gMR lgX sZ) ∧ (in32 rZ) := by
  have hT := f_X8_stretch_e x0 x1 s0
  have hf_s0 : fr [65, 66, 67] s0 s0 := fr.rf _ _
  have hp2 := f_X8_outside_p x0 65536 (by omega) (by omega) 
  by_cases h3 : (f_X8_outside x0 65536) = 0
  · replace hT := hT.trans (if_pos h3)
    obtain ⟨r5, s6, hs6⟩ : ∃ rr ss, (f_X2_measure x0 s0) = (rr, ss) := ⟨_, _, rfl⟩
    replace hT := gby hT hs6
    have hp7 := f_X2_measure_p x0 s0 (by omega) hm_s0  r5 s6 hs6
    obtain ⟨hfc_s6, hm_s6, hp8⟩ := hp7
    have hf_s6 : fr [65, 66, 67] s0 s6 := hf_s0.call (by decide) hfc_s6
    by_cases h9 : x1 = 0
    · replace hT := hT.trans (if_pos h9)
      have hr12 := (hm_s6 65 0).1 rfl
      obtain ⟨rfl, rfl⟩ := Prod.mk.inj (hT.symm.trans hres)
      exact ⟨hf_s6, hm_s6, (by omega)⟩
    · replace hT := hT.trans (if_neg h9)
      by_cases h10 : x1 = 1
      · replace hT := hT.trans (if_pos h10)
        have hr13 := (hm_s6 66 0).1 rfl
        obtain ⟨rfl, rfl⟩ := Prod.mk.inj (hT.symm.trans hres)
        exact ⟨hf_s6, hm_s6, (by omega)⟩
      · replace hT := hT.trans (if_neg h10)
        by_cases h11 : x1 = 2
        · replace hT := hT.trans (if_pos h11)
          have hr14 := (hm_s6 67 0).1 rfl
          obtain ⟨rfl, rfl⟩ := Prod.mk.inj (hT.symm.trans hres)
          exact ⟨hf_s6, hm_s6, (by omega)⟩
        · replace hT := hT.trans (if_neg h11)
          obtain ⟨rfl, rfl⟩ := Prod.mk.inj (hT.symm.trans hres)
          exact ⟨hf_s6, hm_s6, (by omega)⟩
  · replace hT := hT.trans (if_neg h3)
    obtain ⟨rfl, rfl⟩ := Prod.mk.inj (hT.symm.trans hres)
    exact ⟨hf_s0, hm_s0, (by omega)⟩
set_option maxRecDepth 100000 in
set_option maxHeartbeats 4000000 in
theorem c_X8_stretch (l : Launch) (D : va_G) (a : Nat → Nat) (cI cJ cS cT : ClassId) (s0 : gMem) (x0 : Int) (x1 : Int) (hx0 : in32 x0) (hx1 : in32 x1)  : gC l yX8_stretch cX8_stretch 3 (some .int) 4 256 D vwCl (gT cI cJ cS cT) (wdX a cI cJ cS cT) lgX kI in32 [.ref (a 0), gI x0, gI x1] s0 (f_X8_stretch x0 x1 s0) := by
  refine gC_of (by decide +kernel) (hwdX a cI cJ cS cT) (Nat.le_of_ble_eq_true rfl) ?_
  intro A p e R s m args below meth c hR E
  subst hR
  have hT := f_X8_stretch_e x0 x1 s0
  have hf_s0 : fr [65, 66, 67] s0 s0 := fr.rf _ _
  refine k_lv0 (lv' := [(0, .ref (a 0)), (1, gI x0), (2, gI x1)]) rfl ?_
  refine k_mr (fun hm_s0 => ?_)
  refine k_iloadn (pc := 0) E 1 dX8_stretch_0 rfl rfl ?_
  refine k_ldc (pc := 1) (n := 65536) E dX8_stretch_1 wm_311 (by decide) ?_
  refine k_mr (fun hm_s0 => ?_)
  refine k_callS (pc := 3) (np := 2) (As := [gI x0, gI 65536]) (st := []) E (c_X8_outside l D a cI cJ cS cT s0 x0 65536 (by omega) (by omega)) wm_310 wm_1 wm_308 wm_309 (by decide +kernel) ⟨by decide, by decide⟩ rfl (Nat.le_of_ble_eq_true rfl) dX8_stretch_3 (ro_kk (fun hr1 => ?_))
  have hp2 := f_X8_outside_p x0 65536 (by omega) (by omega) 
  refine k_st (st' := [gI (f_X8_outside x0 65536)]) rfl ?_
  by_cases h3 : (f_X8_outside x0 65536) = 0
  · replace hT := hT.trans (if_pos h3)
    refine k_if_eq_t (pc := 6) (tgt := 12) E (by omega) dX8_stretch_6 (by decide) h3 ?_
    refine k_aloadn (pc := 12) E 0 dX8_stretch_12 rfl rfl ?_
    refine k_getf (pc := 13) (q0 := 0) (f := 3) (v := .ref (a 5)) E inX8 rfl rfl (by decide) wm_275 rfl rfl dX8_stretch_13 ?_
    refine k_iloadn (pc := 16) E 1 dX8_stretch_16 rfl rfl ?_
    refine k_mr (fun hm_s0 => ?_)
    refine k_callV (pc := 17) (np := 1) (As := [gI x0]) (st := []) (q0 := 5) E (c_X2_measure l D a cI cJ cS cT s0 x0 (by omega)) wm_545 wm_7 wm_542 wm_543 wm_544 (by decide +kernel) rfl rfl ⟨by decide, by decide⟩ rfl (Nat.le_of_ble_eq_true rfl) dX8_stretch_17 (fun r5 s6 hs6 hr4 => ?_)
    replace hT := gby hT hs6
    have hp7 := f_X2_measure_p x0 s0 (by omega) hm_s0  r5 s6 hs6
    obtain ⟨hfc_s6, hm_s6, hp8⟩ := hp7
    have hf_s6 : fr [65, 66, 67] s0 s6 := hf_s0.call (by decide) hfc_s6
    refine k_st (st' := []) rfl ?_
    refine k_iloadn (pc := 20) E 2 dX8_stretch_20 rfl rfl ?_
    by_cases h9 : x1 = 0
    · replace hT := hT.trans (if_pos h9)
      refine k_tabIn (pc := 21) (tgt := 48) E dX8_stretch_21 (by omega) (by omega) (by omega) (by rw [h9]; rfl) (by decide) ?_
      refine k_aloadn (pc := 48) E 0 dX8_stretch_48 rfl rfl ?_
      refine k_getf (pc := 49) (q0 := 0) (f := 3) (v := .ref (a 5)) E inX8 rfl rfl (by decide) wm_275 rfl rfl dX8_stretch_49 ?_
      refine k_getfI (pc := 52) (q0 := 5) (f := 5) (k := 65) E inX2 rfl rfl (by decide) wm_181 rfl rfl rfl dX8_stretch_52 (fun hr12 => ?_)
      exact k_rho hT (k_iret (pc := 55) E dX8_stretch_55 (by omega))
    · replace hT := hT.trans (if_neg h9)
      by_cases h10 : x1 = 1
      · replace hT := hT.trans (if_pos h10)
        refine k_tabIn (pc := 21) (tgt := 56) E dX8_stretch_21 (by omega) (by omega) (by omega) (by rw [h10]; rfl) (by decide) ?_
        refine k_aloadn (pc := 56) E 0 dX8_stretch_56 rfl rfl ?_
        refine k_getf (pc := 57) (q0 := 0) (f := 3) (v := .ref (a 5)) E inX8 rfl rfl (by decide) wm_275 rfl rfl dX8_stretch_57 ?_
        refine k_getfI (pc := 60) (q0 := 5) (f := 6) (k := 66) E inX2 rfl rfl (by decide) wm_183 rfl rfl rfl dX8_stretch_60 (fun hr13 => ?_)
        exact k_rho hT (k_iret (pc := 63) E dX8_stretch_63 (by omega))
      · replace hT := hT.trans (if_neg h10)
        by_cases h11 : x1 = 2
        · replace hT := hT.trans (if_pos h11)
          refine k_tabIn (pc := 21) (tgt := 64) E dX8_stretch_21 (by omega) (by omega) (by omega) (by rw [h11]; rfl) (by decide) ?_
          refine k_aloadn (pc := 64) E 0 dX8_stretch_64 rfl rfl ?_
          refine k_getf (pc := 65) (q0 := 0) (f := 3) (v := .ref (a 5)) E inX8 rfl rfl (by decide) wm_275 rfl rfl dX8_stretch_65 ?_
          refine k_getfI (pc := 68) (q0 := 5) (f := 7) (k := 67) E inX2 rfl rfl (by decide) wm_185 rfl rfl rfl dX8_stretch_68 (fun hr14 => ?_)
          exact k_rho hT (k_iret (pc := 71) E dX8_stretch_71 (by omega))
        · replace hT := hT.trans (if_neg h11)
          refine k_tabOut (pc := 21) (tgt := 72) E dX8_stretch_21 (by omega) (by omega) (by decide) ?_
          refine k_bipush (pc := 72) E dX8_stretch_72 (by decide) ?_
          exact k_rho hT (k_iret (pc := 74) E dX8_stretch_74 (by omega))
  · replace hT := hT.trans (if_neg h3)
    refine k_if_eq_f (pc := 6) (tgt := 12) E (by omega) dX8_stretch_6 (by decide) h3 ?_
    refine k_bipush (pc := 9) E dX8_stretch_9 (by decide) ?_
    exact k_rho hT (k_iret (pc := 11) E dX8_stretch_11 (by omega))

def f_X2_capped (x0 : Int) : Int := (lmin x0 1000000000000)
theorem f_X2_capped_e (x0 : Int) : f_X2_capped x0 = (lmin x0 1000000000000) := rfl
set_option maxRecDepth 100000 in
set_option maxHeartbeats 4000000 in
theorem f_X2_capped_p (x0 : Int) (hx0 : in64 x0)  : (in64 (f_X2_capped x0)) ∧ (((f_X2_capped x0) = x0 ∧ x0 ≤ 1000000000000) ∨ ((f_X2_capped x0) = 1000000000000 ∧ 1000000000000 ≤ x0)) := by
  have hT := f_X2_capped_e x0
  have hp1 := lmin_p x0 1000000000000
  rw [hT]
  exact ⟨(by omega), (by first | assumption | omega)⟩
set_option maxRecDepth 100000 in
set_option maxHeartbeats 4000000 in
theorem c_X2_capped (l : Launch) (D : va_G) (a : Nat → Nat) (cI cJ cS cT : ClassId) (s0 : gMem) (x0 : Int) (hx0 : in64 x0)  : gC l yX2_capped cX2_capped 2 (some .long) 2 128 D vwCl (gT cI cJ cS cT) (wdX a cI cJ cS cT) lgX kJ in64 [gL x0] s0 ((f_X2_capped x0), s0) := by
  refine gC_of (by decide +kernel) (hwdX a cI cJ cS cT) (Nat.le_of_ble_eq_true rfl) ?_
  intro A p e R s m args below meth c hR E
  subst hR
  have hT := f_X2_capped_e x0
  refine k_lv0 (lv' := [(0, gL x0)]) rfl ?_
  refine k_lloadn (pc := 0) E 0 dX2_capped_0 rfl rfl ?_
  refine k_ldc2 (pc := 1) (n := 1000000000000) E dX2_capped_1 wm_587 (by decide) ?_
  refine k_lmin (pc := 4) (st := []) E (by omega) (by omega) wk_588 wk_589 wm_18 wk_590 (by decide) (Nat.le_of_ble_eq_true rfl) dX2_capped_4 ?_
  have hp1 := lmin_p x0 1000000000000
  exact k_rho (congrArg (fun q => (q, s0)) hT) (k_lret (pc := 7) E dX2_capped_7 (by omega))

def f_X2_from (x0 : Int) (s0 : gMem) : gRes := gl (mset s0 64 0 x0) (fun s1 => gl (mfill s1 42 256 (-1)) (fun s2 => (0, s2)))
theorem f_X2_from_e (x0 : Int) (s0 : gMem) : f_X2_from x0 s0 = gl (mset s0 64 0 x0) (fun s1 => gl (mfill s1 42 256 (-1)) (fun s2 => (0, s2))) := rfl
set_option maxRecDepth 100000 in
set_option maxHeartbeats 4000000 in
theorem f_X2_from_p (x0 : Int) (s0 : gMem) (hx0 : in32 x0) (hm_s0 : gMR lgX s0) (hpre0 : KM s0) (hpre1 : WY s0) (hpre2 : 0 ≤ x0 ∧ x0 ≤ 2) (rZ : Int) (sZ : gMem) (hres : f_X2_from x0 s0 = (rZ, sZ)) : (fr [42, 64] s0 sZ) ∧ (gMR lgX sZ) ∧ (True) ∧ (KM sZ) ∧ (WY sZ) := by
  have hT := f_X2_from_e x0 s0
  have hf_s0 : fr [42, 64] s0 s0 := fr.rf _ _
  have hKM_s0 := hpre0
  have hWY_s0 := hpre1
  obtain ⟨s1, hs1, hT⟩ := glx hT
  have hf_s1 : fr [42, 64] s0 s1 := hs1 ▸ hf_s0.set (by decide)
  have hm_s1 : gMR lgX s1 := hs1 ▸ hm_s0.set32 rfl (by omega)
  have hg_s1 : fr [64] s0 s1 := hs1 ▸ (fr.rf _ _).set (by decide)
  have hKM_s1 : KM s1 := KM_fr hKM_s0 (fun k hk => hg_s1 k (dj (by decide) k hk))
  have hWY_s1 : WY s1 := hs1 ▸ WY_set hWY_s0 (by omega)
  obtain ⟨s2, hs2, hT⟩ := glx hT
  have hf_s2 : fr [42, 64] s0 s2 := hs2 ▸ hf_s1.fill (by decide)
  have hm_s2 : gMR lgX s2 := hs2 ▸ hm_s1.fill64 rfl (by omega)
  have hg_s2 : fr [42] s1 s2 := hs2 ▸ (fr.rf _ _).fill (by decide)
  have hKM_s2 : KM s2 := hs2 ▸ KM_fill hKM_s1 (by omega)
  have hWY_s2 : WY s2 := WY_fr hWY_s1 (fun k hk => hg_s2 k (dj (by decide) k hk))
  obtain ⟨rfl, rfl⟩ := Prod.mk.inj (hT.symm.trans hres)
  exact ⟨hf_s2, hm_s2, trivial, hKM_s2, hWY_s2⟩
set_option maxRecDepth 100000 in
set_option maxHeartbeats 4000000 in
theorem c_X2_from (l : Launch) (D : va_G) (a : Nat → Nat) (cI cJ cS cT : ClassId) (s0 : gMem) (x0 : Int) (hx0 : in32 x0) (hpre0 : KM s0) (hpre1 : WY s0) (hpre2 : 0 ≤ x0 ∧ x0 ≤ 2) : gC l yX2_from cX2_from 2 none 2 128 D vwCl (gT cI cJ cS cT) (wdX a cI cJ cS cT) lgX kV rgV [.ref (a 5), gI x0] s0 (f_X2_from x0 s0) := by
  refine gC_of (by decide +kernel) (hwdX a cI cJ cS cT) (Nat.le_of_ble_eq_true rfl) ?_
  intro A p e R s m args below meth c hR E
  subst hR
  have hT := f_X2_from_e x0 s0
  have hf_s0 : fr [42, 64] s0 s0 := fr.rf _ _
  refine k_lv0 (lv' := [(0, .ref (a 5)), (1, gI x0)]) rfl ?_
  refine k_mr (fun hm_s0 => ?_)
  have hKM_s0 := hpre0
  have hWY_s0 := hpre1
  refine k_aloadn (pc := 0) E 0 dX2_from_0 rfl rfl ?_
  refine k_iloadn (pc := 1) E 1 dX2_from_1 rfl rfl ?_
  refine k_putfI (pc := 2) (q0 := 5) (f := 4) (k := 64) E tyX2 tyX2_ok nmX2 inX2 rfl rfl (by decide) wm_179 rfl rfl rfl (Nat.le_of_ble_eq_true rfl) rfl rfl (by omega) dX2_from_2 ?_
  obtain ⟨s1, hs1, hT⟩ := glx hT
  refine k_sg hs1.symm ?_
  have hf_s1 : fr [42, 64] s0 s1 := hs1 ▸ hf_s0.set (by decide)
  have hg_s1 : fr [64] s0 s1 := hs1 ▸ (fr.rf _ _).set (by decide)
  have hKM_s1 : KM s1 := KM_fr hKM_s0 (fun k hk => hg_s1 k (dj (by decide) k hk))
  have hWY_s1 : WY s1 := hs1 ▸ WY_set hWY_s0 (by omega)
  refine k_aloadn (pc := 5) E 0 dX2_from_5 rfl rfl ?_
  refine k_getf (pc := 6) (q0 := 5) (f := 1) (v := .ref (a 42)) E inX2 rfl rfl (by decide) wm_175 rfl rfl dX2_from_6 ?_
  refine k_ldc2 (pc := 9) (n := (-1)) E dX2_from_9 wm_567 (by decide) ?_
  obtain ⟨s2, hs2, hT⟩ := glx hT
  have hf_s2 : fr [42, 64] s0 s2 := hs2 ▸ hf_s1.fill (by decide)
  have hg_s2 : fr [42] s1 s2 := hs2 ▸ (fr.rf _ _).fill (by decide)
  have hKM_s2 : KM s2 := hs2 ▸ KM_fill hKM_s1 (by omega)
  have hWY_s2 : WY s2 := WY_fr hWY_s1 (fun k hk => hg_s2 k (dj (by decide) k hk))
  refine k_callS (pc := 12) (np := 2) (As := [.ref (a 42), gL (-1)]) (st := []) E (c_fillJ l D (hwdX a cI cJ cS cT) (q0 := 42) (k := 42) (n := 256) (fun _ => rfl) (fun _ _ _ => rfl) rfl rfl (by decide) s1 (-1) (by omega)) wm_570 wm_6 wm_568 wm_569 (by decide +kernel) ⟨by decide, by decide⟩ rfl (Nat.le_of_ble_eq_true rfl) dX2_from_12 (ro_kk (fun _ => ?_))
  refine k_sg hs2.symm ?_
  refine k_st (st' := []) rfl ?_
  exact k_rho hT (k_vret (pc := 15) E dX2_from_15)

def f_X2_closing (x0 : Int) (x1 : Int) (x2 : Int) (s0 : gMem) : gRes := gb (f_X4_falls x0 x2 s0) (fun r2 s3 => gb (f_X4_takes x0 s3) (fun r8 s9 => gb (f_X4_closes x0 x2 s9) (fun r14 s15 => gl ((1000 * (r8 + r14)) * 100) (fun v19 => ((f_X2_capped ((v19 + (x1 * r2)) / (100 - r2))), s15)))))
theorem f_X2_closing_e (x0 : Int) (x1 : Int) (x2 : Int) (s0 : gMem) : f_X2_closing x0 x1 x2 s0 = gb (f_X4_falls x0 x2 s0) (fun r2 s3 => gb (f_X4_takes x0 s3) (fun r8 s9 => gb (f_X4_closes x0 x2 s9) (fun r14 s15 => gl ((1000 * (r8 + r14)) * 100) (fun v19 => ((f_X2_capped ((v19 + (x1 * r2)) / (100 - r2))), s15))))) := rfl
set_option maxRecDepth 100000 in
set_option maxHeartbeats 4000000 in
theorem f_X2_closing_p (x0 : Int) (x1 : Int) (x2 : Int) (s0 : gMem) (hx0 : in32 x0) (hx1 : in64 x1) (hx2 : in32 x2) (hm_s0 : gMR lgX s0) (hpre0 : CD s0) (hpre1 : BG s0) (hpre2 : LA s0) (hpre3 : MOx s0) (hpre4 : KF s0) (hpre5 : KC s0) (hpre6 : KT s0) (hpre7 : 0 ≤ x0 ∧ x0 ≤ 15) (hpre8 : 0 ≤ x1 ∧ x1 ≤ 1000000000000) (hpre9 : 0 ≤ x2 ∧ x2 ≤ 16) (rZ : Int) (sZ : gMem) (hres : f_X2_closing x0 x1 x2 s0 = (rZ, sZ)) : (fr [32, 36, 37, 38, 39] s0 sZ) ∧ (gMR lgX sZ) ∧ (in64 rZ) ∧ (KF sZ) ∧ (KC sZ) ∧ (KT sZ) ∧ (0 ≤ rZ ∧ rZ ≤ 1000000000000) := by
  have hT := f_X2_closing_e x0 x1 x2 s0
  have hf_s0 : fr [32, 36, 37, 38, 39] s0 s0 := fr.rf _ _
  have hKF_s0 := hpre4
  have hKC_s0 := hpre5
  have hKT_s0 := hpre6
  obtain ⟨r2, s3, hs3⟩ : ∃ rr ss, (f_X4_falls x0 x2 s0) = (rr, ss) := ⟨_, _, rfl⟩
  replace hT := gby hT hs3
  have hp4 := f_X4_falls_p x0 x2 s0 (by omega) (by omega) hm_s0 hpre0 hpre1 hpre2 hpre3 hKF_s0 (by first | assumption | omega) (by first | assumption | omega) r2 s3 hs3
  obtain ⟨hfc_s3, hm_s3, hp5, hKF_s3, hp6⟩ := hp4
  have hf_s3 : fr [32, 36, 37, 38, 39] s0 s3 := hf_s0.call (by decide) hfc_s3
  have hKC_s3 : KC s3 := KC_fr hKC_s0 (fun k hk => hfc_s3 k (dj (by decide) k hk))
  have hKT_s3 : KT s3 := KT_fr hKT_s0 (fun k hk => hfc_s3 k (dj (by decide) k hk))
  obtain ⟨r8, s9, hs9⟩ : ∃ rr ss, (f_X4_takes x0 s3) = (rr, ss) := ⟨_, _, rfl⟩
  replace hT := gby hT hs9
  have hp10 := f_X4_takes_p x0 s3 (by omega) hm_s3 (CD_fr hpre0 (fun k hk => hf_s3 k (dj (by decide) k hk))) (BG_fr hpre1 (fun k hk => hf_s3 k (dj (by decide) k hk))) (LA_fr hpre2 (fun k hk => hf_s3 k (dj (by decide) k hk))) (MOx_fr hpre3 (fun k hk => hf_s3 k (dj (by decide) k hk))) hKT_s3 (by first | assumption | omega) r8 s9 hs9
  obtain ⟨hfc_s9, hm_s9, hp11, hKT_s9, hp12⟩ := hp10
  have hf_s9 : fr [32, 36, 37, 38, 39] s0 s9 := hf_s3.call (by decide) hfc_s9
  have hKF_s9 : KF s9 := KF_fr hKF_s3 (fun k hk => hfc_s9 k (dj (by decide) k hk))
  have hKC_s9 : KC s9 := KC_fr hKC_s3 (fun k hk => hfc_s9 k (dj (by decide) k hk))
  obtain ⟨r14, s15, hs15⟩ : ∃ rr ss, (f_X4_closes x0 x2 s9) = (rr, ss) := ⟨_, _, rfl⟩
  replace hT := gby hT hs15
  have hp16 := f_X4_closes_p x0 x2 s9 (by omega) (by omega) hm_s9 (CD_fr hpre0 (fun k hk => hf_s9 k (dj (by decide) k hk))) (BG_fr hpre1 (fun k hk => hf_s9 k (dj (by decide) k hk))) (LA_fr hpre2 (fun k hk => hf_s9 k (dj (by decide) k hk))) (MOx_fr hpre3 (fun k hk => hf_s9 k (dj (by decide) k hk))) hKC_s9 (by first | assumption | omega) (by first | assumption | omega) r14 s15 hs15
  obtain ⟨hfc_s15, hm_s15, hp17, hKC_s15, hp18⟩ := hp16
  have hf_s15 : fr [32, 36, 37, 38, 39] s0 s15 := hf_s9.call (by decide) hfc_s15
  have hKF_s15 : KF s15 := KF_fr hKF_s9 (fun k hk => hfc_s15 k (dj (by decide) k hk))
  have hKT_s15 : KT s15 := KT_fr hKT_s9 (fun k hk => hfc_s15 k (dj (by decide) k hk))
  obtain ⟨v19, hv19, hT⟩ := glx hT
  have km := mul_rg (a := 1000000000000) (b := 99) (x := x1) (y := r2) (by omega) (by omega) (by omega) (by omega)
  have hd20 : (0 : Int) ≤ (v19 + (x1 * r2)) := (by omega)
  have hd21 : (0 : Int) < (100 - r2) := (by omega)
  have hb22 := dv_rg hd20 hd21
  have hp24 := f_X2_capped_p ((v19 + (x1 * r2)) / (100 - r2)) (by omega) 
  obtain ⟨rfl, rfl⟩ := Prod.mk.inj (hT.symm.trans hres)
  exact ⟨hf_s15, hm_s15, (by omega), hKF_s15, hKC_s15, hKT_s15, (by first | assumption | omega)⟩
set_option maxRecDepth 100000 in
set_option maxHeartbeats 4000000 in
theorem c_X2_closing (l : Launch) (D : va_G) (a : Nat → Nat) (cI cJ cS cT : ClassId) (s0 : gMem) (x0 : Int) (x1 : Int) (x2 : Int) (hx0 : in32 x0) (hx1 : in64 x1) (hx2 : in32 x2) (hpre0 : CD s0) (hpre1 : BG s0) (hpre2 : LA s0) (hpre3 : MOx s0) (hpre4 : KF s0) (hpre5 : KC s0) (hpre6 : KT s0) (hpre7 : 0 ≤ x0 ∧ x0 ≤ 15) (hpre8 : 0 ≤ x1 ∧ x1 ≤ 1000000000000) (hpre9 : 0 ≤ x2 ∧ x2 ≤ 16) : gC l yX2_closing cX2_closing 8 (some .long) 4 256 D vwCl (gT cI cJ cS cT) (wdX a cI cJ cS cT) lgX kJ in64 [.ref (a 5), gI x0, gL x1, gI x2] s0 (f_X2_closing x0 x1 x2 s0) := by
  refine gC_of (by decide +kernel) (hwdX a cI cJ cS cT) (Nat.le_of_ble_eq_true rfl) ?_
  intro A p e R s m args below meth c hR E
  subst hR
  have hT := f_X2_closing_e x0 x1 x2 s0
  have hf_s0 : fr [32, 36, 37, 38, 39] s0 s0 := fr.rf _ _
  refine k_lv0 (lv' := [(0, .ref (a 5)), (1, gI x0), (2, gL x1), (4, gI x2)]) rfl ?_
  refine k_mr (fun hm_s0 => ?_)
  have hKF_s0 := hpre4
  have hKC_s0 := hpre5
  have hKT_s0 := hpre6
  refine k_aloadn (pc := 0) E 0 dX2_closing_0 rfl rfl ?_
  refine k_getf (pc := 1) (q0 := 5) (f := 0) (v := .ref (a 3)) E inX2 rfl rfl (by decide) wm_174 rfl rfl dX2_closing_1 ?_
  refine k_iloadn (pc := 4) E 1 dX2_closing_4 rfl rfl ?_
  refine k_iload (pc := 5) E 3 dX2_closing_5 rfl ?_
  refine k_mr (fun hm_s0 => ?_)
  refine k_callV (pc := 7) (np := 2) (As := [gI x0, gI x2]) (st := []) (q0 := 3) E (c_X4_falls l D a cI cJ cS cT s0 x0 x2 (by omega) (by omega) hpre0 hpre1 hpre2 hpre3 hKF_s0 (by first | assumption | omega) (by first | assumption | omega)) wm_513 wm_4 wm_579 wm_511 wm_512 (by decide +kernel) rfl rfl ⟨by decide, by decide⟩ rfl (Nat.le_of_ble_eq_true rfl) dX2_closing_7 (fun r2 s3 hs3 hr1 => ?_)
  replace hT := gby hT hs3
  have hp4 := f_X4_falls_p x0 x2 s0 (by omega) (by omega) hm_s0 hpre0 hpre1 hpre2 hpre3 hKF_s0 (by first | assumption | omega) (by first | assumption | omega) r2 s3 hs3
  obtain ⟨hfc_s3, hm_s3, hp5, hKF_s3, hp6⟩ := hp4
  have hf_s3 : fr [32, 36, 37, 38, 39] s0 s3 := hf_s0.call (by decide) hfc_s3
  have hKC_s3 : KC s3 := KC_fr hKC_s0 (fun k hk => hfc_s3 k (dj (by decide) k hk))
  have hKT_s3 : KT s3 := KT_fr hKT_s0 (fun k hk => hfc_s3 k (dj (by decide) k hk))
  refine k_st (st' := [gI r2]) rfl ?_
  refine k_istore (pc := 10) (lv' := [(5, gI r2), (0, .ref (a 5)), (1, gI x0), (2, gL x1), (4, gI x2)]) E dX2_closing_10 (by decide) rfl ?_
  refine k_ldc2 (pc := 12) (n := 1000) E dX2_closing_12 wm_580 (by decide) ?_
  refine k_aloadn (pc := 15) E 1 dX2_closing_15 rfl rfl ?_
  refine k_getf (pc := 16) (q0 := 5) (f := 0) (v := .ref (a 3)) E inX2 rfl rfl (by decide) wm_174 rfl rfl dX2_closing_16 ?_
  refine k_iloadn (pc := 19) E 2 dX2_closing_19 rfl rfl ?_
  refine k_mr (fun hm_s3 => ?_)
  refine k_callV (pc := 20) (np := 1) (As := [gI x0]) (st := [gL 1000]) (q0 := 3) E (c_X4_takes l D a cI cJ cS cT s3 x0 (by omega) (CD_fr hpre0 (fun k hk => hf_s3 k (dj (by decide) k hk))) (BG_fr hpre1 (fun k hk => hf_s3 k (dj (by decide) k hk))) (LA_fr hpre2 (fun k hk => hf_s3 k (dj (by decide) k hk))) (MOx_fr hpre3 (fun k hk => hf_s3 k (dj (by decide) k hk))) hKT_s3 (by first | assumption | omega)) wm_522 wm_4 wm_581 wm_520 wm_521 (by decide +kernel) rfl rfl ⟨by decide, by decide⟩ rfl (Nat.le_of_ble_eq_true rfl) dX2_closing_20 (fun r8 s9 hs9 hr7 => ?_)
  replace hT := gby hT hs9
  have hp10 := f_X4_takes_p x0 s3 (by omega) hm_s3 (CD_fr hpre0 (fun k hk => hf_s3 k (dj (by decide) k hk))) (BG_fr hpre1 (fun k hk => hf_s3 k (dj (by decide) k hk))) (LA_fr hpre2 (fun k hk => hf_s3 k (dj (by decide) k hk))) (MOx_fr hpre3 (fun k hk => hf_s3 k (dj (by decide) k hk))) hKT_s3 (by first | assumption | omega) r8 s9 hs9
  obtain ⟨hfc_s9, hm_s9, hp11, hKT_s9, hp12⟩ := hp10
  have hf_s9 : fr [32, 36, 37, 38, 39] s0 s9 := hf_s3.call (by decide) hfc_s9
  have hKF_s9 : KF s9 := KF_fr hKF_s3 (fun k hk => hfc_s9 k (dj (by decide) k hk))
  have hKC_s9 : KC s9 := KC_fr hKC_s3 (fun k hk => hfc_s9 k (dj (by decide) k hk))
  refine k_st (st' := [gI r8, gL 1000]) rfl ?_
  refine k_aloadn (pc := 23) E 1 dX2_closing_23 rfl rfl ?_
  refine k_getf (pc := 24) (q0 := 5) (f := 0) (v := .ref (a 3)) E inX2 rfl rfl (by decide) wm_174 rfl rfl dX2_closing_24 ?_
  refine k_iloadn (pc := 27) E 2 dX2_closing_27 rfl rfl ?_
  refine k_iload (pc := 28) E 4 dX2_closing_28 rfl ?_
  refine k_mr (fun hm_s9 => ?_)
  refine k_callV (pc := 30) (np := 2) (As := [gI x0, gI x2]) (st := [gI r8, gL 1000]) (q0 := 3) E (c_X4_closes l D a cI cJ cS cT s9 x0 x2 (by omega) (by omega) (CD_fr hpre0 (fun k hk => hf_s9 k (dj (by decide) k hk))) (BG_fr hpre1 (fun k hk => hf_s9 k (dj (by decide) k hk))) (LA_fr hpre2 (fun k hk => hf_s9 k (dj (by decide) k hk))) (MOx_fr hpre3 (fun k hk => hf_s9 k (dj (by decide) k hk))) hKC_s9 (by first | assumption | omega) (by first | assumption | omega)) wm_537 wm_4 wm_582 wm_535 wm_536 (by decide +kernel) rfl rfl ⟨by decide, by decide⟩ rfl (Nat.le_of_ble_eq_true rfl) dX2_closing_30 (fun r14 s15 hs15 hr13 => ?_)
  replace hT := gby hT hs15
  have hp16 := f_X4_closes_p x0 x2 s9 (by omega) (by omega) hm_s9 (CD_fr hpre0 (fun k hk => hf_s9 k (dj (by decide) k hk))) (BG_fr hpre1 (fun k hk => hf_s9 k (dj (by decide) k hk))) (LA_fr hpre2 (fun k hk => hf_s9 k (dj (by decide) k hk))) (MOx_fr hpre3 (fun k hk => hf_s9 k (dj (by decide) k hk))) hKC_s9 (by first | assumption | omega) (by first | assumption | omega) r14 s15 hs15
  obtain ⟨hfc_s15, hm_s15, hp17, hKC_s15, hp18⟩ := hp16
  have hf_s15 : fr [32, 36, 37, 38, 39] s0 s15 := hf_s9.call (by decide) hfc_s15
  have hKF_s15 : KF s15 := KF_fr hKF_s9 (fun k hk => hfc_s15 k (dj (by decide) k hk))
  have hKT_s15 : KT s15 := KT_fr hKT_s9 (fun k hk => hfc_s15 k (dj (by decide) k hk))
  refine k_st (st' := [gI r14, gI r8, gL 1000]) rfl ?_
  refine k_iadd (pc := 33) E dX2_closing_33 ?_
  refine k_i2l (pc := 34) E dX2_closing_34 (by omega) ?_
  refine k_lmul (pc := 35) E dX2_closing_35 ?_
  refine k_ldc2 (pc := 36) (n := 100) E dX2_closing_36 wm_583 (by decide) ?_
  refine k_lmul (pc := 39) E dX2_closing_39 ?_
  obtain ⟨v19, hv19, hT⟩ := glx hT
  refine k_st (st' := [gL v19]) (by rw [hv19]) ?_
  refine k_lstore (pc := 40) (lv' := [(6, gL v19), (5, gI r2), (0, .ref (a 5)), (1, gI x0), (2, gL x1), (4, gI x2)]) E dX2_closing_40 (by decide) rfl ?_
  refine k_lload (pc := 42) E 0 dX2_closing_42 rfl ?_
  refine k_lloadn (pc := 44) E 4 dX2_closing_44 rfl rfl ?_
  refine k_iload (pc := 45) E 1 dX2_closing_45 rfl ?_
  refine k_i2l (pc := 47) E dX2_closing_47 (by omega) ?_
  have km := mul_rg (a := 1000000000000) (b := 99) (x := x1) (y := r2) (by omega) (by omega) (by omega) (by omega)
  refine k_lmul (pc := 48) E dX2_closing_48 ?_
  refine k_ladd (pc := 49) E dX2_closing_49 ?_
  refine k_bipush (pc := 50) E dX2_closing_50 (by decide) ?_
  refine k_iload (pc := 52) E 1 dX2_closing_52 rfl ?_
  refine k_isub (pc := 54) E dX2_closing_54 ?_
  refine k_i2l (pc := 55) E dX2_closing_55 (by omega) ?_
  have hd20 : (0 : Int) ≤ (v19 + (x1 * r2)) := (by omega)
  have hd21 : (0 : Int) < (100 - r2) := (by omega)
  refine k_ldivN (pc := 56) E (by omega) (by omega) hd20 hd21 dX2_closing_56 ?_
  have hb22 := dv_rg hd20 hd21
  refine k_mr (fun hm_s15 => ?_)
  refine k_callS (pc := 57) (np := 1) (As := [gL ((v19 + (x1 * r2)) / (100 - r2))]) (st := []) E (c_X2_capped l D a cI cJ cS cT s15 ((v19 + (x1 * r2)) / (100 - r2)) (by omega)) wm_586 wm_7 wm_584 wm_585 (by decide +kernel) ⟨by decide, by decide⟩ rfl (Nat.le_of_ble_eq_true rfl) dX2_closing_57 (ro_kk (fun hr23 => ?_))
  have hp24 := f_X2_capped_p ((v19 + (x1 * r2)) / (100 - r2)) (by omega) 
  refine k_st (st' := [gL (f_X2_capped ((v19 + (x1 * r2)) / (100 - r2)))]) rfl ?_
  exact k_rho hT (k_lret (pc := 60) E dX2_closing_60 (by omega))

def w_X2_stretchMean_31 (c1 : Int) (c2 : Int) (c3 : Int) : Nat → Int → Int → gMem → Int × Int × gMem
  | 0, v10, v11, s12 => (v10, v11, s12)
  | n13 + 1, v10, v11, s12 => (if (c2 - c1) < v11 then (v10, v11, s12) else gb (f_X4_takes (f_X2_upAfter c1 c2 v11 s12) s12) (fun r18 s19 => gb (f_X4_falls (f_X2_upAfter c1 c2 v11 s12) v11 s19) (fun r24 s25 => gl (f_X2_capped (((v10 + (1000 * r18)) * 100) / (100 - r24))) (fun v34 => (w_X2_stretchMean_31 c1 c2 c3 n13 v34 (v11 + 1) s25)))))
theorem w_X2_stretchMean_31_s (c1 : Int) (c2 : Int) (c3 : Int) (n13 : Nat) (v10 : Int) (v11 : Int) (s12 : gMem) : w_X2_stretchMean_31 c1 c2 c3 (n13 + 1) v10 v11 s12 = (if (c2 - c1) < v11 then (v10, v11, s12) else gb (f_X4_takes (f_X2_upAfter c1 c2 v11 s12) s12) (fun r18 s19 => gb (f_X4_falls (f_X2_upAfter c1 c2 v11 s12) v11 s19) (fun r24 s25 => gl (f_X2_capped (((v10 + (1000 * r18)) * 100) / (100 - r24))) (fun v34 => (w_X2_stretchMean_31 c1 c2 c3 n13 v34 (v11 + 1) s25))))) := rfl
def f_X2_stretchMean (x0 : Int) (x1 : Int) (s0 : gMem) : gRes := (if x1 < x0 then (0, s0) else (gj (fun j5c => (if (s0 42 ((x0 * 16) + x1)) < 0 then (gl3 (w_X2_stretchMean_31 x0 x1 ((x0 * 16) + x1) 17 0 0 s0) (fun v72 v73 s74 => gl (mset s74 42 ((x0 * 16) + x1) v72) (fun s79 => (j5c s79)))) else (j5c s0))) (fun s6 => ((s6 42 ((x0 * 16) + x1)), s6))))
theorem f_X2_stretchMean_e (x0 : Int) (x1 : Int) (s0 : gMem) : f_X2_stretchMean x0 x1 s0 = (if x1 < x0 then (0, s0) else (gj (fun j5c => (if (s0 42 ((x0 * 16) + x1)) < 0 then (gl3 (w_X2_stretchMean_31 x0 x1 ((x0 * 16) + x1) 17 0 0 s0) (fun v72 v73 s74 => gl (mset s74 42 ((x0 * 16) + x1) v72) (fun s79 => (j5c s79)))) else (j5c s0))) (fun s6 => ((s6 42 ((x0 * 16) + x1)), s6)))) := rfl
set_option maxRecDepth 100000 in
set_option maxHeartbeats 4000000 in
theorem f_X2_stretchMean_p (x0 : Int) (x1 : Int) (s0 : gMem) (hx0 : in32 x0) (hx1 : in32 x1) (hm_s0 : gMR lgX s0) (hpre0 : CD s0) (hpre1 : BG s0) (hpre2 : LA s0) (hpre3 : MOx s0) (hpre4 : KF s0) (hpre5 : KC s0) (hpre6 : KT s0) (hpre7 : KM s0) (hpre8 : WY s0) (hpre9 : 0 ≤ x0 ∧ x0 ≤ 16) (hpre10 : -1 ≤ x1 ∧ x1 ≤ 15) (rZ : Int) (sZ : gMem) (hres : f_X2_stretchMean x0 x1 s0 = (rZ, sZ)) : (fr [32, 36, 37, 39, 42] s0 sZ) ∧ (gMR lgX sZ) ∧ (in64 rZ) ∧ (KM sZ) ∧ (KF sZ) ∧ (KC sZ) ∧ (KT sZ) ∧ (0 ≤ rZ ∧ rZ ≤ 1000000000000) := by
  have hT := f_X2_stretchMean_e x0 x1 s0
  have hf_s0 : fr [32, 36, 37, 39, 42] s0 s0 := fr.rf _ _
  have hKM_s0 := hpre7
  have hKF_s0 := hpre4
  have hKC_s0 := hpre5
  have hKT_s0 := hpre6
  by_cases h1 : x1 < x0
  · replace hT := hT.trans (if_pos h1)
    obtain ⟨rfl, rfl⟩ := Prod.mk.inj (hT.symm.trans hres)
    exact ⟨hf_s0, hm_s0, (by omega), hKM_s0, hKF_s0, hKC_s0, hKT_s0, (by first | assumption | omega)⟩
  · replace hT := hT.trans (if_neg h1)
    have hr2 := (hm_s0 42 ((x0 * 16) + x1)).2 rfl
    have hi3 := hKM_s0 ((x0 * 16) + x1)
    obtain ⟨j5c, hj5c, hT⟩ := gjx hT
    have j5 : ∀ (s6 : gMem), ((fr [32, 36, 37, 39, 42] s0 s6) ∧ (gMR lgX s6) ∧ (KM s6) ∧ (KF s6) ∧ (KC s6) ∧ (KT s6) ∧ (0 ≤ s6 42 (x0 * 16 + x1))) → (f_X2_stretchMean x0 x1 s0) = j5c s6 → (fr [32, 36, 37, 39, 42] s0 sZ) ∧ (gMR lgX sZ) ∧ (in64 rZ) ∧ (KM sZ) ∧ (KF sZ) ∧ (KC sZ) ∧ (KT sZ) ∧ (0 ≤ rZ ∧ rZ ≤ 1000000000000) := by
      intro s6 hq hT
      obtain ⟨hf_s6, hm_s6, hKM_s6, hKF_s6, hKC_s6, hKT_s6, hq9⟩ := hq
      rw [hj5c] at hT
      have hr7 := (hm_s6 42 ((x0 * 16) + x1)).2 rfl
      have hi8 := hKM_s6 ((x0 * 16) + x1)
      obtain ⟨rfl, rfl⟩ := Prod.mk.inj (hT.symm.trans hres)
      exact ⟨hf_s6, hm_s6, (by omega), hKM_s6, hKF_s6, hKC_s6, hKT_s6, (by first | assumption | omega)⟩
    by_cases h4 : (s0 42 ((x0 * 16) + x1)) < 0
    · replace hT := hT.trans (if_pos h4)
      have L38 : ∀ (n39 : Nat) (v35 : Int) (v36 : Int) (s37 : gMem), ((in64 v35) ∧ (in32 v36) ∧ (fr [32, 36, 37, 39, 42] s0 s37) ∧ (gMR lgX s37) ∧ (KM s37) ∧ (KF s37) ∧ (KC s37) ∧ (KT s37) ∧ (0 ≤ v35 ∧ v35 ≤ 1000000000000) ∧ (0 ≤ v36 ∧ v36 ≤ x1 - x0 + 1)) → x1 - x0 + 1 - v36 < (n39 : Int) → (∀ (w40 : Int) (w41 : Int) (s42 : gMem), (w_X2_stretchMean_31 x0 x1 ((x0 * 16) + x1) n39 v35 v36 s37) = (w40, w41, s42) → ((in64 w40) ∧ (in32 w41) ∧ (fr [32, 36, 37, 39, 42] s0 s42) ∧ (gMR lgX s42) ∧ (KM s42) ∧ (KF s42) ∧ (KC s42) ∧ (KT s42) ∧ (0 ≤ w40 ∧ w40 ≤ 1000000000000) ∧ (0 ≤ w41 ∧ w41 ≤ x1 - x0 + 1)) → (fr [32, 36, 37, 39, 42] s0 sZ) ∧ (gMR lgX sZ) ∧ (in64 rZ) ∧ (KM sZ) ∧ (KF sZ) ∧ (KC sZ) ∧ (KT sZ) ∧ (0 ≤ rZ ∧ rZ ≤ 1000000000000)) → (fr [32, 36, 37, 39, 42] s0 sZ) ∧ (gMR lgX sZ) ∧ (in64 rZ) ∧ (KM sZ) ∧ (KF sZ) ∧ (KC sZ) ∧ (KT sZ) ∧ (0 ≤ rZ ∧ rZ ≤ 1000000000000) := by
        intro n39; induction n39 with
        | zero =>
          intro v35 v36 s37 hq hm hk
          exfalso
          obtain ⟨hq64, hq65, hf_s37, hm_s37, hKM_s37, hKF_s37, hKC_s37, hKT_s37, hq66, hq67⟩ := hq
          omega
        | succ n39 ih =>
          intro v35 v36 s37 hq hm hk
          obtain ⟨hq68, hq69, hf_s37, hm_s37, hKM_s37, hKF_s37, hKC_s37, hKT_s37, hq70, hq71⟩ := hq
          have hT := w_X2_stretchMean_31_s x0 x1 ((x0 * 16) + x1) n39 v35 v36 s37
          by_cases h43 : (x1 - x0) < v36
          · replace hT := hT.trans (if_pos h43)
            exact hk v35 v36 s37 hT ⟨(by omega), (by omega), hf_s37, hm_s37, hKM_s37, hKF_s37, hKC_s37, hKT_s37, (by first | assumption | omega), (by first | assumption | omega)⟩
          · replace hT := hT.trans (if_neg h43)
            have hp45 := f_X2_upAfter_p x0 x1 v36 s37 (by omega) (by omega) (by omega) hm_s37 (WY_fr hpre8 (fun k hk => hf_s37 k (dj (by decide) k hk))) (by first | assumption | omega) (by first | assumption | omega)
            obtain ⟨r47, s48, hs48⟩ : ∃ rr ss, (f_X4_takes (f_X2_upAfter x0 x1 v36 s37) s37) = (rr, ss) := ⟨_, _, rfl⟩
            replace hT := gby hT hs48
            have hp49 := f_X4_takes_p (f_X2_upAfter x0 x1 v36 s37) s37 (by omega) hm_s37 (CD_fr hpre0 (fun k hk => hf_s37 k (dj (by decide) k hk))) (BG_fr hpre1 (fun k hk => hf_s37 k (dj (by decide) k hk))) (LA_fr hpre2 (fun k hk => hf_s37 k (dj (by decide) k hk))) (MOx_fr hpre3 (fun k hk => hf_s37 k (dj (by decide) k hk))) hKT_s37 (by first | assumption | omega) r47 s48 hs48
            obtain ⟨hfc_s48, hm_s48, hp50, hKT_s48, hp51⟩ := hp49
            have hf_s48 : fr [32, 36, 37, 39, 42] s0 s48 := hf_s37.call (by decide) hfc_s48
            have hKM_s48 : KM s48 := KM_fr hKM_s37 (fun k hk => hfc_s48 k (dj (by decide) k hk))
            have hKF_s48 : KF s48 := KF_fr hKF_s37 (fun k hk => hfc_s48 k (dj (by decide) k hk))
            have hKC_s48 : KC s48 := KC_fr hKC_s37 (fun k hk => hfc_s48 k (dj (by decide) k hk))
            obtain ⟨r53, s54, hs54⟩ : ∃ rr ss, (f_X4_falls (f_X2_upAfter x0 x1 v36 s37) v36 s48) = (rr, ss) := ⟨_, _, rfl⟩
            replace hT := gby hT hs54
            have hp55 := f_X4_falls_p (f_X2_upAfter x0 x1 v36 s37) v36 s48 (by omega) (by omega) hm_s48 (CD_fr hpre0 (fun k hk => hf_s48 k (dj (by decide) k hk))) (BG_fr hpre1 (fun k hk => hf_s48 k (dj (by decide) k hk))) (LA_fr hpre2 (fun k hk => hf_s48 k (dj (by decide) k hk))) (MOx_fr hpre3 (fun k hk => hf_s48 k (dj (by decide) k hk))) hKF_s48 (by first | assumption | omega) (by first | assumption | omega) r53 s54 hs54
            obtain ⟨hfc_s54, hm_s54, hp56, hKF_s54, hp57⟩ := hp55
            have hf_s54 : fr [32, 36, 37, 39, 42] s0 s54 := hf_s48.call (by decide) hfc_s54
            have hKM_s54 : KM s54 := KM_fr hKM_s48 (fun k hk => hfc_s54 k (dj (by decide) k hk))
            have hKC_s54 : KC s54 := KC_fr hKC_s48 (fun k hk => hfc_s54 k (dj (by decide) k hk))
            have hKT_s54 : KT s54 := KT_fr hKT_s48 (fun k hk => hfc_s54 k (dj (by decide) k hk))
            have hd58 : (0 : Int) ≤ ((v35 + (1000 * r47)) * 100) := (by omega)
            have hd59 : (0 : Int) < (100 - r53) := (by omega)
            have hb60 := dv_rg hd58 hd59
            have hp62 := f_X2_capped_p (((v35 + (1000 * r47)) * 100) / (100 - r53)) (by omega) 
            obtain ⟨v63, hv63, hT⟩ := glx hT
            exact ih v63 (v36 + 1) s54 ⟨(by omega), (by omega), hf_s54, hm_s54, hKM_s54, hKF_s54, hKC_s54, hKT_s54, (by first | assumption | omega), (by first | assumption | omega)⟩ (by omega) (fun w40 w41 s42 hw hi => hk w40 w41 s42 (hT.trans hw) hi)
      refine L38 17 0 0 s0 ⟨(by omega), (by omega), hf_s0, hm_s0, hKM_s0, hKF_s0, hKC_s0, hKT_s0, (by first | assumption | omega), (by first | assumption | omega)⟩ (by omega) (fun v72 v73 s74 hw hq => ?_)
      obtain ⟨hq75, hq76, hf_s74, hm_s74, hKM_s74, hKF_s74, hKC_s74, hKT_s74, hq77, hq78⟩ := hq
      replace hT := gl3y hT hw
      obtain ⟨s79, hs79, hT⟩ := glx hT
      have hf_s79 : fr [32, 36, 37, 39, 42] s0 s79 := hs79 ▸ hf_s74.set (by decide)
      have hm_s79 : gMR lgX s79 := hs79 ▸ hm_s74.set64 rfl (by omega)
      have hg_s79 : fr [42] s74 s79 := hs79 ▸ (fr.rf _ _).set (by decide)
      have hKM_s79 : KM s79 := hs79 ▸ KM_set hKM_s74 (by omega)
      have hKF_s79 : KF s79 := KF_fr hKF_s74 (fun k hk => hg_s79 k (dj (by decide) k hk))
      have hKC_s79 : KC s79 := KC_fr hKC_s74 (fun k hk => hg_s79 k (dj (by decide) k hk))
      have hKT_s79 : KT s79 := KT_fr hKT_s74 (fun k hk => hg_s79 k (dj (by decide) k hk))
      have hw80 : s79 42 ((x0 * 16) + x1) = v72 := by rw [hs79]; exact mset_eq _ _ _ _
      exact j5 s79 ⟨hf_s79, hm_s79, hKM_s79, hKF_s79, hKC_s79, hKT_s79, (by first | assumption | omega)⟩ hT
    · replace hT := hT.trans (if_neg h4)
      exact j5 s0 ⟨hf_s0, hm_s0, hKM_s0, hKF_s0, hKC_s0, hKT_s0, (by first | assumption | omega)⟩ hT
set_option maxRecDepth 100000 in
set_option maxHeartbeats 4000000 in
theorem c_X2_stretchMean (l : Launch) (D : va_G) (a : Nat → Nat) (cI cJ cS cT : ClassId) (s0 : gMem) (x0 : Int) (x1 : Int) (hx0 : in32 x0) (hx1 : in32 x1) (hpre0 : CD s0) (hpre1 : BG s0) (hpre2 : LA s0) (hpre3 : MOx s0) (hpre4 : KF s0) (hpre5 : KC s0) (hpre6 : KT s0) (hpre7 : KM s0) (hpre8 : WY s0) (hpre9 : 0 ≤ x0 ∧ x0 ≤ 16) (hpre10 : -1 ≤ x1 ∧ x1 ≤ 15) : gC l yX2_stretchMean cX2_stretchMean 8 (some .long) 4 256 D vwCl (gT cI cJ cS cT) (wdX a cI cJ cS cT) lgX kJ in64 [.ref (a 5), gI x0, gI x1] s0 (f_X2_stretchMean x0 x1 s0) := by
  refine gC_of (by decide +kernel) (hwdX a cI cJ cS cT) (Nat.le_of_ble_eq_true rfl) ?_
  intro A p e R s m args below meth c hR E
  subst hR
  have hT := f_X2_stretchMean_e x0 x1 s0
  have hf_s0 : fr [32, 36, 37, 39, 42] s0 s0 := fr.rf _ _
  refine k_lv0 (lv' := [(0, .ref (a 5)), (1, gI x0), (2, gI x1)]) rfl ?_
  refine k_mr (fun hm_s0 => ?_)
  have hKM_s0 := hpre7
  have hKF_s0 := hpre4
  have hKC_s0 := hpre5
  have hKT_s0 := hpre6
  refine k_iloadn (pc := 0) E 2 dX2_stretchMean_0 rfl rfl ?_
  refine k_iloadn (pc := 1) E 1 dX2_stretchMean_1 rfl rfl ?_
  by_cases h1 : x1 < x0
  · replace hT := hT.trans (if_pos h1)
    refine k_icmp_ge_f (pc := 2) (tgt := 7) E (by omega) (by omega) dX2_stretchMean_2 (by decide) h1 ?_
    refine k_lconst0 (pc := 5) E dX2_stretchMean_5 ?_
    exact k_rho hT (k_lret (pc := 6) E dX2_stretchMean_6 (by omega))
  · replace hT := hT.trans (if_neg h1)
    refine k_icmp_ge_t (pc := 2) (tgt := 7) E (by omega) (by omega) dX2_stretchMean_2 (by decide) h1 ?_
    refine k_iloadn (pc := 7) E 1 dX2_stretchMean_7 rfl rfl ?_
    refine k_bipush (pc := 8) E dX2_stretchMean_8 (by decide) ?_
    refine k_imul (pc := 10) E dX2_stretchMean_10 ?_
    refine k_iloadn (pc := 11) E 2 dX2_stretchMean_11 rfl rfl ?_
    refine k_iadd (pc := 12) E dX2_stretchMean_12 ?_
    refine k_istoren (pc := 13) (lv' := [(3, gI ((x0 * 16) + x1)), (0, .ref (a 5)), (1, gI x0), (2, gI x1)]) E dX2_stretchMean_13 rfl (by decide) rfl ?_
    refine k_aloadn (pc := 14) E 1 dX2_stretchMean_14 rfl rfl ?_
    refine k_getf (pc := 15) (q0 := 5) (f := 1) (v := .ref (a 42)) E inX2 rfl rfl (by decide) wm_175 rfl rfl dX2_stretchMean_15 ?_
    refine k_iloadn (pc := 18) E 0 dX2_stretchMean_18 rfl rfl ?_
    refine k_laload (pc := 19) (q0 := 42) (t0 := 1) (k := 42) (n := 256) E rfl rfl rfl (by decide) (by omega) (by omega) dX2_stretchMean_19 (fun hr2 => ?_)
    have hi3 := hKM_s0 ((x0 * 16) + x1)
    refine k_lconst0 (pc := 20) E dX2_stretchMean_20 ?_
    obtain ⟨j5c, hj5c, hT⟩ := gjx hT
    have j5 : ∀ (s6 : gMem), ((fr [32, 36, 37, 39, 42] s0 s6) ∧ (KM s6) ∧ (KF s6) ∧ (KC s6) ∧ (KT s6) ∧ (0 ≤ s6 42 (x0 * 16 + x1))) → (f_X2_stretchMean x0 x1 s0) = j5c s6 → gK D vwCl (wdX a cI cJ cS cT) lgX A p l e { frames := 4, cells := 0, slots := 0, locals := 256 } s m args below meth c 8 (gQQ D vwCl (wdX a cI cJ cS cT) lgX A kJ in64 below args s) (f_X2_stretchMean x0 x1 s0) s6 105 [(0, .ref (a 5)), (3, gI ((x0 * 16) + x1))] [] := by
      intro s6 hq hT
      obtain ⟨hf_s6, hKM_s6, hKF_s6, hKC_s6, hKT_s6, hq9⟩ := hq
      rw [hj5c] at hT
      refine k_aloadn (pc := 105) E 0 dX2_stretchMean_105 rfl rfl ?_
      refine k_getf (pc := 106) (q0 := 5) (f := 1) (v := .ref (a 42)) E inX2 rfl rfl (by decide) wm_175 rfl rfl dX2_stretchMean_106 ?_
      refine k_iloadn (pc := 109) E 1 dX2_stretchMean_109 rfl rfl ?_
      refine k_laload (pc := 110) (q0 := 42) (t0 := 1) (k := 42) (n := 256) E rfl rfl rfl (by decide) (by omega) (by omega) dX2_stretchMean_110 (fun hr7 => ?_)
      have hi8 := hKM_s6 ((x0 * 16) + x1)
      exact k_rho hT (k_lret (pc := 111) E dX2_stretchMean_111 (by omega))
    by_cases h4 : (s0 42 ((x0 * 16) + x1)) < 0
    · replace hT := hT.trans (if_pos h4)
      refine k_lcmp (pc := 21) E dX2_stretchMean_21 (by omega) (by omega) ?_
      refine k_if_ge_f (pc := 22) (tgt := 105) E (by (repeat' split) <;> omega) dX2_stretchMean_22 (by decide) (by (repeat' split) <;> omega) ?_
      refine k_lconst0 (pc := 25) E dX2_stretchMean_25 ?_
      refine k_lstore (pc := 26) (lv' := [(4, gL 0), (3, gI ((x0 * 16) + x1)), (0, .ref (a 5)), (1, gI x0), (2, gI x1)]) E dX2_stretchMean_26 (by decide) rfl ?_
      refine k_iconst (pc := 28) E dX2_stretchMean_28 ?_
      refine k_istore (pc := 29) (lv' := [(6, gI 0), (4, gL 0), (3, gI ((x0 * 16) + x1)), (0, .ref (a 5)), (1, gI x0), (2, gI x1)]) E dX2_stretchMean_29 (by decide) rfl ?_
      have L38 : ∀ (n39 : Nat) (v35 : Int) (v36 : Int) (s37 : gMem), ((in64 v35) ∧ (in32 v36) ∧ (fr [32, 36, 37, 39, 42] s0 s37) ∧ (KM s37) ∧ (KF s37) ∧ (KC s37) ∧ (KT s37) ∧ (0 ≤ v35 ∧ v35 ≤ 1000000000000) ∧ (0 ≤ v36 ∧ v36 ≤ x1 - x0 + 1)) → x1 - x0 + 1 - v36 < (n39 : Int) → (∀ (w40 : Int) (w41 : Int) (s42 : gMem), (w_X2_stretchMean_31 x0 x1 ((x0 * 16) + x1) n39 v35 v36 s37) = (w40, w41, s42) → ((in64 w40) ∧ (in32 w41) ∧ (fr [32, 36, 37, 39, 42] s0 s42) ∧ (KM s42) ∧ (KF s42) ∧ (KC s42) ∧ (KT s42) ∧ (0 ≤ w40 ∧ w40 ≤ 1000000000000) ∧ (0 ≤ w41 ∧ w41 ≤ x1 - x0 + 1)) → gK D vwCl (wdX a cI cJ cS cT) lgX A p l e { frames := 4, cells := 0, slots := 0, locals := 256 } s m args below meth c 8 (gQQ D vwCl (wdX a cI cJ cS cT) lgX A kJ in64 below args s) (f_X2_stretchMean x0 x1 s0) s42 97 [(0, .ref (a 5)), (3, gI ((x0 * 16) + x1)), (4, gL w40)] []) → gK D vwCl (wdX a cI cJ cS cT) lgX A p l e { frames := 4, cells := 0, slots := 0, locals := 256 } s m args below meth c 8 (gQQ D vwCl (wdX a cI cJ cS cT) lgX A kJ in64 below args s) (f_X2_stretchMean x0 x1 s0) s37 31 [(0, .ref (a 5)), (1, gI x0), (2, gI x1), (3, gI ((x0 * 16) + x1)), (4, gL v35), (6, gI v36)] [] := by
        intro n39; induction n39 with
        | zero =>
          intro v35 v36 s37 hq hm hk
          exfalso
          obtain ⟨hq64, hq65, hf_s37, hKM_s37, hKF_s37, hKC_s37, hKT_s37, hq66, hq67⟩ := hq
          omega
        | succ n39 ih =>
          intro v35 v36 s37 hq hm hk
          obtain ⟨hq68, hq69, hf_s37, hKM_s37, hKF_s37, hKC_s37, hKT_s37, hq70, hq71⟩ := hq
          have hT := w_X2_stretchMean_31_s x0 x1 ((x0 * 16) + x1) n39 v35 v36 s37
          refine k_iload (pc := 31) E 5 dX2_stretchMean_31 rfl ?_
          refine k_iloadn (pc := 33) E 2 dX2_stretchMean_33 rfl rfl ?_
          refine k_iloadn (pc := 34) E 1 dX2_stretchMean_34 rfl rfl ?_
          refine k_isub (pc := 35) E dX2_stretchMean_35 ?_
          by_cases h43 : (x1 - x0) < v36
          · replace hT := hT.trans (if_pos h43)
            refine k_icmp_gt_t (pc := 36) (tgt := 97) E (by omega) (by omega) dX2_stretchMean_36 (by decide) h43 ?_
            refine k_lv (lv' := [(0, .ref (a 5)), (3, gI ((x0 * 16) + x1)), (4, gL v35)]) [0, 3, 4] rfl ?_
            exact hk v35 v36 s37 hT ⟨(by omega), (by omega), hf_s37, hKM_s37, hKF_s37, hKC_s37, hKT_s37, (by first | assumption | omega), (by first | assumption | omega)⟩
          · replace hT := hT.trans (if_neg h43)
            refine k_icmp_gt_f (pc := 36) (tgt := 97) E (by omega) (by omega) dX2_stretchMean_36 (by decide) h43 ?_
            refine k_aloadn (pc := 39) E 0 dX2_stretchMean_39 rfl rfl ?_
            refine k_iloadn (pc := 40) E 1 dX2_stretchMean_40 rfl rfl ?_
            refine k_iloadn (pc := 41) E 2 dX2_stretchMean_41 rfl rfl ?_
            refine k_iload (pc := 42) E 5 dX2_stretchMean_42 rfl ?_
            refine k_mr (fun hm_s37 => ?_)
            refine k_callV (pc := 44) (np := 3) (As := [gI x0, gI x1, gI v36]) (st := []) (q0 := 5) E (c_X2_upAfter l D a cI cJ cS cT s37 x0 x1 v36 (by omega) (by omega) (by omega) (WY_fr hpre8 (fun k hk => hf_s37 k (dj (by decide) k hk))) (by first | assumption | omega) (by first | assumption | omega)) wm_598 wm_7 wm_595 wm_597 wp_20 (by decide +kernel) rfl rfl ⟨by decide, by decide⟩ rfl (Nat.le_of_ble_eq_true rfl) dX2_stretchMean_44 (ro_kk (fun hr44 => ?_))
            have hp45 := f_X2_upAfter_p x0 x1 v36 s37 (by omega) (by omega) (by omega) hm_s37 (WY_fr hpre8 (fun k hk => hf_s37 k (dj (by decide) k hk))) (by first | assumption | omega) (by first | assumption | omega)
            refine k_st (st' := [gI (f_X2_upAfter x0 x1 v36 s37)]) rfl ?_
            refine k_istore (pc := 47) (lv' := [(7, gI (f_X2_upAfter x0 x1 v36 s37)), (0, .ref (a 5)), (1, gI x0), (2, gI x1), (3, gI ((x0 * 16) + x1)), (4, gL v35), (6, gI v36)]) E dX2_stretchMean_47 (by decide) rfl ?_
            refine k_lload (pc := 49) E 5 dX2_stretchMean_49 rfl ?_
            refine k_ldc2 (pc := 51) (n := 1000) E dX2_stretchMean_51 wm_580 (by decide) ?_
            refine k_aloadn (pc := 54) E 1 dX2_stretchMean_54 rfl rfl ?_
            refine k_getf (pc := 55) (q0 := 5) (f := 0) (v := .ref (a 3)) E inX2 rfl rfl (by decide) wm_174 rfl rfl dX2_stretchMean_55 ?_
            refine k_iload (pc := 58) E 0 dX2_stretchMean_58 rfl ?_
            refine k_mr (fun hm_s37 => ?_)
            refine k_callV (pc := 60) (np := 1) (As := [gI (f_X2_upAfter x0 x1 v36 s37)]) (st := [gL 1000, gL v35]) (q0 := 3) E (c_X4_takes l D a cI cJ cS cT s37 (f_X2_upAfter x0 x1 v36 s37) (by omega) (CD_fr hpre0 (fun k hk => hf_s37 k (dj (by decide) k hk))) (BG_fr hpre1 (fun k hk => hf_s37 k (dj (by decide) k hk))) (LA_fr hpre2 (fun k hk => hf_s37 k (dj (by decide) k hk))) (MOx_fr hpre3 (fun k hk => hf_s37 k (dj (by decide) k hk))) hKT_s37 (by first | assumption | omega)) wm_522 wm_4 wm_581 wm_520 wm_521 (by decide +kernel) rfl rfl ⟨by decide, by decide⟩ rfl (Nat.le_of_ble_eq_true rfl) dX2_stretchMean_60 (fun r47 s48 hs48 hr46 => ?_)
            replace hT := gby hT hs48
            have hp49 := f_X4_takes_p (f_X2_upAfter x0 x1 v36 s37) s37 (by omega) hm_s37 (CD_fr hpre0 (fun k hk => hf_s37 k (dj (by decide) k hk))) (BG_fr hpre1 (fun k hk => hf_s37 k (dj (by decide) k hk))) (LA_fr hpre2 (fun k hk => hf_s37 k (dj (by decide) k hk))) (MOx_fr hpre3 (fun k hk => hf_s37 k (dj (by decide) k hk))) hKT_s37 (by first | assumption | omega) r47 s48 hs48
            obtain ⟨hfc_s48, hm_s48, hp50, hKT_s48, hp51⟩ := hp49
            have hf_s48 : fr [32, 36, 37, 39, 42] s0 s48 := hf_s37.call (by decide) hfc_s48
            have hKM_s48 : KM s48 := KM_fr hKM_s37 (fun k hk => hfc_s48 k (dj (by decide) k hk))
            have hKF_s48 : KF s48 := KF_fr hKF_s37 (fun k hk => hfc_s48 k (dj (by decide) k hk))
            have hKC_s48 : KC s48 := KC_fr hKC_s37 (fun k hk => hfc_s48 k (dj (by decide) k hk))
            refine k_st (st' := [gI r47, gL 1000, gL v35]) rfl ?_
            refine k_i2l (pc := 63) E dX2_stretchMean_63 (by omega) ?_
            refine k_lmul (pc := 64) E dX2_stretchMean_64 ?_
            refine k_ladd (pc := 65) E dX2_stretchMean_65 ?_
            refine k_ldc2 (pc := 66) (n := 100) E dX2_stretchMean_66 wm_583 (by decide) ?_
            refine k_lmul (pc := 69) E dX2_stretchMean_69 ?_
            refine k_bipush (pc := 70) E dX2_stretchMean_70 (by decide) ?_
            refine k_aloadn (pc := 72) E 1 dX2_stretchMean_72 rfl rfl ?_
            refine k_getf (pc := 73) (q0 := 5) (f := 0) (v := .ref (a 3)) E inX2 rfl rfl (by decide) wm_174 rfl rfl dX2_stretchMean_73 ?_
            refine k_iload (pc := 76) E 0 dX2_stretchMean_76 rfl ?_
            refine k_iload (pc := 78) E 6 dX2_stretchMean_78 rfl ?_
            refine k_mr (fun hm_s48 => ?_)
            refine k_callV (pc := 80) (np := 2) (As := [gI (f_X2_upAfter x0 x1 v36 s37), gI v36]) (st := [gI 100, gL ((v35 + (1000 * r47)) * 100)]) (q0 := 3) E (c_X4_falls l D a cI cJ cS cT s48 (f_X2_upAfter x0 x1 v36 s37) v36 (by omega) (by omega) (CD_fr hpre0 (fun k hk => hf_s48 k (dj (by decide) k hk))) (BG_fr hpre1 (fun k hk => hf_s48 k (dj (by decide) k hk))) (LA_fr hpre2 (fun k hk => hf_s48 k (dj (by decide) k hk))) (MOx_fr hpre3 (fun k hk => hf_s48 k (dj (by decide) k hk))) hKF_s48 (by first | assumption | omega) (by first | assumption | omega)) wm_513 wm_4 wm_579 wm_511 wm_512 (by decide +kernel) rfl rfl ⟨by decide, by decide⟩ rfl (Nat.le_of_ble_eq_true rfl) dX2_stretchMean_80 (fun r53 s54 hs54 hr52 => ?_)
            replace hT := gby hT hs54
            have hp55 := f_X4_falls_p (f_X2_upAfter x0 x1 v36 s37) v36 s48 (by omega) (by omega) hm_s48 (CD_fr hpre0 (fun k hk => hf_s48 k (dj (by decide) k hk))) (BG_fr hpre1 (fun k hk => hf_s48 k (dj (by decide) k hk))) (LA_fr hpre2 (fun k hk => hf_s48 k (dj (by decide) k hk))) (MOx_fr hpre3 (fun k hk => hf_s48 k (dj (by decide) k hk))) hKF_s48 (by first | assumption | omega) (by first | assumption | omega) r53 s54 hs54
            obtain ⟨hfc_s54, hm_s54, hp56, hKF_s54, hp57⟩ := hp55
            have hf_s54 : fr [32, 36, 37, 39, 42] s0 s54 := hf_s48.call (by decide) hfc_s54
            have hKM_s54 : KM s54 := KM_fr hKM_s48 (fun k hk => hfc_s54 k (dj (by decide) k hk))
            have hKC_s54 : KC s54 := KC_fr hKC_s48 (fun k hk => hfc_s54 k (dj (by decide) k hk))
            have hKT_s54 : KT s54 := KT_fr hKT_s48 (fun k hk => hfc_s54 k (dj (by decide) k hk))
            refine k_st (st' := [gI r53, gI 100, gL ((v35 + (1000 * r47)) * 100)]) rfl ?_
            refine k_isub (pc := 83) E dX2_stretchMean_83 ?_
            refine k_i2l (pc := 84) E dX2_stretchMean_84 (by omega) ?_
            have hd58 : (0 : Int) ≤ ((v35 + (1000 * r47)) * 100) := (by omega)
            have hd59 : (0 : Int) < (100 - r53) := (by omega)
            refine k_ldivN (pc := 85) E (by omega) (by omega) hd58 hd59 dX2_stretchMean_85 ?_
            have hb60 := dv_rg hd58 hd59
            refine k_mr (fun hm_s54 => ?_)
            refine k_callS (pc := 86) (np := 1) (As := [gL (((v35 + (1000 * r47)) * 100) / (100 - r53))]) (st := []) E (c_X2_capped l D a cI cJ cS cT s54 (((v35 + (1000 * r47)) * 100) / (100 - r53)) (by omega)) wm_586 wm_7 wm_584 wm_585 (by decide +kernel) ⟨by decide, by decide⟩ rfl (Nat.le_of_ble_eq_true rfl) dX2_stretchMean_86 (ro_kk (fun hr61 => ?_))
            have hp62 := f_X2_capped_p (((v35 + (1000 * r47)) * 100) / (100 - r53)) (by omega) 
            refine k_st (st' := [gL (f_X2_capped (((v35 + (1000 * r47)) * 100) / (100 - r53)))]) rfl ?_
            obtain ⟨v63, hv63, hT⟩ := glx hT
            refine k_st (st' := [gL v63]) (by rw [hv63]) ?_
            refine k_lstore (pc := 89) (lv' := [(4, gL v63), (7, gI (f_X2_upAfter x0 x1 v36 s37)), (0, .ref (a 5)), (1, gI x0), (2, gI x1), (3, gI ((x0 * 16) + x1)), (6, gI v36)]) E dX2_stretchMean_89 (by decide) rfl ?_
            refine k_iinc (pc := 91) (lv' := [(6, gI (v36 + 1)), (4, gL v63), (7, gI (f_X2_upAfter x0 x1 v36 s37)), (0, .ref (a 5)), (1, gI x0), (2, gI x1), (3, gI ((x0 * 16) + x1))]) E 6 dX2_stretchMean_91 rfl (by decide) rfl ?_
            refine k_goto (pc := 94) (tgt := 31) E dX2_stretchMean_94 (by decide) ?_
            refine k_lv (lv' := [(0, .ref (a 5)), (1, gI x0), (2, gI x1), (3, gI ((x0 * 16) + x1)), (4, gL v63), (6, gI (v36 + 1))]) [3, 4, 5, 6, 1, 0] rfl ?_
            exact ih v63 (v36 + 1) s54 ⟨(by omega), (by omega), hf_s54, hKM_s54, hKF_s54, hKC_s54, hKT_s54, (by first | assumption | omega), (by first | assumption | omega)⟩ (by omega) (fun w40 w41 s42 hw hi => hk w40 w41 s42 (hT.trans hw) hi)
      refine k_lv (lv' := [(0, .ref (a 5)), (1, gI x0), (2, gI x1), (3, gI ((x0 * 16) + x1)), (4, gL 0), (6, gI 0)]) [3, 4, 5, 2, 1, 0] rfl ?_
      refine L38 17 0 0 s0 ⟨(by omega), (by omega), hf_s0, hKM_s0, hKF_s0, hKC_s0, hKT_s0, (by first | assumption | omega), (by first | assumption | omega)⟩ (by omega) (fun v72 v73 s74 hw hq => ?_)
      obtain ⟨hq75, hq76, hf_s74, hKM_s74, hKF_s74, hKC_s74, hKT_s74, hq77, hq78⟩ := hq
      replace hT := gl3y hT hw
      refine k_aloadn (pc := 97) E 0 dX2_stretchMean_97 rfl rfl ?_
      refine k_getf (pc := 98) (q0 := 5) (f := 1) (v := .ref (a 42)) E inX2 rfl rfl (by decide) wm_175 rfl rfl dX2_stretchMean_98 ?_
      refine k_iloadn (pc := 101) E 1 dX2_stretchMean_101 rfl rfl ?_
      refine k_lload (pc := 102) E 2 dX2_stretchMean_102 rfl ?_
      refine k_lastore (pc := 104) (q0 := 42) (t0 := 1) (k := 42) (n := 256) E rfl rfl rfl rfl (by decide) (by omega) (by omega) (by omega) dX2_stretchMean_104 ?_
      obtain ⟨s79, hs79, hT⟩ := glx hT
      refine k_sg hs79.symm ?_
      have hf_s79 : fr [32, 36, 37, 39, 42] s0 s79 := hs79 ▸ hf_s74.set (by decide)
      have hg_s79 : fr [42] s74 s79 := hs79 ▸ (fr.rf _ _).set (by decide)
      have hKM_s79 : KM s79 := hs79 ▸ KM_set hKM_s74 (by omega)
      have hKF_s79 : KF s79 := KF_fr hKF_s74 (fun k hk => hg_s79 k (dj (by decide) k hk))
      have hKC_s79 : KC s79 := KC_fr hKC_s74 (fun k hk => hg_s79 k (dj (by decide) k hk))
      have hKT_s79 : KT s79 := KT_fr hKT_s74 (fun k hk => hg_s79 k (dj (by decide) k hk))
      have hw80 : s79 42 ((x0 * 16) + x1) = v72 := by rw [hs79]; exact mset_eq _ _ _ _
      refine k_lv (lv' := [(0, .ref (a 5)), (3, gI ((x0 * 16) + x1))]) [0, 1] rfl ?_
      exact j5 s79 ⟨hf_s79, hKM_s79, hKF_s79, hKC_s79, hKT_s79, (by first | assumption | omega)⟩ hT
    · replace hT := hT.trans (if_neg h4)
      refine k_lcmp (pc := 21) E dX2_stretchMean_21 (by omega) (by omega) ?_
      refine k_if_ge_t (pc := 22) (tgt := 105) E (by (repeat' split) <;> omega) dX2_stretchMean_22 (by decide) (by (repeat' split) <;> omega) ?_
      refine k_lv (lv' := [(0, .ref (a 5)), (3, gI ((x0 * 16) + x1))]) [1, 0] rfl ?_
      exact j5 s0 ⟨hf_s0, hKM_s0, hKF_s0, hKC_s0, hKT_s0, (by first | assumption | omega)⟩ hT

def w_X2_meanBy_11 (c1 : Int) : Nat → Int → Int → Int → Int → gMem → Int × Int × Int × Int × gMem
  | 0, v1, v2, v3, v4, s5 => (v1, v2, v3, v4, s5)
  | n6 + 1, v1, v2, v3, v4, s5 => (if v4 < 16 then (if (f_X4_stops v4 s5) = 0 then (if (f_X8_has c1 v4) = 0 then (if (f_X2_begins v4 c1 s5) = 0 then (w_X2_meanBy_11 c1 n6 v1 v2 v3 (v4 + 1) s5) else gb (f_X2_stretchMean v4 (f_X2_lastOf v4 c1 s5) s5) (fun r30 s31 => (gj (fun j40c => (if v4 = 0 then j40c else (if (f_X4_stops (v4 - 1) s31) = 0 then (w_X2_meanBy_11 c1 n6 (f_X2_capped (v1 + r30)) v2 v3 (v4 + 1) s31) else j40c))) (gl (((f_X2_lastOf v4 c1 s5) - v4) + 1) (fun v41 => (w_X2_meanBy_11 c1 n6 (f_X2_capped (v1 + r30)) r30 v41 (v4 + 1) s31)))))) else (gj (fun j48c => (if (v4 + 1) < 16 then (if (f_X8_has c1 (v4 + 1)) = 0 then (if (f_X4_stops (v4 + 1) s5) = 0 then gb (f_X2_stretchMean (v4 + 1) (f_X2_lastOf (v4 + 1) c1 s5) s5) (fun r91 s92 => gb (f_X2_closing v4 (f_X2_capped (v2 + r91)) ((v3 + (f_X2_lastOf (v4 + 1) c1 s5)) - v4) s92) (fun r101 s102 => gl (f_X2_capped ((f_X2_capped (v2 + r91)) + r101)) (fun v114 => (w_X2_meanBy_11 c1 n6 (f_X2_capped (v1 + r101)) v114 (v3 + (((f_X2_lastOf (v4 + 1) c1 s5) - v4) + 1)) (v4 + 1) s102)))) else j48c) else j48c) else j48c)) (gb (f_X2_stretchMean (v4 + 1) v4 s5) (fun r50 s51 => gb (f_X2_closing v4 (f_X2_capped (v2 + r50)) ((v3 + v4) - v4) s51) (fun r60 s61 => gl (f_X2_capped ((f_X2_capped (v2 + r50)) + r60)) (fun v73 => (w_X2_meanBy_11 c1 n6 (f_X2_capped (v1 + r60)) v73 (v3 + ((v4 - v4) + 1)) (v4 + 1) s61))))))) else (gl2 ((if (f_X8_has c1 v4) = 0 then gb (f_X2_stretchMean v4 v4 s5) (fun r131 s132 => (r131, s132)) else gb (f_X2_closing v4 0 0 s5) (fun r137 s138 => (r137, s138)))) (fun v121 s122 => (w_X2_meanBy_11 c1 n6 (f_X2_capped (v1 + v121)) 0 0 (v4 + 1) s122)))) else (v1, v2, v3, v4, s5))
theorem w_X2_meanBy_11_s (c1 : Int) (n6 : Nat) (v1 : Int) (v2 : Int) (v3 : Int) (v4 : Int) (s5 : gMem) : w_X2_meanBy_11 c1 (n6 + 1) v1 v2 v3 v4 s5 = (if v4 < 16 then (if (f_X4_stops v4 s5) = 0 then (if (f_X8_has c1 v4) = 0 then (if (f_X2_begins v4 c1 s5) = 0 then (w_X2_meanBy_11 c1 n6 v1 v2 v3 (v4 + 1) s5) else gb (f_X2_stretchMean v4 (f_X2_lastOf v4 c1 s5) s5) (fun r30 s31 => (gj (fun j40c => (if v4 = 0 then j40c else (if (f_X4_stops (v4 - 1) s31) = 0 then (w_X2_meanBy_11 c1 n6 (f_X2_capped (v1 + r30)) v2 v3 (v4 + 1) s31) else j40c))) (gl (((f_X2_lastOf v4 c1 s5) - v4) + 1) (fun v41 => (w_X2_meanBy_11 c1 n6 (f_X2_capped (v1 + r30)) r30 v41 (v4 + 1) s31)))))) else (gj (fun j48c => (if (v4 + 1) < 16 then (if (f_X8_has c1 (v4 + 1)) = 0 then (if (f_X4_stops (v4 + 1) s5) = 0 then gb (f_X2_stretchMean (v4 + 1) (f_X2_lastOf (v4 + 1) c1 s5) s5) (fun r91 s92 => gb (f_X2_closing v4 (f_X2_capped (v2 + r91)) ((v3 + (f_X2_lastOf (v4 + 1) c1 s5)) - v4) s92) (fun r101 s102 => gl (f_X2_capped ((f_X2_capped (v2 + r91)) + r101)) (fun v114 => (w_X2_meanBy_11 c1 n6 (f_X2_capped (v1 + r101)) v114 (v3 + (((f_X2_lastOf (v4 + 1) c1 s5) - v4) + 1)) (v4 + 1) s102)))) else j48c) else j48c) else j48c)) (gb (f_X2_stretchMean (v4 + 1) v4 s5) (fun r50 s51 => gb (f_X2_closing v4 (f_X2_capped (v2 + r50)) ((v3 + v4) - v4) s51) (fun r60 s61 => gl (f_X2_capped ((f_X2_capped (v2 + r50)) + r60)) (fun v73 => (w_X2_meanBy_11 c1 n6 (f_X2_capped (v1 + r60)) v73 (v3 + ((v4 - v4) + 1)) (v4 + 1) s61))))))) else (gl2 ((if (f_X8_has c1 v4) = 0 then gb (f_X2_stretchMean v4 v4 s5) (fun r131 s132 => (r131, s132)) else gb (f_X2_closing v4 0 0 s5) (fun r137 s138 => (r137, s138)))) (fun v121 s122 => (w_X2_meanBy_11 c1 n6 (f_X2_capped (v1 + v121)) 0 0 (v4 + 1) s122)))) else (v1, v2, v3, v4, s5)) := rfl
def f_X2_meanBy (x0 : Int) (s0 : gMem) : gRes := (gl5 (w_X2_meanBy_11 x0 17 0 0 0 0 s0) (fun v307 v308 v309 v310 s311 => (v307, s311)))
theorem f_X2_meanBy_e (x0 : Int) (s0 : gMem) : f_X2_meanBy x0 s0 = (gl5 (w_X2_meanBy_11 x0 17 0 0 0 0 s0) (fun v307 v308 v309 v310 s311 => (v307, s311))) := rfl
set_option maxRecDepth 100000 in
set_option maxHeartbeats 4000000 in
theorem f_X2_meanBy_p (x0 : Int) (s0 : gMem) (hx0 : in32 x0) (hm_s0 : gMR lgX s0) (hpre0 : CD s0) (hpre1 : BG s0) (hpre2 : LA s0) (hpre3 : MOx s0) (hpre4 : KF s0) (hpre5 : KC s0) (hpre6 : KT s0) (hpre7 : KM s0) (hpre8 : WY s0) (rZ : Int) (sZ : gMem) (hres : f_X2_meanBy x0 s0 = (rZ, sZ)) : (fr [32, 36, 37, 38, 39, 42] s0 sZ) ∧ (gMR lgX sZ) ∧ (in64 rZ) ∧ (KM sZ) ∧ (KF sZ) ∧ (KC sZ) ∧ (KT sZ) ∧ (0 ≤ rZ ∧ rZ ≤ 1000000000000) := by
  have hT := f_X2_meanBy_e x0 s0
  have hf_s0 : fr [32, 36, 37, 38, 39, 42] s0 s0 := fr.rf _ _
  have hKM_s0 := hpre7
  have hKF_s0 := hpre4
  have hKC_s0 := hpre5
  have hKT_s0 := hpre6
  have L147 : ∀ (n148 : Nat) (v142 : Int) (v143 : Int) (v144 : Int) (v145 : Int) (s146 : gMem), ((in64 v142) ∧ (in64 v143) ∧ (in32 v144) ∧ (in32 v145) ∧ (fr [32, 36, 37, 38, 39, 42] s0 s146) ∧ (gMR lgX s146) ∧ (KM s146) ∧ (KF s146) ∧ (KC s146) ∧ (KT s146) ∧ (0 ≤ v145 ∧ v145 ≤ 16) ∧ (0 ≤ v142 ∧ v142 ≤ 1000000000000) ∧ (0 ≤ v143 ∧ v143 ≤ 1000000000000) ∧ (0 ≤ v144 ∧ v144 ≤ 16) ∧ (SG (s0 40) x0 v144 v145)) → 16 - v145 < (n148 : Int) → (∀ (w149 : Int) (w150 : Int) (w151 : Int) (w152 : Int) (s153 : gMem), (w_X2_meanBy_11 x0 n148 v142 v143 v144 v145 s146) = (w149, w150, w151, w152, s153) → ((in64 w149) ∧ (in64 w150) ∧ (in32 w151) ∧ (in32 w152) ∧ (fr [32, 36, 37, 38, 39, 42] s0 s153) ∧ (gMR lgX s153) ∧ (KM s153) ∧ (KF s153) ∧ (KC s153) ∧ (KT s153) ∧ (0 ≤ w152 ∧ w152 ≤ 16) ∧ (0 ≤ w149 ∧ w149 ≤ 1000000000000) ∧ (0 ≤ w150 ∧ w150 ≤ 1000000000000) ∧ (0 ≤ w151 ∧ w151 ≤ 16) ∧ (SG (s0 40) x0 w151 w152)) → (fr [32, 36, 37, 38, 39, 42] s0 sZ) ∧ (gMR lgX sZ) ∧ (in64 rZ) ∧ (KM sZ) ∧ (KF sZ) ∧ (KC sZ) ∧ (KT sZ) ∧ (0 ≤ rZ ∧ rZ ≤ 1000000000000)) → (fr [32, 36, 37, 38, 39, 42] s0 sZ) ∧ (gMR lgX sZ) ∧ (in64 rZ) ∧ (KM sZ) ∧ (KF sZ) ∧ (KC sZ) ∧ (KT sZ) ∧ (0 ≤ rZ ∧ rZ ≤ 1000000000000) := by
    intro n148; induction n148 with
    | zero =>
      intro v142 v143 v144 v145 s146 hq hm hk
      exfalso
      obtain ⟨hq289, hq290, hq291, hq292, hf_s146, hm_s146, hKM_s146, hKF_s146, hKC_s146, hKT_s146, hq293, hq294, hq295, hq296, hq297⟩ := hq
      omega
    | succ n148 ih =>
      intro v142 v143 v144 v145 s146 hq hm hk
      obtain ⟨hq298, hq299, hq300, hq301, hf_s146, hm_s146, hKM_s146, hKF_s146, hKC_s146, hKT_s146, hq302, hq303, hq304, hq305, hq306⟩ := hq
      have hT := w_X2_meanBy_11_s x0 n148 v142 v143 v144 v145 s146
      by_cases h154 : v145 < 16
      · replace hT := hT.trans (if_pos h154)
        have hp156 := f_X4_stops_p v145 s146 (by omega) hm_s146 (by first | assumption | omega)
        try simp only [hf_s146 40 (by decide)] at hp156
        obtain ⟨hp157, hp158⟩ := hp156
        by_cases h159 : (f_X4_stops v145 s146) = 0
        · replace hT := hT.trans (if_pos h159)
          have hp161 := f_X8_has_p x0 v145 (by omega) (by omega) 
          try simp only [hf_s146 40 (by decide)] at hp161
          obtain ⟨hp162, hp163⟩ := hp161
          by_cases h164 : (f_X8_has x0 v145) = 0
          · replace hT := hT.trans (if_pos h164)
            have hp166 := f_X2_begins_p v145 x0 s146 (by omega) (by omega) hm_s146 (by first | assumption | omega)
            try simp only [hf_s146 40 (by decide)] at hp166
            obtain ⟨hp167, hp168⟩ := hp166
            by_cases h169 : (f_X2_begins v145 x0 s146) = 0
            · replace hT := hT.trans (if_pos h169)
              exact ih v142 v143 v144 (v145 + 1) s146 ⟨(by omega), (by omega), (by omega), (by omega), hf_s146, hm_s146, hKM_s146, hKF_s146, hKC_s146, hKT_s146, (by first | assumption | omega), (by first | assumption | omega), (by first | assumption | omega), (by first | assumption | omega), (by first | assumption | exact SG_0 _ _ (by omega) | exact SG_skip (by assumption) (by unfold bitS; omega) (by omega) | exact SG_new (by assumption) (by omega) | exact SG_new (RUN_0 _ _ _) (by omega) | exact SG_new (RUN_c (by assumption) (by unfold bitS; omega) (by omega)) (by omega))⟩ (by omega) (fun w149 w150 w151 w152 s153 hw hi => hk w149 w150 w151 w152 s153 (hT.trans hw) hi)
            · replace hT := hT.trans (if_neg h169)
              have hp171 := f_X2_lastOf_p v145 x0 s146 (by omega) (by omega) hm_s146 (by first | assumption | omega)
              try simp only [hf_s146 40 (by decide)] at hp171
              obtain ⟨hp172, hp173, hp174, hp175⟩ := hp171
              obtain ⟨r177, s178, hs178⟩ : ∃ rr ss, (f_X2_stretchMean v145 (f_X2_lastOf v145 x0 s146) s146) = (rr, ss) := ⟨_, _, rfl⟩
              replace hT := gby hT hs178
              have hp179 := f_X2_stretchMean_p v145 (f_X2_lastOf v145 x0 s146) s146 (by omega) (by omega) hm_s146 (CD_fr hpre0 (fun k hk => hf_s146 k (dj (by decide) k hk))) (BG_fr hpre1 (fun k hk => hf_s146 k (dj (by decide) k hk))) (LA_fr hpre2 (fun k hk => hf_s146 k (dj (by decide) k hk))) (MOx_fr hpre3 (fun k hk => hf_s146 k (dj (by decide) k hk))) hKF_s146 hKC_s146 hKT_s146 hKM_s146 (WY_fr hpre8 (fun k hk => hf_s146 k (dj (by decide) k hk))) (by first | assumption | omega) (by first | assumption | omega) r177 s178 hs178
              obtain ⟨hfc_s178, hm_s178, hp180, hKM_s178, hKF_s178, hKC_s178, hKT_s178, hp181⟩ := hp179
              have hf_s178 : fr [32, 36, 37, 38, 39, 42] s0 s178 := hf_s146.call (by decide) hfc_s178
              have hKC_s178 : KC s178 := KC_fr hKC_s146 (fun k hk => hfc_s178 k (dj (by decide) k hk))
              have hp183 := f_X2_capped_p (v142 + r177) (by omega) 
              try simp only [hf_s178 40 (by decide)] at hp183
              obtain ⟨hp184, hp185⟩ := hp183
              obtain ⟨j187c, hj187c, hT⟩ := gjx hT
              have j187 : (True) → (w_X2_meanBy_11 x0 (n148 + 1) v142 v143 v144 v145 s146) = j187c  → (fr [32, 36, 37, 38, 39, 42] s0 sZ) ∧ (gMR lgX sZ) ∧ (in64 rZ) ∧ (KM sZ) ∧ (KF sZ) ∧ (KC sZ) ∧ (KT sZ) ∧ (0 ≤ rZ ∧ rZ ≤ 1000000000000) := by
                intro  hq hT
                rw [hj187c] at hT
                obtain ⟨v188, hv188, hT⟩ := glx hT
                exact ih (f_X2_capped (v142 + r177)) r177 v188 (v145 + 1) s178 ⟨(by omega), (by omega), (by omega), (by omega), hf_s178, hm_s178, hKM_s178, hKF_s178, hKC_s178, hKT_s178, (by first | assumption | omega), (by first | assumption | omega), (by first | assumption | omega), (by first | assumption | omega), (by first | assumption | exact SG_0 _ _ (by omega) | exact SG_skip (by assumption) (by unfold bitS; omega) (by omega) | exact SG_new (by assumption) (by omega) | exact SG_new (RUN_0 _ _ _) (by omega) | exact SG_new (RUN_c (by assumption) (by unfold bitS; omega) (by omega)) (by omega))⟩ (by omega) (fun w149 w150 w151 w152 s153 hw hi => hk w149 w150 w151 w152 s153 (hT.trans hw) hi)
              by_cases h186 : v145 = 0
              · replace hT := hT.trans (if_pos h186)
                exact j187  trivial hT
              · replace hT := hT.trans (if_neg h186)
                have hp190 := f_X4_stops_p (v145 - 1) s178 (by omega) hm_s178 (by first | assumption | omega)
                try simp only [hf_s178 40 (by decide)] at hp190
                obtain ⟨hp191, hp192⟩ := hp190
                by_cases h193 : (f_X4_stops (v145 - 1) s178) = 0
                · replace hT := hT.trans (if_pos h193)
                  exact ih (f_X2_capped (v142 + r177)) v143 v144 (v145 + 1) s178 ⟨(by omega), (by omega), (by omega), (by omega), hf_s178, hm_s178, hKM_s178, hKF_s178, hKC_s178, hKT_s178, (by first | assumption | omega), (by first | assumption | omega), (by first | assumption | omega), (by first | assumption | omega), (by first | assumption | exact SG_0 _ _ (by omega) | exact SG_skip (by assumption) (by unfold bitS; omega) (by omega) | exact SG_new (by assumption) (by omega) | exact SG_new (RUN_0 _ _ _) (by omega) | exact SG_new (RUN_c (by assumption) (by unfold bitS; omega) (by omega)) (by omega))⟩ (by omega) (fun w149 w150 w151 w152 s153 hw hi => hk w149 w150 w151 w152 s153 (hT.trans hw) hi)
                · replace hT := hT.trans (if_neg h193)
                  exact j187  trivial hT
          · replace hT := hT.trans (if_neg h164)
            obtain ⟨j195c, hj195c, hT⟩ := gjx hT
            have j195 : (True) → (w_X2_meanBy_11 x0 (n148 + 1) v142 v143 v144 v145 s146) = j195c  → (fr [32, 36, 37, 38, 39, 42] s0 sZ) ∧ (gMR lgX sZ) ∧ (in64 rZ) ∧ (KM sZ) ∧ (KF sZ) ∧ (KC sZ) ∧ (KT sZ) ∧ (0 ≤ rZ ∧ rZ ≤ 1000000000000) := by
              intro  hq hT
              rw [hj195c] at hT
              have ksz : v144 ≤ v145 := SG_use (by assumption) (by omega) (by unfold bitS; omega)
              obtain ⟨r197, s198, hs198⟩ : ∃ rr ss, (f_X2_stretchMean (v145 + 1) v145 s146) = (rr, ss) := ⟨_, _, rfl⟩
              replace hT := gby hT hs198
              have hp199 := f_X2_stretchMean_p (v145 + 1) v145 s146 (by omega) (by omega) hm_s146 (CD_fr hpre0 (fun k hk => hf_s146 k (dj (by decide) k hk))) (BG_fr hpre1 (fun k hk => hf_s146 k (dj (by decide) k hk))) (LA_fr hpre2 (fun k hk => hf_s146 k (dj (by decide) k hk))) (MOx_fr hpre3 (fun k hk => hf_s146 k (dj (by decide) k hk))) hKF_s146 hKC_s146 hKT_s146 hKM_s146 (WY_fr hpre8 (fun k hk => hf_s146 k (dj (by decide) k hk))) (by first | assumption | omega) (by first | assumption | omega) r197 s198 hs198
              obtain ⟨hfc_s198, hm_s198, hp200, hKM_s198, hKF_s198, hKC_s198, hKT_s198, hp201⟩ := hp199
              have hf_s198 : fr [32, 36, 37, 38, 39, 42] s0 s198 := hf_s146.call (by decide) hfc_s198
              have hKC_s198 : KC s198 := KC_fr hKC_s146 (fun k hk => hfc_s198 k (dj (by decide) k hk))
              have hp203 := f_X2_capped_p (v143 + r197) (by omega) 
              try simp only [hf_s198 40 (by decide)] at hp203
              obtain ⟨hp204, hp205⟩ := hp203
              obtain ⟨r207, s208, hs208⟩ : ∃ rr ss, (f_X2_closing v145 (f_X2_capped (v143 + r197)) ((v144 + v145) - v145) s198) = (rr, ss) := ⟨_, _, rfl⟩
              replace hT := gby hT hs208
              have hp209 := f_X2_closing_p v145 (f_X2_capped (v143 + r197)) ((v144 + v145) - v145) s198 (by omega) (by omega) (by omega) hm_s198 (CD_fr hpre0 (fun k hk => hf_s198 k (dj (by decide) k hk))) (BG_fr hpre1 (fun k hk => hf_s198 k (dj (by decide) k hk))) (LA_fr hpre2 (fun k hk => hf_s198 k (dj (by decide) k hk))) (MOx_fr hpre3 (fun k hk => hf_s198 k (dj (by decide) k hk))) hKF_s198 hKC_s198 hKT_s198 (by first | assumption | omega) (by first | assumption | omega) (by first | assumption | omega) r207 s208 hs208
              obtain ⟨hfc_s208, hm_s208, hp210, hKF_s208, hKC_s208, hKT_s208, hp211⟩ := hp209
              have hf_s208 : fr [32, 36, 37, 38, 39, 42] s0 s208 := hf_s198.call (by decide) hfc_s208
              have hKM_s208 : KM s208 := KM_fr hKM_s198 (fun k hk => hfc_s208 k (dj (by decide) k hk))
              have hp213 := f_X2_capped_p (v142 + r207) (by omega) 
              try simp only [hf_s208 40 (by decide)] at hp213
              obtain ⟨hp214, hp215⟩ := hp213
              have hp217 := f_X2_capped_p ((f_X2_capped (v143 + r197)) + r207) (by omega) 
              try simp only [hf_s208 40 (by decide)] at hp217
              obtain ⟨hp218, hp219⟩ := hp217
              obtain ⟨v220, hv220, hT⟩ := glx hT
              exact ih (f_X2_capped (v142 + r207)) v220 (v144 + ((v145 - v145) + 1)) (v145 + 1) s208 ⟨(by omega), (by omega), (by omega), (by omega), hf_s208, hm_s208, hKM_s208, hKF_s208, hKC_s208, hKT_s208, (by first | assumption | omega), (by first | assumption | omega), (by first | assumption | omega), (by first | assumption | omega), (by first | assumption | exact SG_0 _ _ (by omega) | exact SG_skip (by assumption) (by unfold bitS; omega) (by omega) | exact SG_new (by assumption) (by omega) | exact SG_new (RUN_0 _ _ _) (by omega) | exact SG_new (RUN_c (by assumption) (by unfold bitS; omega) (by omega)) (by omega))⟩ (by omega) (fun w149 w150 w151 w152 s153 hw hi => hk w149 w150 w151 w152 s153 (hT.trans hw) hi)
            by_cases h194 : (v145 + 1) < 16
            · replace hT := hT.trans (if_pos h194)
              have hp222 := f_X8_has_p x0 (v145 + 1) (by omega) (by omega) 
              try simp only [hf_s146 40 (by decide)] at hp222
              obtain ⟨hp223, hp224⟩ := hp222
              by_cases h225 : (f_X8_has x0 (v145 + 1)) = 0
              · replace hT := hT.trans (if_pos h225)
                have hp227 := f_X4_stops_p (v145 + 1) s146 (by omega) hm_s146 (by first | assumption | omega)
                try simp only [hf_s146 40 (by decide)] at hp227
                obtain ⟨hp228, hp229⟩ := hp227
                by_cases h230 : (f_X4_stops (v145 + 1) s146) = 0
                · replace hT := hT.trans (if_pos h230)
                  have hp232 := f_X2_lastOf_p (v145 + 1) x0 s146 (by omega) (by omega) hm_s146 (by first | assumption | omega)
                  try simp only [hf_s146 40 (by decide)] at hp232
                  obtain ⟨hp233, hp234, hp235, hp236⟩ := hp232
                  have ksz : v144 ≤ v145 := SG_use (by assumption) (by omega) (by unfold bitS; omega)
                  obtain ⟨r238, s239, hs239⟩ : ∃ rr ss, (f_X2_stretchMean (v145 + 1) (f_X2_lastOf (v145 + 1) x0 s146) s146) = (rr, ss) := ⟨_, _, rfl⟩
                  replace hT := gby hT hs239
                  have hp240 := f_X2_stretchMean_p (v145 + 1) (f_X2_lastOf (v145 + 1) x0 s146) s146 (by omega) (by omega) hm_s146 (CD_fr hpre0 (fun k hk => hf_s146 k (dj (by decide) k hk))) (BG_fr hpre1 (fun k hk => hf_s146 k (dj (by decide) k hk))) (LA_fr hpre2 (fun k hk => hf_s146 k (dj (by decide) k hk))) (MOx_fr hpre3 (fun k hk => hf_s146 k (dj (by decide) k hk))) hKF_s146 hKC_s146 hKT_s146 hKM_s146 (WY_fr hpre8 (fun k hk => hf_s146 k (dj (by decide) k hk))) (by first | assumption | omega) (by first | assumption | omega) r238 s239 hs239
                  obtain ⟨hfc_s239, hm_s239, hp241, hKM_s239, hKF_s239, hKC_s239, hKT_s239, hp242⟩ := hp240
                  have hf_s239 : fr [32, 36, 37, 38, 39, 42] s0 s239 := hf_s146.call (by decide) hfc_s239
                  have hKC_s239 : KC s239 := KC_fr hKC_s146 (fun k hk => hfc_s239 k (dj (by decide) k hk))
                  have hp244 := f_X2_capped_p (v143 + r238) (by omega) 
                  try simp only [hf_s239 40 (by decide)] at hp244
                  obtain ⟨hp245, hp246⟩ := hp244
                  obtain ⟨r248, s249, hs249⟩ : ∃ rr ss, (f_X2_closing v145 (f_X2_capped (v143 + r238)) ((v144 + (f_X2_lastOf (v145 + 1) x0 s146)) - v145) s239) = (rr, ss) := ⟨_, _, rfl⟩
                  replace hT := gby hT hs249
                  have hp250 := f_X2_closing_p v145 (f_X2_capped (v143 + r238)) ((v144 + (f_X2_lastOf (v145 + 1) x0 s146)) - v145) s239 (by omega) (by omega) (by omega) hm_s239 (CD_fr hpre0 (fun k hk => hf_s239 k (dj (by decide) k hk))) (BG_fr hpre1 (fun k hk => hf_s239 k (dj (by decide) k hk))) (LA_fr hpre2 (fun k hk => hf_s239 k (dj (by decide) k hk))) (MOx_fr hpre3 (fun k hk => hf_s239 k (dj (by decide) k hk))) hKF_s239 hKC_s239 hKT_s239 (by first | assumption | omega) (by first | assumption | omega) (by first | assumption | omega) r248 s249 hs249
                  obtain ⟨hfc_s249, hm_s249, hp251, hKF_s249, hKC_s249, hKT_s249, hp252⟩ := hp250
                  have hf_s249 : fr [32, 36, 37, 38, 39, 42] s0 s249 := hf_s239.call (by decide) hfc_s249
                  have hKM_s249 : KM s249 := KM_fr hKM_s239 (fun k hk => hfc_s249 k (dj (by decide) k hk))
                  have hp254 := f_X2_capped_p (v142 + r248) (by omega) 
                  try simp only [hf_s249 40 (by decide)] at hp254
                  obtain ⟨hp255, hp256⟩ := hp254
                  have hp258 := f_X2_capped_p ((f_X2_capped (v143 + r238)) + r248) (by omega) 
                  try simp only [hf_s249 40 (by decide)] at hp258
                  obtain ⟨hp259, hp260⟩ := hp258
                  obtain ⟨v261, hv261, hT⟩ := glx hT
                  exact ih (f_X2_capped (v142 + r248)) v261 (v144 + (((f_X2_lastOf (v145 + 1) x0 s146) - v145) + 1)) (v145 + 1) s249 ⟨(by omega), (by omega), (by omega), (by omega), hf_s249, hm_s249, hKM_s249, hKF_s249, hKC_s249, hKT_s249, (by first | assumption | omega), (by first | assumption | omega), (by first | assumption | omega), (by first | assumption | omega), (by first | assumption | exact SG_0 _ _ (by omega) | exact SG_skip (by assumption) (by unfold bitS; omega) (by omega) | exact SG_new (by assumption) (by omega) | exact SG_new (RUN_0 _ _ _) (by omega) | exact SG_new (RUN_c (by assumption) (by unfold bitS; omega) (by omega)) (by omega))⟩ (by omega) (fun w149 w150 w151 w152 s153 hw hi => hk w149 w150 w151 w152 s153 (hT.trans hw) hi)
                · replace hT := hT.trans (if_neg h230)
                  exact j195  trivial hT
              · replace hT := hT.trans (if_neg h225)
                exact j195  trivial hT
            · replace hT := hT.trans (if_neg h194)
              exact j195  trivial hT
        · replace hT := hT.trans (if_neg h159)
          have hp263 := f_X8_has_p x0 v145 (by omega) (by omega) 
          try simp only [hf_s146 40 (by decide)] at hp263
          obtain ⟨hp264, hp265⟩ := hp263
          obtain ⟨z276, hz276, hT⟩ := gl2x hT
          have j267 : ∀ (v268 : Int) (s269 : gMem), ((in64 v268) ∧ (0 ≤ v268 ∧ v268 ≤ 1000000000000) ∧ (fr [32, 36, 37, 38, 39, 42] s0 s269) ∧ (gMR lgX s269) ∧ (KM s269) ∧ (KF s269) ∧ (KC s269) ∧ (KT s269)) → z276 = (v268, s269) → (fr [32, 36, 37, 38, 39, 42] s0 sZ) ∧ (gMR lgX sZ) ∧ (in64 rZ) ∧ (KM sZ) ∧ (KF sZ) ∧ (KC sZ) ∧ (KT sZ) ∧ (0 ≤ rZ ∧ rZ ≤ 1000000000000) := by
            intro v268 s269 hq hz
            obtain ⟨hq274, hq275, hf_s269, hm_s269, hKM_s269, hKF_s269, hKC_s269, hKT_s269⟩ := hq
            replace hT := gl2y hT hz
            have hp271 := f_X2_capped_p (v142 + v268) (by omega) 
            try simp only [hf_s269 40 (by decide)] at hp271
            obtain ⟨hp272, hp273⟩ := hp271
            exact ih (f_X2_capped (v142 + v268)) 0 0 (v145 + 1) s269 ⟨(by omega), (by omega), (by omega), (by omega), hf_s269, hm_s269, hKM_s269, hKF_s269, hKC_s269, hKT_s269, (by first | assumption | omega), (by first | assumption | omega), (by first | assumption | omega), (by first | assumption | omega), (by first | assumption | exact SG_0 _ _ (by omega) | exact SG_skip (by assumption) (by unfold bitS; omega) (by omega) | exact SG_new (by assumption) (by omega) | exact SG_new (RUN_0 _ _ _) (by omega) | exact SG_new (RUN_c (by assumption) (by unfold bitS; omega) (by omega)) (by omega))⟩ (by omega) (fun w149 w150 w151 w152 s153 hw hi => hk w149 w150 w151 w152 s153 (hT.trans hw) hi)
          replace hT := hz276
          by_cases h266 : (f_X8_has x0 v145) = 0
          · replace hT := hT.trans (if_pos h266)
            obtain ⟨r278, s279, hs279⟩ : ∃ rr ss, (f_X2_stretchMean v145 v145 s146) = (rr, ss) := ⟨_, _, rfl⟩
            replace hT := gby hT hs279
            have hp280 := f_X2_stretchMean_p v145 v145 s146 (by omega) (by omega) hm_s146 (CD_fr hpre0 (fun k hk => hf_s146 k (dj (by decide) k hk))) (BG_fr hpre1 (fun k hk => hf_s146 k (dj (by decide) k hk))) (LA_fr hpre2 (fun k hk => hf_s146 k (dj (by decide) k hk))) (MOx_fr hpre3 (fun k hk => hf_s146 k (dj (by decide) k hk))) hKF_s146 hKC_s146 hKT_s146 hKM_s146 (WY_fr hpre8 (fun k hk => hf_s146 k (dj (by decide) k hk))) (by first | assumption | omega) (by first | assumption | omega) r278 s279 hs279
            obtain ⟨hfc_s279, hm_s279, hp281, hKM_s279, hKF_s279, hKC_s279, hKT_s279, hp282⟩ := hp280
            have hf_s279 : fr [32, 36, 37, 38, 39, 42] s0 s279 := hf_s146.call (by decide) hfc_s279
            have hKC_s279 : KC s279 := KC_fr hKC_s146 (fun k hk => hfc_s279 k (dj (by decide) k hk))
            exact j267 r278 s279 ⟨(by omega), (by first | assumption | omega), hf_s279, hm_s279, hKM_s279, hKF_s279, hKC_s279, hKT_s279⟩ hT
          · replace hT := hT.trans (if_neg h266)
            obtain ⟨r284, s285, hs285⟩ : ∃ rr ss, (f_X2_closing v145 0 0 s146) = (rr, ss) := ⟨_, _, rfl⟩
            replace hT := gby hT hs285
            have hp286 := f_X2_closing_p v145 0 0 s146 (by omega) (by omega) (by omega) hm_s146 (CD_fr hpre0 (fun k hk => hf_s146 k (dj (by decide) k hk))) (BG_fr hpre1 (fun k hk => hf_s146 k (dj (by decide) k hk))) (LA_fr hpre2 (fun k hk => hf_s146 k (dj (by decide) k hk))) (MOx_fr hpre3 (fun k hk => hf_s146 k (dj (by decide) k hk))) hKF_s146 hKC_s146 hKT_s146 (by first | assumption | omega) (by first | assumption | omega) (by first | assumption | omega) r284 s285 hs285
            obtain ⟨hfc_s285, hm_s285, hp287, hKF_s285, hKC_s285, hKT_s285, hp288⟩ := hp286
            have hf_s285 : fr [32, 36, 37, 38, 39, 42] s0 s285 := hf_s146.call (by decide) hfc_s285
            have hKM_s285 : KM s285 := KM_fr hKM_s146 (fun k hk => hfc_s285 k (dj (by decide) k hk))
            exact j267 r284 s285 ⟨(by omega), (by first | assumption | omega), hf_s285, hm_s285, hKM_s285, hKF_s285, hKC_s285, hKT_s285⟩ hT
      · replace hT := hT.trans (if_neg h154)
        exact hk v142 v143 v144 v145 s146 hT ⟨(by omega), (by omega), (by omega), (by omega), hf_s146, hm_s146, hKM_s146, hKF_s146, hKC_s146, hKT_s146, (by first | assumption | omega), (by first | assumption | omega), (by first | assumption | omega), (by first | assumption | omega), (by first | assumption | exact SG_0 _ _ (by omega) | exact SG_skip (by assumption) (by unfold bitS; omega) (by omega) | exact SG_new (by assumption) (by omega) | exact SG_new (RUN_0 _ _ _) (by omega) | exact SG_new (RUN_c (by assumption) (by unfold bitS; omega) (by omega)) (by omega))⟩
  refine L147 17 0 0 0 0 s0 ⟨(by omega), (by omega), (by omega), (by omega), hf_s0, hm_s0, hKM_s0, hKF_s0, hKC_s0, hKT_s0, (by first | assumption | omega), (by first | assumption | omega), (by first | assumption | omega), (by first | assumption | omega), (by first | assumption | exact SG_0 _ _ (by omega) | exact SG_skip (by assumption) (by unfold bitS; omega) (by omega) | exact SG_new (by assumption) (by omega) | exact SG_new (RUN_0 _ _ _) (by omega) | exact SG_new (RUN_c (by assumption) (by unfold bitS; omega) (by omega)) (by omega))⟩ (by omega) (fun v307 v308 v309 v310 s311 hw hq => ?_)
  obtain ⟨hq312, hq313, hq314, hq315, hf_s311, hm_s311, hKM_s311, hKF_s311, hKC_s311, hKT_s311, hq316, hq317, hq318, hq319, hq320⟩ := hq
  replace hT := gl5y hT hw
  obtain ⟨rfl, rfl⟩ := Prod.mk.inj (hT.symm.trans hres)
  exact ⟨hf_s311, hm_s311, (by omega), hKM_s311, hKF_s311, hKC_s311, hKT_s311, (by first | assumption | omega)⟩
set_option maxRecDepth 100000 in
set_option maxHeartbeats 4000000 in
theorem c_X2_meanBy (l : Launch) (D : va_G) (a : Nat → Nat) (cI cJ cS cT : ClassId) (s0 : gMem) (x0 : Int) (hx0 : in32 x0) (hpre0 : CD s0) (hpre1 : BG s0) (hpre2 : LA s0) (hpre3 : MOx s0) (hpre4 : KF s0) (hpre5 : KC s0) (hpre6 : KT s0) (hpre7 : KM s0) (hpre8 : WY s0) : gC l yX2_meanBy cX2_meanBy 13 (some .long) 5 320 D vwCl (gT cI cJ cS cT) (wdX a cI cJ cS cT) lgX kJ in64 [.ref (a 5), gI x0] s0 (f_X2_meanBy x0 s0) := by
  refine gC_of (by decide +kernel) (hwdX a cI cJ cS cT) (Nat.le_of_ble_eq_true rfl) ?_
  intro A p e R s m args below meth c hR E
  subst hR
  have hT := f_X2_meanBy_e x0 s0
  have hf_s0 : fr [32, 36, 37, 38, 39, 42] s0 s0 := fr.rf _ _
  refine k_lv0 (lv' := [(0, .ref (a 5)), (1, gI x0)]) rfl ?_
  refine k_mr (fun hm_s0 => ?_)
  have hKM_s0 := hpre7
  have hKF_s0 := hpre4
  have hKC_s0 := hpre5
  have hKT_s0 := hpre6
  refine k_lconst0 (pc := 0) E dX2_meanBy_0 ?_
  refine k_lstoren (pc := 1) (lv' := [(2, gL 0), (0, .ref (a 5)), (1, gI x0)]) E dX2_meanBy_1 rfl (by decide) rfl ?_
  refine k_lconst0 (pc := 2) E dX2_meanBy_2 ?_
  refine k_lstore (pc := 3) (lv' := [(4, gL 0), (2, gL 0), (0, .ref (a 5)), (1, gI x0)]) E dX2_meanBy_3 (by decide) rfl ?_
  refine k_iconst (pc := 5) E dX2_meanBy_5 ?_
  refine k_istore (pc := 6) (lv' := [(6, gI 0), (4, gL 0), (2, gL 0), (0, .ref (a 5)), (1, gI x0)]) E dX2_meanBy_6 (by decide) rfl ?_
  refine k_iconst (pc := 8) E dX2_meanBy_8 ?_
  refine k_istore (pc := 9) (lv' := [(7, gI 0), (6, gI 0), (4, gL 0), (2, gL 0), (0, .ref (a 5)), (1, gI x0)]) E dX2_meanBy_9 (by decide) rfl ?_
  have L147 : ∀ (n148 : Nat) (v142 : Int) (v143 : Int) (v144 : Int) (v145 : Int) (s146 : gMem), ((in64 v142) ∧ (in64 v143) ∧ (in32 v144) ∧ (in32 v145) ∧ (fr [32, 36, 37, 38, 39, 42] s0 s146) ∧ (KM s146) ∧ (KF s146) ∧ (KC s146) ∧ (KT s146) ∧ (0 ≤ v145 ∧ v145 ≤ 16) ∧ (0 ≤ v142 ∧ v142 ≤ 1000000000000) ∧ (0 ≤ v143 ∧ v143 ≤ 1000000000000) ∧ (0 ≤ v144 ∧ v144 ≤ 16) ∧ (SG (s0 40) x0 v144 v145)) → 16 - v145 < (n148 : Int) → (∀ (w149 : Int) (w150 : Int) (w151 : Int) (w152 : Int) (s153 : gMem), (w_X2_meanBy_11 x0 n148 v142 v143 v144 v145 s146) = (w149, w150, w151, w152, s153) → ((in64 w149) ∧ (in64 w150) ∧ (in32 w151) ∧ (in32 w152) ∧ (fr [32, 36, 37, 38, 39, 42] s0 s153) ∧ (KM s153) ∧ (KF s153) ∧ (KC s153) ∧ (KT s153) ∧ (0 ≤ w152 ∧ w152 ≤ 16) ∧ (0 ≤ w149 ∧ w149 ≤ 1000000000000) ∧ (0 ≤ w150 ∧ w150 ≤ 1000000000000) ∧ (0 ≤ w151 ∧ w151 ≤ 16) ∧ (SG (s0 40) x0 w151 w152)) → gK D vwCl (wdX a cI cJ cS cT) lgX A p l e { frames := 5, cells := 0, slots := 0, locals := 320 } s m args below meth c 13 (gQQ D vwCl (wdX a cI cJ cS cT) lgX A kJ in64 below args s) (f_X2_meanBy x0 s0) s153 276 [(2, gL w149)] []) → gK D vwCl (wdX a cI cJ cS cT) lgX A p l e { frames := 5, cells := 0, slots := 0, locals := 320 } s m args below meth c 13 (gQQ D vwCl (wdX a cI cJ cS cT) lgX A kJ in64 below args s) (f_X2_meanBy x0 s0) s146 11 [(0, .ref (a 5)), (1, gI x0), (2, gL v142), (4, gL v143), (6, gI v144), (7, gI v145)] [] := by
    intro n148; induction n148 with
    | zero =>
      intro v142 v143 v144 v145 s146 hq hm hk
      exfalso
      obtain ⟨hq289, hq290, hq291, hq292, hf_s146, hKM_s146, hKF_s146, hKC_s146, hKT_s146, hq293, hq294, hq295, hq296, hq297⟩ := hq
      omega
    | succ n148 ih =>
      intro v142 v143 v144 v145 s146 hq hm hk
      obtain ⟨hq298, hq299, hq300, hq301, hf_s146, hKM_s146, hKF_s146, hKC_s146, hKT_s146, hq302, hq303, hq304, hq305, hq306⟩ := hq
      have hT := w_X2_meanBy_11_s x0 n148 v142 v143 v144 v145 s146
      refine k_iload (pc := 11) E 5 dX2_meanBy_11 rfl ?_
      refine k_bipush (pc := 13) E dX2_meanBy_13 (by decide) ?_
      by_cases h154 : v145 < 16
      · replace hT := hT.trans (if_pos h154)
        refine k_icmp_ge_f (pc := 15) (tgt := 276) E (by omega) (by omega) dX2_meanBy_15 (by decide) h154 ?_
        refine k_aloadn (pc := 18) E 0 dX2_meanBy_18 rfl rfl ?_
        refine k_getf (pc := 19) (q0 := 5) (f := 0) (v := .ref (a 3)) E inX2 rfl rfl (by decide) wm_174 rfl rfl dX2_meanBy_19 ?_
        refine k_iload (pc := 22) E 5 dX2_meanBy_22 rfl ?_
        refine k_mr (fun hm_s146 => ?_)
        refine k_callV (pc := 24) (np := 1) (As := [gI v145]) (st := []) (q0 := 3) E (c_X4_stops l D a cI cJ cS cT s146 v145 (by omega) (by first | assumption | omega)) wm_533 wm_4 wm_553 wm_531 wm_532 (by decide +kernel) rfl rfl ⟨by decide, by decide⟩ rfl (Nat.le_of_ble_eq_true rfl) dX2_meanBy_24 (ro_kk (fun hr155 => ?_))
        have hp156 := f_X4_stops_p v145 s146 (by omega) hm_s146 (by first | assumption | omega)
        try simp only [hf_s146 40 (by decide)] at hp156
        obtain ⟨hp157, hp158⟩ := hp156
        refine k_st (st' := [gI (f_X4_stops v145 s146)]) rfl ?_
        by_cases h159 : (f_X4_stops v145 s146) = 0
        · replace hT := hT.trans (if_pos h159)
          refine k_if_eq_t (pc := 27) (tgt := 73) E (by omega) dX2_meanBy_27 (by decide) h159 ?_
          refine k_iloadn (pc := 73) E 1 dX2_meanBy_73 rfl rfl ?_
          refine k_iload (pc := 74) E 5 dX2_meanBy_74 rfl ?_
          refine k_mr (fun hm_s146 => ?_)
          refine k_callSN (pc := 76) (np := 2) (As := [gI x0, gI v145]) (st := []) E (c_X8_has l D a cI cJ cS cT s146 x0 v145 (by omega) (by omega)) wm_552 wm_1 (List.mem_of_getElem? (i := 0) rfl) wm_551 (by decide +kernel) ⟨by decide, by decide⟩ rfl (Nat.le_of_ble_eq_true rfl) dX2_meanBy_76 (ro_kk (fun hr160 => ?_))
          have hp161 := f_X8_has_p x0 v145 (by omega) (by omega) 
          try simp only [hf_s146 40 (by decide)] at hp161
          obtain ⟨hp162, hp163⟩ := hp161
          refine k_st (st' := [gI (f_X8_has x0 v145)]) rfl ?_
          by_cases h164 : (f_X8_has x0 v145) = 0
          · replace hT := hT.trans (if_pos h164)
            refine k_if_eq_t (pc := 79) (tgt := 201) E (by omega) dX2_meanBy_79 (by decide) h164 ?_
            refine k_aloadn (pc := 201) E 0 dX2_meanBy_201 rfl rfl ?_
            refine k_iload (pc := 202) E 5 dX2_meanBy_202 rfl ?_
            refine k_iloadn (pc := 204) E 1 dX2_meanBy_204 rfl rfl ?_
            refine k_mr (fun hm_s146 => ?_)
            refine k_callV (pc := 205) (np := 2) (As := [gI v145, gI x0]) (st := []) (q0 := 5) E (c_X2_begins l D a cI cJ cS cT s146 v145 x0 (by omega) (by omega) (by first | assumption | omega)) wm_549 wm_7 wm_546 wm_548 wp_16 (by decide +kernel) rfl rfl ⟨by decide, by decide⟩ rfl (Nat.le_of_ble_eq_true rfl) dX2_meanBy_205 (ro_kk (fun hr165 => ?_))
            have hp166 := f_X2_begins_p v145 x0 s146 (by omega) (by omega) hm_s146 (by first | assumption | omega)
            try simp only [hf_s146 40 (by decide)] at hp166
            obtain ⟨hp167, hp168⟩ := hp166
            refine k_st (st' := [gI (f_X2_begins v145 x0 s146)]) rfl ?_
            by_cases h169 : (f_X2_begins v145 x0 s146) = 0
            · replace hT := hT.trans (if_pos h169)
              refine k_if_eq_t (pc := 208) (tgt := 270) E (by omega) dX2_meanBy_208 (by decide) h169 ?_
              refine k_iinc (pc := 270) (lv' := [(7, gI (v145 + 1)), (0, .ref (a 5)), (1, gI x0), (2, gL v142), (4, gL v143), (6, gI v144)]) E 5 dX2_meanBy_270 rfl (by decide) rfl ?_
              refine k_goto (pc := 273) (tgt := 11) E dX2_meanBy_273 (by decide) ?_
              refine k_lv (lv' := [(0, .ref (a 5)), (1, gI x0), (2, gL v142), (4, gL v143), (6, gI v144), (7, gI (v145 + 1))]) [1, 2, 3, 4, 5, 0] rfl ?_
              exact ih v142 v143 v144 (v145 + 1) s146 ⟨(by omega), (by omega), (by omega), (by omega), hf_s146, hKM_s146, hKF_s146, hKC_s146, hKT_s146, (by first | assumption | omega), (by first | assumption | omega), (by first | assumption | omega), (by first | assumption | omega), (by first | assumption | exact SG_0 _ _ (by omega) | exact SG_skip (by assumption) (by unfold bitS; omega) (by omega) | exact SG_new (by assumption) (by omega) | exact SG_new (RUN_0 _ _ _) (by omega) | exact SG_new (RUN_c (by assumption) (by unfold bitS; omega) (by omega)) (by omega))⟩ (by omega) (fun w149 w150 w151 w152 s153 hw hi => hk w149 w150 w151 w152 s153 (hT.trans hw) hi)
            · replace hT := hT.trans (if_neg h169)
              refine k_if_eq_f (pc := 208) (tgt := 270) E (by omega) dX2_meanBy_208 (by decide) h169 ?_
              refine k_aloadn (pc := 211) E 0 dX2_meanBy_211 rfl rfl ?_
              refine k_iload (pc := 212) E 5 dX2_meanBy_212 rfl ?_
              refine k_iloadn (pc := 214) E 1 dX2_meanBy_214 rfl rfl ?_
              refine k_mr (fun hm_s146 => ?_)
              refine k_callV (pc := 215) (np := 2) (As := [gI v145, gI x0]) (st := []) (q0 := 5) E (c_X2_lastOf l D a cI cJ cS cT s146 v145 x0 (by omega) (by omega) (by first | assumption | omega)) wm_557 wm_7 wm_554 wm_556 wp_17 (by decide +kernel) rfl rfl ⟨by decide, by decide⟩ rfl (Nat.le_of_ble_eq_true rfl) dX2_meanBy_215 (ro_kk (fun hr170 => ?_))
              have hp171 := f_X2_lastOf_p v145 x0 s146 (by omega) (by omega) hm_s146 (by first | assumption | omega)
              try simp only [hf_s146 40 (by decide)] at hp171
              obtain ⟨hp172, hp173, hp174, hp175⟩ := hp171
              refine k_st (st' := [gI (f_X2_lastOf v145 x0 s146)]) rfl ?_
              refine k_istore (pc := 218) (lv' := [(8, gI (f_X2_lastOf v145 x0 s146)), (0, .ref (a 5)), (1, gI x0), (2, gL v142), (4, gL v143), (6, gI v144), (7, gI v145)]) E dX2_meanBy_218 (by decide) rfl ?_
              refine k_aloadn (pc := 220) E 1 dX2_meanBy_220 rfl rfl ?_
              refine k_iload (pc := 221) E 6 dX2_meanBy_221 rfl ?_
              refine k_iload (pc := 223) E 0 dX2_meanBy_223 rfl ?_
              refine k_mr (fun hm_s146 => ?_)
              refine k_callV (pc := 225) (np := 2) (As := [gI v145, gI (f_X2_lastOf v145 x0 s146)]) (st := []) (q0 := 5) E (c_X2_stretchMean l D a cI cJ cS cT s146 v145 (f_X2_lastOf v145 x0 s146) (by omega) (by omega) (CD_fr hpre0 (fun k hk => hf_s146 k (dj (by decide) k hk))) (BG_fr hpre1 (fun k hk => hf_s146 k (dj (by decide) k hk))) (LA_fr hpre2 (fun k hk => hf_s146 k (dj (by decide) k hk))) (MOx_fr hpre3 (fun k hk => hf_s146 k (dj (by decide) k hk))) hKF_s146 hKC_s146 hKT_s146 hKM_s146 (WY_fr hpre8 (fun k hk => hf_s146 k (dj (by decide) k hk))) (by first | assumption | omega) (by first | assumption | omega)) wm_594 wm_7 wm_591 wm_593 wp_19 (by decide +kernel) rfl rfl ⟨by decide, by decide⟩ rfl (Nat.le_of_ble_eq_true rfl) dX2_meanBy_225 (fun r177 s178 hs178 hr176 => ?_)
              replace hT := gby hT hs178
              have hp179 := f_X2_stretchMean_p v145 (f_X2_lastOf v145 x0 s146) s146 (by omega) (by omega) hm_s146 (CD_fr hpre0 (fun k hk => hf_s146 k (dj (by decide) k hk))) (BG_fr hpre1 (fun k hk => hf_s146 k (dj (by decide) k hk))) (LA_fr hpre2 (fun k hk => hf_s146 k (dj (by decide) k hk))) (MOx_fr hpre3 (fun k hk => hf_s146 k (dj (by decide) k hk))) hKF_s146 hKC_s146 hKT_s146 hKM_s146 (WY_fr hpre8 (fun k hk => hf_s146 k (dj (by decide) k hk))) (by first | assumption | omega) (by first | assumption | omega) r177 s178 hs178
              obtain ⟨hfc_s178, hm_s178, hp180, hKM_s178, hKF_s178, hKC_s178, hKT_s178, hp181⟩ := hp179
              have hf_s178 : fr [32, 36, 37, 38, 39, 42] s0 s178 := hf_s146.call (by decide) hfc_s178
              have hKC_s178 : KC s178 := KC_fr hKC_s146 (fun k hk => hfc_s178 k (dj (by decide) k hk))
              refine k_st (st' := [gL r177]) rfl ?_
              refine k_lstore (pc := 228) (lv' := [(9, gL r177), (8, gI (f_X2_lastOf v145 x0 s146)), (0, .ref (a 5)), (1, gI x0), (2, gL v142), (4, gL v143), (6, gI v144), (7, gI v145)]) E dX2_meanBy_228 (by decide) rfl ?_
              refine k_lloadn (pc := 230) E 4 dX2_meanBy_230 rfl rfl ?_
              refine k_lload (pc := 231) E 0 dX2_meanBy_231 rfl ?_
              refine k_ladd (pc := 233) E dX2_meanBy_233 ?_
              refine k_mr (fun hm_s178 => ?_)
              refine k_callS (pc := 234) (np := 1) (As := [gL (v142 + r177)]) (st := []) E (c_X2_capped l D a cI cJ cS cT s178 (v142 + r177) (by omega)) wm_586 wm_7 wm_584 wm_585 (by decide +kernel) ⟨by decide, by decide⟩ rfl (Nat.le_of_ble_eq_true rfl) dX2_meanBy_234 (ro_kk (fun hr182 => ?_))
              have hp183 := f_X2_capped_p (v142 + r177) (by omega) 
              try simp only [hf_s178 40 (by decide)] at hp183
              obtain ⟨hp184, hp185⟩ := hp183
              refine k_st (st' := [gL (f_X2_capped (v142 + r177))]) rfl ?_
              refine k_lstoren (pc := 237) (lv' := [(2, gL (f_X2_capped (v142 + r177))), (9, gL r177), (8, gI (f_X2_lastOf v145 x0 s146)), (0, .ref (a 5)), (1, gI x0), (4, gL v143), (6, gI v144), (7, gI v145)]) E dX2_meanBy_237 rfl (by decide) rfl ?_
              refine k_iload (pc := 238) E 7 dX2_meanBy_238 rfl ?_
              obtain ⟨j187c, hj187c, hT⟩ := gjx hT
              have j187 : (True) → (w_X2_meanBy_11 x0 (n148 + 1) v142 v143 v144 v145 s146) = j187c  → gK D vwCl (wdX a cI cJ cS cT) lgX A p l e { frames := 5, cells := 0, slots := 0, locals := 320 } s m args below meth c 13 (gQQ D vwCl (wdX a cI cJ cS cT) lgX A kJ in64 below args s) (f_X2_meanBy x0 s0) s178 257 [(0, .ref (a 5)), (1, gI x0), (2, gL (f_X2_capped (v142 + r177))), (7, gI v145), (8, gI (f_X2_lastOf v145 x0 s146)), (9, gL r177)] [] := by
                intro  hq hT
                rw [hj187c] at hT
                refine k_lload (pc := 257) E 5 dX2_meanBy_257 rfl ?_
                refine k_lstore (pc := 259) (lv' := [(4, gL r177), (0, .ref (a 5)), (1, gI x0), (2, gL (f_X2_capped (v142 + r177))), (7, gI v145), (8, gI (f_X2_lastOf v145 x0 s146)), (9, gL r177)]) E dX2_meanBy_259 (by decide) rfl ?_
                refine k_iload (pc := 261) E 5 dX2_meanBy_261 rfl ?_
                refine k_iload (pc := 263) E 4 dX2_meanBy_263 rfl ?_
                refine k_isub (pc := 265) E dX2_meanBy_265 ?_
                refine k_iconst (pc := 266) E dX2_meanBy_266 ?_
                refine k_iadd (pc := 267) E dX2_meanBy_267 ?_
                obtain ⟨v188, hv188, hT⟩ := glx hT
                refine k_st (st' := [gI v188]) (by rw [hv188]) ?_
                refine k_istore (pc := 268) (lv' := [(6, gI v188), (4, gL r177), (0, .ref (a 5)), (1, gI x0), (2, gL (f_X2_capped (v142 + r177))), (7, gI v145), (8, gI (f_X2_lastOf v145 x0 s146)), (9, gL r177)]) E dX2_meanBy_268 (by decide) rfl ?_
                refine k_iinc (pc := 270) (lv' := [(7, gI (v145 + 1)), (6, gI v188), (4, gL r177), (0, .ref (a 5)), (1, gI x0), (2, gL (f_X2_capped (v142 + r177))), (8, gI (f_X2_lastOf v145 x0 s146)), (9, gL r177)]) E 5 dX2_meanBy_270 rfl (by decide) rfl ?_
                refine k_goto (pc := 273) (tgt := 11) E dX2_meanBy_273 (by decide) ?_
                refine k_lv (lv' := [(0, .ref (a 5)), (1, gI x0), (2, gL (f_X2_capped (v142 + r177))), (4, gL r177), (6, gI v188), (7, gI (v145 + 1))]) [3, 4, 5, 2, 1, 0] rfl ?_
                exact ih (f_X2_capped (v142 + r177)) r177 v188 (v145 + 1) s178 ⟨(by omega), (by omega), (by omega), (by omega), hf_s178, hKM_s178, hKF_s178, hKC_s178, hKT_s178, (by first | assumption | omega), (by first | assumption | omega), (by first | assumption | omega), (by first | assumption | omega), (by first | assumption | exact SG_0 _ _ (by omega) | exact SG_skip (by assumption) (by unfold bitS; omega) (by omega) | exact SG_new (by assumption) (by omega) | exact SG_new (RUN_0 _ _ _) (by omega) | exact SG_new (RUN_c (by assumption) (by unfold bitS; omega) (by omega)) (by omega))⟩ (by omega) (fun w149 w150 w151 w152 s153 hw hi => hk w149 w150 w151 w152 s153 (hT.trans hw) hi)
              by_cases h186 : v145 = 0
              · replace hT := hT.trans (if_pos h186)
                refine k_if_eq_t (pc := 240) (tgt := 257) E (by omega) dX2_meanBy_240 (by decide) h186 ?_
                refine k_lv (lv' := [(0, .ref (a 5)), (1, gI x0), (2, gL (f_X2_capped (v142 + r177))), (7, gI v145), (8, gI (f_X2_lastOf v145 x0 s146)), (9, gL r177)]) [3, 4, 0, 7, 2, 1] rfl ?_
                exact j187  trivial hT
              · replace hT := hT.trans (if_neg h186)
                refine k_if_eq_f (pc := 240) (tgt := 257) E (by omega) dX2_meanBy_240 (by decide) h186 ?_
                refine k_aloadn (pc := 243) E 3 dX2_meanBy_243 rfl rfl ?_
                refine k_getf (pc := 244) (q0 := 5) (f := 0) (v := .ref (a 3)) E inX2 rfl rfl (by decide) wm_174 rfl rfl dX2_meanBy_244 ?_
                refine k_iload (pc := 247) E 7 dX2_meanBy_247 rfl ?_
                refine k_iconst (pc := 249) E dX2_meanBy_249 ?_
                refine k_isub (pc := 250) E dX2_meanBy_250 ?_
                refine k_mr (fun hm_s178 => ?_)
                refine k_callV (pc := 251) (np := 1) (As := [gI (v145 - 1)]) (st := []) (q0 := 3) E (c_X4_stops l D a cI cJ cS cT s178 (v145 - 1) (by omega) (by first | assumption | omega)) wm_533 wm_4 wm_553 wm_531 wm_532 (by decide +kernel) rfl rfl ⟨by decide, by decide⟩ rfl (Nat.le_of_ble_eq_true rfl) dX2_meanBy_251 (ro_kk (fun hr189 => ?_))
                have hp190 := f_X4_stops_p (v145 - 1) s178 (by omega) hm_s178 (by first | assumption | omega)
                try simp only [hf_s178 40 (by decide)] at hp190
                obtain ⟨hp191, hp192⟩ := hp190
                refine k_st (st' := [gI (f_X4_stops (v145 - 1) s178)]) rfl ?_
                by_cases h193 : (f_X4_stops (v145 - 1) s178) = 0
                · replace hT := hT.trans (if_pos h193)
                  refine k_if_eq_t (pc := 254) (tgt := 270) E (by omega) dX2_meanBy_254 (by decide) h193 ?_
                  refine k_iinc (pc := 270) (lv' := [(7, gI (v145 + 1)), (2, gL (f_X2_capped (v142 + r177))), (9, gL r177), (8, gI (f_X2_lastOf v145 x0 s146)), (0, .ref (a 5)), (1, gI x0), (4, gL v143), (6, gI v144)]) E 7 dX2_meanBy_270 rfl (by decide) rfl ?_
                  refine k_goto (pc := 273) (tgt := 11) E dX2_meanBy_273 (by decide) ?_
                  refine k_lv (lv' := [(0, .ref (a 5)), (1, gI x0), (2, gL (f_X2_capped (v142 + r177))), (4, gL v143), (6, gI v144), (7, gI (v145 + 1))]) [4, 5, 1, 6, 7, 0] rfl ?_
                  exact ih (f_X2_capped (v142 + r177)) v143 v144 (v145 + 1) s178 ⟨(by omega), (by omega), (by omega), (by omega), hf_s178, hKM_s178, hKF_s178, hKC_s178, hKT_s178, (by first | assumption | omega), (by first | assumption | omega), (by first | assumption | omega), (by first | assumption | omega), (by first | assumption | exact SG_0 _ _ (by omega) | exact SG_skip (by assumption) (by unfold bitS; omega) (by omega) | exact SG_new (by assumption) (by omega) | exact SG_new (RUN_0 _ _ _) (by omega) | exact SG_new (RUN_c (by assumption) (by unfold bitS; omega) (by omega)) (by omega))⟩ (by omega) (fun w149 w150 w151 w152 s153 hw hi => hk w149 w150 w151 w152 s153 (hT.trans hw) hi)
                · replace hT := hT.trans (if_neg h193)
                  refine k_if_eq_f (pc := 254) (tgt := 270) E (by omega) dX2_meanBy_254 (by decide) h193 ?_
                  refine k_lv (lv' := [(0, .ref (a 5)), (1, gI x0), (2, gL (f_X2_capped (v142 + r177))), (7, gI v145), (8, gI (f_X2_lastOf v145 x0 s146)), (9, gL r177)]) [3, 4, 0, 7, 2, 1] rfl ?_
                  exact j187  trivial hT
          · replace hT := hT.trans (if_neg h164)
            refine k_if_eq_f (pc := 79) (tgt := 201) E (by omega) dX2_meanBy_79 (by decide) h164 ?_
            refine k_iload (pc := 82) E 5 dX2_meanBy_82 rfl ?_
            refine k_iconst (pc := 84) E dX2_meanBy_84 ?_
            refine k_iadd (pc := 85) E dX2_meanBy_85 ?_
            refine k_bipush (pc := 86) E dX2_meanBy_86 (by decide) ?_
            obtain ⟨j195c, hj195c, hT⟩ := gjx hT
            have j195 : (True) → (w_X2_meanBy_11 x0 (n148 + 1) v142 v143 v144 v145 s146) = j195c  → gK D vwCl (wdX a cI cJ cS cT) lgX A p l e { frames := 5, cells := 0, slots := 0, locals := 320 } s m args below meth c 13 (gQQ D vwCl (wdX a cI cJ cS cT) lgX A kJ in64 below args s) (f_X2_meanBy x0 s0) s146 128 [(0, .ref (a 5)), (1, gI x0), (2, gL v142), (4, gL v143), (6, gI v144), (7, gI v145)] [] := by
              intro  hq hT
              rw [hj195c] at hT
              refine k_iload (pc := 128) E 5 dX2_meanBy_128 rfl ?_
              refine k_istore (pc := 130) (lv' := [(8, gI v145), (0, .ref (a 5)), (1, gI x0), (2, gL v142), (4, gL v143), (6, gI v144), (7, gI v145)]) E dX2_meanBy_130 (by decide) rfl ?_
              have ksz : v144 ≤ v145 := SG_use (by assumption) (by omega) (by unfold bitS; omega)
              refine k_lload (pc := 132) E 4 dX2_meanBy_132 rfl ?_
              refine k_aloadn (pc := 134) E 1 dX2_meanBy_134 rfl rfl ?_
              refine k_iload (pc := 135) E 6 dX2_meanBy_135 rfl ?_
              refine k_iconst (pc := 137) E dX2_meanBy_137 ?_
              refine k_iadd (pc := 138) E dX2_meanBy_138 ?_
              refine k_iload (pc := 139) E 0 dX2_meanBy_139 rfl ?_
              refine k_mr (fun hm_s146 => ?_)
              refine k_callV (pc := 141) (np := 2) (As := [gI (v145 + 1), gI v145]) (st := [gL v143]) (q0 := 5) E (c_X2_stretchMean l D a cI cJ cS cT s146 (v145 + 1) v145 (by omega) (by omega) (CD_fr hpre0 (fun k hk => hf_s146 k (dj (by decide) k hk))) (BG_fr hpre1 (fun k hk => hf_s146 k (dj (by decide) k hk))) (LA_fr hpre2 (fun k hk => hf_s146 k (dj (by decide) k hk))) (MOx_fr hpre3 (fun k hk => hf_s146 k (dj (by decide) k hk))) hKF_s146 hKC_s146 hKT_s146 hKM_s146 (WY_fr hpre8 (fun k hk => hf_s146 k (dj (by decide) k hk))) (by first | assumption | omega) (by first | assumption | omega)) wm_594 wm_7 wm_591 wm_593 wp_19 (by decide +kernel) rfl rfl ⟨by decide, by decide⟩ rfl (Nat.le_of_ble_eq_true rfl) dX2_meanBy_141 (fun r197 s198 hs198 hr196 => ?_)
              replace hT := gby hT hs198
              have hp199 := f_X2_stretchMean_p (v145 + 1) v145 s146 (by omega) (by omega) hm_s146 (CD_fr hpre0 (fun k hk => hf_s146 k (dj (by decide) k hk))) (BG_fr hpre1 (fun k hk => hf_s146 k (dj (by decide) k hk))) (LA_fr hpre2 (fun k hk => hf_s146 k (dj (by decide) k hk))) (MOx_fr hpre3 (fun k hk => hf_s146 k (dj (by decide) k hk))) hKF_s146 hKC_s146 hKT_s146 hKM_s146 (WY_fr hpre8 (fun k hk => hf_s146 k (dj (by decide) k hk))) (by first | assumption | omega) (by first | assumption | omega) r197 s198 hs198
              obtain ⟨hfc_s198, hm_s198, hp200, hKM_s198, hKF_s198, hKC_s198, hKT_s198, hp201⟩ := hp199
              have hf_s198 : fr [32, 36, 37, 38, 39, 42] s0 s198 := hf_s146.call (by decide) hfc_s198
              have hKC_s198 : KC s198 := KC_fr hKC_s146 (fun k hk => hfc_s198 k (dj (by decide) k hk))
              refine k_st (st' := [gL r197, gL v143]) rfl ?_
              refine k_ladd (pc := 144) E dX2_meanBy_144 ?_
              refine k_mr (fun hm_s198 => ?_)
              refine k_callS (pc := 145) (np := 1) (As := [gL (v143 + r197)]) (st := []) E (c_X2_capped l D a cI cJ cS cT s198 (v143 + r197) (by omega)) wm_586 wm_7 wm_584 wm_585 (by decide +kernel) ⟨by decide, by decide⟩ rfl (Nat.le_of_ble_eq_true rfl) dX2_meanBy_145 (ro_kk (fun hr202 => ?_))
              have hp203 := f_X2_capped_p (v143 + r197) (by omega) 
              try simp only [hf_s198 40 (by decide)] at hp203
              obtain ⟨hp204, hp205⟩ := hp203
              refine k_st (st' := [gL (f_X2_capped (v143 + r197))]) rfl ?_
              refine k_lstore (pc := 148) (lv' := [(9, gL (f_X2_capped (v143 + r197))), (8, gI v145), (0, .ref (a 5)), (1, gI x0), (2, gL v142), (4, gL v143), (6, gI v144), (7, gI v145)]) E dX2_meanBy_148 (by decide) rfl ?_
              refine k_aloadn (pc := 150) E 2 dX2_meanBy_150 rfl rfl ?_
              refine k_iload (pc := 151) E 7 dX2_meanBy_151 rfl ?_
              refine k_lload (pc := 153) E 0 dX2_meanBy_153 rfl ?_
              refine k_iload (pc := 155) E 6 dX2_meanBy_155 rfl ?_
              refine k_iload (pc := 157) E 1 dX2_meanBy_157 rfl ?_
              refine k_iadd (pc := 159) E dX2_meanBy_159 ?_
              refine k_iload (pc := 160) E 7 dX2_meanBy_160 rfl ?_
              refine k_isub (pc := 162) E dX2_meanBy_162 ?_
              refine k_mr (fun hm_s198 => ?_)
              refine k_callV (pc := 163) (np := 3) (As := [gI v145, gL (f_X2_capped (v143 + r197)), gI ((v144 + v145) - v145)]) (st := []) (q0 := 5) E (c_X2_closing l D a cI cJ cS cT s198 v145 (f_X2_capped (v143 + r197)) ((v144 + v145) - v145) (by omega) (by omega) (by omega) (CD_fr hpre0 (fun k hk => hf_s198 k (dj (by decide) k hk))) (BG_fr hpre1 (fun k hk => hf_s198 k (dj (by decide) k hk))) (LA_fr hpre2 (fun k hk => hf_s198 k (dj (by decide) k hk))) (MOx_fr hpre3 (fun k hk => hf_s198 k (dj (by decide) k hk))) hKF_s198 hKC_s198 hKT_s198 (by first | assumption | omega) (by first | assumption | omega) (by first | assumption | omega)) wm_578 wm_7 wm_575 wm_577 wp_18 (by decide +kernel) rfl rfl ⟨by decide, by decide⟩ rfl (Nat.le_of_ble_eq_true rfl) dX2_meanBy_163 (fun r207 s208 hs208 hr206 => ?_)
              replace hT := gby hT hs208
              have hp209 := f_X2_closing_p v145 (f_X2_capped (v143 + r197)) ((v144 + v145) - v145) s198 (by omega) (by omega) (by omega) hm_s198 (CD_fr hpre0 (fun k hk => hf_s198 k (dj (by decide) k hk))) (BG_fr hpre1 (fun k hk => hf_s198 k (dj (by decide) k hk))) (LA_fr hpre2 (fun k hk => hf_s198 k (dj (by decide) k hk))) (MOx_fr hpre3 (fun k hk => hf_s198 k (dj (by decide) k hk))) hKF_s198 hKC_s198 hKT_s198 (by first | assumption | omega) (by first | assumption | omega) (by first | assumption | omega) r207 s208 hs208
              obtain ⟨hfc_s208, hm_s208, hp210, hKF_s208, hKC_s208, hKT_s208, hp211⟩ := hp209
              have hf_s208 : fr [32, 36, 37, 38, 39, 42] s0 s208 := hf_s198.call (by decide) hfc_s208
              have hKM_s208 : KM s208 := KM_fr hKM_s198 (fun k hk => hfc_s208 k (dj (by decide) k hk))
              refine k_st (st' := [gL r207]) rfl ?_
              refine k_lstore (pc := 166) (lv' := [(11, gL r207), (9, gL (f_X2_capped (v143 + r197))), (8, gI v145), (0, .ref (a 5)), (1, gI x0), (2, gL v142), (4, gL v143), (6, gI v144), (7, gI v145)]) E dX2_meanBy_166 (by decide) rfl ?_
              refine k_lloadn (pc := 168) E 5 dX2_meanBy_168 rfl rfl ?_
              refine k_lload (pc := 169) E 0 dX2_meanBy_169 rfl ?_
              refine k_ladd (pc := 171) E dX2_meanBy_171 ?_
              refine k_mr (fun hm_s208 => ?_)
              refine k_callS (pc := 172) (np := 1) (As := [gL (v142 + r207)]) (st := []) E (c_X2_capped l D a cI cJ cS cT s208 (v142 + r207) (by omega)) wm_586 wm_7 wm_584 wm_585 (by decide +kernel) ⟨by decide, by decide⟩ rfl (Nat.le_of_ble_eq_true rfl) dX2_meanBy_172 (ro_kk (fun hr212 => ?_))
              have hp213 := f_X2_capped_p (v142 + r207) (by omega) 
              try simp only [hf_s208 40 (by decide)] at hp213
              obtain ⟨hp214, hp215⟩ := hp213
              refine k_st (st' := [gL (f_X2_capped (v142 + r207))]) rfl ?_
              refine k_lstoren (pc := 175) (lv' := [(2, gL (f_X2_capped (v142 + r207))), (11, gL r207), (9, gL (f_X2_capped (v143 + r197))), (8, gI v145), (0, .ref (a 5)), (1, gI x0), (4, gL v143), (6, gI v144), (7, gI v145)]) E dX2_meanBy_175 rfl (by decide) rfl ?_
              refine k_lload (pc := 176) E 2 dX2_meanBy_176 rfl ?_
              refine k_lload (pc := 178) E 1 dX2_meanBy_178 rfl ?_
              refine k_ladd (pc := 180) E dX2_meanBy_180 ?_
              refine k_mr (fun hm_s208 => ?_)
              refine k_callS (pc := 181) (np := 1) (As := [gL ((f_X2_capped (v143 + r197)) + r207)]) (st := []) E (c_X2_capped l D a cI cJ cS cT s208 ((f_X2_capped (v143 + r197)) + r207) (by omega)) wm_586 wm_7 wm_584 wm_585 (by decide +kernel) ⟨by decide, by decide⟩ rfl (Nat.le_of_ble_eq_true rfl) dX2_meanBy_181 (ro_kk (fun hr216 => ?_))
              have hp217 := f_X2_capped_p ((f_X2_capped (v143 + r197)) + r207) (by omega) 
              try simp only [hf_s208 40 (by decide)] at hp217
              obtain ⟨hp218, hp219⟩ := hp217
              refine k_st (st' := [gL (f_X2_capped ((f_X2_capped (v143 + r197)) + r207))]) rfl ?_
              obtain ⟨v220, hv220, hT⟩ := glx hT
              refine k_st (st' := [gL v220]) (by rw [hv220]) ?_
              refine k_lstore (pc := 184) (lv' := [(4, gL v220), (2, gL (f_X2_capped (v142 + r207))), (11, gL r207), (9, gL (f_X2_capped (v143 + r197))), (8, gI v145), (0, .ref (a 5)), (1, gI x0), (6, gI v144), (7, gI v145)]) E dX2_meanBy_184 (by decide) rfl ?_
              refine k_iload (pc := 186) E 7 dX2_meanBy_186 rfl ?_
              refine k_iload (pc := 188) E 4 dX2_meanBy_188 rfl ?_
              refine k_iload (pc := 190) E 8 dX2_meanBy_190 rfl ?_
              refine k_isub (pc := 192) E dX2_meanBy_192 ?_
              refine k_iconst (pc := 193) E dX2_meanBy_193 ?_
              refine k_iadd (pc := 194) E dX2_meanBy_194 ?_
              refine k_iadd (pc := 195) E dX2_meanBy_195 ?_
              refine k_istore (pc := 196) (lv' := [(6, gI (v144 + ((v145 - v145) + 1))), (4, gL v220), (2, gL (f_X2_capped (v142 + r207))), (11, gL r207), (9, gL (f_X2_capped (v143 + r197))), (8, gI v145), (0, .ref (a 5)), (1, gI x0), (7, gI v145)]) E dX2_meanBy_196 (by decide) rfl ?_
              refine k_goto (pc := 198) (tgt := 270) E dX2_meanBy_198 (by decide) ?_
              refine k_iinc (pc := 270) (lv' := [(7, gI (v145 + 1)), (6, gI (v144 + ((v145 - v145) + 1))), (4, gL v220), (2, gL (f_X2_capped (v142 + r207))), (11, gL r207), (9, gL (f_X2_capped (v143 + r197))), (8, gI v145), (0, .ref (a 5)), (1, gI x0)]) E 8 dX2_meanBy_270 rfl (by decide) rfl ?_
              refine k_goto (pc := 273) (tgt := 11) E dX2_meanBy_273 (by decide) ?_
              refine k_lv (lv' := [(0, .ref (a 5)), (1, gI x0), (2, gL (f_X2_capped (v142 + r207))), (4, gL v220), (6, gI (v144 + ((v145 - v145) + 1))), (7, gI (v145 + 1))]) [7, 8, 3, 2, 1, 0] rfl ?_
              exact ih (f_X2_capped (v142 + r207)) v220 (v144 + ((v145 - v145) + 1)) (v145 + 1) s208 ⟨(by omega), (by omega), (by omega), (by omega), hf_s208, hKM_s208, hKF_s208, hKC_s208, hKT_s208, (by first | assumption | omega), (by first | assumption | omega), (by first | assumption | omega), (by first | assumption | omega), (by first | assumption | exact SG_0 _ _ (by omega) | exact SG_skip (by assumption) (by unfold bitS; omega) (by omega) | exact SG_new (by assumption) (by omega) | exact SG_new (RUN_0 _ _ _) (by omega) | exact SG_new (RUN_c (by assumption) (by unfold bitS; omega) (by omega)) (by omega))⟩ (by omega) (fun w149 w150 w151 w152 s153 hw hi => hk w149 w150 w151 w152 s153 (hT.trans hw) hi)
            by_cases h194 : (v145 + 1) < 16
            · replace hT := hT.trans (if_pos h194)
              refine k_icmp_ge_f (pc := 88) (tgt := 128) E (by omega) (by omega) dX2_meanBy_88 (by decide) h194 ?_
              refine k_iloadn (pc := 91) E 1 dX2_meanBy_91 rfl rfl ?_
              refine k_iload (pc := 92) E 5 dX2_meanBy_92 rfl ?_
              refine k_iconst (pc := 94) E dX2_meanBy_94 ?_
              refine k_iadd (pc := 95) E dX2_meanBy_95 ?_
              refine k_mr (fun hm_s146 => ?_)
              refine k_callSN (pc := 96) (np := 2) (As := [gI x0, gI (v145 + 1)]) (st := []) E (c_X8_has l D a cI cJ cS cT s146 x0 (v145 + 1) (by omega) (by omega)) wm_552 wm_1 (List.mem_of_getElem? (i := 0) rfl) wm_551 (by decide +kernel) ⟨by decide, by decide⟩ rfl (Nat.le_of_ble_eq_true rfl) dX2_meanBy_96 (ro_kk (fun hr221 => ?_))
              have hp222 := f_X8_has_p x0 (v145 + 1) (by omega) (by omega) 
              try simp only [hf_s146 40 (by decide)] at hp222
              obtain ⟨hp223, hp224⟩ := hp222
              refine k_st (st' := [gI (f_X8_has x0 (v145 + 1))]) rfl ?_
              by_cases h225 : (f_X8_has x0 (v145 + 1)) = 0
              · replace hT := hT.trans (if_pos h225)
                refine k_if_ne_f (pc := 99) (tgt := 128) E (by omega) dX2_meanBy_99 (by decide) h225 ?_
                refine k_aloadn (pc := 102) E 0 dX2_meanBy_102 rfl rfl ?_
                refine k_getf (pc := 103) (q0 := 5) (f := 0) (v := .ref (a 3)) E inX2 rfl rfl (by decide) wm_174 rfl rfl dX2_meanBy_103 ?_
                refine k_iload (pc := 106) E 5 dX2_meanBy_106 rfl ?_
                refine k_iconst (pc := 108) E dX2_meanBy_108 ?_
                refine k_iadd (pc := 109) E dX2_meanBy_109 ?_
                refine k_mr (fun hm_s146 => ?_)
                refine k_callV (pc := 110) (np := 1) (As := [gI (v145 + 1)]) (st := []) (q0 := 3) E (c_X4_stops l D a cI cJ cS cT s146 (v145 + 1) (by omega) (by first | assumption | omega)) wm_533 wm_4 wm_553 wm_531 wm_532 (by decide +kernel) rfl rfl ⟨by decide, by decide⟩ rfl (Nat.le_of_ble_eq_true rfl) dX2_meanBy_110 (ro_kk (fun hr226 => ?_))
                have hp227 := f_X4_stops_p (v145 + 1) s146 (by omega) hm_s146 (by first | assumption | omega)
                try simp only [hf_s146 40 (by decide)] at hp227
                obtain ⟨hp228, hp229⟩ := hp227
                refine k_st (st' := [gI (f_X4_stops (v145 + 1) s146)]) rfl ?_
                by_cases h230 : (f_X4_stops (v145 + 1) s146) = 0
                · replace hT := hT.trans (if_pos h230)
                  refine k_if_ne_f (pc := 113) (tgt := 128) E (by omega) dX2_meanBy_113 (by decide) h230 ?_
                  refine k_aloadn (pc := 116) E 0 dX2_meanBy_116 rfl rfl ?_
                  refine k_iload (pc := 117) E 5 dX2_meanBy_117 rfl ?_
                  refine k_iconst (pc := 119) E dX2_meanBy_119 ?_
                  refine k_iadd (pc := 120) E dX2_meanBy_120 ?_
                  refine k_iloadn (pc := 121) E 1 dX2_meanBy_121 rfl rfl ?_
                  refine k_mr (fun hm_s146 => ?_)
                  refine k_callV (pc := 122) (np := 2) (As := [gI (v145 + 1), gI x0]) (st := []) (q0 := 5) E (c_X2_lastOf l D a cI cJ cS cT s146 (v145 + 1) x0 (by omega) (by omega) (by first | assumption | omega)) wm_557 wm_7 wm_554 wm_556 wp_17 (by decide +kernel) rfl rfl ⟨by decide, by decide⟩ rfl (Nat.le_of_ble_eq_true rfl) dX2_meanBy_122 (ro_kk (fun hr231 => ?_))
                  have hp232 := f_X2_lastOf_p (v145 + 1) x0 s146 (by omega) (by omega) hm_s146 (by first | assumption | omega)
                  try simp only [hf_s146 40 (by decide)] at hp232
                  obtain ⟨hp233, hp234, hp235, hp236⟩ := hp232
                  refine k_st (st' := [gI (f_X2_lastOf (v145 + 1) x0 s146)]) rfl ?_
                  refine k_goto (pc := 125) (tgt := 130) E dX2_meanBy_125 (by decide) ?_
                  refine k_istore (pc := 130) (lv' := [(8, gI (f_X2_lastOf (v145 + 1) x0 s146)), (0, .ref (a 5)), (1, gI x0), (2, gL v142), (4, gL v143), (6, gI v144), (7, gI v145)]) E dX2_meanBy_130 (by decide) rfl ?_
                  have ksz : v144 ≤ v145 := SG_use (by assumption) (by omega) (by unfold bitS; omega)
                  refine k_lload (pc := 132) E 4 dX2_meanBy_132 rfl ?_
                  refine k_aloadn (pc := 134) E 1 dX2_meanBy_134 rfl rfl ?_
                  refine k_iload (pc := 135) E 6 dX2_meanBy_135 rfl ?_
                  refine k_iconst (pc := 137) E dX2_meanBy_137 ?_
                  refine k_iadd (pc := 138) E dX2_meanBy_138 ?_
                  refine k_iload (pc := 139) E 0 dX2_meanBy_139 rfl ?_
                  refine k_mr (fun hm_s146 => ?_)
                  refine k_callV (pc := 141) (np := 2) (As := [gI (v145 + 1), gI (f_X2_lastOf (v145 + 1) x0 s146)]) (st := [gL v143]) (q0 := 5) E (c_X2_stretchMean l D a cI cJ cS cT s146 (v145 + 1) (f_X2_lastOf (v145 + 1) x0 s146) (by omega) (by omega) (CD_fr hpre0 (fun k hk => hf_s146 k (dj (by decide) k hk))) (BG_fr hpre1 (fun k hk => hf_s146 k (dj (by decide) k hk))) (LA_fr hpre2 (fun k hk => hf_s146 k (dj (by decide) k hk))) (MOx_fr hpre3 (fun k hk => hf_s146 k (dj (by decide) k hk))) hKF_s146 hKC_s146 hKT_s146 hKM_s146 (WY_fr hpre8 (fun k hk => hf_s146 k (dj (by decide) k hk))) (by first | assumption | omega) (by first | assumption | omega)) wm_594 wm_7 wm_591 wm_593 wp_19 (by decide +kernel) rfl rfl ⟨by decide, by decide⟩ rfl (Nat.le_of_ble_eq_true rfl) dX2_meanBy_141 (fun r238 s239 hs239 hr237 => ?_)
                  replace hT := gby hT hs239
                  have hp240 := f_X2_stretchMean_p (v145 + 1) (f_X2_lastOf (v145 + 1) x0 s146) s146 (by omega) (by omega) hm_s146 (CD_fr hpre0 (fun k hk => hf_s146 k (dj (by decide) k hk))) (BG_fr hpre1 (fun k hk => hf_s146 k (dj (by decide) k hk))) (LA_fr hpre2 (fun k hk => hf_s146 k (dj (by decide) k hk))) (MOx_fr hpre3 (fun k hk => hf_s146 k (dj (by decide) k hk))) hKF_s146 hKC_s146 hKT_s146 hKM_s146 (WY_fr hpre8 (fun k hk => hf_s146 k (dj (by decide) k hk))) (by first | assumption | omega) (by first | assumption | omega) r238 s239 hs239
                  obtain ⟨hfc_s239, hm_s239, hp241, hKM_s239, hKF_s239, hKC_s239, hKT_s239, hp242⟩ := hp240
                  have hf_s239 : fr [32, 36, 37, 38, 39, 42] s0 s239 := hf_s146.call (by decide) hfc_s239
                  have hKC_s239 : KC s239 := KC_fr hKC_s146 (fun k hk => hfc_s239 k (dj (by decide) k hk))
                  refine k_st (st' := [gL r238, gL v143]) rfl ?_
                  refine k_ladd (pc := 144) E dX2_meanBy_144 ?_
                  refine k_mr (fun hm_s239 => ?_)
                  refine k_callS (pc := 145) (np := 1) (As := [gL (v143 + r238)]) (st := []) E (c_X2_capped l D a cI cJ cS cT s239 (v143 + r238) (by omega)) wm_586 wm_7 wm_584 wm_585 (by decide +kernel) ⟨by decide, by decide⟩ rfl (Nat.le_of_ble_eq_true rfl) dX2_meanBy_145 (ro_kk (fun hr243 => ?_))
                  have hp244 := f_X2_capped_p (v143 + r238) (by omega) 
                  try simp only [hf_s239 40 (by decide)] at hp244
                  obtain ⟨hp245, hp246⟩ := hp244
                  refine k_st (st' := [gL (f_X2_capped (v143 + r238))]) rfl ?_
                  refine k_lstore (pc := 148) (lv' := [(9, gL (f_X2_capped (v143 + r238))), (8, gI (f_X2_lastOf (v145 + 1) x0 s146)), (0, .ref (a 5)), (1, gI x0), (2, gL v142), (4, gL v143), (6, gI v144), (7, gI v145)]) E dX2_meanBy_148 (by decide) rfl ?_
                  refine k_aloadn (pc := 150) E 2 dX2_meanBy_150 rfl rfl ?_
                  refine k_iload (pc := 151) E 7 dX2_meanBy_151 rfl ?_
                  refine k_lload (pc := 153) E 0 dX2_meanBy_153 rfl ?_
                  refine k_iload (pc := 155) E 6 dX2_meanBy_155 rfl ?_
                  refine k_iload (pc := 157) E 1 dX2_meanBy_157 rfl ?_
                  refine k_iadd (pc := 159) E dX2_meanBy_159 ?_
                  refine k_iload (pc := 160) E 7 dX2_meanBy_160 rfl ?_
                  refine k_isub (pc := 162) E dX2_meanBy_162 ?_
                  refine k_mr (fun hm_s239 => ?_)
                  refine k_callV (pc := 163) (np := 3) (As := [gI v145, gL (f_X2_capped (v143 + r238)), gI ((v144 + (f_X2_lastOf (v145 + 1) x0 s146)) - v145)]) (st := []) (q0 := 5) E (c_X2_closing l D a cI cJ cS cT s239 v145 (f_X2_capped (v143 + r238)) ((v144 + (f_X2_lastOf (v145 + 1) x0 s146)) - v145) (by omega) (by omega) (by omega) (CD_fr hpre0 (fun k hk => hf_s239 k (dj (by decide) k hk))) (BG_fr hpre1 (fun k hk => hf_s239 k (dj (by decide) k hk))) (LA_fr hpre2 (fun k hk => hf_s239 k (dj (by decide) k hk))) (MOx_fr hpre3 (fun k hk => hf_s239 k (dj (by decide) k hk))) hKF_s239 hKC_s239 hKT_s239 (by first | assumption | omega) (by first | assumption | omega) (by first | assumption | omega)) wm_578 wm_7 wm_575 wm_577 wp_18 (by decide +kernel) rfl rfl ⟨by decide, by decide⟩ rfl (Nat.le_of_ble_eq_true rfl) dX2_meanBy_163 (fun r248 s249 hs249 hr247 => ?_)
                  replace hT := gby hT hs249
                  have hp250 := f_X2_closing_p v145 (f_X2_capped (v143 + r238)) ((v144 + (f_X2_lastOf (v145 + 1) x0 s146)) - v145) s239 (by omega) (by omega) (by omega) hm_s239 (CD_fr hpre0 (fun k hk => hf_s239 k (dj (by decide) k hk))) (BG_fr hpre1 (fun k hk => hf_s239 k (dj (by decide) k hk))) (LA_fr hpre2 (fun k hk => hf_s239 k (dj (by decide) k hk))) (MOx_fr hpre3 (fun k hk => hf_s239 k (dj (by decide) k hk))) hKF_s239 hKC_s239 hKT_s239 (by first | assumption | omega) (by first | assumption | omega) (by first | assumption | omega) r248 s249 hs249
                  obtain ⟨hfc_s249, hm_s249, hp251, hKF_s249, hKC_s249, hKT_s249, hp252⟩ := hp250
                  have hf_s249 : fr [32, 36, 37, 38, 39, 42] s0 s249 := hf_s239.call (by decide) hfc_s249
                  have hKM_s249 : KM s249 := KM_fr hKM_s239 (fun k hk => hfc_s249 k (dj (by decide) k hk))
                  refine k_st (st' := [gL r248]) rfl ?_
                  refine k_lstore (pc := 166) (lv' := [(11, gL r248), (9, gL (f_X2_capped (v143 + r238))), (8, gI (f_X2_lastOf (v145 + 1) x0 s146)), (0, .ref (a 5)), (1, gI x0), (2, gL v142), (4, gL v143), (6, gI v144), (7, gI v145)]) E dX2_meanBy_166 (by decide) rfl ?_
                  refine k_lloadn (pc := 168) E 5 dX2_meanBy_168 rfl rfl ?_
                  refine k_lload (pc := 169) E 0 dX2_meanBy_169 rfl ?_
                  refine k_ladd (pc := 171) E dX2_meanBy_171 ?_
                  refine k_mr (fun hm_s249 => ?_)
                  refine k_callS (pc := 172) (np := 1) (As := [gL (v142 + r248)]) (st := []) E (c_X2_capped l D a cI cJ cS cT s249 (v142 + r248) (by omega)) wm_586 wm_7 wm_584 wm_585 (by decide +kernel) ⟨by decide, by decide⟩ rfl (Nat.le_of_ble_eq_true rfl) dX2_meanBy_172 (ro_kk (fun hr253 => ?_))
                  have hp254 := f_X2_capped_p (v142 + r248) (by omega) 
                  try simp only [hf_s249 40 (by decide)] at hp254
                  obtain ⟨hp255, hp256⟩ := hp254
                  refine k_st (st' := [gL (f_X2_capped (v142 + r248))]) rfl ?_
                  refine k_lstoren (pc := 175) (lv' := [(2, gL (f_X2_capped (v142 + r248))), (11, gL r248), (9, gL (f_X2_capped (v143 + r238))), (8, gI (f_X2_lastOf (v145 + 1) x0 s146)), (0, .ref (a 5)), (1, gI x0), (4, gL v143), (6, gI v144), (7, gI v145)]) E dX2_meanBy_175 rfl (by decide) rfl ?_
                  refine k_lload (pc := 176) E 2 dX2_meanBy_176 rfl ?_
                  refine k_lload (pc := 178) E 1 dX2_meanBy_178 rfl ?_
                  refine k_ladd (pc := 180) E dX2_meanBy_180 ?_
                  refine k_mr (fun hm_s249 => ?_)
                  refine k_callS (pc := 181) (np := 1) (As := [gL ((f_X2_capped (v143 + r238)) + r248)]) (st := []) E (c_X2_capped l D a cI cJ cS cT s249 ((f_X2_capped (v143 + r238)) + r248) (by omega)) wm_586 wm_7 wm_584 wm_585 (by decide +kernel) ⟨by decide, by decide⟩ rfl (Nat.le_of_ble_eq_true rfl) dX2_meanBy_181 (ro_kk (fun hr257 => ?_))
                  have hp258 := f_X2_capped_p ((f_X2_capped (v143 + r238)) + r248) (by omega) 
                  try simp only [hf_s249 40 (by decide)] at hp258
                  obtain ⟨hp259, hp260⟩ := hp258
                  refine k_st (st' := [gL (f_X2_capped ((f_X2_capped (v143 + r238)) + r248))]) rfl ?_
                  obtain ⟨v261, hv261, hT⟩ := glx hT
                  refine k_st (st' := [gL v261]) (by rw [hv261]) ?_
                  refine k_lstore (pc := 184) (lv' := [(4, gL v261), (2, gL (f_X2_capped (v142 + r248))), (11, gL r248), (9, gL (f_X2_capped (v143 + r238))), (8, gI (f_X2_lastOf (v145 + 1) x0 s146)), (0, .ref (a 5)), (1, gI x0), (6, gI v144), (7, gI v145)]) E dX2_meanBy_184 (by decide) rfl ?_
                  refine k_iload (pc := 186) E 7 dX2_meanBy_186 rfl ?_
                  refine k_iload (pc := 188) E 4 dX2_meanBy_188 rfl ?_
                  refine k_iload (pc := 190) E 8 dX2_meanBy_190 rfl ?_
                  refine k_isub (pc := 192) E dX2_meanBy_192 ?_
                  refine k_iconst (pc := 193) E dX2_meanBy_193 ?_
                  refine k_iadd (pc := 194) E dX2_meanBy_194 ?_
                  refine k_iadd (pc := 195) E dX2_meanBy_195 ?_
                  refine k_istore (pc := 196) (lv' := [(6, gI (v144 + (((f_X2_lastOf (v145 + 1) x0 s146) - v145) + 1))), (4, gL v261), (2, gL (f_X2_capped (v142 + r248))), (11, gL r248), (9, gL (f_X2_capped (v143 + r238))), (8, gI (f_X2_lastOf (v145 + 1) x0 s146)), (0, .ref (a 5)), (1, gI x0), (7, gI v145)]) E dX2_meanBy_196 (by decide) rfl ?_
                  refine k_goto (pc := 198) (tgt := 270) E dX2_meanBy_198 (by decide) ?_
                  refine k_iinc (pc := 270) (lv' := [(7, gI (v145 + 1)), (6, gI (v144 + (((f_X2_lastOf (v145 + 1) x0 s146) - v145) + 1))), (4, gL v261), (2, gL (f_X2_capped (v142 + r248))), (11, gL r248), (9, gL (f_X2_capped (v143 + r238))), (8, gI (f_X2_lastOf (v145 + 1) x0 s146)), (0, .ref (a 5)), (1, gI x0)]) E 8 dX2_meanBy_270 rfl (by decide) rfl ?_
                  refine k_goto (pc := 273) (tgt := 11) E dX2_meanBy_273 (by decide) ?_
                  refine k_lv (lv' := [(0, .ref (a 5)), (1, gI x0), (2, gL (f_X2_capped (v142 + r248))), (4, gL v261), (6, gI (v144 + (((f_X2_lastOf (v145 + 1) x0 s146) - v145) + 1))), (7, gI (v145 + 1))]) [7, 8, 3, 2, 1, 0] rfl ?_
                  exact ih (f_X2_capped (v142 + r248)) v261 (v144 + (((f_X2_lastOf (v145 + 1) x0 s146) - v145) + 1)) (v145 + 1) s249 ⟨(by omega), (by omega), (by omega), (by omega), hf_s249, hKM_s249, hKF_s249, hKC_s249, hKT_s249, (by first | assumption | omega), (by first | assumption | omega), (by first | assumption | omega), (by first | assumption | omega), (by first | assumption | exact SG_0 _ _ (by omega) | exact SG_skip (by assumption) (by unfold bitS; omega) (by omega) | exact SG_new (by assumption) (by omega) | exact SG_new (RUN_0 _ _ _) (by omega) | exact SG_new (RUN_c (by assumption) (by unfold bitS; omega) (by omega)) (by omega))⟩ (by omega) (fun w149 w150 w151 w152 s153 hw hi => hk w149 w150 w151 w152 s153 (hT.trans hw) hi)
                · replace hT := hT.trans (if_neg h230)
                  refine k_if_ne_t (pc := 113) (tgt := 128) E (by omega) dX2_meanBy_113 (by decide) h230 ?_
                  exact j195  trivial hT
              · replace hT := hT.trans (if_neg h225)
                refine k_if_ne_t (pc := 99) (tgt := 128) E (by omega) dX2_meanBy_99 (by decide) h225 ?_
                exact j195  trivial hT
            · replace hT := hT.trans (if_neg h194)
              refine k_icmp_ge_t (pc := 88) (tgt := 128) E (by omega) (by omega) dX2_meanBy_88 (by decide) h194 ?_
              exact j195  trivial hT
        · replace hT := hT.trans (if_neg h159)
          refine k_if_eq_f (pc := 27) (tgt := 73) E (by omega) dX2_meanBy_27 (by decide) h159 ?_
          refine k_lloadn (pc := 30) E 2 dX2_meanBy_30 rfl rfl ?_
          refine k_iloadn (pc := 31) E 1 dX2_meanBy_31 rfl rfl ?_
          refine k_iload (pc := 32) E 5 dX2_meanBy_32 rfl ?_
          refine k_mr (fun hm_s146 => ?_)
          refine k_callSN (pc := 34) (np := 2) (As := [gI x0, gI v145]) (st := [gL v142]) E (c_X8_has l D a cI cJ cS cT s146 x0 v145 (by omega) (by omega)) wm_552 wm_1 (List.mem_of_getElem? (i := 0) rfl) wm_551 (by decide +kernel) ⟨by decide, by decide⟩ rfl (Nat.le_of_ble_eq_true rfl) dX2_meanBy_34 (ro_kk (fun hr262 => ?_))
          have hp263 := f_X8_has_p x0 v145 (by omega) (by omega) 
          try simp only [hf_s146 40 (by decide)] at hp263
          obtain ⟨hp264, hp265⟩ := hp263
          refine k_st (st' := [gI (f_X8_has x0 v145), gL v142]) rfl ?_
          obtain ⟨z276, hz276, hT⟩ := gl2x hT
          have j267 : ∀ (v268 : Int) (s269 : gMem), ((in64 v268) ∧ (0 ≤ v268 ∧ v268 ≤ 1000000000000) ∧ (fr [32, 36, 37, 38, 39, 42] s0 s269) ∧ (KM s269) ∧ (KF s269) ∧ (KC s269) ∧ (KT s269)) → z276 = (v268, s269) → gK D vwCl (wdX a cI cJ cS cT) lgX A p l e { frames := 5, cells := 0, slots := 0, locals := 320 } s m args below meth c 13 (gQQ D vwCl (wdX a cI cJ cS cT) lgX A kJ in64 below args s) (f_X2_meanBy x0 s0) s269 59 [(0, .ref (a 5)), (1, gI x0), (7, gI v145)] [gL v268, gL v142] := by
            intro v268 s269 hq hz
            obtain ⟨hq274, hq275, hf_s269, hKM_s269, hKF_s269, hKC_s269, hKT_s269⟩ := hq
            replace hT := gl2y hT hz
            refine k_ladd (pc := 59) E dX2_meanBy_59 ?_
            refine k_mr (fun hm_s269 => ?_)
            refine k_callS (pc := 60) (np := 1) (As := [gL (v142 + v268)]) (st := []) E (c_X2_capped l D a cI cJ cS cT s269 (v142 + v268) (by omega)) wm_586 wm_7 wm_584 wm_585 (by decide +kernel) ⟨by decide, by decide⟩ rfl (Nat.le_of_ble_eq_true rfl) dX2_meanBy_60 (ro_kk (fun hr270 => ?_))
            have hp271 := f_X2_capped_p (v142 + v268) (by omega) 
            try simp only [hf_s269 40 (by decide)] at hp271
            obtain ⟨hp272, hp273⟩ := hp271
            refine k_st (st' := [gL (f_X2_capped (v142 + v268))]) rfl ?_
            refine k_lstoren (pc := 63) (lv' := [(2, gL (f_X2_capped (v142 + v268))), (0, .ref (a 5)), (1, gI x0), (7, gI v145)]) E dX2_meanBy_63 rfl (by decide) rfl ?_
            refine k_lconst0 (pc := 64) E dX2_meanBy_64 ?_
            refine k_lstore (pc := 65) (lv' := [(4, gL 0), (2, gL (f_X2_capped (v142 + v268))), (0, .ref (a 5)), (1, gI x0), (7, gI v145)]) E dX2_meanBy_65 (by decide) rfl ?_
            refine k_iconst (pc := 67) E dX2_meanBy_67 ?_
            refine k_istore (pc := 68) (lv' := [(6, gI 0), (4, gL 0), (2, gL (f_X2_capped (v142 + v268))), (0, .ref (a 5)), (1, gI x0), (7, gI v145)]) E dX2_meanBy_68 (by decide) rfl ?_
            refine k_goto (pc := 70) (tgt := 270) E dX2_meanBy_70 (by decide) ?_
            refine k_iinc (pc := 270) (lv' := [(7, gI (v145 + 1)), (6, gI 0), (4, gL 0), (2, gL (f_X2_capped (v142 + v268))), (0, .ref (a 5)), (1, gI x0)]) E 5 dX2_meanBy_270 rfl (by decide) rfl ?_
            refine k_goto (pc := 273) (tgt := 11) E dX2_meanBy_273 (by decide) ?_
            refine k_lv (lv' := [(0, .ref (a 5)), (1, gI x0), (2, gL (f_X2_capped (v142 + v268))), (4, gL 0), (6, gI 0), (7, gI (v145 + 1))]) [4, 5, 3, 2, 1, 0] rfl ?_
            exact ih (f_X2_capped (v142 + v268)) 0 0 (v145 + 1) s269 ⟨(by omega), (by omega), (by omega), (by omega), hf_s269, hKM_s269, hKF_s269, hKC_s269, hKT_s269, (by first | assumption | omega), (by first | assumption | omega), (by first | assumption | omega), (by first | assumption | omega), (by first | assumption | exact SG_0 _ _ (by omega) | exact SG_skip (by assumption) (by unfold bitS; omega) (by omega) | exact SG_new (by assumption) (by omega) | exact SG_new (RUN_0 _ _ _) (by omega) | exact SG_new (RUN_c (by assumption) (by unfold bitS; omega) (by omega)) (by omega))⟩ (by omega) (fun w149 w150 w151 w152 s153 hw hi => hk w149 w150 w151 w152 s153 (hT.trans hw) hi)
          replace hT := hz276
          by_cases h266 : (f_X8_has x0 v145) = 0
          · replace hT := hT.trans (if_pos h266)
            refine k_if_eq_t (pc := 37) (tgt := 51) E (by omega) dX2_meanBy_37 (by decide) h266 ?_
            refine k_aloadn (pc := 51) E 0 dX2_meanBy_51 rfl rfl ?_
            refine k_iload (pc := 52) E 5 dX2_meanBy_52 rfl ?_
            refine k_iload (pc := 54) E 5 dX2_meanBy_54 rfl ?_
            refine k_mr (fun hm_s146 => ?_)
            refine k_callV (pc := 56) (np := 2) (As := [gI v145, gI v145]) (st := [gL v142]) (q0 := 5) E (c_X2_stretchMean l D a cI cJ cS cT s146 v145 v145 (by omega) (by omega) (CD_fr hpre0 (fun k hk => hf_s146 k (dj (by decide) k hk))) (BG_fr hpre1 (fun k hk => hf_s146 k (dj (by decide) k hk))) (LA_fr hpre2 (fun k hk => hf_s146 k (dj (by decide) k hk))) (MOx_fr hpre3 (fun k hk => hf_s146 k (dj (by decide) k hk))) hKF_s146 hKC_s146 hKT_s146 hKM_s146 (WY_fr hpre8 (fun k hk => hf_s146 k (dj (by decide) k hk))) (by first | assumption | omega) (by first | assumption | omega)) wm_594 wm_7 wm_591 wm_593 wp_19 (by decide +kernel) rfl rfl ⟨by decide, by decide⟩ rfl (Nat.le_of_ble_eq_true rfl) dX2_meanBy_56 (fun r278 s279 hs279 hr277 => ?_)
            replace hT := gby hT hs279
            have hp280 := f_X2_stretchMean_p v145 v145 s146 (by omega) (by omega) hm_s146 (CD_fr hpre0 (fun k hk => hf_s146 k (dj (by decide) k hk))) (BG_fr hpre1 (fun k hk => hf_s146 k (dj (by decide) k hk))) (LA_fr hpre2 (fun k hk => hf_s146 k (dj (by decide) k hk))) (MOx_fr hpre3 (fun k hk => hf_s146 k (dj (by decide) k hk))) hKF_s146 hKC_s146 hKT_s146 hKM_s146 (WY_fr hpre8 (fun k hk => hf_s146 k (dj (by decide) k hk))) (by first | assumption | omega) (by first | assumption | omega) r278 s279 hs279
            obtain ⟨hfc_s279, hm_s279, hp281, hKM_s279, hKF_s279, hKC_s279, hKT_s279, hp282⟩ := hp280
            have hf_s279 : fr [32, 36, 37, 38, 39, 42] s0 s279 := hf_s146.call (by decide) hfc_s279
            have hKC_s279 : KC s279 := KC_fr hKC_s146 (fun k hk => hfc_s279 k (dj (by decide) k hk))
            refine k_st (st' := [gL r278, gL v142]) rfl ?_
            refine k_lv (lv' := [(0, .ref (a 5)), (1, gI x0), (7, gI v145)]) [0, 1, 5] rfl ?_
            exact j267 r278 s279 ⟨(by omega), (by first | assumption | omega), hf_s279, hKM_s279, hKF_s279, hKC_s279, hKT_s279⟩ hT
          · replace hT := hT.trans (if_neg h266)
            refine k_if_eq_f (pc := 37) (tgt := 51) E (by omega) dX2_meanBy_37 (by decide) h266 ?_
            refine k_aloadn (pc := 40) E 0 dX2_meanBy_40 rfl rfl ?_
            refine k_iload (pc := 41) E 5 dX2_meanBy_41 rfl ?_
            refine k_lconst0 (pc := 43) E dX2_meanBy_43 ?_
            refine k_iconst (pc := 44) E dX2_meanBy_44 ?_
            refine k_mr (fun hm_s146 => ?_)
            refine k_callV (pc := 45) (np := 3) (As := [gI v145, gL 0, gI 0]) (st := [gL v142]) (q0 := 5) E (c_X2_closing l D a cI cJ cS cT s146 v145 0 0 (by omega) (by omega) (by omega) (CD_fr hpre0 (fun k hk => hf_s146 k (dj (by decide) k hk))) (BG_fr hpre1 (fun k hk => hf_s146 k (dj (by decide) k hk))) (LA_fr hpre2 (fun k hk => hf_s146 k (dj (by decide) k hk))) (MOx_fr hpre3 (fun k hk => hf_s146 k (dj (by decide) k hk))) hKF_s146 hKC_s146 hKT_s146 (by first | assumption | omega) (by first | assumption | omega) (by first | assumption | omega)) wm_578 wm_7 wm_575 wm_577 wp_18 (by decide +kernel) rfl rfl ⟨by decide, by decide⟩ rfl (Nat.le_of_ble_eq_true rfl) dX2_meanBy_45 (fun r284 s285 hs285 hr283 => ?_)
            replace hT := gby hT hs285
            have hp286 := f_X2_closing_p v145 0 0 s146 (by omega) (by omega) (by omega) hm_s146 (CD_fr hpre0 (fun k hk => hf_s146 k (dj (by decide) k hk))) (BG_fr hpre1 (fun k hk => hf_s146 k (dj (by decide) k hk))) (LA_fr hpre2 (fun k hk => hf_s146 k (dj (by decide) k hk))) (MOx_fr hpre3 (fun k hk => hf_s146 k (dj (by decide) k hk))) hKF_s146 hKC_s146 hKT_s146 (by first | assumption | omega) (by first | assumption | omega) (by first | assumption | omega) r284 s285 hs285
            obtain ⟨hfc_s285, hm_s285, hp287, hKF_s285, hKC_s285, hKT_s285, hp288⟩ := hp286
            have hf_s285 : fr [32, 36, 37, 38, 39, 42] s0 s285 := hf_s146.call (by decide) hfc_s285
            have hKM_s285 : KM s285 := KM_fr hKM_s146 (fun k hk => hfc_s285 k (dj (by decide) k hk))
            refine k_st (st' := [gL r284, gL v142]) rfl ?_
            refine k_goto (pc := 48) (tgt := 59) E dX2_meanBy_48 (by decide) ?_
            refine k_lv (lv' := [(0, .ref (a 5)), (1, gI x0), (7, gI v145)]) [0, 1, 5] rfl ?_
            exact j267 r284 s285 ⟨(by omega), (by first | assumption | omega), hf_s285, hKM_s285, hKF_s285, hKC_s285, hKT_s285⟩ hT
      · replace hT := hT.trans (if_neg h154)
        refine k_icmp_ge_t (pc := 15) (tgt := 276) E (by omega) (by omega) dX2_meanBy_15 (by decide) h154 ?_
        refine k_lv (lv' := [(2, gL v142)]) [2] rfl ?_
        exact hk v142 v143 v144 v145 s146 hT ⟨(by omega), (by omega), (by omega), (by omega), hf_s146, hKM_s146, hKF_s146, hKC_s146, hKT_s146, (by first | assumption | omega), (by first | assumption | omega), (by first | assumption | omega), (by first | assumption | omega), (by first | assumption | exact SG_0 _ _ (by omega) | exact SG_skip (by assumption) (by unfold bitS; omega) (by omega) | exact SG_new (by assumption) (by omega) | exact SG_new (RUN_0 _ _ _) (by omega) | exact SG_new (RUN_c (by assumption) (by unfold bitS; omega) (by omega)) (by omega))⟩
  refine k_lv (lv' := [(0, .ref (a 5)), (1, gI x0), (2, gL 0), (4, gL 0), (6, gI 0), (7, gI 0)]) [4, 5, 3, 2, 1, 0] rfl ?_
  refine L147 17 0 0 0 0 s0 ⟨(by omega), (by omega), (by omega), (by omega), hf_s0, hKM_s0, hKF_s0, hKC_s0, hKT_s0, (by first | assumption | omega), (by first | assumption | omega), (by first | assumption | omega), (by first | assumption | omega), (by first | assumption | exact SG_0 _ _ (by omega) | exact SG_skip (by assumption) (by unfold bitS; omega) (by omega) | exact SG_new (by assumption) (by omega) | exact SG_new (RUN_0 _ _ _) (by omega) | exact SG_new (RUN_c (by assumption) (by unfold bitS; omega) (by omega)) (by omega))⟩ (by omega) (fun v307 v308 v309 v310 s311 hw hq => ?_)
  obtain ⟨hq312, hq313, hq314, hq315, hf_s311, hKM_s311, hKF_s311, hKC_s311, hKT_s311, hq316, hq317, hq318, hq319, hq320⟩ := hq
  replace hT := gl5y hT hw
  refine k_lloadn (pc := 276) E 0 dX2_meanBy_276 rfl rfl ?_
  exact k_rho hT (k_lret (pc := 277) E dX2_meanBy_277 (by omega))

def f_X8_mean (x0 : Int) (x1 : Int) (s0 : gMem) : gRes := (if (f_X8_outside x0 65536) = 0 then (if (f_X8_outside x1 3) = 0 then gb (f_X2_from x1 s0) (fun r8 s9 => gb (f_X2_meanBy x0 s9) (fun r13 s14 => (r13, s14))) else ((-4611686018427387904), s0)) else ((-4611686018427387904), s0))
theorem f_X8_mean_e (x0 : Int) (x1 : Int) (s0 : gMem) : f_X8_mean x0 x1 s0 = (if (f_X8_outside x0 65536) = 0 then (if (f_X8_outside x1 3) = 0 then gb (f_X2_from x1 s0) (fun r8 s9 => gb (f_X2_meanBy x0 s9) (fun r13 s14 => (r13, s14))) else ((-4611686018427387904), s0)) else ((-4611686018427387904), s0)) := rfl
set_option maxRecDepth 100000 in
set_option maxHeartbeats 4000000 in
theorem f_X8_mean_p (x0 : Int) (x1 : Int) (s0 : gMem) (hx0 : in32 x0) (hx1 : in32 x1) (hm_s0 : gMR lgX s0) (hpre0 : CD s0) (hpre1 : BG s0) (hpre2 : LA s0) (hpre3 : MOx s0) (hpre4 : KF s0) (hpre5 : KC s0) (hpre6 : KT s0) (hpre7 : KM s0) (hpre8 : WY s0) (rZ : Int) (sZ : gMem) (hres : f_X8_mean x0 x1 s0 = (rZ, sZ)) : (fr [32, 36, 37, 38, 39, 42, 64] s0 sZ) ∧ (gMR lgX sZ) ∧ (in64 rZ) ∧ (KM sZ) ∧ (WY sZ) ∧ (KF sZ) ∧ (KC sZ) ∧ (KT sZ) := by
  have hT := f_X8_mean_e x0 x1 s0
  have hf_s0 : fr [32, 36, 37, 38, 39, 42, 64] s0 s0 := fr.rf _ _
  have hKM_s0 := hpre7
  have hWY_s0 := hpre8
  have hKF_s0 := hpre4
  have hKC_s0 := hpre5
  have hKT_s0 := hpre6
  have hp2 := f_X8_outside_p x0 65536 (by omega) (by omega) 
  by_cases h3 : (f_X8_outside x0 65536) = 0
  · replace hT := hT.trans (if_pos h3)
    have hp5 := f_X8_outside_p x1 3 (by omega) (by omega) 
    by_cases h6 : (f_X8_outside x1 3) = 0
    · replace hT := hT.trans (if_pos h6)
      obtain ⟨r8, s9, hs9⟩ : ∃ rr ss, (f_X2_from x1 s0) = (rr, ss) := ⟨_, _, rfl⟩
      replace hT := gby hT hs9
      have hp10 := f_X2_from_p x1 s0 (by omega) hm_s0 hKM_s0 hWY_s0 (by first | assumption | omega) r8 s9 hs9
      obtain ⟨hfc_s9, hm_s9, hp11, hKM_s9, hWY_s9⟩ := hp10
      have hf_s9 : fr [32, 36, 37, 38, 39, 42, 64] s0 s9 := hf_s0.call (by decide) hfc_s9
      have hKF_s9 : KF s9 := KF_fr hKF_s0 (fun k hk => hfc_s9 k (dj (by decide) k hk))
      have hKC_s9 : KC s9 := KC_fr hKC_s0 (fun k hk => hfc_s9 k (dj (by decide) k hk))
      have hKT_s9 : KT s9 := KT_fr hKT_s0 (fun k hk => hfc_s9 k (dj (by decide) k hk))
      obtain ⟨r13, s14, hs14⟩ : ∃ rr ss, (f_X2_meanBy x0 s9) = (rr, ss) := ⟨_, _, rfl⟩
      replace hT := gby hT hs14
      have hp15 := f_X2_meanBy_p x0 s9 (by omega) hm_s9 (CD_fr hpre0 (fun k hk => hf_s9 k (dj (by decide) k hk))) (BG_fr hpre1 (fun k hk => hf_s9 k (dj (by decide) k hk))) (LA_fr hpre2 (fun k hk => hf_s9 k (dj (by decide) k hk))) (MOx_fr hpre3 (fun k hk => hf_s9 k (dj (by decide) k hk))) hKF_s9 hKC_s9 hKT_s9 hKM_s9 hWY_s9 r13 s14 hs14
      obtain ⟨hfc_s14, hm_s14, hp16, hKM_s14, hKF_s14, hKC_s14, hKT_s14, hp17⟩ := hp15
      have hf_s14 : fr [32, 36, 37, 38, 39, 42, 64] s0 s14 := hf_s9.call (by decide) hfc_s14
      have hWY_s14 : WY s14 := WY_fr hWY_s9 (fun k hk => hfc_s14 k (dj (by decide) k hk))
      obtain ⟨rfl, rfl⟩ := Prod.mk.inj (hT.symm.trans hres)
      exact ⟨hf_s14, hm_s14, (by omega), hKM_s14, hWY_s14, hKF_s14, hKC_s14, hKT_s14⟩
    · replace hT := hT.trans (if_neg h6)
      obtain ⟨rfl, rfl⟩ := Prod.mk.inj (hT.symm.trans hres)
      exact ⟨hf_s0, hm_s0, (by omega), hKM_s0, hWY_s0, hKF_s0, hKC_s0, hKT_s0⟩
  · replace hT := hT.trans (if_neg h3)
    obtain ⟨rfl, rfl⟩ := Prod.mk.inj (hT.symm.trans hres)
    exact ⟨hf_s0, hm_s0, (by omega), hKM_s0, hWY_s0, hKF_s0, hKC_s0, hKT_s0⟩
set_option maxRecDepth 100000 in
set_option maxHeartbeats 4000000 in
theorem c_X8_mean (l : Launch) (D : va_G) (a : Nat → Nat) (cI cJ cS cT : ClassId) (s0 : gMem) (x0 : Int) (x1 : Int) (hx0 : in32 x0) (hx1 : in32 x1) (hpre0 : CD s0) (hpre1 : BG s0) (hpre2 : LA s0) (hpre3 : MOx s0) (hpre4 : KF s0) (hpre5 : KC s0) (hpre6 : KT s0) (hpre7 : KM s0) (hpre8 : WY s0) : gC l yX8_mean cX8_mean 3 (some .long) 6 384 D vwCl (gT cI cJ cS cT) (wdX a cI cJ cS cT) lgX kJ in64 [.ref (a 0), gI x0, gI x1] s0 (f_X8_mean x0 x1 s0) := by
  refine gC_of (by decide +kernel) (hwdX a cI cJ cS cT) (Nat.le_of_ble_eq_true rfl) ?_
  intro A p e R s m args below meth c hR E
  subst hR
  have hT := f_X8_mean_e x0 x1 s0
  have hf_s0 : fr [32, 36, 37, 38, 39, 42, 64] s0 s0 := fr.rf _ _
  refine k_lv0 (lv' := [(0, .ref (a 0)), (1, gI x0), (2, gI x1)]) rfl ?_
  refine k_mr (fun hm_s0 => ?_)
  have hKM_s0 := hpre7
  have hWY_s0 := hpre8
  have hKF_s0 := hpre4
  have hKC_s0 := hpre5
  have hKT_s0 := hpre6
  refine k_iloadn (pc := 0) E 1 dX8_mean_0 rfl rfl ?_
  refine k_ldc (pc := 1) (n := 65536) E dX8_mean_1 wm_311 (by decide) ?_
  refine k_mr (fun hm_s0 => ?_)
  refine k_callS (pc := 3) (np := 2) (As := [gI x0, gI 65536]) (st := []) E (c_X8_outside l D a cI cJ cS cT s0 x0 65536 (by omega) (by omega)) wm_310 wm_1 wm_308 wm_309 (by decide +kernel) ⟨by decide, by decide⟩ rfl (Nat.le_of_ble_eq_true rfl) dX8_mean_3 (ro_kk (fun hr1 => ?_))
  have hp2 := f_X8_outside_p x0 65536 (by omega) (by omega) 
  refine k_st (st' := [gI (f_X8_outside x0 65536)]) rfl ?_
  by_cases h3 : (f_X8_outside x0 65536) = 0
  · replace hT := hT.trans (if_pos h3)
    refine k_if_ne_f (pc := 6) (tgt := 17) E (by omega) dX8_mean_6 (by decide) h3 ?_
    refine k_iloadn (pc := 9) E 2 dX8_mean_9 rfl rfl ?_
    refine k_iconst (pc := 10) E dX8_mean_10 ?_
    refine k_mr (fun hm_s0 => ?_)
    refine k_callS (pc := 11) (np := 2) (As := [gI x1, gI 3]) (st := []) E (c_X8_outside l D a cI cJ cS cT s0 x1 3 (by omega) (by omega)) wm_310 wm_1 wm_308 wm_309 (by decide +kernel) ⟨by decide, by decide⟩ rfl (Nat.le_of_ble_eq_true rfl) dX8_mean_11 (ro_kk (fun hr4 => ?_))
    have hp5 := f_X8_outside_p x1 3 (by omega) (by omega) 
    refine k_st (st' := [gI (f_X8_outside x1 3)]) rfl ?_
    by_cases h6 : (f_X8_outside x1 3) = 0
    · replace hT := hT.trans (if_pos h6)
      refine k_if_eq_t (pc := 14) (tgt := 21) E (by omega) dX8_mean_14 (by decide) h6 ?_
      refine k_aloadn (pc := 21) E 0 dX8_mean_21 rfl rfl ?_
      refine k_getf (pc := 22) (q0 := 0) (f := 3) (v := .ref (a 5)) E inX8 rfl rfl (by decide) wm_275 rfl rfl dX8_mean_22 ?_
      refine k_iloadn (pc := 25) E 2 dX8_mean_25 rfl rfl ?_
      refine k_mr (fun hm_s0 => ?_)
      refine k_callV (pc := 26) (np := 1) (As := [gI x1]) (st := []) (q0 := 5) E (c_X2_from l D a cI cJ cS cT s0 x1 (by omega) hKM_s0 hWY_s0 (by first | assumption | omega)) wm_566 wm_7 wm_563 wm_564 wm_565 (by decide +kernel) rfl rfl ⟨by decide, by decide⟩ rfl (Nat.le_of_ble_eq_true rfl) dX8_mean_26 (fun r8 s9 hs9 hr7 => ?_)
      replace hT := gby hT hs9
      have hp10 := f_X2_from_p x1 s0 (by omega) hm_s0 hKM_s0 hWY_s0 (by first | assumption | omega) r8 s9 hs9
      obtain ⟨hfc_s9, hm_s9, hp11, hKM_s9, hWY_s9⟩ := hp10
      have hf_s9 : fr [32, 36, 37, 38, 39, 42, 64] s0 s9 := hf_s0.call (by decide) hfc_s9
      have hKF_s9 : KF s9 := KF_fr hKF_s0 (fun k hk => hfc_s9 k (dj (by decide) k hk))
      have hKC_s9 : KC s9 := KC_fr hKC_s0 (fun k hk => hfc_s9 k (dj (by decide) k hk))
      have hKT_s9 : KT s9 := KT_fr hKT_s0 (fun k hk => hfc_s9 k (dj (by decide) k hk))
      refine k_st (st' := []) rfl ?_
      refine k_aloadn (pc := 29) E 0 dX8_mean_29 rfl rfl ?_
      refine k_getf (pc := 30) (q0 := 0) (f := 3) (v := .ref (a 5)) E inX8 rfl rfl (by decide) wm_275 rfl rfl dX8_mean_30 ?_
      refine k_iloadn (pc := 33) E 1 dX8_mean_33 rfl rfl ?_
      refine k_mr (fun hm_s9 => ?_)
      refine k_callV (pc := 34) (np := 1) (As := [gI x0]) (st := []) (q0 := 5) E (c_X2_meanBy l D a cI cJ cS cT s9 x0 (by omega) (CD_fr hpre0 (fun k hk => hf_s9 k (dj (by decide) k hk))) (BG_fr hpre1 (fun k hk => hf_s9 k (dj (by decide) k hk))) (LA_fr hpre2 (fun k hk => hf_s9 k (dj (by decide) k hk))) (MOx_fr hpre3 (fun k hk => hf_s9 k (dj (by decide) k hk))) hKF_s9 hKC_s9 hKT_s9 hKM_s9 hWY_s9) wm_574 wm_7 wm_571 wm_572 wm_573 (by decide +kernel) rfl rfl ⟨by decide, by decide⟩ rfl (Nat.le_of_ble_eq_true rfl) dX8_mean_34 (fun r13 s14 hs14 hr12 => ?_)
      replace hT := gby hT hs14
      have hp15 := f_X2_meanBy_p x0 s9 (by omega) hm_s9 (CD_fr hpre0 (fun k hk => hf_s9 k (dj (by decide) k hk))) (BG_fr hpre1 (fun k hk => hf_s9 k (dj (by decide) k hk))) (LA_fr hpre2 (fun k hk => hf_s9 k (dj (by decide) k hk))) (MOx_fr hpre3 (fun k hk => hf_s9 k (dj (by decide) k hk))) hKF_s9 hKC_s9 hKT_s9 hKM_s9 hWY_s9 r13 s14 hs14
      obtain ⟨hfc_s14, hm_s14, hp16, hKM_s14, hKF_s14, hKC_s14, hKT_s14, hp17⟩ := hp15
      have hf_s14 : fr [32, 36, 37, 38, 39, 42, 64] s0 s14 := hf_s9.call (by decide) hfc_s14
      have hWY_s14 : WY s14 := WY_fr hWY_s9 (fun k hk => hfc_s14 k (dj (by decide) k hk))
      refine k_st (st' := [gL r13]) rfl ?_
      exact k_rho hT (k_lret (pc := 37) E dX8_mean_37 (by omega))
    · replace hT := hT.trans (if_neg h6)
      refine k_if_eq_f (pc := 14) (tgt := 21) E (by omega) dX8_mean_14 (by decide) h6 ?_
      refine k_ldc2 (pc := 17) (n := (-4611686018427387904)) E dX8_mean_17 wm_562 (by decide) ?_
      exact k_rho hT (k_lret (pc := 20) E dX8_mean_20 (by omega))
  · replace hT := hT.trans (if_neg h3)
    refine k_if_ne_t (pc := 6) (tgt := 17) E (by omega) dX8_mean_6 (by decide) h3 ?_
    refine k_ldc2 (pc := 17) (n := (-4611686018427387904)) E dX8_mean_17 wm_562 (by decide) ?_
    exact k_rho hT (k_lret (pc := 20) E dX8_mean_20 (by omega))

def f_X8_plan  (s0 : gMem) : gRes := gb (f_X2_from (s0 61 0) s0) (fun r4 s5 => gb (f_X2_meanBy (s5 59 0) s5) (fun r10 s11 => (r10, s11)))
theorem f_X8_plan_e  (s0 : gMem) : f_X8_plan s0 = gb (f_X2_from (s0 61 0) s0) (fun r4 s5 => gb (f_X2_meanBy (s5 59 0) s5) (fun r10 s11 => (r10, s11))) := rfl
set_option maxRecDepth 100000 in
set_option maxHeartbeats 4000000 in
theorem f_X8_plan_p  (s0 : gMem)  (hm_s0 : gMR lgX s0) (hpre0 : CD s0) (hpre1 : BG s0) (hpre2 : LA s0) (hpre3 : MOx s0) (hpre4 : KF s0) (hpre5 : KC s0) (hpre6 : KT s0) (hpre7 : KM s0) (hpre8 : WY s0) (hpre9 : EN s0) (rZ : Int) (sZ : gMem) (hres : f_X8_plan s0 = (rZ, sZ)) : (fr [32, 36, 37, 38, 39, 42, 64] s0 sZ) ∧ (gMR lgX sZ) ∧ (in64 rZ) ∧ (KM sZ) ∧ (WY sZ) ∧ (KF sZ) ∧ (KC sZ) ∧ (KT sZ) ∧ (0 ≤ rZ ∧ rZ ≤ 1000000000000) := by
  have hT := f_X8_plan_e  s0
  have hf_s0 : fr [32, 36, 37, 38, 39, 42, 64] s0 s0 := fr.rf _ _
  have hKM_s0 := hpre7
  have hWY_s0 := hpre8
  have hKF_s0 := hpre4
  have hKC_s0 := hpre5
  have hKT_s0 := hpre6
  have hr1 := (hm_s0 61 0).1 rfl
  have hi2 := hpre9 0
  obtain ⟨r4, s5, hs5⟩ : ∃ rr ss, (f_X2_from (s0 61 0) s0) = (rr, ss) := ⟨_, _, rfl⟩
  replace hT := gby hT hs5
  have hp6 := f_X2_from_p (s0 61 0) s0 (by omega) hm_s0 hKM_s0 hWY_s0 (by first | assumption | omega) r4 s5 hs5
  obtain ⟨hfc_s5, hm_s5, hp7, hKM_s5, hWY_s5⟩ := hp6
  have hf_s5 : fr [32, 36, 37, 38, 39, 42, 64] s0 s5 := hf_s0.call (by decide) hfc_s5
  have hKF_s5 : KF s5 := KF_fr hKF_s0 (fun k hk => hfc_s5 k (dj (by decide) k hk))
  have hKC_s5 : KC s5 := KC_fr hKC_s0 (fun k hk => hfc_s5 k (dj (by decide) k hk))
  have hKT_s5 : KT s5 := KT_fr hKT_s0 (fun k hk => hfc_s5 k (dj (by decide) k hk))
  have hr8 := (hm_s5 59 0).1 rfl
  obtain ⟨r10, s11, hs11⟩ : ∃ rr ss, (f_X2_meanBy (s5 59 0) s5) = (rr, ss) := ⟨_, _, rfl⟩
  replace hT := gby hT hs11
  have hp12 := f_X2_meanBy_p (s5 59 0) s5 (by omega) hm_s5 (CD_fr hpre0 (fun k hk => hf_s5 k (dj (by decide) k hk))) (BG_fr hpre1 (fun k hk => hf_s5 k (dj (by decide) k hk))) (LA_fr hpre2 (fun k hk => hf_s5 k (dj (by decide) k hk))) (MOx_fr hpre3 (fun k hk => hf_s5 k (dj (by decide) k hk))) hKF_s5 hKC_s5 hKT_s5 hKM_s5 hWY_s5 r10 s11 hs11
  obtain ⟨hfc_s11, hm_s11, hp13, hKM_s11, hKF_s11, hKC_s11, hKT_s11, hp14⟩ := hp12
  have hf_s11 : fr [32, 36, 37, 38, 39, 42, 64] s0 s11 := hf_s5.call (by decide) hfc_s11
  have hWY_s11 : WY s11 := WY_fr hWY_s5 (fun k hk => hfc_s11 k (dj (by decide) k hk))
  obtain ⟨rfl, rfl⟩ := Prod.mk.inj (hT.symm.trans hres)
  exact ⟨hf_s11, hm_s11, (by omega), hKM_s11, hWY_s11, hKF_s11, hKC_s11, hKT_s11, (by first | assumption | omega)⟩
set_option maxRecDepth 100000 in
set_option maxHeartbeats 4000000 in
theorem c_X8_plan (l : Launch) (D : va_G) (a : Nat → Nat) (cI cJ cS cT : ClassId) (s0 : gMem)   (hpre0 : CD s0) (hpre1 : BG s0) (hpre2 : LA s0) (hpre3 : MOx s0) (hpre4 : KF s0) (hpre5 : KC s0) (hpre6 : KT s0) (hpre7 : KM s0) (hpre8 : WY s0) (hpre9 : EN s0) : gC l yX8_plan cX8_plan 1 (some .long) 6 384 D vwCl (gT cI cJ cS cT) (wdX a cI cJ cS cT) lgX kJ in64 [.ref (a 0)] s0 (f_X8_plan s0) := by
  refine gC_of (by decide +kernel) (hwdX a cI cJ cS cT) (Nat.le_of_ble_eq_true rfl) ?_
  intro A p e R s m args below meth c hR E
  subst hR
  have hT := f_X8_plan_e  s0
  have hf_s0 : fr [32, 36, 37, 38, 39, 42, 64] s0 s0 := fr.rf _ _
  refine k_lv0 (lv' := [(0, .ref (a 0))]) rfl ?_
  refine k_mr (fun hm_s0 => ?_)
  have hKM_s0 := hpre7
  have hWY_s0 := hpre8
  have hKF_s0 := hpre4
  have hKC_s0 := hpre5
  have hKT_s0 := hpre6
  refine k_aloadn (pc := 0) E 0 dX8_plan_0 rfl rfl ?_
  refine k_getf (pc := 1) (q0 := 0) (f := 3) (v := .ref (a 5)) E inX8 rfl rfl (by decide) wm_275 rfl rfl dX8_plan_1 ?_
  refine k_aloadn (pc := 4) E 0 dX8_plan_4 rfl rfl ?_
  refine k_getf (pc := 5) (q0 := 0) (f := 2) (v := .ref (a 3)) E inX8 rfl rfl (by decide) wm_274 rfl rfl dX8_plan_5 ?_
  refine k_getf (pc := 8) (q0 := 3) (f := 0) (v := .ref (a 4)) E inX4 rfl rfl (by decide) wm_149 rfl rfl dX8_plan_8 ?_
  refine k_getfI (pc := 11) (q0 := 4) (f := 4) (k := 61) E inX6 rfl rfl (by decide) wm_116 rfl rfl rfl dX8_plan_11 (fun hr1 => ?_)
  have hi2 := hpre9 0
  refine k_mr (fun hm_s0 => ?_)
  refine k_callV (pc := 14) (np := 1) (As := [gI (s0 61 0)]) (st := []) (q0 := 5) E (c_X2_from l D a cI cJ cS cT s0 (s0 61 0) (by omega) hKM_s0 hWY_s0 (by first | assumption | omega)) wm_566 wm_7 wm_563 wm_564 wm_565 (by decide +kernel) rfl rfl ⟨by decide, by decide⟩ rfl (Nat.le_of_ble_eq_true rfl) dX8_plan_14 (fun r4 s5 hs5 hr3 => ?_)
  replace hT := gby hT hs5
  have hp6 := f_X2_from_p (s0 61 0) s0 (by omega) hm_s0 hKM_s0 hWY_s0 (by first | assumption | omega) r4 s5 hs5
  obtain ⟨hfc_s5, hm_s5, hp7, hKM_s5, hWY_s5⟩ := hp6
  have hf_s5 : fr [32, 36, 37, 38, 39, 42, 64] s0 s5 := hf_s0.call (by decide) hfc_s5
  have hKF_s5 : KF s5 := KF_fr hKF_s0 (fun k hk => hfc_s5 k (dj (by decide) k hk))
  have hKC_s5 : KC s5 := KC_fr hKC_s0 (fun k hk => hfc_s5 k (dj (by decide) k hk))
  have hKT_s5 : KT s5 := KT_fr hKT_s0 (fun k hk => hfc_s5 k (dj (by decide) k hk))
  refine k_st (st' := []) rfl ?_
  refine k_aloadn (pc := 17) E 0 dX8_plan_17 rfl rfl ?_
  refine k_getf (pc := 18) (q0 := 0) (f := 3) (v := .ref (a 5)) E inX8 rfl rfl (by decide) wm_275 rfl rfl dX8_plan_18 ?_
  refine k_aloadn (pc := 21) E 0 dX8_plan_21 rfl rfl ?_
  refine k_getf (pc := 22) (q0 := 0) (f := 2) (v := .ref (a 3)) E inX8 rfl rfl (by decide) wm_274 rfl rfl dX8_plan_22 ?_
  refine k_getf (pc := 25) (q0 := 3) (f := 0) (v := .ref (a 4)) E inX4 rfl rfl (by decide) wm_149 rfl rfl dX8_plan_25 ?_
  refine k_getfI (pc := 28) (q0 := 4) (f := 2) (k := 59) E inX6 rfl rfl (by decide) wm_109 rfl rfl rfl dX8_plan_28 (fun hr8 => ?_)
  refine k_mr (fun hm_s5 => ?_)
  refine k_callV (pc := 31) (np := 1) (As := [gI (s5 59 0)]) (st := []) (q0 := 5) E (c_X2_meanBy l D a cI cJ cS cT s5 (s5 59 0) (by omega) (CD_fr hpre0 (fun k hk => hf_s5 k (dj (by decide) k hk))) (BG_fr hpre1 (fun k hk => hf_s5 k (dj (by decide) k hk))) (LA_fr hpre2 (fun k hk => hf_s5 k (dj (by decide) k hk))) (MOx_fr hpre3 (fun k hk => hf_s5 k (dj (by decide) k hk))) hKF_s5 hKC_s5 hKT_s5 hKM_s5 hWY_s5) wm_574 wm_7 wm_571 wm_572 wm_573 (by decide +kernel) rfl rfl ⟨by decide, by decide⟩ rfl (Nat.le_of_ble_eq_true rfl) dX8_plan_31 (fun r10 s11 hs11 hr9 => ?_)
  replace hT := gby hT hs11
  have hp12 := f_X2_meanBy_p (s5 59 0) s5 (by omega) hm_s5 (CD_fr hpre0 (fun k hk => hf_s5 k (dj (by decide) k hk))) (BG_fr hpre1 (fun k hk => hf_s5 k (dj (by decide) k hk))) (LA_fr hpre2 (fun k hk => hf_s5 k (dj (by decide) k hk))) (MOx_fr hpre3 (fun k hk => hf_s5 k (dj (by decide) k hk))) hKF_s5 hKC_s5 hKT_s5 hKM_s5 hWY_s5 r10 s11 hs11
  obtain ⟨hfc_s11, hm_s11, hp13, hKM_s11, hKF_s11, hKC_s11, hKT_s11, hp14⟩ := hp12
  have hf_s11 : fr [32, 36, 37, 38, 39, 42, 64] s0 s11 := hf_s5.call (by decide) hfc_s11
  have hWY_s11 : WY s11 := WY_fr hWY_s5 (fun k hk => hfc_s11 k (dj (by decide) k hk))
  refine k_st (st' := [gL r10]) rfl ?_
  exact k_rho hT (k_lret (pc := 34) E dX8_plan_34 (by omega))
