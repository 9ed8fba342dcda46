/-! stretches and plans of the class: what its walks need -/
def bitS (x p : Int) : Prop := iand (ishr x p) 1 = 1
def BGN (k : Int → Int) (x p : Int) : Prop := ¬ bitS x p ∧ (p = 0 ∨ bitS x (p - 1) ∨ k (p - 1) = 4 ∨ k p = 4)
def RUN (k : Int → Int) (x a b : Int) : Prop := ∀ j, a < j → j ≤ b → ¬ bitS x j ∧ ¬ k j = 4
theorem RUN_0 (k : Int → Int) (x a : Int) : RUN k x a a := fun j h1 h2 => absurd h1 (by omega)
theorem RUN_s {k : Int → Int} {x a b : Int} (h : RUN k x a b) (h1 : ¬ bitS x (b + 1)) (h2 : ¬ k (b + 1) = 4) : RUN k x a (b + 1) := fun j h3 h4 => by
  by_cases e : j ≤ b
  · exact h j h3 e
  · have e2 : j = b + 1 := by omega
    rw [e2]
    exact ⟨h1, h2⟩
theorem RUN_c {k : Int → Int} {x a b : Int} (h : RUN k x (a + 1) b) (h1 : ¬ bitS x (a + 1)) (h2 : ¬ k (a + 1) = 4) : RUN k x a b := fun j h3 h4 => by
  by_cases e : a + 1 < j
  · exact h j e h4
  · have e2 : j = a + 1 := by omega
    rw [e2]
    exact ⟨h1, h2⟩
def SG (k : Int → Int) (x size p : Int) : Prop := ∀ q, p ≤ q → q ≤ 15 → bitS x q → (∀ j, p ≤ j → j < q → ¬ bitS x j ∧ ¬ k j = 4) → size ≤ q
theorem SG_0 (k : Int → Int) (x : Int) {p : Int} (h : 0 ≤ p) : SG k x 0 p := fun q h1 _ _ _ => by omega
theorem SG_use {k : Int → Int} {x size p : Int} (h : SG k x size p) (h1 : p ≤ 15) (h2 : bitS x p) : size ≤ p := h p (by omega) h1 h2 (fun j h3 h4 => absurd h3 (by omega))
theorem SG_skip {k : Int → Int} {x size p : Int} (h : SG k x size p) (h1 : ¬ bitS x p) (h2 : ¬ k p = 4) : SG k x size (p + 1) := fun q h3 h4 h5 h6 => h q (by omega) h4 h5 (fun j h7 h8 => by
  by_cases e : j = p
  · rw [e]; exact ⟨h1, h2⟩
  · exact h6 j (by omega) h8)
theorem SG_new {k : Int → Int} {x size p b : Int} (h : RUN k x p b) (h1 : size ≤ b + 1) : SG k x size (p + 1) := fun q h3 _ h5 _ => by
  by_cases e : q ≤ b
  · exact absurd h5 (h q (by omega) e).1
  · omega

def f_X2_begins (x0 : Int) (x1 : Int) (s0 : gMem) : Int := (gj (fun j4c => (if (f_X8_has x1 x0) = 0 then (gj (fun j7c => (if x0 = 0 then j7c else (if (f_X8_has x1 (x0 - 1)) = 0 then (if (f_X4_stops (x0 - 1) s0) = 0 then (if (f_X4_stops x0 s0) = 0 then j4c else j7c) else j7c) else j7c))) (1)) else j4c)) (0))
theorem f_X2_begins_e (x0 : Int) (x1 : Int) (s0 : gMem) : f_X2_begins x0 x1 s0 = (gj (fun j4c => (if (f_X8_has x1 x0) = 0 then (gj (fun j7c => (if x0 = 0 then j7c else (if (f_X8_has x1 (x0 - 1)) = 0 then (if (f_X4_stops (x0 - 1) s0) = 0 then (if (f_X4_stops x0 s0) = 0 then j4c else j7c) else j7c) else j7c))) (1)) else j4c)) (0)) := rfl
set_option maxRecDepth 100000 in
set_option maxHeartbeats 4000000 in
theorem f_X2_begins_p (x0 : Int) (x1 : Int) (s0 : gMem) (hx0 : in32 x0) (hx1 : in32 x1) (hm_s0 : gMR lgX s0) (hpre0 : 0 ≤ x0 ∧ x0 ≤ 15) : (((f_X2_begins x0 x1 s0) = 0 ∨ (f_X2_begins x0 x1 s0) = 1)) ∧ (((f_X2_begins x0 x1 s0) = 1 ∧ BGN (s0 40) x1 x0) ∨ ((f_X2_begins x0 x1 s0) = 0 ∧ ¬ BGN (s0 40) x1 x0)) := by
  have hT := f_X2_begins_e x0 x1 s0
  have hp2 := f_X8_has_p x1 x0 (by omega) (by omega) 
  obtain ⟨j4c, hj4c, hT⟩ := gjx hT
  have j4 : ((iand (ishr x1 x0) 1 = 1 ∨ (x0 ≠ 0 ∧ ¬ iand (ishr x1 (x0 - 1)) 1 = 1 ∧ ¬ s0 40 (x0 - 1) = 4 ∧ ¬ s0 40 x0 = 4))) → (f_X2_begins x0 x1 s0) = j4c  → (((f_X2_begins x0 x1 s0) = 0 ∨ (f_X2_begins x0 x1 s0) = 1)) ∧ (((f_X2_begins x0 x1 s0) = 1 ∧ BGN (s0 40) x1 x0) ∨ ((f_X2_begins x0 x1 s0) = 0 ∧ ¬ BGN (s0 40) x1 x0)) := by
    intro  hq hT
    have hq5 := hq
    rw [hj4c] at hT
    rw [hT]
    exact ⟨(by first | exact Or.inl rfl | exact Or.inr rfl | omega), (by unfold BGN bitS; omega)⟩
  by_cases h3 : (f_X8_has x1 x0) = 0
  · replace hT := hT.trans (if_pos h3)
    obtain ⟨j7c, hj7c, hT⟩ := gjx hT
    have j7 : ((x0 = 0 ∨ iand (ishr x1 (x0 - 1)) 1 = 1 ∨ s0 40 (x0 - 1) = 4 ∨ s0 40 x0 = 4)) → (f_X2_begins x0 x1 s0) = j7c  → (((f_X2_begins x0 x1 s0) = 0 ∨ (f_X2_begins x0 x1 s0) = 1)) ∧ (((f_X2_begins x0 x1 s0) = 1 ∧ BGN (s0 40) x1 x0) ∨ ((f_X2_begins x0 x1 s0) = 0 ∧ ¬ BGN (s0 40) x1 x0)) := by
      intro  hq hT
      have hq8 := hq
      rw [hj7c] at hT
      rw [hT]
      exact ⟨(by first | exact Or.inl rfl | exact Or.inr rfl | omega), (by unfold BGN bitS; omega)⟩
    by_cases h6 : x0 = 0
    · replace hT := hT.trans (if_pos h6)
      exact j7  (by first | assumption | omega) hT
    · replace hT := hT.trans (if_neg h6)
      have hp10 := f_X8_has_p x1 (x0 - 1) (by omega) (by omega) 
      by_cases h11 : (f_X8_has x1 (x0 - 1)) = 0
      · replace hT := hT.trans (if_pos h11)
        have hp13 := f_X4_stops_p (x0 - 1) s0 (by omega) hm_s0 (by first | assumption | omega)
        by_cases h14 : (f_X4_stops (x0 - 1) s0) = 0
        · replace hT := hT.trans (if_pos h14)
          have hp16 := f_X4_stops_p x0 s0 (by omega) hm_s0 (by first | assumption | omega)
          by_cases h17 : (f_X4_stops x0 s0) = 0
          · replace hT := hT.trans (if_pos h17)
            exact j4  (by first | assumption | omega) hT
          · replace hT := hT.trans (if_neg h17)
            exact j7  (by first | assumption | omega) hT
        · replace hT := hT.trans (if_neg h14)
          exact j7  (by first | assumption | omega) hT
      · replace hT := hT.trans (if_neg h11)
        exact j7  (by first | assumption | omega) hT
  · replace hT := hT.trans (if_neg h3)
    exact j4  (by first | assumption | omega) hT
set_option maxRecDepth 100000 in
set_option maxHeartbeats 4000000 in
theorem c_X2_begins (l : Launch) (D : va_G) (a : Nat → Nat) (cI cJ cS cT : ClassId) (s0 : gMem) (x0 : Int) (x1 : Int) (hx0 : in32 x0) (hx1 : in32 x1) (hpre0 : 0 ≤ x0 ∧ x0 ≤ 15) : gC l yX2_begins cX2_begins 3 (some .boolean) 2 128 D vwCl (gT cI cJ cS cT) (wdX a cI cJ cS cT) lgX kI rgZ [.ref (a 5), gI x0, gI x1] s0 ((f_X2_begins x0 x1 s0), s0) := by
  refine gC_of (by decide +kernel) (hwdX a cI cJ cS cT) (Nat.le_of_ble_eq_true rfl) ?_
  intro A p e R s m args below meth c hR E
  subst hR
  have hT := f_X2_begins_e x0 x1 s0
  refine k_lv0 (lv' := [(0, .ref (a 5)), (1, gI x0), (2, gI x1)]) rfl ?_
  refine k_mr (fun hm_s0 => ?_)
  refine k_iloadn (pc := 0) E 2 dX2_begins_0 rfl rfl ?_
  refine k_iloadn (pc := 1) E 1 dX2_begins_1 rfl rfl ?_
  refine k_mr (fun hm_s0 => ?_)
  refine k_callSN (pc := 2) (np := 2) (As := [gI x1, gI x0]) (st := []) E (c_X8_has l D a cI cJ cS cT s0 x1 x0 (by omega) (by omega)) wm_552 wm_1 (List.mem_of_getElem? (i := 0) rfl) wm_551 (by decide +kernel) ⟨by decide, by decide⟩ rfl (Nat.le_of_ble_eq_true rfl) dX2_begins_2 (ro_kk (fun hr1 => ?_))
  have hp2 := f_X8_has_p x1 x0 (by omega) (by omega) 
  refine k_st (st' := [gI (f_X8_has x1 x0)]) rfl ?_
  obtain ⟨j4c, hj4c, hT⟩ := gjx hT
  have j4 : ((iand (ishr x1 x0) 1 = 1 ∨ (x0 ≠ 0 ∧ ¬ iand (ishr x1 (x0 - 1)) 1 = 1 ∧ ¬ s0 40 (x0 - 1) = 4 ∧ ¬ s0 40 x0 = 4))) → (f_X2_begins x0 x1 s0) = j4c  → gK D vwCl (wdX a cI cJ cS cT) lgX A p l e { frames := 2, cells := 0, slots := 0, locals := 128 } s m args below meth c 3 (gQQ D vwCl (wdX a cI cJ cS cT) lgX A kI rgZ below args s) ((f_X2_begins x0 x1 s0), s0) s0 50 [] [] := by
    intro  hq hT
    have hq5 := hq
    rw [hj4c] at hT
    refine k_iconst (pc := 50) E dX2_begins_50 ?_
    exact k_rho (congrArg (fun q => (q, s0)) hT) (k_zret (pc := 51) E dX2_begins_51 (by first | exact Or.inl rfl | exact Or.inr rfl | omega))
  by_cases h3 : (f_X8_has x1 x0) = 0
  · replace hT := hT.trans (if_pos h3)
    refine k_if_ne_f (pc := 5) (tgt := 50) E (by omega) dX2_begins_5 (by decide) h3 ?_
    refine k_iloadn (pc := 8) E 1 dX2_begins_8 rfl rfl ?_
    obtain ⟨j7c, hj7c, hT⟩ := gjx hT
    have j7 : ((x0 = 0 ∨ iand (ishr x1 (x0 - 1)) 1 = 1 ∨ s0 40 (x0 - 1) = 4 ∨ s0 40 x0 = 4)) → (f_X2_begins x0 x1 s0) = j7c  → gK D vwCl (wdX a cI cJ cS cT) lgX A p l e { frames := 2, cells := 0, slots := 0, locals := 128 } s m args below meth c 3 (gQQ D vwCl (wdX a cI cJ cS cT) lgX A kI rgZ below args s) ((f_X2_begins x0 x1 s0), s0) s0 46 [] [] := by
      intro  hq hT
      have hq8 := hq
      rw [hj7c] at hT
      refine k_iconst (pc := 46) E dX2_begins_46 ?_
      refine k_goto (pc := 47) (tgt := 51) E dX2_begins_47 (by decide) ?_
      exact k_rho (congrArg (fun q => (q, s0)) hT) (k_zret (pc := 51) E dX2_begins_51 (by first | exact Or.inl rfl | exact Or.inr rfl | omega))
    by_cases h6 : x0 = 0
    · replace hT := hT.trans (if_pos h6)
      refine k_if_eq_t (pc := 9) (tgt := 46) E (by omega) dX2_begins_9 (by decide) h6 ?_
      refine k_lv (lv' := []) [] rfl ?_
      exact j7  (by first | assumption | omega) hT
    · replace hT := hT.trans (if_neg h6)
      refine k_if_eq_f (pc := 9) (tgt := 46) E (by omega) dX2_begins_9 (by decide) h6 ?_
      refine k_iloadn (pc := 12) E 2 dX2_begins_12 rfl rfl ?_
      refine k_iloadn (pc := 13) E 1 dX2_begins_13 rfl rfl ?_
      refine k_iconst (pc := 14) E dX2_begins_14 ?_
      refine k_isub (pc := 15) E dX2_begins_15 ?_
      refine k_mr (fun hm_s0 => ?_)
      refine k_callSN (pc := 16) (np := 2) (As := [gI x1, gI (x0 - 1)]) (st := []) E (c_X8_has l D a cI cJ cS cT s0 x1 (x0 - 1) (by omega) (by omega)) wm_552 wm_1 (List.mem_of_getElem? (i := 0) rfl) wm_551 (by decide +kernel) ⟨by decide, by decide⟩ rfl (Nat.le_of_ble_eq_true rfl) dX2_begins_16 (ro_kk (fun hr9 => ?_))
      have hp10 := f_X8_has_p x1 (x0 - 1) (by omega) (by omega) 
      refine k_st (st' := [gI (f_X8_has x1 (x0 - 1))]) rfl ?_
      by_cases h11 : (f_X8_has x1 (x0 - 1)) = 0
      · replace hT := hT.trans (if_pos h11)
        refine k_if_ne_f (pc := 19) (tgt := 46) E (by omega) dX2_begins_19 (by decide) h11 ?_
        refine k_aloadn (pc := 22) E 0 dX2_begins_22 rfl rfl ?_
        refine k_getf (pc := 23) (q0 := 5) (f := 0) (v := .ref (a 3)) E inX2 rfl rfl (by decide) wm_174 rfl rfl dX2_begins_23 ?_
        refine k_iloadn (pc := 26) E 1 dX2_begins_26 rfl rfl ?_
        refine k_iconst (pc := 27) E dX2_begins_27 ?_
        refine k_isub (pc := 28) E dX2_begins_28 ?_
        refine k_mr (fun hm_s0 => ?_)
        refine k_callV (pc := 29) (np := 1) (As := [gI (x0 - 1)]) (st := []) (q0 := 3) E (c_X4_stops l D a cI cJ cS cT s0 (x0 - 1) (by omega) (by first | assumption | omega)) wm_533 wm_4 wm_553 wm_531 wm_532 (by decide +kernel) rfl rfl ⟨by decide, by decide⟩ rfl (Nat.le_of_ble_eq_true rfl) dX2_begins_29 (ro_kk (fun hr12 => ?_))
        have hp13 := f_X4_stops_p (x0 - 1) s0 (by omega) hm_s0 (by first | assumption | omega)
        refine k_st (st' := [gI (f_X4_stops (x0 - 1) s0)]) rfl ?_
        by_cases h14 : (f_X4_stops (x0 - 1) s0) = 0
        · replace hT := hT.trans (if_pos h14)
          refine k_if_ne_f (pc := 32) (tgt := 46) E (by omega) dX2_begins_32 (by decide) h14 ?_
          refine k_aloadn (pc := 35) E 0 dX2_begins_35 rfl rfl ?_
          refine k_getf (pc := 36) (q0 := 5) (f := 0) (v := .ref (a 3)) E inX2 rfl rfl (by decide) wm_174 rfl rfl dX2_begins_36 ?_
          refine k_iloadn (pc := 39) E 1 dX2_begins_39 rfl rfl ?_
          refine k_mr (fun hm_s0 => ?_)
          refine k_callV (pc := 40) (np := 1) (As := [gI x0]) (st := []) (q0 := 3) E (c_X4_stops l D a cI cJ cS cT s0 x0 (by omega) (by first | assumption | omega)) wm_533 wm_4 wm_553 wm_531 wm_532 (by decide +kernel) rfl rfl ⟨by decide, by decide⟩ rfl (Nat.le_of_ble_eq_true rfl) dX2_begins_40 (ro_kk (fun hr15 => ?_))
          have hp16 := f_X4_stops_p x0 s0 (by omega) hm_s0 (by first | assumption | omega)
          refine k_st (st' := [gI (f_X4_stops x0 s0)]) rfl ?_
          by_cases h17 : (f_X4_stops x0 s0) = 0
          · replace hT := hT.trans (if_pos h17)
            refine k_if_eq_t (pc := 43) (tgt := 50) E (by omega) dX2_begins_43 (by decide) h17 ?_
            refine k_lv (lv' := []) [] rfl ?_
            exact j4  (by first | assumption | omega) hT
          · replace hT := hT.trans (if_neg h17)
            refine k_if_eq_f (pc := 43) (tgt := 50) E (by omega) dX2_begins_43 (by decide) h17 ?_
            refine k_lv (lv' := []) [] rfl ?_
            exact j7  (by first | assumption | omega) hT
        · replace hT := hT.trans (if_neg h14)
          refine k_if_ne_t (pc := 32) (tgt := 46) E (by omega) dX2_begins_32 (by decide) h14 ?_
          refine k_lv (lv' := []) [] rfl ?_
          exact j7  (by first | assumption | omega) hT
      · replace hT := hT.trans (if_neg h11)
        refine k_if_ne_t (pc := 19) (tgt := 46) E (by omega) dX2_begins_19 (by decide) h11 ?_
        refine k_lv (lv' := []) [] rfl ?_
        exact j7  (by first | assumption | omega) hT
  · replace hT := hT.trans (if_neg h3)
    refine k_if_ne_t (pc := 5) (tgt := 50) E (by omega) dX2_begins_5 (by decide) h3 ?_
    refine k_lv (lv' := []) [] rfl ?_
    exact j4  (by first | assumption | omega) hT

def w_X2_lastOf_13 (c2 : Int) (s0 : gMem) : Nat → Int → Int
  | 0, v4 => v4
  | n5 + 1, v4 => (if (v4 + 1) < 16 then (if (f_X8_has c2 (v4 + 1)) = 0 then (if (f_X4_stops (v4 + 1) s0) = 0 then (w_X2_lastOf_13 c2 s0 n5 (v4 + 1)) else v4) else v4) else v4)
theorem w_X2_lastOf_13_s (c2 : Int) (s0 : gMem) (n5 : Nat) (v4 : Int)  : w_X2_lastOf_13 c2 s0 (n5 + 1) v4 = (if (v4 + 1) < 16 then (if (f_X8_has c2 (v4 + 1)) = 0 then (if (f_X4_stops (v4 + 1) s0) = 0 then (w_X2_lastOf_13 c2 s0 n5 (v4 + 1)) else v4) else v4) else v4) := rfl
def f_X2_lastOf (x0 : Int) (x1 : Int) (s0 : gMem) : Int := (if (f_X4_stops x0 s0) = 0 then (gl (w_X2_lastOf_13 x1 s0 17 x0) (fun v30 => v30)) else x0)
theorem f_X2_lastOf_e (x0 : Int) (x1 : Int) (s0 : gMem) : f_X2_lastOf x0 x1 s0 = (if (f_X4_stops x0 s0) = 0 then (gl (w_X2_lastOf_13 x1 s0 17 x0) (fun v30 => v30)) else x0) := rfl
set_option maxRecDepth 100000 in
set_option maxHeartbeats 4000000 in
theorem f_X2_lastOf_p (x0 : Int) (x1 : Int) (s0 : gMem) (hx0 : in32 x0) (hx1 : in32 x1) (hm_s0 : gMR lgX s0) (hpre0 : 0 ≤ x0 ∧ x0 ≤ 15) : (in32 (f_X2_lastOf x0 x1 s0)) ∧ (x0 ≤ (f_X2_lastOf x0 x1 s0) ∧ (f_X2_lastOf x0 x1 s0) ≤ 15) ∧ (RUN (s0 40) x1 x0 (f_X2_lastOf x0 x1 s0)) := by
  have hT := f_X2_lastOf_e x0 x1 s0
  have hp2 := f_X4_stops_p x0 s0 (by omega) hm_s0 (by first | assumption | omega)
  by_cases h3 : (f_X4_stops x0 s0) = 0
  · replace hT := hT.trans (if_pos h3)
    have L14 : ∀ (n15 : Nat) (v13 : Int), ((in32 v13) ∧ (x0 ≤ v13 ∧ v13 ≤ 15) ∧ (RUN (s0 40) x1 x0 v13)) → 15 - v13 < (n15 : Int) → (∀ (w16 : Int), (w_X2_lastOf_13 x1 s0 n15 v13) = w16 → ((in32 w16) ∧ (x0 ≤ w16 ∧ w16 ≤ 15) ∧ (RUN (s0 40) x1 x0 w16)) → (in32 (f_X2_lastOf x0 x1 s0)) ∧ (x0 ≤ (f_X2_lastOf x0 x1 s0) ∧ (f_X2_lastOf x0 x1 s0) ≤ 15) ∧ (RUN (s0 40) x1 x0 (f_X2_lastOf x0 x1 s0))) → (in32 (f_X2_lastOf x0 x1 s0)) ∧ (x0 ≤ (f_X2_lastOf x0 x1 s0) ∧ (f_X2_lastOf x0 x1 s0) ≤ 15) ∧ (RUN (s0 40) x1 x0 (f_X2_lastOf x0 x1 s0)) := by
      intro n15; induction n15 with
      | zero =>
        intro v13 hq hm hk
        exfalso
        obtain ⟨hq24, hq25, hq26⟩ := hq
        omega
      | succ n15 ih =>
        intro v13 hq hm hk
        obtain ⟨hq27, hq28, hq29⟩ := hq
        have hT := w_X2_lastOf_13_s x1 s0 n15 v13
        by_cases h17 : (v13 + 1) < 16
        · replace hT := hT.trans (if_pos h17)
          have hp19 := f_X8_has_p x1 (v13 + 1) (by omega) (by omega) 
          by_cases h20 : (f_X8_has x1 (v13 + 1)) = 0
          · replace hT := hT.trans (if_pos h20)
            have hp22 := f_X4_stops_p (v13 + 1) s0 (by omega) hm_s0 (by first | assumption | omega)
            by_cases h23 : (f_X4_stops (v13 + 1) s0) = 0
            · replace hT := hT.trans (if_pos h23)
              exact ih (v13 + 1) ⟨(by omega), (by first | assumption | omega), (by first | assumption | exact RUN_0 _ _ _ | exact RUN_s (by assumption) (by unfold bitS; omega) (by omega))⟩ (by omega) (fun w16 hw hi => hk w16 (hT.trans hw) hi)
            · replace hT := hT.trans (if_neg h23)
              exact hk v13 hT ⟨(by omega), (by first | assumption | omega), (by first | assumption | exact RUN_0 _ _ _ | exact RUN_s (by assumption) (by unfold bitS; omega) (by omega))⟩
          · replace hT := hT.trans (if_neg h20)
            exact hk v13 hT ⟨(by omega), (by first | assumption | omega), (by first | assumption | exact RUN_0 _ _ _ | exact RUN_s (by assumption) (by unfold bitS; omega) (by omega))⟩
        · replace hT := hT.trans (if_neg h17)
          exact hk v13 hT ⟨(by omega), (by first | assumption | omega), (by first | assumption | exact RUN_0 _ _ _ | exact RUN_s (by assumption) (by unfold bitS; omega) (by omega))⟩
    refine L14 17 x0 ⟨(by omega), (by first | assumption | omega), (by first | assumption | exact RUN_0 _ _ _ | exact RUN_s (by assumption) (by unfold bitS; omega) (by omega))⟩ (by omega) (fun v30 hw hq => ?_)
    obtain ⟨hq31, hq32, hq33⟩ := hq
    replace hT := gl1y hT hw
    rw [hT]
    exact ⟨(by omega), (by first | assumption | omega), (by first | assumption | exact RUN_0 _ _ _ | exact RUN_s (by assumption) (by unfold bitS; omega) (by omega))⟩
  · replace hT := hT.trans (if_neg h3)
    rw [hT]
    exact ⟨(by omega), (by first | assumption | omega), (by first | assumption | exact RUN_0 _ _ _ | exact RUN_s (by assumption) (by unfold bitS; omega) (by omega))⟩
set_option maxRecDepth 100000 in
set_option maxHeartbeats 4000000 in
theorem c_X2_lastOf (l : Launch) (D : va_G) (a : Nat → Nat) (cI cJ cS cT : ClassId) (s0 : gMem) (x0 : Int) (x1 : Int) (hx0 : in32 x0) (hx1 : in32 x1) (hpre0 : 0 ≤ x0 ∧ x0 ≤ 15) : gC l yX2_lastOf cX2_lastOf 4 (some .int) 2 128 D vwCl (gT cI cJ cS cT) (wdX a cI cJ cS cT) lgX kI in32 [.ref (a 5), gI x0, gI x1] s0 ((f_X2_lastOf x0 x1 s0), s0) := by
  refine gC_of (by decide +kernel) (hwdX a cI cJ cS cT) (Nat.le_of_ble_eq_true rfl) ?_
  intro A p e R s m args below meth c hR E
  subst hR
  have hT := f_X2_lastOf_e x0 x1 s0
  refine k_lv0 (lv' := [(0, .ref (a 5)), (1, gI x0), (2, gI x1)]) rfl ?_
  refine k_mr (fun hm_s0 => ?_)
  refine k_iloadn (pc := 0) E 1 dX2_lastOf_0 rfl rfl ?_
  refine k_istoren (pc := 1) (lv' := [(3, gI x0), (0, .ref (a 5)), (1, gI x0), (2, gI x1)]) E dX2_lastOf_1 rfl (by decide) rfl ?_
  refine k_aloadn (pc := 2) E 1 dX2_lastOf_2 rfl rfl ?_
  refine k_getf (pc := 3) (q0 := 5) (f := 0) (v := .ref (a 3)) E inX2 rfl rfl (by decide) wm_174 rfl rfl dX2_lastOf_3 ?_
  refine k_iloadn (pc := 6) E 2 dX2_lastOf_6 rfl rfl ?_
  refine k_mr (fun hm_s0 => ?_)
  refine k_callV (pc := 7) (np := 1) (As := [gI x0]) (st := []) (q0 := 3) E (c_X4_stops l D a cI cJ cS cT s0 x0 (by omega) (by first | assumption | omega)) wm_533 wm_4 wm_553 wm_531 wm_532 (by decide +kernel) rfl rfl ⟨by decide, by decide⟩ rfl (Nat.le_of_ble_eq_true rfl) dX2_lastOf_7 (ro_kk (fun hr1 => ?_))
  have hp2 := f_X4_stops_p x0 s0 (by omega) hm_s0 (by first | assumption | omega)
  refine k_st (st' := [gI (f_X4_stops x0 s0)]) rfl ?_
  by_cases h3 : (f_X4_stops x0 s0) = 0
  · replace hT := hT.trans (if_pos h3)
    refine k_if_ne_f (pc := 10) (tgt := 50) E (by omega) dX2_lastOf_10 (by decide) h3 ?_
    have L14 : ∀ (n15 : Nat) (v13 : Int), ((in32 v13) ∧ (x0 ≤ v13 ∧ v13 ≤ 15) ∧ (RUN (s0 40) x1 x0 v13)) → 15 - v13 < (n15 : Int) → (∀ (w16 : Int), (w_X2_lastOf_13 x1 s0 n15 v13) = w16 → ((in32 w16) ∧ (x0 ≤ w16 ∧ w16 ≤ 15) ∧ (RUN (s0 40) x1 x0 w16)) → gK D vwCl (wdX a cI cJ cS cT) lgX A p l e { frames := 2, cells := 0, slots := 0, locals := 128 } s m args below meth c 4 (gQQ D vwCl (wdX a cI cJ cS cT) lgX A kI in32 below args s) ((f_X2_lastOf x0 x1 s0), s0) s0 50 [(3, gI w16)] []) → gK D vwCl (wdX a cI cJ cS cT) lgX A p l e { frames := 2, cells := 0, slots := 0, locals := 128 } s m args below meth c 4 (gQQ D vwCl (wdX a cI cJ cS cT) lgX A kI in32 below args s) ((f_X2_lastOf x0 x1 s0), s0) s0 13 [(0, .ref (a 5)), (2, gI x1), (3, gI v13)] [] := by
      intro n15; induction n15 with
      | zero =>
        intro v13 hq hm hk
        exfalso
        obtain ⟨hq24, hq25, hq26⟩ := hq
        omega
      | succ n15 ih =>
        intro v13 hq hm hk
        obtain ⟨hq27, hq28, hq29⟩ := hq
        have hT := w_X2_lastOf_13_s x1 s0 n15 v13
        refine k_iloadn (pc := 13) E 2 dX2_lastOf_13 rfl rfl ?_
        refine k_iconst (pc := 14) E dX2_lastOf_14 ?_
        refine k_iadd (pc := 15) E dX2_lastOf_15 ?_
        refine k_bipush (pc := 16) E dX2_lastOf_16 (by decide) ?_
        by_cases h17 : (v13 + 1) < 16
        · replace hT := hT.trans (if_pos h17)
          refine k_icmp_ge_f (pc := 18) (tgt := 50) E (by omega) (by omega) dX2_lastOf_18 (by decide) h17 ?_
          refine k_iloadn (pc := 21) E 1 dX2_lastOf_21 rfl rfl ?_
          refine k_iloadn (pc := 22) E 2 dX2_lastOf_22 rfl rfl ?_
          refine k_iconst (pc := 23) E dX2_lastOf_23 ?_
          refine k_iadd (pc := 24) E dX2_lastOf_24 ?_
          refine k_mr (fun hm_s0 => ?_)
          refine k_callSN (pc := 25) (np := 2) (As := [gI x1, gI (v13 + 1)]) (st := []) E (c_X8_has l D a cI cJ cS cT s0 x1 (v13 + 1) (by omega) (by omega)) wm_552 wm_1 (List.mem_of_getElem? (i := 0) rfl) wm_551 (by decide +kernel) ⟨by decide, by decide⟩ rfl (Nat.le_of_ble_eq_true rfl) dX2_lastOf_25 (ro_kk (fun hr18 => ?_))
          have hp19 := f_X8_has_p x1 (v13 + 1) (by omega) (by omega) 
          refine k_st (st' := [gI (f_X8_has x1 (v13 + 1))]) rfl ?_
          by_cases h20 : (f_X8_has x1 (v13 + 1)) = 0
          · replace hT := hT.trans (if_pos h20)
            refine k_if_ne_f (pc := 28) (tgt := 50) E (by omega) dX2_lastOf_28 (by decide) h20 ?_
            refine k_aloadn (pc := 31) E 0 dX2_lastOf_31 rfl rfl ?_
            refine k_getf (pc := 32) (q0 := 5) (f := 0) (v := .ref (a 3)) E inX2 rfl rfl (by decide) wm_174 rfl rfl dX2_lastOf_32 ?_
            refine k_iloadn (pc := 35) E 2 dX2_lastOf_35 rfl rfl ?_
            refine k_iconst (pc := 36) E dX2_lastOf_36 ?_
            refine k_iadd (pc := 37) E dX2_lastOf_37 ?_
            refine k_mr (fun hm_s0 => ?_)
            refine k_callV (pc := 38) (np := 1) (As := [gI (v13 + 1)]) (st := []) (q0 := 3) E (c_X4_stops l D a cI cJ cS cT s0 (v13 + 1) (by omega) (by first | assumption | omega)) wm_533 wm_4 wm_553 wm_531 wm_532 (by decide +kernel) rfl rfl ⟨by decide, by decide⟩ rfl (Nat.le_of_ble_eq_true rfl) dX2_lastOf_38 (ro_kk (fun hr21 => ?_))
            have hp22 := f_X4_stops_p (v13 + 1) s0 (by omega) hm_s0 (by first | assumption | omega)
            refine k_st (st' := [gI (f_X4_stops (v13 + 1) s0)]) rfl ?_
            by_cases h23 : (f_X4_stops (v13 + 1) s0) = 0
            · replace hT := hT.trans (if_pos h23)
              refine k_if_ne_f (pc := 41) (tgt := 50) E (by omega) dX2_lastOf_41 (by decide) h23 ?_
              refine k_iinc (pc := 44) (lv' := [(3, gI (v13 + 1)), (0, .ref (a 5)), (2, gI x1)]) E 2 dX2_lastOf_44 rfl (by decide) rfl ?_
              refine k_goto (pc := 47) (tgt := 13) E dX2_lastOf_47 (by decide) ?_
              refine k_lv (lv' := [(0, .ref (a 5)), (2, gI x1), (3, gI (v13 + 1))]) [1, 2, 0] rfl ?_
              exact ih (v13 + 1) ⟨(by omega), (by first | assumption | omega), (by first | assumption | exact RUN_0 _ _ _ | exact RUN_s (by assumption) (by unfold bitS; omega) (by omega))⟩ (by omega) (fun w16 hw hi => hk w16 (hT.trans hw) hi)
            · replace hT := hT.trans (if_neg h23)
              refine k_if_ne_t (pc := 41) (tgt := 50) E (by omega) dX2_lastOf_41 (by decide) h23 ?_
              refine k_lv (lv' := [(3, gI v13)]) [2] rfl ?_
              exact hk v13 hT ⟨(by omega), (by first | assumption | omega), (by first | assumption | exact RUN_0 _ _ _ | exact RUN_s (by assumption) (by unfold bitS; omega) (by omega))⟩
          · replace hT := hT.trans (if_neg h20)
            refine k_if_ne_t (pc := 28) (tgt := 50) E (by omega) dX2_lastOf_28 (by decide) h20 ?_
            refine k_lv (lv' := [(3, gI v13)]) [2] rfl ?_
            exact hk v13 hT ⟨(by omega), (by first | assumption | omega), (by first | assumption | exact RUN_0 _ _ _ | exact RUN_s (by assumption) (by unfold bitS; omega) (by omega))⟩
        · replace hT := hT.trans (if_neg h17)
          refine k_icmp_ge_t (pc := 18) (tgt := 50) E (by omega) (by omega) dX2_lastOf_18 (by decide) h17 ?_
          refine k_lv (lv' := [(3, gI v13)]) [2] rfl ?_
          exact hk v13 hT ⟨(by omega), (by first | assumption | omega), (by first | assumption | exact RUN_0 _ _ _ | exact RUN_s (by assumption) (by unfold bitS; omega) (by omega))⟩
    refine k_lv (lv' := [(0, .ref (a 5)), (2, gI x1), (3, gI x0)]) [1, 3, 0] rfl ?_
    refine L14 17 x0 ⟨(by omega), (by first | assumption | omega), (by first | assumption | exact RUN_0 _ _ _ | exact RUN_s (by assumption) (by unfold bitS; omega) (by omega))⟩ (by omega) (fun v30 hw hq => ?_)
    obtain ⟨hq31, hq32, hq33⟩ := hq
    replace hT := gl1y hT hw
    refine k_iloadn (pc := 50) E 0 dX2_lastOf_50 rfl rfl ?_
    exact k_rho (congrArg (fun q => (q, s0)) hT) (k_iret (pc := 51) E dX2_lastOf_51 (by omega))
  · replace hT := hT.trans (if_neg h3)
    refine k_if_ne_t (pc := 10) (tgt := 50) E (by omega) dX2_lastOf_10 (by decide) h3 ?_
    refine k_iloadn (pc := 50) E 0 dX2_lastOf_50 rfl rfl ?_
    exact k_rho (congrArg (fun q => (q, s0)) hT) (k_iret (pc := 51) E dX2_lastOf_51 (by omega))

def f_X2_upAfter (x0 : Int) (x1 : Int) (x2 : Int) (s0 : gMem) : Int := (if (s0 64 0) = 0 then (x0 + x2) else (if (s0 64 0) = 1 then (x1 - x2) else (if (x2 % 2) = 1 then (((x0 + x1) / 2) + ((x2 + 1) / 2)) else (((x0 + x1) / 2) - (x2 / 2)))))
theorem f_X2_upAfter_e (x0 : Int) (x1 : Int) (x2 : Int) (s0 : gMem) : f_X2_upAfter x0 x1 x2 s0 = (if (s0 64 0) = 0 then (x0 + x2) else (if (s0 64 0) = 1 then (x1 - x2) else (if (x2 % 2) = 1 then (((x0 + x1) / 2) + ((x2 + 1) / 2)) else (((x0 + x1) / 2) - (x2 / 2))))) := rfl
set_option maxRecDepth 100000 in
set_option maxHeartbeats 4000000 in
theorem f_X2_upAfter_p (x0 : Int) (x1 : Int) (x2 : Int) (s0 : gMem) (hx0 : in32 x0) (hx1 : in32 x1) (hx2 : in32 x2) (hm_s0 : gMR lgX s0) (hpre0 : WY s0) (hpre1 : 0 ≤ x0 ∧ x0 ≤ x1 ∧ x1 ≤ 15) (hpre2 : 0 ≤ x2 ∧ x2 ≤ x1 - x0) : (in32 (f_X2_upAfter x0 x1 x2 s0)) ∧ (x0 ≤ (f_X2_upAfter x0 x1 x2 s0) ∧ (f_X2_upAfter x0 x1 x2 s0) ≤ x1) := by
  have hT := f_X2_upAfter_e x0 x1 x2 s0
  have hr1 := (hm_s0 64 0).1 rfl
  have hi2 := hpre0 0
  by_cases h3 : (s0 64 0) = 0
  · replace hT := hT.trans (if_pos h3)
    rw [hT]
    exact ⟨(by omega), (by first | assumption | omega)⟩
  · replace hT := hT.trans (if_neg h3)
    by_cases h4 : (s0 64 0) = 1
    · replace hT := hT.trans (if_pos h4)
      rw [hT]
      exact ⟨(by omega), (by first | assumption | omega)⟩
    · replace hT := hT.trans (if_neg h4)
      have hd5 : (0 : Int) ≤ (x0 + x1) := (by omega)
      have hd6 : (0 : Int) < 2 := (by omega)
      have hb7 := dv_rg hd5 hd6
      have hd8 : (0 : Int) ≤ x2 := (by omega)
      have hd9 : (0 : Int) < 2 := (by omega)
      have hb10 := rm_rg (x := x2) hd9
      by_cases h11 : (x2 % 2) = 1
      · replace hT := hT.trans (if_pos h11)
        have hd12 : (0 : Int) ≤ (x2 + 1) := (by omega)
        have hd13 : (0 : Int) < 2 := (by omega)
        have hb14 := dv_rg hd12 hd13
        rw [hT]
        exact ⟨(by omega), (by first | assumption | omega)⟩
      · replace hT := hT.trans (if_neg h11)
        have hd15 : (0 : Int) ≤ x2 := (by omega)
        have hd16 : (0 : Int) < 2 := (by omega)
        have hb17 := dv_rg hd15 hd16
        rw [hT]
        exact ⟨(by omega), (by first | assumption | omega)⟩
set_option maxRecDepth 100000 in
set_option maxHeartbeats 4000000 in
theorem c_X2_upAfter (l : Launch) (D : va_G) (a : Nat → Nat) (cI cJ cS cT : ClassId) (s0 : gMem) (x0 : Int) (x1 : Int) (x2 : Int) (hx0 : in32 x0) (hx1 : in32 x1) (hx2 : in32 x2) (hpre0 : WY s0) (hpre1 : 0 ≤ x0 ∧ x0 ≤ x1 ∧ x1 ≤ 15) (hpre2 : 0 ≤ x2 ∧ x2 ≤ x1 - x0) : gC l yX2_upAfter cX2_upAfter 5 (some .int) 1 64 D vwCl (gT cI cJ cS cT) (wdX a cI cJ cS cT) lgX kI in32 [.ref (a 5), gI x0, gI x1, gI x2] s0 ((f_X2_upAfter x0 x1 x2 s0), s0) := by
  refine gC_of (by decide +kernel) (hwdX a cI cJ cS cT) (Nat.le_of_ble_eq_true rfl) ?_
  intro A p e R s m args below meth c hR E
  subst hR
  have hT := f_X2_upAfter_e x0 x1 x2 s0
  refine k_lv0 (lv' := [(0, .ref (a 5)), (1, gI x0), (2, gI x1), (3, gI x2)]) rfl ?_
  refine k_mr (fun hm_s0 => ?_)
  refine k_aloadn (pc := 0) E 0 dX2_upAfter_0 rfl rfl ?_
  refine k_getfI (pc := 1) (q0 := 5) (f := 4) (k := 64) E inX2 rfl rfl (by decide) wm_179 rfl rfl rfl dX2_upAfter_1 (fun hr1 => ?_)
  have hi2 := hpre0 0
  by_cases h3 : (s0 64 0) = 0
  · replace hT := hT.trans (if_pos h3)
    refine k_lookup (pc := 4) (tgt := 32) (off := 28) E dX2_upAfter_4 (by omega) (by decide) (by rw [h3]; rfl) (by decide) ?_
    refine k_iloadn (pc := 32) E 1 dX2_upAfter_32 rfl rfl ?_
    refine k_iloadn (pc := 33) E 3 dX2_upAfter_33 rfl rfl ?_
    refine k_iadd (pc := 34) E dX2_upAfter_34 ?_
    exact k_rho (congrArg (fun q => (q, s0)) hT) (k_iret (pc := 35) E dX2_upAfter_35 (by omega))
  · replace hT := hT.trans (if_neg h3)
    by_cases h4 : (s0 64 0) = 1
    · replace hT := hT.trans (if_pos h4)
      refine k_lookup (pc := 4) (tgt := 36) (off := 32) E dX2_upAfter_4 (by omega) (by decide) (by rw [h4]; rfl) (by decide) ?_
      refine k_iloadn (pc := 36) E 2 dX2_upAfter_36 rfl rfl ?_
      refine k_iloadn (pc := 37) E 3 dX2_upAfter_37 rfl rfl ?_
      refine k_isub (pc := 38) E dX2_upAfter_38 ?_
      exact k_rho (congrArg (fun q => (q, s0)) hT) (k_iret (pc := 39) E dX2_upAfter_39 (by omega))
    · replace hT := hT.trans (if_neg h4)
      refine k_lookup (pc := 4) (tgt := 40) (off := 36) E dX2_upAfter_4 (by omega) (by decide) (by simp [Op.lookupswitch.offset] <;> repeat (first | rw [if_neg (by omega)] | rfl)) (by decide) ?_
      refine k_iloadn (pc := 40) E 1 dX2_upAfter_40 rfl rfl ?_
      refine k_iloadn (pc := 41) E 2 dX2_upAfter_41 rfl rfl ?_
      refine k_iadd (pc := 42) E dX2_upAfter_42 ?_
      refine k_iconst (pc := 43) E dX2_upAfter_43 ?_
      have hd5 : (0 : Int) ≤ (x0 + x1) := (by omega)
      have hd6 : (0 : Int) < 2 := (by omega)
      refine k_idivN (pc := 44) E (by omega) (by omega) hd5 hd6 dX2_upAfter_44 ?_
      have hb7 := dv_rg hd5 hd6
      refine k_istore (pc := 45) (lv' := [(4, gI ((x0 + x1) / 2)), (0, .ref (a 5)), (1, gI x0), (2, gI x1), (3, gI x2)]) E dX2_upAfter_45 (by decide) rfl ?_
      refine k_iloadn (pc := 47) E 4 dX2_upAfter_47 rfl rfl ?_
      refine k_iconst (pc := 48) E dX2_upAfter_48 ?_
      have hd8 : (0 : Int) ≤ x2 := (by omega)
      have hd9 : (0 : Int) < 2 := (by omega)
      refine k_iremN (pc := 49) E (by omega) (by omega) hd8 hd9 dX2_upAfter_49 ?_
      have hb10 := rm_rg (x := x2) hd9
      refine k_iconst (pc := 50) E dX2_upAfter_50 ?_
      by_cases h11 : (x2 % 2) = 1
      · replace hT := hT.trans (if_pos h11)
        refine k_icmp_ne_f (pc := 51) (tgt := 65) E (by omega) (by omega) dX2_upAfter_51 (by decide) h11 ?_
        refine k_iload (pc := 54) E 0 dX2_upAfter_54 rfl ?_
        refine k_iloadn (pc := 56) E 4 dX2_upAfter_56 rfl rfl ?_
        refine k_iconst (pc := 57) E dX2_upAfter_57 ?_
        refine k_iadd (pc := 58) E dX2_upAfter_58 ?_
        refine k_iconst (pc := 59) E dX2_upAfter_59 ?_
        have hd12 : (0 : Int) ≤ (x2 + 1) := (by omega)
        have hd13 : (0 : Int) < 2 := (by omega)
        refine k_idivN (pc := 60) E (by omega) (by omega) hd12 hd13 dX2_upAfter_60 ?_
        have hb14 := dv_rg hd12 hd13
        refine k_iadd (pc := 61) E dX2_upAfter_61 ?_
        refine k_goto (pc := 62) (tgt := 71) E dX2_upAfter_62 (by decide) ?_
        exact k_rho (congrArg (fun q => (q, s0)) hT) (k_iret (pc := 71) E dX2_upAfter_71 (by omega))
      · replace hT := hT.trans (if_neg h11)
        refine k_icmp_ne_t (pc := 51) (tgt := 65) E (by omega) (by omega) dX2_upAfter_51 (by decide) h11 ?_
        refine k_iload (pc := 65) E 0 dX2_upAfter_65 rfl ?_
        refine k_iloadn (pc := 67) E 4 dX2_upAfter_67 rfl rfl ?_
        refine k_iconst (pc := 68) E dX2_upAfter_68 ?_
        have hd15 : (0 : Int) ≤ x2 := (by omega)
        have hd16 : (0 : Int) < 2 := (by omega)
        refine k_idivN (pc := 69) E (by omega) (by omega) hd15 hd16 dX2_upAfter_69 ?_
        have hb17 := dv_rg hd15 hd16
        refine k_isub (pc := 70) E dX2_upAfter_70 ?_
        exact k_rho (congrArg (fun q => (q, s0)) hT) (k_iret (pc := 71) E dX2_upAfter_71 (by omega))

def w_X2_measure_17 (c1 : Int) : Nat → Int → gMem → Int × gMem
  | 0, v13, s14 => (v13, s14)
  | n15 + 1, v13, s14 => (if v13 < 16 then (if (f_X2_begins v13 c1 s14) = 0 then (w_X2_measure_17 c1 n15 (v13 + 1) s14) else gl (((f_X2_lastOf v13 c1 s14) - v13) + 1) (fun v27 => gl (mset s14 67 0 ((s14 67 0) + 1)) (fun s29 => (if (s29 65 0) < v27 then gl (mset s29 65 0 v27) (fun s35 => gl (mset s35 66 0 v13) (fun s39 => (w_X2_measure_17 c1 n15 (v13 + 1) s39))) else (w_X2_measure_17 c1 n15 (v13 + 1) s29))))) else (v13, s14))
theorem w_X2_measure_17_s (c1 : Int) (n15 : Nat) (v13 : Int) (s14 : gMem) : w_X2_measure_17 c1 (n15 + 1) v13 s14 = (if v13 < 16 then (if (f_X2_begins v13 c1 s14) = 0 then (w_X2_measure_17 c1 n15 (v13 + 1) s14) else gl (((f_X2_lastOf v13 c1 s14) - v13) + 1) (fun v27 => gl (mset s14 67 0 ((s14 67 0) + 1)) (fun s29 => (if (s29 65 0) < v27 then gl (mset s29 65 0 v27) (fun s35 => gl (mset s35 66 0 v13) (fun s39 => (w_X2_measure_17 c1 n15 (v13 + 1) s39))) else (w_X2_measure_17 c1 n15 (v13 + 1) s29))))) else (v13, s14)) := rfl
def f_X2_measure (x0 : Int) (s0 : gMem) : gRes := gl (mset s0 65 0 0) (fun s1 => gl (mset s1 66 0 (-1)) (fun s5 => gl (mset s5 67 0 0) (fun s9 => (gl2 (w_X2_measure_17 x0 17 0 s9) (fun v84 s85 => (0, s85))))))
theorem f_X2_measure_e (x0 : Int) (s0 : gMem) : f_X2_measure x0 s0 = gl (mset s0 65 0 0) (fun s1 => gl (mset s1 66 0 (-1)) (fun s5 => gl (mset s5 67 0 0) (fun s9 => (gl2 (w_X2_measure_17 x0 17 0 s9) (fun v84 s85 => (0, s85)))))) := rfl
set_option maxRecDepth 100000 in
set_option maxHeartbeats 4000000 in
theorem f_X2_measure_p (x0 : Int) (s0 : gMem) (hx0 : in32 x0) (hm_s0 : gMR lgX s0)  (rZ : Int) (sZ : gMem) (hres : f_X2_measure x0 s0 = (rZ, sZ)) : (fr [65, 66, 67] s0 sZ) ∧ (gMR lgX sZ) ∧ (True) := by
  have hT := f_X2_measure_e x0 s0
  have hf_s0 : fr [65, 66, 67] s0 s0 := fr.rf _ _
  obtain ⟨s1, hs1, hT⟩ := glx hT
  have hf_s1 : fr [65, 66, 67] s0 s1 := hs1 ▸ hf_s0.set (by decide)
  have hm_s1 : gMR lgX s1 := hs1 ▸ hm_s0.set32 rfl (by omega)
  have ht2 : s1 65 0 = 0 := by rw [hs1]; exact mset_eq _ _ _ _
  have ht3 : s1 66 0 = s0 66 0 := by rw [hs1]; exact mset_ne _ _ _ _ _ (by decide)
  have ht4 : s1 67 0 = s0 67 0 := by rw [hs1]; exact mset_ne _ _ _ _ _ (by decide)
  obtain ⟨s5, hs5, hT⟩ := glx hT
  have hf_s5 : fr [65, 66, 67] s0 s5 := hs5 ▸ hf_s1.set (by decide)
  have hm_s5 : gMR lgX s5 := hs5 ▸ hm_s1.set32 rfl (by omega)
  have ht6 : s5 65 0 = s1 65 0 := by rw [hs5]; exact mset_ne _ _ _ _ _ (by decide)
  have ht7 : s5 66 0 = (-1) := by rw [hs5]; exact mset_eq _ _ _ _
  have ht8 : s5 67 0 = s1 67 0 := by rw [hs5]; exact mset_ne _ _ _ _ _ (by decide)
  obtain ⟨s9, hs9, hT⟩ := glx hT
  have hf_s9 : fr [65, 66, 67] s0 s9 := hs9 ▸ hf_s5.set (by decide)
  have hm_s9 : gMR lgX s9 := hs9 ▸ hm_s5.set32 rfl (by omega)
  have ht10 : s9 65 0 = s5 65 0 := by rw [hs9]; exact mset_ne _ _ _ _ _ (by decide)
  have ht11 : s9 66 0 = s5 66 0 := by rw [hs9]; exact mset_ne _ _ _ _ _ (by decide)
  have ht12 : s9 67 0 = 0 := by rw [hs9]; exact mset_eq _ _ _ _
  have L45 : ∀ (n46 : Nat) (v43 : Int) (s44 : gMem), ((in32 v43) ∧ (fr [65, 66, 67] s0 s44) ∧ (gMR lgX s44) ∧ (0 ≤ v43 ∧ v43 ≤ 16) ∧ (0 ≤ s44 67 0 ∧ s44 67 0 ≤ v43) ∧ (0 ≤ s44 65 0 ∧ s44 65 0 ≤ 16)) → 16 - v43 < (n46 : Int) → (∀ (w47 : Int) (s48 : gMem), (w_X2_measure_17 x0 n46 v43 s44) = (w47, s48) → ((in32 w47) ∧ (fr [65, 66, 67] s0 s48) ∧ (gMR lgX s48) ∧ (0 ≤ w47 ∧ w47 ≤ 16) ∧ (0 ≤ s48 67 0 ∧ s48 67 0 ≤ w47) ∧ (0 ≤ s48 65 0 ∧ s48 65 0 ≤ 16)) → (fr [65, 66, 67] s0 sZ) ∧ (gMR lgX sZ) ∧ (True)) → (fr [65, 66, 67] s0 sZ) ∧ (gMR lgX sZ) ∧ (True) := by
    intro n46; induction n46 with
    | zero =>
      intro v43 s44 hq hm hk
      exfalso
      obtain ⟨hq76, hf_s44, hm_s44, hq77, hq78, hq79⟩ := hq
      omega
    | succ n46 ih =>
      intro v43 s44 hq hm hk
      obtain ⟨hq80, hf_s44, hm_s44, hq81, hq82, hq83⟩ := hq
      have hT := w_X2_measure_17_s x0 n46 v43 s44
      by_cases h49 : v43 < 16
      · replace hT := hT.trans (if_pos h49)
        have hp51 := f_X2_begins_p v43 x0 s44 (by omega) (by omega) hm_s44 (by first | assumption | omega)
        try simp only [hf_s44 40 (by decide)] at hp51
        obtain ⟨hp52, hp53⟩ := hp51
        by_cases h54 : (f_X2_begins v43 x0 s44) = 0
        · replace hT := hT.trans (if_pos h54)
          exact ih (v43 + 1) s44 ⟨(by omega), hf_s44, hm_s44, (by first | assumption | omega), (by first | assumption | omega), (by first | assumption | omega)⟩ (by omega) (fun w47 s48 hw hi => hk w47 s48 (hT.trans hw) hi)
        · replace hT := hT.trans (if_neg h54)
          have hp56 := f_X2_lastOf_p v43 x0 s44 (by omega) (by omega) hm_s44 (by first | assumption | omega)
          try simp only [hf_s44 40 (by decide)] at hp56
          obtain ⟨hp57, hp58, hp59⟩ := hp56
          obtain ⟨v60, hv60, hT⟩ := glx hT
          have hr61 := (hm_s44 67 0).1 rfl
          obtain ⟨s62, hs62, hT⟩ := glx hT
          have hf_s62 : fr [65, 66, 67] s0 s62 := hs62 ▸ hf_s44.set (by decide)
          have hm_s62 : gMR lgX s62 := hs62 ▸ hm_s44.set32 rfl (by omega)
          have ht63 : s62 65 0 = s44 65 0 := by rw [hs62]; exact mset_ne _ _ _ _ _ (by decide)
          have ht64 : s62 66 0 = s44 66 0 := by rw [hs62]; exact mset_ne _ _ _ _ _ (by decide)
          have ht65 : s62 67 0 = ((s44 67 0) + 1) := by rw [hs62]; exact mset_eq _ _ _ _
          have hr66 := (hm_s62 65 0).1 rfl
          by_cases h67 : (s62 65 0) < v60
          · replace hT := hT.trans (if_pos h67)
            obtain ⟨s68, hs68, hT⟩ := glx hT
            have hf_s68 : fr [65, 66, 67] s0 s68 := hs68 ▸ hf_s62.set (by decide)
            have hm_s68 : gMR lgX s68 := hs68 ▸ hm_s62.set32 rfl (by omega)
            have ht69 : s68 65 0 = v60 := by rw [hs68]; exact mset_eq _ _ _ _
            have ht70 : s68 66 0 = s62 66 0 := by rw [hs68]; exact mset_ne _ _ _ _ _ (by decide)
            have ht71 : s68 67 0 = s62 67 0 := by rw [hs68]; exact mset_ne _ _ _ _ _ (by decide)
            obtain ⟨s72, hs72, hT⟩ := glx hT
            have hf_s72 : fr [65, 66, 67] s0 s72 := hs72 ▸ hf_s68.set (by decide)
            have hm_s72 : gMR lgX s72 := hs72 ▸ hm_s68.set32 rfl (by omega)
            have ht73 : s72 65 0 = s68 65 0 := by rw [hs72]; exact mset_ne _ _ _ _ _ (by decide)
            have ht74 : s72 66 0 = v43 := by rw [hs72]; exact mset_eq _ _ _ _
            have ht75 : s72 67 0 = s68 67 0 := by rw [hs72]; exact mset_ne _ _ _ _ _ (by decide)
            exact ih (v43 + 1) s72 ⟨(by omega), hf_s72, hm_s72, (by first | assumption | omega), (by first | assumption | omega), (by first | assumption | omega)⟩ (by omega) (fun w47 s48 hw hi => hk w47 s48 (hT.trans hw) hi)
          · replace hT := hT.trans (if_neg h67)
            exact ih (v43 + 1) s62 ⟨(by omega), hf_s62, hm_s62, (by first | assumption | omega), (by first | assumption | omega), (by first | assumption | omega)⟩ (by omega) (fun w47 s48 hw hi => hk w47 s48 (hT.trans hw) hi)
      · replace hT := hT.trans (if_neg h49)
        exact hk v43 s44 hT ⟨(by omega), hf_s44, hm_s44, (by first | assumption | omega), (by first | assumption | omega), (by first | assumption | omega)⟩
  refine L45 17 0 s9 ⟨(by omega), hf_s9, hm_s9, (by first | assumption | omega), (by first | assumption | omega), (by first | assumption | omega)⟩ (by omega) (fun v84 s85 hw hq => ?_)
  obtain ⟨hq86, hf_s85, hm_s85, hq87, hq88, hq89⟩ := hq
  replace hT := gl2y hT hw
  obtain ⟨rfl, rfl⟩ := Prod.mk.inj (hT.symm.trans hres)
  exact ⟨hf_s85, hm_s85, trivial⟩
set_option maxRecDepth 100000 in
set_option maxHeartbeats 4000000 in
theorem c_X2_measure (l : Launch) (D : va_G) (a : Nat → Nat) (cI cJ cS cT : ClassId) (s0 : gMem) (x0 : Int) (hx0 : in32 x0)  : gC l yX2_measure cX2_measure 4 none 3 192 D vwCl (gT cI cJ cS cT) (wdX a cI cJ cS cT) lgX kV rgV [.ref (a 5), gI x0] s0 (f_X2_measure x0 s0) := by
  refine gC_of (by decide +kernel) (hwdX a cI cJ cS cT) (Nat.le_of_ble_eq_true rfl) ?_
  intro A p e R s m args below meth c hR E
  subst hR
  have hT := f_X2_measure_e x0 s0
  have hf_s0 : fr [65, 66, 67] s0 s0 := fr.rf _ _
  refine k_lv0 (lv' := [(0, .ref (a 5)), (1, gI x0)]) rfl ?_
  refine k_mr (fun hm_s0 => ?_)
  refine k_aloadn (pc := 0) E 0 dX2_measure_0 rfl rfl ?_
  refine k_iconst (pc := 1) E dX2_measure_1 ?_
  refine k_putfI (pc := 2) (q0 := 5) (f := 5) (k := 65) E tyX2 tyX2_ok nmX2 inX2 rfl rfl (by decide) wm_180 rfl rfl rfl (Nat.le_of_ble_eq_true rfl) rfl rfl (by omega) dX2_measure_2 ?_
  obtain ⟨s1, hs1, hT⟩ := glx hT
  refine k_sg hs1.symm ?_
  have hf_s1 : fr [65, 66, 67] s0 s1 := hs1 ▸ hf_s0.set (by decide)
  have ht2 : s1 65 0 = 0 := by rw [hs1]; exact mset_eq _ _ _ _
  have ht3 : s1 66 0 = s0 66 0 := by rw [hs1]; exact mset_ne _ _ _ _ _ (by decide)
  have ht4 : s1 67 0 = s0 67 0 := by rw [hs1]; exact mset_ne _ _ _ _ _ (by decide)
  refine k_aloadn (pc := 5) E 0 dX2_measure_5 rfl rfl ?_
  refine k_iconst (pc := 6) E dX2_measure_6 ?_
  refine k_putfI (pc := 7) (q0 := 5) (f := 6) (k := 66) E tyX2 tyX2_ok nmX2 inX2 rfl rfl (by decide) wm_182 rfl rfl rfl (Nat.le_of_ble_eq_true rfl) rfl rfl (by omega) dX2_measure_7 ?_
  obtain ⟨s5, hs5, hT⟩ := glx hT
  refine k_sg hs5.symm ?_
  have hf_s5 : fr [65, 66, 67] s0 s5 := hs5 ▸ hf_s1.set (by decide)
  have ht6 : s5 65 0 = s1 65 0 := by rw [hs5]; exact mset_ne _ _ _ _ _ (by decide)
  have ht7 : s5 66 0 = (-1) := by rw [hs5]; exact mset_eq _ _ _ _
  have ht8 : s5 67 0 = s1 67 0 := by rw [hs5]; exact mset_ne _ _ _ _ _ (by decide)
  refine k_aloadn (pc := 10) E 0 dX2_measure_10 rfl rfl ?_
  refine k_iconst (pc := 11) E dX2_measure_11 ?_
  refine k_putfI (pc := 12) (q0 := 5) (f := 7) (k := 67) E tyX2 tyX2_ok nmX2 inX2 rfl rfl (by decide) wm_184 rfl rfl rfl (Nat.le_of_ble_eq_true rfl) rfl rfl (by omega) dX2_measure_12 ?_
  obtain ⟨s9, hs9, hT⟩ := glx hT
  refine k_sg hs9.symm ?_
  have hf_s9 : fr [65, 66, 67] s0 s9 := hs9 ▸ hf_s5.set (by decide)
  have ht10 : s9 65 0 = s5 65 0 := by rw [hs9]; exact mset_ne _ _ _ _ _ (by decide)
  have ht11 : s9 66 0 = s5 66 0 := by rw [hs9]; exact mset_ne _ _ _ _ _ (by decide)
  have ht12 : s9 67 0 = 0 := by rw [hs9]; exact mset_eq _ _ _ _
  refine k_iconst (pc := 15) E dX2_measure_15 ?_
  refine k_istoren (pc := 16) (lv' := [(2, gI 0), (0, .ref (a 5)), (1, gI x0)]) E dX2_measure_16 rfl (by decide) rfl ?_
  have L45 : ∀ (n46 : Nat) (v43 : Int) (s44 : gMem), ((in32 v43) ∧ (fr [65, 66, 67] s0 s44) ∧ (0 ≤ v43 ∧ v43 ≤ 16) ∧ (0 ≤ s44 67 0 ∧ s44 67 0 ≤ v43) ∧ (0 ≤ s44 65 0 ∧ s44 65 0 ≤ 16)) → 16 - v43 < (n46 : Int) → (∀ (w47 : Int) (s48 : gMem), (w_X2_measure_17 x0 n46 v43 s44) = (w47, s48) → ((in32 w47) ∧ (fr [65, 66, 67] s0 s48) ∧ (0 ≤ w47 ∧ w47 ≤ 16) ∧ (0 ≤ s48 67 0 ∧ s48 67 0 ≤ w47) ∧ (0 ≤ s48 65 0 ∧ s48 65 0 ≤ 16)) → gK D vwCl (wdX a cI cJ cS cT) lgX A p l e { frames := 3, cells := 0, slots := 0, locals := 192 } s m args below meth c 4 (gQQ D vwCl (wdX a cI cJ cS cT) lgX A kV rgV below args s) (f_X2_measure x0 s0) s48 77 [] []) → gK D vwCl (wdX a cI cJ cS cT) lgX A p l e { frames := 3, cells := 0, slots := 0, locals := 192 } s m args below meth c 4 (gQQ D vwCl (wdX a cI cJ cS cT) lgX A kV rgV below args s) (f_X2_measure x0 s0) s44 17 [(0, .ref (a 5)), (1, gI x0), (2, gI v43)] [] := by
    intro n46; induction n46 with
    | zero =>
      intro v43 s44 hq hm hk
      exfalso
      obtain ⟨hq76, hf_s44, hq77, hq78, hq79⟩ := hq
      omega
    | succ n46 ih =>
      intro v43 s44 hq hm hk
      obtain ⟨hq80, hf_s44, hq81, hq82, hq83⟩ := hq
      have hT := w_X2_measure_17_s x0 n46 v43 s44
      refine k_iloadn (pc := 17) E 2 dX2_measure_17 rfl rfl ?_
      refine k_bipush (pc := 18) E dX2_measure_18 (by decide) ?_
      by_cases h49 : v43 < 16
      · replace hT := hT.trans (if_pos h49)
        refine k_icmp_ge_f (pc := 20) (tgt := 77) E (by omega) (by omega) dX2_measure_20 (by decide) h49 ?_
        refine k_aloadn (pc := 23) E 0 dX2_measure_23 rfl rfl ?_
        refine k_iloadn (pc := 24) E 2 dX2_measure_24 rfl rfl ?_
        refine k_iloadn (pc := 25) E 1 dX2_measure_25 rfl rfl ?_
        refine k_mr (fun hm_s44 => ?_)
        refine k_callV (pc := 26) (np := 2) (As := [gI v43, gI x0]) (st := []) (q0 := 5) E (c_X2_begins l D a cI cJ cS cT s44 v43 x0 (by omega) (by omega) (by first | assumption | omega)) wm_549 wm_7 wm_546 wm_548 wp_16 (by decide +kernel) rfl rfl ⟨by decide, by decide⟩ rfl (Nat.le_of_ble_eq_true rfl) dX2_measure_26 (ro_kk (fun hr50 => ?_))
        have hp51 := f_X2_begins_p v43 x0 s44 (by omega) (by omega) hm_s44 (by first | assumption | omega)
        try simp only [hf_s44 40 (by decide)] at hp51
        obtain ⟨hp52, hp53⟩ := hp51
        refine k_st (st' := [gI (f_X2_begins v43 x0 s44)]) rfl ?_
        by_cases h54 : (f_X2_begins v43 x0 s44) = 0
        · replace hT := hT.trans (if_pos h54)
          refine k_if_eq_t (pc := 29) (tgt := 71) E (by omega) dX2_measure_29 (by decide) h54 ?_
          refine k_iinc (pc := 71) (lv' := [(2, gI (v43 + 1)), (0, .ref (a 5)), (1, gI x0)]) E 2 dX2_measure_71 rfl (by decide) rfl ?_
          refine k_goto (pc := 74) (tgt := 17) E dX2_measure_74 (by decide) ?_
          refine k_lv (lv' := [(0, .ref (a 5)), (1, gI x0), (2, gI (v43 + 1))]) [1, 2, 0] rfl ?_
          exact ih (v43 + 1) s44 ⟨(by omega), hf_s44, (by first | assumption | omega), (by first | assumption | omega), (by first | assumption | omega)⟩ (by omega) (fun w47 s48 hw hi => hk w47 s48 (hT.trans hw) hi)
        · replace hT := hT.trans (if_neg h54)
          refine k_if_eq_f (pc := 29) (tgt := 71) E (by omega) dX2_measure_29 (by decide) h54 ?_
          refine k_aloadn (pc := 32) E 0 dX2_measure_32 rfl rfl ?_
          refine k_iloadn (pc := 33) E 2 dX2_measure_33 rfl rfl ?_
          refine k_iloadn (pc := 34) E 1 dX2_measure_34 rfl rfl ?_
          refine k_mr (fun hm_s44 => ?_)
          refine k_callV (pc := 35) (np := 2) (As := [gI v43, gI x0]) (st := []) (q0 := 5) E (c_X2_lastOf l D a cI cJ cS cT s44 v43 x0 (by omega) (by omega) (by first | assumption | omega)) wm_557 wm_7 wm_554 wm_556 wp_17 (by decide +kernel) rfl rfl ⟨by decide, by decide⟩ rfl (Nat.le_of_ble_eq_true rfl) dX2_measure_35 (ro_kk (fun hr55 => ?_))
          have hp56 := f_X2_lastOf_p v43 x0 s44 (by omega) (by omega) hm_s44 (by first | assumption | omega)
          try simp only [hf_s44 40 (by decide)] at hp56
          obtain ⟨hp57, hp58, hp59⟩ := hp56
          refine k_st (st' := [gI (f_X2_lastOf v43 x0 s44)]) rfl ?_
          refine k_iloadn (pc := 38) E 2 dX2_measure_38 rfl rfl ?_
          refine k_isub (pc := 39) E dX2_measure_39 ?_
          refine k_iconst (pc := 40) E dX2_measure_40 ?_
          refine k_iadd (pc := 41) E dX2_measure_41 ?_
          obtain ⟨v60, hv60, hT⟩ := glx hT
          refine k_st (st' := [gI v60]) (by rw [hv60]) ?_
          refine k_istoren (pc := 42) (lv' := [(3, gI v60), (0, .ref (a 5)), (1, gI x0), (2, gI v43)]) E dX2_measure_42 rfl (by decide) rfl ?_
          refine k_aloadn (pc := 43) E 1 dX2_measure_43 rfl rfl ?_
          refine k_dup (pc := 44) E dX2_measure_44 rfl ?_
          refine k_getfI (pc := 45) (q0 := 5) (f := 7) (k := 67) E inX2 rfl rfl (by decide) wm_184 rfl rfl rfl dX2_measure_45 (fun hr61 => ?_)
          refine k_iconst (pc := 48) E dX2_measure_48 ?_
          refine k_iadd (pc := 49) E dX2_measure_49 ?_
          refine k_putfI (pc := 50) (q0 := 5) (f := 7) (k := 67) E tyX2 tyX2_ok nmX2 inX2 rfl rfl (by decide) wm_184 rfl rfl rfl (Nat.le_of_ble_eq_true rfl) rfl rfl (by omega) dX2_measure_50 ?_
          obtain ⟨s62, hs62, hT⟩ := glx hT
          refine k_sg hs62.symm ?_
          have hf_s62 : fr [65, 66, 67] s0 s62 := hs62 ▸ hf_s44.set (by decide)
          have ht63 : s62 65 0 = s44 65 0 := by rw [hs62]; exact mset_ne _ _ _ _ _ (by decide)
          have ht64 : s62 66 0 = s44 66 0 := by rw [hs62]; exact mset_ne _ _ _ _ _ (by decide)
          have ht65 : s62 67 0 = ((s44 67 0) + 1) := by rw [hs62]; exact mset_eq _ _ _ _
          refine k_iloadn (pc := 53) E 0 dX2_measure_53 rfl rfl ?_
          refine k_aloadn (pc := 54) E 1 dX2_measure_54 rfl rfl ?_
          refine k_getfI (pc := 55) (q0 := 5) (f := 5) (k := 65) E inX2 rfl rfl (by decide) wm_180 rfl rfl rfl dX2_measure_55 (fun hr66 => ?_)
          by_cases h67 : (s62 65 0) < v60
          · replace hT := hT.trans (if_pos h67)
            refine k_icmp_le_f (pc := 58) (tgt := 71) E (by omega) (by omega) dX2_measure_58 (by decide) h67 ?_
            refine k_aloadn (pc := 61) E 1 dX2_measure_61 rfl rfl ?_
            refine k_iloadn (pc := 62) E 0 dX2_measure_62 rfl rfl ?_
            refine k_putfI (pc := 63) (q0 := 5) (f := 5) (k := 65) E tyX2 tyX2_ok nmX2 inX2 rfl rfl (by decide) wm_180 rfl rfl rfl (Nat.le_of_ble_eq_true rfl) rfl rfl (by omega) dX2_measure_63 ?_
            obtain ⟨s68, hs68, hT⟩ := glx hT
            refine k_sg hs68.symm ?_
            have hf_s68 : fr [65, 66, 67] s0 s68 := hs68 ▸ hf_s62.set (by decide)
            have ht69 : s68 65 0 = v60 := by rw [hs68]; exact mset_eq _ _ _ _
            have ht70 : s68 66 0 = s62 66 0 := by rw [hs68]; exact mset_ne _ _ _ _ _ (by decide)
            have ht71 : s68 67 0 = s62 67 0 := by rw [hs68]; exact mset_ne _ _ _ _ _ (by decide)
            refine k_aloadn (pc := 66) E 1 dX2_measure_66 rfl rfl ?_
            refine k_iloadn (pc := 67) E 3 dX2_measure_67 rfl rfl ?_
            refine k_putfI (pc := 68) (q0 := 5) (f := 6) (k := 66) E tyX2 tyX2_ok nmX2 inX2 rfl rfl (by decide) wm_182 rfl rfl rfl (Nat.le_of_ble_eq_true rfl) rfl rfl (by omega) dX2_measure_68 ?_
            obtain ⟨s72, hs72, hT⟩ := glx hT
            refine k_sg hs72.symm ?_
            have hf_s72 : fr [65, 66, 67] s0 s72 := hs72 ▸ hf_s68.set (by decide)
            have ht73 : s72 65 0 = s68 65 0 := by rw [hs72]; exact mset_ne _ _ _ _ _ (by decide)
            have ht74 : s72 66 0 = v43 := by rw [hs72]; exact mset_eq _ _ _ _
            have ht75 : s72 67 0 = s68 67 0 := by rw [hs72]; exact mset_ne _ _ _ _ _ (by decide)
            refine k_iinc (pc := 71) (lv' := [(2, gI (v43 + 1)), (3, gI v60), (0, .ref (a 5)), (1, gI x0)]) E 3 dX2_measure_71 rfl (by decide) rfl ?_
            refine k_goto (pc := 74) (tgt := 17) E dX2_measure_74 (by decide) ?_
            refine k_lv (lv' := [(0, .ref (a 5)), (1, gI x0), (2, gI (v43 + 1))]) [2, 3, 0] rfl ?_
            exact ih (v43 + 1) s72 ⟨(by omega), hf_s72, (by first | assumption | omega), (by first | assumption | omega), (by first | assumption | omega)⟩ (by omega) (fun w47 s48 hw hi => hk w47 s48 (hT.trans hw) hi)
          · replace hT := hT.trans (if_neg h67)
            refine k_icmp_le_t (pc := 58) (tgt := 71) E (by omega) (by omega) dX2_measure_58 (by decide) h67 ?_
            refine k_iinc (pc := 71) (lv' := [(2, gI (v43 + 1)), (3, gI v60), (0, .ref (a 5)), (1, gI x0)]) E 3 dX2_measure_71 rfl (by decide) rfl ?_
            refine k_goto (pc := 74) (tgt := 17) E dX2_measure_74 (by decide) ?_
            refine k_lv (lv' := [(0, .ref (a 5)), (1, gI x0), (2, gI (v43 + 1))]) [2, 3, 0] rfl ?_
            exact ih (v43 + 1) s62 ⟨(by omega), hf_s62, (by first | assumption | omega), (by first | assumption | omega), (by first | assumption | omega)⟩ (by omega) (fun w47 s48 hw hi => hk w47 s48 (hT.trans hw) hi)
      · replace hT := hT.trans (if_neg h49)
        refine k_icmp_ge_t (pc := 20) (tgt := 77) E (by omega) (by omega) dX2_measure_20 (by decide) h49 ?_
        refine k_lv (lv' := []) [] rfl ?_
        exact hk v43 s44 hT ⟨(by omega), hf_s44, (by first | assumption | omega), (by first | assumption | omega), (by first | assumption | omega)⟩
  refine k_lv (lv' := [(0, .ref (a 5)), (1, gI x0), (2, gI 0)]) [1, 2, 0] rfl ?_
  refine L45 17 0 s9 ⟨(by omega), hf_s9, (by first | assumption | omega), (by first | assumption | omega), (by first | assumption | omega)⟩ (by omega) (fun v84 s85 hw hq => ?_)
  obtain ⟨hq86, hf_s85, hq87, hq88, hq89⟩ := hq
  replace hT := gl2y hT hw
  exact k_rho hT (k_vret (pc := 77) E dX2_measure_77)

def f_X8_stretch (x0 : Int) (x1 : Int) (s0 : gMem) : gRes := (if (f_X8_outside x0 65536) = 0 then gb (f_X2_measure x0 s0) (fun r5 s6 => (if x1 = 0 then ((s6 65 0), s6) else (if x1 = 1 then ((s6 66 0), s6) else (if x1 = 2 then ((s6 67 0), s6) else ((-2), s6))))) else ((-2), s0))
theorem f_X8_stretch_e (x0 : Int) (x1 : Int) (s0 : gMem) : f_X8_stretch x0 x1 s0 = (if (f_X8_outside x0 65536) = 0 then gb (f_X2_measure x0 s0) (fun r5 s6 => (if x1 = 0 then ((s6 65 0), s6) else (if x1 = 1 then ((s6 66 0), s6) else (if x1 = 2 then ((s6 67 0), s6) else ((-2), s6))))) else ((-2), s0)) := rfl
set_option maxRecDepth 100000 in
set_option maxHeartbeats 4000000 in
theorem f_X8_stretch_p (x0 : Int) (x1 : Int) (s0 : gMem) (hx0 : in32 x0) (hx1 : in32 x1) (hm_s0 : gMR lgX s0)  (rZ : Int) (sZ : gMem) (hres : f_X8_stretch x0 x1 s0 = (rZ, sZ)) : (fr [65, 66, 67] s0 sZ) ∧ (gMR lgX sZ) ∧ (in32 rZ) := by
  have hT := f_X8_stretch_e x0 x1 s0
  have hf_s0 : fr [65, 66, 67] s0 s0 := fr.rf _ _
  have hp2 := f_X8_outside_p x0 65536 (by omega) (by omega) 
  by_cases h3 : (f_X8_outside x0 65536) = 0
  · replace hT := hT.trans (if_pos h3)
    obtain ⟨r5, s6, hs6⟩ : ∃ rr ss, (f_X2_measure x0 s0) = (rr, ss) := ⟨_, _, rfl⟩
    replace hT := gby hT hs6
    have hp7 := f_X2_measure_p x0 s0 (by omega) hm_s0  r5 s6 hs6
    obtain ⟨hfc_s6, hm_s6, hp8⟩ := hp7
    have hf_s6 : fr [65, 66, 67] s0 s6 := hf_s0.call (by decide) hfc_s6
    by_cases h9 : x1 = 0
    · replace hT := hT.trans (if_pos h9)
      have hr12 := (hm_s6 65 0).1 rfl
      obtain ⟨rfl, rfl⟩ := Prod.mk.inj (hT.symm.trans hres)
      exact ⟨hf_s6, hm_s6, (by omega)⟩
    · replace hT := hT.trans (if_neg h9)
      by_cases h10 : x1 = 1
      · replace hT := hT.trans (if_pos h10)
        have hr13 := (hm_s6 66 0).1 rfl
        obtain ⟨rfl, rfl⟩ := Prod.mk.inj (hT.symm.trans hres)
        exact ⟨hf_s6, hm_s6, (by omega)⟩
      · replace hT := hT.trans (if_neg h10)
        by_cases h11 : x1 = 2
        · replace hT := hT.trans (if_pos h11)
          have hr14 := (hm_s6 67 0).1 rfl
          obtain ⟨rfl, rfl⟩ := Prod.mk.inj (hT.symm.trans hres)
          exact ⟨hf_s6, hm_s6, (by omega)⟩
        · replace hT := hT.trans (if_neg h11)
          obtain ⟨rfl, rfl⟩ := Prod.mk.inj (hT.symm.trans hres)
          exact ⟨hf_s6, hm_s6, (by omega)⟩
  · replace hT := hT.trans (if_neg h3)
    obtain ⟨rfl, rfl⟩ := Prod.mk.inj (hT.symm.trans hres)
    exact ⟨hf_s0, hm_s0, (by omega)⟩
set_option maxRecDepth 100000 in
set_option maxHeartbeats 4000000 in
theorem c_X8_stretch (l : Launch) (D : va_G) (a : Nat → Nat) (cI cJ cS cT : ClassId) (s0 : gMem) (x0 : Int) (x1 : Int) (hx0 : in32 x0) (hx1 : in32 x1)  : gC l yX8_stretch cX8_stretch 3 (some .int) 4 256 D vwCl (gT cI cJ cS cT) (wdX a cI cJ cS cT) lgX kI in32 [.ref (a 0), gI x0, gI x1] s0 (f_X8_stretch x0 x1 s0) := by
  refine gC_of (by decide +kernel) (hwdX a cI cJ cS cT) (Nat.le_of_ble_eq_true rfl) ?_
  intro A p e R s m args below meth c hR E
  subst hR
  have hT := f_X8_stretch_e x0 x1 s0
  have hf_s0 : fr [65, 66, 67] s0 s0 := fr.rf _ _
  refine k_lv0 (lv' := [(0, .ref (a 0)), (1, gI x0), (2, gI x1)]) rfl ?_
  refine k_mr (fun hm_s0 => ?_)
  refine k_iloadn (pc := 0) E 1 dX8_stretch_0 rfl rfl ?_
  refine k_ldc (pc := 1) (n := 65536) E dX8_stretch_1 wm_311 (by decide) ?_
  refine k_mr (fun hm_s0 => ?_)
  refine k_callS (pc := 3) (np := 2) (As := [gI x0, gI 65536]) (st := []) E (c_X8_outside l D a cI cJ cS cT s0 x0 65536 (by omega) (by omega)) wm_310 wm_1 wm_308 wm_309 (by decide +kernel) ⟨by decide, by decide⟩ rfl (Nat.le_of_ble_eq_true rfl) dX8_stretch_3 (ro_kk (fun hr1 => ?_))
  have hp2 := f_X8_outside_p x0 65536 (by omega) (by omega) 
  refine k_st (st' := [gI (f_X8_outside x0 65536)]) rfl ?_
  by_cases h3 : (f_X8_outside x0 65536) = 0
  · replace hT := hT.trans (if_pos h3)
    refine k_if_eq_t (pc := 6) (tgt := 12) E (by omega) dX8_stretch_6 (by decide) h3 ?_
    refine k_aloadn (pc := 12) E 0 dX8_stretch_12 rfl rfl ?_
    refine k_getf (pc := 13) (q0 := 0) (f := 3) (v := .ref (a 5)) E inX8 rfl rfl (by decide) wm_275 rfl rfl dX8_stretch_13 ?_
    refine k_iloadn (pc := 16) E 1 dX8_stretch_16 rfl rfl ?_
    refine k_mr (fun hm_s0 => ?_)
    refine k_callV (pc := 17) (np := 1) (As := [gI x0]) (st := []) (q0 := 5) E (c_X2_measure l D a cI cJ cS cT s0 x0 (by omega)) wm_545 wm_7 wm_542 wm_543 wm_544 (by decide +kernel) rfl rfl ⟨by decide, by decide⟩ rfl (Nat.le_of_ble_eq_true rfl) dX8_stretch_17 (fun r5 s6 hs6 hr4 => ?_)
    replace hT := gby hT hs6
    have hp7 := f_X2_measure_p x0 s0 (by omega) hm_s0  r5 s6 hs6
    obtain ⟨hfc_s6, hm_s6, hp8⟩ := hp7
    have hf_s6 : fr [65, 66, 67] s0 s6 := hf_s0.call (by decide) hfc_s6
    refine k_st (st' := []) rfl ?_
    refine k_iloadn (pc := 20) E 2 dX8_stretch_20 rfl rfl ?_
    by_cases h9 : x1 = 0
    · replace hT := hT.trans (if_pos h9)
      refine k_tabIn (pc := 21) (tgt := 48) E dX8_stretch_21 (by omega) (by omega) (by omega) (by rw [h9]; rfl) (by decide) ?_
      refine k_aloadn (pc := 48) E 0 dX8_stretch_48 rfl rfl ?_
      refine k_getf (pc := 49) (q0 := 0) (f := 3) (v := .ref (a 5)) E inX8 rfl rfl (by decide) wm_275 rfl rfl dX8_stretch_49 ?_
      refine k_getfI (pc := 52) (q0 := 5) (f := 5) (k := 65) E inX2 rfl rfl (by decide) wm_181 rfl rfl rfl dX8_stretch_52 (fun hr12 => ?_)
      exact k_rho hT (k_iret (pc := 55) E dX8_stretch_55 (by omega))
    · replace hT := hT.trans (if_neg h9)
      by_cases h10 : x1 = 1
      · replace hT := hT.trans (if_pos h10)
        refine k_tabIn (pc := 21) (tgt := 56) E dX8_stretch_21 (by omega) (by omega) (by omega) (by rw [h10]; rfl) (by decide) ?_
        refine k_aloadn (pc := 56) E 0 dX8_stretch_56 rfl rfl ?_
        refine k_getf (pc := 57) (q0 := 0) (f := 3) (v := .ref (a 5)) E inX8 rfl rfl (by decide) wm_275 rfl rfl dX8_stretch_57 ?_
        refine k_getfI (pc := 60) (q0 := 5) (f := 6) (k := 66) E inX2 rfl rfl (by decide) wm_183 rfl rfl rfl dX8_stretch_60 (fun hr13 => ?_)
        exact k_rho hT (k_iret (pc := 63) E dX8_stretch_63 (by omega))
      · replace hT := hT.trans (if_neg h10)
        by_cases h11 : x1 = 2
        · replace hT := hT.trans (if_pos h11)
          refine k_tabIn (pc := 21) (tgt := 64) E dX8_stretch_21 (by omega) (by omega) (by omega) (by rw [h11]; rfl) (by decide) ?_
          refine k_aloadn (pc := 64) E 0 dX8_stretch_64 rfl rfl ?_
          refine k_getf (pc := 65) (q0 := 0) (f := 3) (v := .ref (a 5)) E inX8 rfl rfl (by decide) wm_275 rfl rfl dX8_stretch_65 ?_
          refine k_getfI (pc := 68) (q0 := 5) (f := 7) (k := 67) E inX2 rfl rfl (by decide) wm_185 rfl rfl rfl dX8_stretch_68 (fun hr14 => ?_)
          exact k_rho hT (k_iret (pc := 71) E dX8_stretch_71 (by omega))
        · replace hT := hT.trans (if_neg h11)
          refine k_tabOut (pc := 21) (tgt := 72) E dX8_stretch_21 (by omega) (by omega) (by decide) ?_
          refine k_bipush (pc := 72) E dX8_stretch_72 (by decide) ?_
          exact k_rho hT (k_iret (pc := 74) E dX8_stretch_74 (by omega))
  · replace hT := hT.trans (if_neg h3)
    refine k_if_eq_f (pc := 6) (tgt := 12) E (by omega) dX8_stretch_6 (by decide) h3 ?_
    refine k_bipush (pc := 9) E dX8_stretch_9 (by decide) ?_
    exact k_rho hT (k_iret (pc := 11) E dX8_stretch_11 (by omega))

def f_X2_capped (x0 : Int) : Int := (lmin x0 1000000000000)
theorem f_X2_capped_e (x0 : Int) : f_X2_capped x0 = (lmin x0 1000000000000) := rfl
set_option maxRecDepth 100000 in
set_option maxHeartbeats 4000000 in
theorem f_X2_capped_p (x0 : Int) (hx0 : in64 x0)  : (in64 (f_X2_capped x0)) ∧ (((f_X2_capped x0) = x0 ∧ x0 ≤ 1000000000000) ∨ ((f_X2_capped x0) = 1000000000000 ∧ 1000000000000 ≤ x0)) := by
  have hT := f_X2_capped_e x0
  have hp1 := lmin_p x0 1000000000000
  rw [hT]
  exact ⟨(by omega), (by first | assumption | omega)⟩
set_option maxRecDepth 100000 in
set_option maxHeartbeats 4000000 in
theorem c_X2_capped (l : Launch) (D : va_G) (a : Nat → Nat) (cI cJ cS cT : ClassId) (s0 : gMem) (x0 : Int) (hx0 : in64 x0)  : gC l yX2_capped cX2_capped 2 (some .long) 2 128 D vwCl (gT cI cJ cS cT) (wdX a cI cJ cS cT) lgX kJ in64 [gL x0] s0 ((f_X2_capped x0), s0) := by
  refine gC_of (by decide +kernel) (hwdX a cI cJ cS cT) (Nat.le_of_ble_eq_true rfl) ?_
  intro A p e R s m args below meth c hR E
  subst hR
  have hT := f_X2_capped_e x0
  refine k_lv0 (lv' := [(0, gL x0)]) rfl ?_
  refine k_lloadn (pc := 0) E 0 dX2_capped_0 rfl rfl ?_
  refine k_ldc2 (pc := 1) (n := 1000000000000) E dX2_capped_1 wm_587 (by decide) ?_
  refine k_lmin (pc := 4) (st := []) E (by omega) (by omega) wk_588 wk_589 wm_18 wk_590 (by decide) (Nat.le_of_ble_eq_true rfl) dX2_capped_4 ?_
  have hp1 := lmin_p x0 1000000000000
  exact k_rho (congrArg (fun q => (q, s0)) hT) (k_lret (pc := 7) E dX2_capped_7 (by omega))

def f_X2_from (x0 : Int) (s0 : gMem) : gRes := gl (mset s0 64 0 x0) (fun s1 => gl (mfill s1 42 256 (-1)) (fun s2 => (0, s2)))
theorem f_X2_from_e (x0 : Int) (s0 : gMem) : f_X2_from x0 s0 = gl (mset s0 64 0 x0) (fun s1 => gl (mfill s1 42 256 (-1)) (fun s2 => (0, s2))) := rfl
set_option maxRecDepth 100000 in
set_option maxHeartbeats 4000000 in
theorem f_X2_from_p (x0 : Int) (s0 : gMem) (hx0 : in32 x0) (hm_s0 : gMR lgX s0) (hpre0 : KM s0) (hpre1 : WY s0) (hpre2 : 0 ≤ x0 ∧ x0 ≤ 2) (rZ : Int) (sZ : gMem) (hres : f_X2_from x0 s0 = (rZ, sZ)) : (fr [42, 64] s0 sZ) ∧ (gMR lgX sZ) ∧ (True) ∧ (KM sZ) ∧ (WY sZ) := by
  have hT := f_X2_from_e x0 s0
  have hf_s0 : fr [42, 64] s0 s0 := fr.rf _ _
  have hKM_s0 := hpre0
  have hWY_s0 := hpre1
  obtain ⟨s1, hs1, hT⟩ := glx hT
  have hf_s1 : fr [42, 64] s0 s1 := hs1 ▸ hf_s0.set (by decide)
  have hm_s1 : gMR lgX s1 := hs1 ▸ hm_s0.set32 rfl (by omega)
  have hg_s1 : fr [64] s0 s1 := hs1 ▸ (fr.rf _ _).set (by decide)
  have hKM_s1 : KM s1 := KM_fr hKM_s0 (fun k hk => hg_s1 k (dj (by decide) k hk))
  have hWY_s1 : WY s1 := hs1 ▸ WY_set hWY_s0 (by omega)
  obtain ⟨s2, hs2, hT⟩ := glx hT
  have hf_s2 : fr [42, 64] s0 s2 := hs2 ▸ hf_s1.fill (by decide)
  have hm_s2 : gMR lgX s2 := hs2 ▸ hm_s1.fill64 rfl (by omega)
  have hg_s2 : fr [42] s1 s2 := hs2 ▸ (fr.rf _ _).fill (by decide)
  have hKM_s2 : KM s2 := hs2 ▸ KM_fill hKM_s1 (by omega)
  have hWY_s2 : WY s2 := WY_fr hWY_s1 (fun k hk => hg_s2 k (dj (by decide) k hk))
  obtain ⟨rfl, rfl⟩ := Prod.mk.inj (hT.symm.trans hres)
  exact ⟨hf_s2, hm_s2, trivial, hKM_s2, hWY_s2⟩
set_option maxRecDepth 100000 in
set_option maxHeartbeats 4000000 in
theorem c_X2_from (l : Launch) (D : va_G) (a : Nat → Nat) (cI cJ cS cT : ClassId) (s0 : gMem) (x0 : Int) (hx0 : in32 x0) (hpre0 : KM s0) (hpre1 : WY s0) (hpre2 : 0 ≤ x0 ∧ x0 ≤ 2) : gC l yX2_from cX2_from 2 none 2 128 D vwCl (gT cI cJ cS cT) (wdX a cI cJ cS cT) lgX kV rgV [.ref (a 5), gI x0] s0 (f_X2_from x0 s0) := by
  refine gC_of (by decide +kernel) (hwdX a cI cJ cS cT) (Nat.le_of_ble_eq_true rfl) ?_
  intro A p e R s m args below meth c hR E
  subst hR
  have hT := f_X2_from_e x0 s0
  have hf_s0 : fr [42, 64] s0 s0 := fr.rf _ _
  refine k_lv0 (lv' := [(0, .ref (a 5)), (1, gI x0)]) rfl ?_
  refine k_mr (fun hm_s0 => ?_)
  have hKM_s0 := hpre0
  have hWY_s0 := hpre1
  refine k_aloadn (pc := 0) E 0 dX2_from_0 rfl rfl ?_
  refine k_iloadn (pc := 1) E 1 dX2_from_1 rfl rfl ?_
  refine k_putfI (pc := 2) (q0 := 5) (f := 4) (k := 64) E tyX2 tyX2_ok nmX2 inX2 rfl rfl (by decide) wm_179 rfl rfl rfl (Nat.le_of_ble_eq_true rfl) rfl rfl (by omega) dX2_from_2 ?_
  obtain ⟨s1, hs1, hT⟩ := glx hT
  refine k_sg hs1.symm ?_
  have hf_s1 : fr [42, 64] s0 s1 := hs1 ▸ hf_s0.set (by decide)
  have hg_s1 : fr [64] s0 s1 := hs1 ▸ (fr.rf _ _).set (by decide)
  have hKM_s1 : KM s1 := KM_fr hKM_s0 (fun k hk => hg_s1 k (dj (by decide) k hk))
  have hWY_s1 : WY s1 := hs1 ▸ WY_set hWY_s0 (by omega)
  refine k_aloadn (pc := 5) E 0 dX2_from_5 rfl rfl ?_
  refine k_getf (pc := 6) (q0 := 5) (f := 1) (v := .ref (a 42)) E inX2 rfl rfl (by decide) wm_175 rfl rfl dX2_from_6 ?_
  refine k_ldc2 (pc := 9) (n := (-1)) E dX2_from_9 wm_567 (by decide) ?_
  obtain ⟨s2, hs2, hT⟩ := glx hT
  have hf_s2 : fr [42, 64] s0 s2 := hs2 ▸ hf_s1.fill (by decide)
  have hg_s2 : fr [42] s1 s2 := hs2 ▸ (fr.rf _ _).fill (by decide)
  have hKM_s2 : KM s2 := hs2 ▸ KM_fill hKM_s1 (by omega)
  have hWY_s2 : WY s2 := WY_fr hWY_s1 (fun k hk => hg_s2 k (dj (by decide) k hk))
  refine k_callS (pc := 12) (np := 2) (As := [.ref (a 42), gL (-1)]) (st := []) E (c_fillJ l D (hwdX a cI cJ cS cT) (q0 := 42) (k := 42) (n := 256) (fun _ => rfl) (fun _ _ _ => rfl) rfl rfl (by decide) s1 (-1) (by omega)) wm_570 wm_6 wm_568 wm_569 (by decide +kernel) ⟨by decide, by decide⟩ rfl (Nat.le_of_ble_eq_true rfl) dX2_from_12 (ro_kk (fun _ => ?_))
  refine k_sg hs2.symm ?_
  refine k_st (st' := []) rfl ?_
  exact k_rho hT (k_vret (pc := 15) E dX2_from_15)

def f_X2_closing (x0 : Int) (x1 : Int) (x2 : Int) (s0 : gMem) : gRes := gb (f_X4_falls x0 x2 s0) (fun r2 s3 => gb (f_X4_takes x0 s3) (fun r8 s9 => gb (f_X4_closes x0 x2 s9) (fun r14 s15 => gl ((1000 * (r8 + r14)) * 100) (fun v19 => ((f_X2_capped ((v19 + (x1 * r2)) / (100 - r2))), s15)))))
theorem f_X2_closing_e (x0 : Int) (x1 : Int) (x2 : Int) (s0 : gMem) : f_X2_closing x0 x1 x2 s0 = gb (f_X4_falls x0 x2 s0) (fun r2 s3 => gb (f_X4_takes x0 s3) (fun r8 s9 => gb (f_X4_closes x0 x2 s9) (fun r14 s15 => gl ((1000 * (r8 + r14)) * 100) (fun v19 => ((f_X2_capped ((v19 + (x1 * r2)) / (100 - r2))), s15))))) := rfl
set_option maxRecDepth 100000 in
set_option maxHeartbeats 4000000 in
theorem f_X2_closing_p (x0 : Int) (x1 : Int) (x2 : Int) (s0 : gMem) (hx0 : in32 x0) (hx1 : in64 x1) (hx2 : in32 x2) (hm_s0 : gMR lgX s0) (hpre0 : CD s0) (hpre1 : BG s0) (hpre2 : LA s0) (hpre3 : MOx s0) (hpre4 : KF s0) (hpre5 : KC s0) (hpre6 : KT s0) (hpre7 : 0 ≤ x0 ∧ x0 ≤ 15) (hpre8 : 0 ≤ x1 ∧ x1 ≤ 1000000000000) (hpre9 : 0 ≤ x2 ∧ x2 ≤ 16) (rZ : Int) (sZ : gMem) (hres : f_X2_closing x0 x1 x2 s0 = (rZ, sZ)) : (fr [32, 36, 37, 38, 39] s0 sZ) ∧ (gMR lgX sZ) ∧ (in64 rZ) ∧ (KF sZ) ∧ (KC sZ) ∧ (KT sZ) ∧ (0 ≤ rZ ∧ rZ ≤ 1000000000000) := by
  have hT := f_X2_closing_e x0 x1 x2 s0
  have hf_s0 : fr [32, 36, 37, 38, 39] s0 s0 := fr.rf _ _
  have hKF_s0 := hpre4
  have hKC_s0 := hpre5
  have hKT_s0 := hpre6
  obtain ⟨r2, s3, hs3⟩ : ∃ rr ss, (f_X4_falls x0 x2 s0) = (rr, ss) := ⟨_, _, rfl⟩
  replace hT := gby hT hs3
  have hp4 := f_X4_falls_p x0 x2 s0 (by omega) (by omega) hm_s0 hpre0 hpre1 hpre2 hpre3 hKF_s0 (by first | assumption | omega) (by first | assumption | omega) r2 s3 hs3
  obtain ⟨hfc_s3, hm_s3, hp5, hKF_s3, hp6⟩ := hp4
  have hf_s3 : fr [32, 36, 37, 38, 39] s0 s3 := hf_s0.call (by decide) hfc_s3
  have hKC_s3 : KC s3 := KC_fr hKC_s0 (fun k hk => hfc_s3 k (dj (by decide) k hk))
  have hKT_s3 : KT s3 := KT_fr hKT_s0 (fun k hk => hfc_s3 k (dj (by decide) k hk))
  obtain ⟨r8, s9, hs9⟩ : ∃ rr ss, (f_X4_takes x0 s3) = (rr, ss) := ⟨_, _, rfl⟩
  replace hT := gby hT hs9
  have hp10 := f_X4_takes_p x0 s3 (by omega) hm_s3 (CD_fr hpre0 (fun k hk => hf_s3 k (dj (by decide) k hk))) (BG_fr hpre1 (fun k hk => hf_s3 k (dj (by decide) k hk))) (LA_fr hpre2 (fun k hk => hf_s3 k (dj (by decide) k hk))) (MOx_fr hpre3 (fun k hk => hf_s3 k (dj (by decide) k hk))) hKT_s3 (by first | assumption | omega) r8 s9 hs9
  obtain ⟨hfc_s9, hm_s9, hp11, hKT_s9, hp12⟩ := hp10
  have hf_s9 : fr [32, 36, 37, 38, 39] s0 s9 := hf_s3.call (by decide) hfc_s9
  have hKF_s9 : KF s9 := KF_fr hKF_s3 (fun k hk => hfc_s9 k (dj (by decide) k hk))
  have hKC_s9 : KC s9 := KC_fr hKC_s3 (fun k hk => hfc_s9 k (dj (by decide) k hk))
  obtain ⟨r14, s15, hs15⟩ : ∃ rr ss, (f_X4_closes x0 x2 s9) = (rr, ss) := ⟨_, _, rfl⟩
  replace hT := gby hT hs15
  have hp16 := f_X4_closes_p x0 x2 s9 (by omega) (by omega) hm_s9 (CD_fr hpre0 (fun k hk => hf_s9 k (dj (by decide) k hk))) (BG_fr hpre1 (fun k hk => hf_s9 k (dj (by decide) k hk))) (LA_fr hpre2 (fun k hk => hf_s9 k (dj (by decide) k hk))) (MOx_fr hpre3 (fun k hk => hf_s9 k (dj (by decide) k hk))) hKC_s9 (by first | assumption | omega) (by first | assumption | omega) r14 s15 hs15
  obtain ⟨hfc_s15, hm_s15, hp17, hKC_s15, hp18⟩ := hp16
  have hf_s15 : fr [32, 36, 37, 38, 39] s0 s15 := hf_s9.call (by decide) hfc_s15
  have hKF_s15 : KF s15 := KF_fr hKF_s9 (fun k hk => hfc_s15 k (dj (by decide) k hk))
  have hKT_s15 : KT s15 := KT_fr hKT_s9 (fun k hk => hfc_s15 k (dj (by decide) k hk))
  obtain ⟨v19, hv19, hT⟩ := glx hT
  have km := mul_rg (a := 1000000000000) (b := 99) (x := x1) (y := r2) (by omega) (by omega) (by omega) (by omega)
  have hd20 : (0 : Int) ≤ (v19 + (x1 * r2)) := (by omega)
  have hd21 : (0 : Int) < (100 - r2) := (by omega)
  have hb22 := dv_rg hd20 hd21
  have hp24 := f_X2_capped_p ((v19 + (x1 * r2)) / (100 - r2)) (by omega) 
  obtain ⟨rfl, rfl⟩ := Prod.mk.inj (hT.symm.trans hres)
  exact ⟨hf_s15, hm_s15, (by omega), hKF_s15, hKC_s15, hKT_s15, (by first | assumption | omega)⟩
set_option maxRecDepth 100000 in
set_option maxHeartbeats 4000000 in
theorem c_X2_closing (l : Launch) (D : va_G) (a : Nat → Nat) (cI cJ cS cT : ClassId) (s0 : gMem) (x0 : Int) (x1 : Int) (x2 : Int) (hx0 : in32 x0) (hx1 : in64 x1) (hx2 : in32 x2) (hpre0 : CD s0) (hpre1 : BG s0) (hpre2 : LA s0) (hpre3 : MOx s0) (hpre4 : KF s0) (hpre5 : KC s0) (hpre6 : KT s0) (hpre7 : 0 ≤ x0 ∧ x0 ≤ 15) (hpre8 : 0 ≤ x1 ∧ x1 ≤ 1000000000000) (hpre9 : 0 ≤ x2 ∧ x2 ≤ 16) : gC l yX2_closing cX2_closing 8 (some .long) 4 256 D vwCl (gT cI cJ cS cT) (wdX a cI cJ cS cT) lgX kJ in64 [.ref (a 5), gI x0, gL x1, gI x2] s0 (f_X2_closing x0 x1 x2 s0) := by
  refine gC_of (by decide +kernel) (hwdX a cI cJ cS cT) (Nat.le_of_ble_eq_true rfl) ?_
  intro A p e R s m args below meth c hR E
  subst hR
  have hT := f_X2_closing_e x0 x1 x2 s0
  have hf_s0 : fr [32, 36, 37, 38, 39] s0 s0 := fr.rf _ _
  refine k_lv0 (lv' := [(0, .ref (a 5)), (1, gI x0), (2, gL x1), (4, gI x2)]) rfl ?_
  refine k_mr (fun hm_s0 => ?_)
  have hKF_s0 := hpre4
  have hKC_s0 := hpre5
  have hKT_s0 := hpre6
  refine k_aloadn (pc := 0) E 0 dX2_closing_0 rfl rfl ?_
  refine k_getf (pc := 1) (q0 := 5) (f := 0) (v := .ref (a 3)) E inX2 rfl rfl (by decide) wm_174 rfl rfl dX2_closing_1 ?_
  refine k_iloadn (pc := 4) E 1 dX2_closing_4 rfl rfl ?_
  refine k_iload (pc := 5) E 3 dX2_closing_5 rfl ?_
  refine k_mr (fun hm_s0 => ?_)
  refine k_callV (pc := 7) (np := 2) (As := [gI x0, gI x2]) (st := []) (q0 := 3) E (c_X4_falls l D a cI cJ cS cT s0 x0 x2 (by omega) (by omega) hpre0 hpre1 hpre2 hpre3 hKF_s0 (by first | assumption | omega) (by first | assumption | omega)) wm_513 wm_4 wm_579 wm_511 wm_512 (by decide +kernel) rfl rfl ⟨by decide, by decide⟩ rfl (Nat.le_of_ble_eq_true rfl) dX2_closing_7 (fun r2 s3 hs3 hr1 => ?_)
  replace hT := gby hT hs3
  have hp4 := f_X4_falls_p x0 x2 s0 (by omega) (by omega) hm_s0 hpre0 hpre1 hpre2 hpre3 hKF_s0 (by first | assumption | omega) (by first | assumption | omega) r2 s3 hs3
  obtain ⟨hfc_s3, hm_s3, hp5, hKF_s3, hp6⟩ := hp4
  have hf_s3 : fr [32, 36, 37, 38, 39] s0 s3 := hf_s0.call (by decide) hfc_s3
  have hKC_s3 : KC s3 := KC_fr hKC_s0 (fun k hk => hfc_s3 k (dj (by decide) k hk))
  have hKT_s3 : KT s3 := KT_fr hKT_s0 (fun k hk => hfc_s3 k (dj (by decide) k hk))
  refine k_st (st' := [gI r2]) rfl ?_
  refine k_istore (pc := 10) (lv' := [(5, gI r2), (0, .ref (a 5)), (1, gI x0), (2, gL x1), (4, gI x2)]) E dX2_closing_10 (by decide) rfl ?_
  refine k_ldc2 (pc := 12) (n := 1000) E dX2_closing_12 wm_580 (by decide) ?_
  refine k_aloadn (pc := 15) E 1 dX2_closing_15 rfl rfl ?_
  refine k_getf (pc := 16) (q0 := 5) (f := 0) (v := .ref (a 3)) E inX2 rfl rfl (by decide) wm_174 rfl rfl dX2_closing_16 ?_
  refine k_iloadn (pc := 19) E 2 dX2_closing_19 rfl rfl ?_
  refine k_mr (fun hm_s3 => ?_)
  refine k_callV (pc := 20) (np := 1) (As := [gI x0]) (st := [gL 1000]) (q0 := 3) E (c_X4_takes l D a cI cJ cS cT s3 x0 (by omega) (CD_fr hpre0 (fun k hk => hf_s3 k (dj (by decide) k hk))) (BG_fr hpre1 (fun k hk => hf_s3 k (dj (by decide) k hk))) (LA_fr hpre2 (fun k hk => hf_s3 k (dj (by decide) k hk))) (MOx_fr hpre3 (fun k hk => hf_s3 k (dj (by decide) k hk))) hKT_s3 (by first | assumption | omega)) wm_522 wm_4 wm_581 wm_520 wm_521 (by decide +kernel) rfl rfl ⟨by decide, by decide⟩ rfl (Nat.le_of_ble_eq_true rfl) dX2_closing_20 (fun r8 s9 hs9 hr7 => ?_)
  replace hT := gby hT hs9
  have hp10 := f_X4_takes_p x0 s3 (by omega) hm_s3 (CD_fr hpre0 (fun k hk => hf_s3 k (dj (by decide) k hk))) (BG_fr hpre1 (fun k hk => hf_s3 k (dj (by decide) k hk))) (LA_fr hpre2 (fun k hk => hf_s3 k (dj (by decide) k hk))) (MOx_fr hpre3 (fun k hk => hf_s3 k (dj (by decide) k hk))) hKT_s3 (by first | assumption | omega) r8 s9 hs9
  obtain ⟨hfc_s9, hm_s9, hp11, hKT_s9, hp12⟩ := hp10
  have hf_s9 : fr [32, 36, 37, 38, 39] s0 s9 := hf_s3.call (by decide) hfc_s9
  have hKF_s9 : KF s9 := KF_fr hKF_s3 (fun k hk => hfc_s9 k (dj (by decide) k hk))
  have hKC_s9 : KC s9 := KC_fr hKC_s3 (fun k hk => hfc_s9 k (dj (by decide) k hk))
  refine k_st (st' := [gI r8, gL 1000]) rfl ?_
  refine k_aloadn (pc := 23) E 1 dX2_closing_23 rfl rfl ?_
  refine k_getf (pc := 24) (q0 := 5) (f := 0) (v := .ref (a 3)) E inX2 rfl rfl (by decide) wm_174 rfl rfl dX2_closing_24 ?_
  refine k_iloadn (pc := 27) E 2 dX2_closing_27 rfl rfl ?_
  refine k_iload (pc := 28) E 4 dX2_closing_28 rfl ?_
  refine k_mr (fun hm_s9 => ?_)
  refine k_callV (pc := 30) (np := 2) (As := [gI x0, gI x2]) (st := [gI r8, gL 1000]) (q0 := 3) E (c_X4_closes l D a cI cJ cS cT s9 x0 x2 (by omega) (by omega) (CD_fr hpre0 (fun k hk => hf_s9 k (dj (by decide) k hk))) (BG_fr hpre1 (fun k hk => hf_s9 k (dj (by decide) k hk))) (LA_fr hpre2 (fun k hk => hf_s9 k (dj (by decide) k hk))) (MOx_fr hpre3 (fun k hk => hf_s9 k (dj (by decide) k hk))) hKC_s9 (by first | assumption | omega) (by first | assumption | omega)) wm_537 wm_4 wm_582 wm_535 wm_536 (by decide +kernel) rfl rfl ⟨by decide, by decide⟩ rfl (Nat.le_of_ble_eq_true rfl) dX2_closing_30 (fun r14 s15 hs15 hr13 => ?_)
  replace hT := gby hT hs15
  have hp16 := f_X4_closes_p x0 x2 s9 (by omega) (by omega) hm_s9 (CD_fr hpre0 (fun k hk => hf_s9 k (dj (by decide) k hk))) (BG_fr hpre1 (fun k hk => hf_s9 k (dj (by decide) k hk))) (LA_fr hpre2 (fun k hk => hf_s9 k (dj (by decide) k hk))) (MOx_fr hpre3 (fun k hk => hf_s9 k (dj (by decide) k hk))) hKC_s9 (by first | assumption | omega) (by first | assumption | omega) r14 s15 hs15
  obtain ⟨hfc_s15, hm_s15, hp17, hKC_s15, hp18⟩ := hp16
  have hf_s15 : fr [32, 36, 37, 38, 39] s0 s15 := hf_s9.call (by decide) hfc_s15
  have hKF_s15 : KF s15 := KF_fr hKF_s9 (fun k hk => hfc_s15 k (dj (by decide) k hk))
  have hKT_s15 : KT s15 := KT_fr hKT_s9 (fun k hk => hfc_s15 k (dj (by decide) k hk))
  refine k_st (st' := [gI r14, gI r8, gL 1000]) rfl ?_
  refine k_iadd (pc := 33) E dX2_closing_33 ?_
  refine k_i2l (pc := 34) E dX2_closing_34 (by omega) ?_
  refine k_lmul (pc := 35) E dX2_closing_35 ?_
  refine k_ldc2 (pc := 36) (n := 100) E dX2_closing_36 wm_583 (by decide) ?_
  refine k_lmul (pc := 39) E dX2_closing_39 ?_
  obtain ⟨v19, hv19, hT⟩ := glx hT
  refine k_st (st' := [gL v19]) (by rw [hv19]) ?_
  refine k_lstore (pc := 40) (lv' := [(6, gL v19), (5, gI r2), (0, .ref (a 5)), (1, gI x0), (2, gL x1), (4, gI x2)]) E dX2_closing_40 (by decide) rfl ?_
  refine k_lload (pc := 42) E 0 dX2_closing_42 rfl ?_
  refine k_lloadn (pc := 44) E 4 dX2_closing_44 rfl rfl ?_
  refine k_iload (pc := 45) E 1 dX2_closing_45 rfl ?_
  refine k_i2l (pc := 47) E dX2_closing_47 (by omega) ?_
  have km := mul_rg (a := 1000000000000) (b := 99) (x := x1) (y := r2) (by omega) (by omega) (by omega) (by omega)
  refine k_lmul (pc := 48) E dX2_closing_48 ?_
  refine k_ladd (pc := 49) E dX2_closing_49 ?_
  refine k_bipush (pc := 50) E dX2_closing_50 (by decide) ?_
  refine k_iload (pc := 52) E 1 dX2_closing_52 rfl ?_
  refine k_isub (pc := 54) E dX2_closing_54 ?_
  refine k_i2l (pc := 55) E dX2_closing_55 (by omega) ?_
  have hd20 : (0 : Int) ≤ (v19 + (x1 * r2)) := (by omega)
  have hd21 : (0 : Int) < (100 - r2) := (by omega)
  refine k_ldivN (pc := 56) E (by omega) (by omega) hd20 hd21 dX2_closing_56 ?_
  have hb22 := dv_rg hd20 hd21
  refine k_mr (fun hm_s15 => ?_)
  refine k_callS (pc := 57) (np := 1) (As := [gL ((v19 + (x1 * r2)) / (100 - r2))]) (st := []) E (c_X2_capped l D a cI cJ cS cT s15 ((v19 + (x1 * r2)) / (100 - r2)) (by omega)) wm_586 wm_7 wm_584 wm_585 (by decide +kernel) ⟨by decide, by decide⟩ rfl (Nat.le_of_ble_eq_true rfl) dX2_closing_57 (ro_kk (fun hr23 => ?_))
  have hp24 := f_X2_capped_p ((v19 + (x1 * r2)) / (100 - r2)) (by omega) 
  refine k_st (st' := [gL (f_X2_capped ((v19 + (x1 * r2)) / (100 - r2)))]) rfl ?_
  exact k_rho hT (k_lret (pc := 60) E dX2_closing_60 (by omega))

def w_X2_stretchMean_31 (c1 : Int) (c2 : Int) (c3 : Int) : Nat → Int → Int → gMem → Int × Int × gMem
  | 0, v10, v11, s12 => (v10, v11, s12)
  | n13 + 1, v10, v11, s12 => (if (c2 - c1) < v11 then (v10, v11, s12) else gb (f_X4_takes (f_X2_upAfter c1 c2 v11 s12) s12) (fun r18 s19 => gb (f_X4_falls (f_X2_upAfter c1 c2 v11 s12) v11 s19) (fun r24 s25 => gl (f_X2_capped (((v10 + (1000 * r18)) * 100) / (100 - r24))) (fun v34 => (w_X2_stretchMean_31 c1 c2 c3 n13 v34 (v11 + 1) s25)))))
theorem w_X2_stretchMean_31_s (c1 : Int) (c2 : Int) (c3 : Int) (n13 : Nat) (v10 : Int) (v11 : Int) (s12 : gMem) : w_X2_stretchMean_31 c1 c2 c3 (n13 + 1) v10 v11 s12 = (if (c2 - c1) < v11 then (v10, v11, s12) else gb (f_X4_takes (f_X2_upAfter c1 c2 v11 s12) s12) (fun r18 s19 => gb (f_X4_falls (f_X2_upAfter c1 c2 v11 s12) v11 s19) (fun r24 s25 => gl (f_X2_capped (((v10 + (1000 * r18)) * 100) / (100 - r24))) (fun v34 => (w_X2_stretchMean_31 c1 c2 c3 n13 v34 (v11 + 1) s25))))) := rfl
def f_X2_stretchMean (x0 : Int) (x1 : Int) (s0 : gMem) : gRes := (if x1 < x0 then (0, s0) else (gj (fun j5c => (if (s0 42 ((x0 * 16) + x1)) < 0 then (gl3 (w_X2_stretchMean_31 x0 x1 ((x0 * 16) + x1) 17 0 0 s0) (fun v72 v73 s74 => gl (mset s74 42 ((x0 * 16) + x1) v72) (fun s79 => (j5c s79)))) else (j5c s0))) (fun s6 => ((s6 42 ((x0 * 16) + x1)), s6))))
theorem f_X2_stretchMean_e (x0 : Int) (x1 : Int) (s0 : gMem) : f_X2_stretchMean x0 x1 s0 = (if x1 < x0 then (0, s0) else (gj (fun j5c => (if (s0 42 ((x0 * 16) + x1)) < 0 then (gl3 (w_X2_stretchMean_31 x0 x1 ((x0 * 16) + x1) 17 0 0 s0) (fun v72 v73 s74 => gl (mset s74 42 ((x0 * 16) + x1) v72) (fun s79 => (j5c s79)))) else (j5c s0))) (fun s6 => ((s6 42 ((x0 * 16) + x1)), s6)))) := rfl
set_option maxRecDepth 100000 in
set_option maxHeartbeats 4000000 in
theorem f_X2_stretchMean_p (x0 : Int) (x1 : Int) (s0 : gMem) (hx0 : in32 x0) (hx1 : in32 x1) (hm_s0 : gMR lgX s0) (hpre0 : CD s0) (hpre1 : BG s0) (hpre2 : LA s0) (hpre3 : MOx s0) (hpre4 : KF s0) (hpre5 : KC s0) (hpre6 : KT s0) (hpre7 : KM s0) (hpre8 : WY s0) (hpre9 : 0 ≤ x0 ∧ x0 ≤ 16) (hpre10 : -1 ≤ x1 ∧ x1 ≤ 15) (rZ : Int) (sZ : gMem) (hres : f_X2_stretchMean x0 x1 s0 = (rZ, sZ)) : (fr [32, 36, 37, 39, 42] s0 sZ) ∧ (gMR lgX sZ) ∧ (in64 rZ) ∧ (KM sZ) ∧ (KF sZ) ∧ (KC sZ) ∧ (KT sZ) ∧ (0 ≤ rZ ∧ rZ ≤ 1000000000000) := by
  have hT := f_X2_stretchMean_e x0 x1 s0
  have hf_s0 : fr [32, 36, 37, 39, 42] s0 s0 := fr.rf _ _
  have hKM_s0 := hpre7
  have hKF_s0 := hpre4
  have hKC_s0 := hpre5
  have hKT_s0 := hpre6
  by_cases h1 : x1 < x0
  · replace hT := hT.trans (if_pos h1)
    obtain ⟨rfl, rfl⟩ := Prod.mk.inj (hT.symm.trans hres)
    exact ⟨hf_s0, hm_s0, (by omega), hKM_s0, hKF_s0, hKC_s0, hKT_s0, (by first | assumption | omega)⟩
  · replace hT := hT.trans (if_neg h1)
    have hr2 := (hm_s0 42 ((x0 * 16) + x1)).2 rfl
    have hi3 := hKM_s0 ((x0 * 16) + x1)
    obtain ⟨j5c, hj5c, hT⟩ := gjx hT
    have j5 : ∀ (s6 : gMem), ((fr [32, 36, 37, 39, 42] s0 s6) ∧ (gMR lgX s6) ∧ (KM s6) ∧ (KF s6) ∧ (KC s6) ∧ (KT s6) ∧ (0 ≤ s6 42 (x0 * 16 + x1))) → (f_X2_stretchMean x0 x1 s0) = j5c s6 → (fr [32, 36, 37, 39, 42] s0 sZ) ∧ (gMR lgX sZ) ∧ (in64 rZ) ∧ (KM sZ) ∧ (KF sZ) ∧ (KC sZ) ∧ (KT sZ) ∧ (0 ≤ rZ ∧ rZ ≤ 1000000000000) := by
      intro s6 hq hT
      obtain ⟨hf_s6, hm_s6, hKM_s6, hKF_s6, hKC_s6, hKT_s6, hq9⟩ := hq
      rw [hj5c] at hT
      have hr7 := (hm_s6 42 ((x0 * 16) + x1)).2 rfl
      have hi8 := hKM_s6 ((x0 * 16) + x1)
      obtain ⟨rfl, rfl⟩ := Prod.mk.inj (hT.symm.trans hres)
      exact ⟨hf_s6, hm_s6, (by omega), hKM_s6, hKF_s6, hKC_s6, hKT_s6, (by first | assumption | omega)⟩
    by_cases h4 : (s0 42 ((x0 * 16) + x1)) < 0
    · replace hT := hT.trans (if_pos h4)
      have L38 : ∀ (n39 : Nat) (v35 : Int) (v36 : Int) (s37 : gMem), ((in64 v35) ∧ (in32 v36) ∧ (fr [32, 36, 37, 39, 42] s0 s37) ∧ (gMR lgX s37) ∧ (KM s37) ∧ (KF s37) ∧ (KC s37) ∧ (KT s37) ∧ (0 ≤ v35 ∧ v35 ≤ 1000000000000) ∧ (0 ≤ v36 ∧ v36 ≤ x1 - x0 + 1)) → x1 - x0 + 1 - v36 < (n39 : Int) → (∀ (w40 : Int) (w41 : Int) (s42 : gMem), (w_X2_stretchMean_31 x0 x1 ((x0 * 16) + x1) n39 v35 v36 s37) = (w40, w41, s42) → ((in64 w40) ∧ (in32 w41) ∧ (fr [32, 36, 37, 39, 42] s0 s42) ∧ (gMR lgX s42) ∧ (KM s42) ∧ (KF s42) ∧ (KC s42) ∧ (KT s42) ∧ (0 ≤ w40 ∧ w40 ≤ 1000000000000) ∧ (0 ≤ w41 ∧ w41 ≤ x1 - x0 + 1)) → (fr [32, 36, 37, 39, 42] s0 sZ) ∧ (gMR lgX sZ) ∧ (in64 rZ) ∧ (KM sZ) ∧ (KF sZ) ∧ (KC sZ) ∧ (KT sZ) ∧ (0 ≤ rZ ∧ rZ ≤ 1000000000000)) → (fr [32, 36, 37, 39, 42] s0 sZ) ∧ (gMR lgX sZ) ∧ (in64 rZ) ∧ (KM sZ) ∧ (KF sZ) ∧ (KC sZ) ∧ (KT sZ) ∧ (0 ≤ rZ ∧ rZ ≤ 1000000000000) := by
        intro n39; induction n39 with
        | zero =>
          intro v35 v36 s37 hq hm hk
          exfalso
          obtain ⟨hq64, hq65, hf_s37, hm_s37, hKM_s37, hKF_s37, hKC_s37, hKT_s37, hq66, hq67⟩ := hq
          omega
        | succ n39 ih =>
          intro v35 v36 s37 hq hm hk
          obtain ⟨hq68, hq69, hf_s37, hm_s37, hKM_s37, hKF_s37, hKC_s37, hKT_s37, hq70, hq71⟩ := hq
          have hT := w_X2_stretchMean_31_s x0 x1 ((x0 * 16) + x1) n39 v35 v36 s37
          by_cases h43 : (x1 - x0) < v36
          · replace hT := hT.trans (if_pos h43)
            exact hk v35 v36 s37 hT ⟨(by omega), (by omega), hf_s37, hm_s37, hKM_s37, hKF_s37, hKC_s37, hKT_s37, (by first | assumption | omega), (by first | assumption | omega)⟩
          · replace hT := hT.trans (if_neg h43)
            have hp45 := f_X2_upAfter_p x0 x1 v36 s37 (by omega) (by omega) (by omega) hm_s37 (WY_fr hpre8 (fun k hk => hf_s37 k (dj (by decide) k hk))) (by first | assumption | omega) (by first | assumption | omega)
            obtain ⟨r47, s48, hs48⟩ : ∃ rr ss, (f_X4_takes (f_X2_upAfter x0 x1 v36 s37) s37) = (rr, ss) := ⟨_, _, rfl⟩
            replace hT := gby hT hs48
            have hp49 := f_X4_takes_p (f_X2_upAfter x0 x1 v36 s37) s37 (by omega) hm_s37 (CD_fr hpre0 (fun k hk => hf_s37 k (dj (by decide) k hk))) (BG_fr hpre1 (fun k hk => hf_s37 k (dj (by decide) k hk))) (LA_fr hpre2 (fun k hk => hf_s37 k (dj (by decide) k hk))) (MOx_fr hpre3 (fun k hk => hf_s37 k (dj (by decide) k hk))) hKT_s37 (by first | assumption | omega) r47 s48 hs48
            obtain ⟨hfc_s48, hm_s48, hp50, hKT_s48, hp51⟩ := hp49
            have hf_s48 : fr [32, 36, 37, 39, 42] s0 s48 := hf_s37.call (by decide) hfc_s48
            have hKM_s48 : KM s48 := KM_fr hKM_s37 (fun k hk => hfc_s48 k (dj (by decide) k hk))
            have hKF_s48 : KF s48 := KF_fr hKF_s37 (fun k hk => hfc_s48 k (dj (by decide) k hk))
            have hKC_s48 : KC s48 := KC_fr hKC_s37 (fun k hk => hfc_s48 k (dj (by decide) k hk))
            obtain ⟨r53, s54, hs54⟩ : ∃ rr ss, (f_X4_falls (f_X2_upAfter x0 x1 v36 s37) v36 s48) = (rr, ss) := ⟨_, _, rfl⟩
            replace hT := gby hT hs54
            have hp55 := f_X4_falls_p (f_X2_upAfter x0 x1 v36 s37) v36 s48 (by omega) (by omega) hm_s48 (CD_fr hpre0 (fun k hk => hf_s48 k (dj (by decide) k hk))) (BG_fr hpre1 (fun k hk => hf_s48 k (dj (by decide) k hk))) (LA_fr hpre2 (fun k hk => hf_s48 k (dj (by decide) k hk))) (MOx_fr hpre3 (fun k hk => hf_s48 k (dj (by decide) k hk))) hKF_s48 (by first | assumption | omega) (by first | assumption | omega) r53 s54 hs54
            obtain ⟨hfc_s54, hm_s54, hp56, hKF_s54, hp57⟩ := hp55
            have hf_s54 : fr [32, 36, 37, 39, 42] s0 s54 := hf_s48.call (by decide) hfc_s54
            have hKM_s54 : KM s54 := KM_fr hKM_s48 (fun k hk => hfc_s54 k (dj (by decide) k hk))
            have hKC_s54 : KC s54 := KC_fr hKC_s48 (fun k hk => hfc_s54 k (dj (by decide) k hk))
            have hKT_s54 : KT s54 := KT_fr hKT_s48 (fun k hk => hfc_s54 k (dj (by decide) k hk))
            have hd58 : (0 : Int) ≤ ((v35 + (1000 * r47)) * 100) := (by omega)
            have hd59 : (0 : Int) < (100 - r53) := (by omega)
            have hb60 := dv_rg hd58 hd59
            have hp62 := f_X2_capped_p (((v35 + (1000 * r47)) * 100) / (100 - r53)) (by omega) 
            obtain ⟨v63, hv63, hT⟩ := glx hT
            exact ih v63 (v36 + 1) s54 ⟨(by omega), (by omega), hf_s54, hm_s54, hKM_s54, hKF_s54, hKC_s54, hKT_s54, (by first | assumption | omega), (by first | assumption | omega)⟩ (by omega) (fun w40 w41 s42 hw hi => hk w40 w41 s42 (hT.trans hw) hi)
      refine L38 17 0 0 s0 ⟨(by omega), (by omega), hf_s0, hm_s0, hKM_s0, hKF_s0, hKC_s0, hKT_s0, (by first | assumption | omega), (by first | assumption | omega)⟩ (by omega) (fun v72 v73 s74 hw hq => ?_)
      obtain ⟨hq75, hq76, hf_s74, hm_s74, hKM_s74, hKF_s74, hKC_s74, hKT_s74, hq77, hq78⟩ := hq
      replace hT := gl3y hT hw
      obtain ⟨s79, hs79, hT⟩ := glx hT
      have hf_s79 : fr [32, 36, 37, 39, 42] s0 s79 := hs79 ▸ hf_s74.set (by decide)
      have hm_s79 : gMR lgX s79 := hs79 ▸ hm_s74.set64 rfl (by omega)
      have hg_s79 : fr [42] s74 s79 := hs79 ▸ (fr.rf _ _).set (by decide)
      have hKM_s79 : KM s79 := hs79 ▸ KM_set hKM_s74 (by omega)
      have hKF_s79 : KF s79 := KF_fr hKF_s74 (fun k hk => hg_s79 k (dj (by decide) k hk))
      have hKC_s79 : KC s79 := KC_fr hKC_s74 (fun k hk => hg_s79 k (dj (by decide) k hk))
      have hKT_s79 : KT s79 := KT_fr hKT_s74 (fun k hk => hg_s79 k (dj (by decide) k hk))
      have hw80 : s79 42 ((x0 * 16) + x1) = v72 := by rw [hs79]; exact mset_eq _ _ _ _
      exact j5 s79 ⟨hf_s79, hm_s79, hKM_s79, hKF_s79, hKC_s79, hKT_s79, (by first | assumption | omega)⟩ hT
    · replace hT := hT.trans (if_neg h4)
      exact j5 s0 ⟨hf_s0, hm_s0, hKM_s0, hKF_s0, hKC_s0, hKT_s0, (by first | assumption | omega)⟩ hT
set_option maxRecDepth 100000 in
set_option maxHeartbeats 4000000 in
theorem c_X2_stretchMean (l : Launch) (D : va_G) (a : Nat → Nat) (cI cJ cS cT : ClassId) (s0 : gMem) (x0 : Int) (x1 : Int) (hx0 : in32 x0) (hx1 : in32 x1) (hpre0 : CD s0) (hpre1 : BG s0) (hpre2 : LA s0) (hpre3 : MOx s0) (hpre4 : KF s0) (hpre5 : KC s0) (hpre6 : KT s0) (hpre7 : KM s0) (hpre8 : WY s0) (hpre9 : 0 ≤ x0 ∧ x0 ≤ 16) (hpre10 : -1 ≤ x1 ∧ x1 ≤ 15) : gC l yX2_stretchMean cX2_stretchMean 8 (some .long) 4 256 D vwCl (gT cI cJ cS cT) (wdX a cI cJ cS cT) lgX kJ in64 [.ref (a 5), gI x0, gI x1] s0 (f_X2_stretchMean x0 x1 s0) := by
  refine gC_of (by decide +kernel) (hwdX a cI cJ cS cT) (Nat.le_of_ble_eq_true rfl) ?_
  intro A p e R s m args below meth c hR E
  subst hR
  have hT := f_X2_stretchMean_e x0 x1 s0
  have hf_s0 : fr [32, 36, 37, 39, 42] s0 s0 := fr.rf _ _
  refine k_lv0 (lv' := [(0, .ref (a 5)), (1, gI x0), (2, gI x1)]) rfl ?_
  refine k_mr (fun hm_s0 => ?_)
  have hKM_s0 := hpre7
  have hKF_s0 := hpre4
  have hKC_s0 := hpre5
  have hKT_s0 := hpre6
  refine k_iloadn (pc := 0) E 2 dX2_stretchMean_0 rfl rfl ?_
  refine k_iloadn (pc := 1) E 1 dX2_stretchMean_1 rfl rfl ?_
  by_cases h1 : x1 < x0
  · replace hT := hT.trans (if_pos h1)
    refine k_icmp_ge_f (pc := 2) (tgt := 7) E (by omega) (by omega) dX2_stretchMean_2 (by decide) h1 ?_
    refine k_lconst0 (pc := 5) E dX2_stretchMean_5 ?_
    exact k_rho hT (k_lret (pc := 6) E dX2_stretchMean_6 (by omega))
  · replace hT := hT.trans (if_neg h1)
    refine k_icmp_ge_t (pc := 2) (tgt := 7) E (by omega) (by omega) dX2_stretchMean_2 (by decide) h1 ?_
    refine k_iloadn (pc := 7) E 1 dX2_stretchMean_7 rfl rfl ?_
    refine k_bipush (pc := 8) E dX2_stretchMean_8 (by decide) ?_
    refine k_imul (pc := 10) E dX2_stretchMean_10 ?_
    refine k_iloadn (pc := 11) E 2 dX2_stretchMean_11 rfl rfl ?_
    refine k_iadd (pc := 12) E dX2_stretchMean_12 ?_
    refine k_istoren (pc := 13) (lv' := [(3, gI ((x0 * 16) + x1)), (0, .ref (a 5)), (1, gI x0), (2, gI x1)]) E dX2_stretchMean_13 rfl (by decide) rfl ?_
    refine k_aloadn (pc := 14) E 1 dX2_stretchMean_14 rfl rfl ?_
    refine k_getf (pc := 15) (q0 := 5) (f := 1) (v := .ref (a 42)) E inX2 rfl rfl (by decide) wm_175 rfl rfl dX2_stretchMean_15 ?_
    refine k_iloadn (pc := 18) E 0 dX2_stretchMean_18 rfl rfl ?_
    refine k_laload (pc := 19) (q0 := 42) (t0 := 1) (k := 42) (n := 256) E rfl rfl rfl (by decide) (by omega) (by omega) dX2_stretchMean_19 (fun hr2 => ?_)
    have hi3 := hKM_s0 ((x0 * 16) + x1)
    refine k_lconst0 (pc := 20) E dX2_stretchMean_20 ?_
    obtain ⟨j5c, hj5c, hT⟩ := gjx hT
    have j5 : ∀ (s6 : gMem), ((fr [32, 36, 37, 39, 42] s0 s6) ∧ (KM s6) ∧ (KF s6) ∧ (KC s6) ∧ (KT s6) ∧ (0 ≤ s6 42 (x0 * 16 + x1))) → (f_X2_stretchMean x0 x1 s0) = j5c s6 → gK D vwCl (wdX a cI cJ cS cT) lgX A p l e { frames := 4, cells := 0, slots := 0, locals := 256 } s m args below meth c 8 (gQQ D vwCl (wdX a cI cJ cS cT) lgX A kJ in64 below args s) (f_X2_stretchMean x0 x1 s0) s6 105 [(0, .ref (a 5)), (3, gI ((x0 * 16) + x1))] [] := by
      intro s6 hq hT
      obtain ⟨hf_s6, hKM_s6, hKF_s6, hKC_s6, hKT_s6, hq9⟩ := hq
      rw [hj5c] at hT
      refine k_aloadn (pc := 105) E 0 dX2_stretchMean_105 rfl rfl ?_
      refine k_getf (pc := 106) (q0 := 5) (f := 1) (v := .ref (a 42)) E inX2 rfl rfl (by decide) wm_175 rfl rfl dX2_stretchMean_106 ?_
      refine k_iloadn (pc := 109) E 1 dX2_stretchMean_109 rfl rfl ?_
      refine k_laload (pc := 110) (q0 := 42) (t0 := 1) (k := 42) (n := 256) E rfl rfl rfl (by decide) (by omega) (by omega) dX2_stretchMean_110 (fun hr7 => ?_)
      have hi8 := hKM_s6 ((x0 * 16) + x1)
      exact k_rho hT (k_lret (pc := 111) E dX2_stretchMean_111 (by omega))
    by_cases h4 : (s0 42 ((x0 * 16) + x1)) < 0
    · replace hT := hT.trans (if_pos h4)
      refine k_lcmp (pc := 21) E dX2_stretchMean_21 (by omega) (by omega) ?_
      refine k_if_ge_f (pc := 22) (tgt := 105) E (by (repeat' split) <;> omega) dX2_stretchMean_22 (by decide) (by (repeat' split) <;> omega) ?_
      refine k_lconst0 (pc := 25) E dX2_stretchMean_25 ?_
      refine k_lstore (pc := 26) (lv' := [(4, gL 0), (3, gI ((x0 * 16) + x1)), (0, .ref (a 5)), (1, gI x0), (2, gI x1)]) E dX2_stretchMean_26 (by decide) rfl ?_
      refine k_iconst (pc := 28) E dX2_stretchMean_28 ?_
      refine k_istore (pc := 29) (lv' := [(6, gI 0), (4, gL 0), (3, gI ((x0 * 16) + x1)), (0, .ref (a 5)), (1, gI x0), (2, gI x1)]) E dX2_stretchMean_29 (by decide) rfl ?_
      have L38 : ∀ (n39 : Nat) (v35 : Int) (v36 : Int) (s37 : gMem), ((in64 v35) ∧ (in32 v36) ∧ (fr [32, 36, 37, 39, 42] s0 s37) ∧ (KM s37) ∧ (KF s37) ∧ (KC s37) ∧ (KT s37) ∧ (0 ≤ v35 ∧ v35 ≤ 1000000000000) ∧ (0 ≤ v36 ∧ v36 ≤ x1 - x0 + 1)) → x1 - x0 + 1 - v36 < (n39 : Int) → (∀ (w40 : Int) (w41 : Int) (s42 : gMem), (w_X2_stretchMean_31 x0 x1 ((x0 * 16) + x1) n39 v35 v36 s37) = (w40, w41, s42) → ((in64 w40) ∧ (in32 w41) ∧ (fr [32, 36, 37, 39, 42] s0 s42) ∧ (KM s42) ∧ (KF s42) ∧ (KC s42) ∧ (KT s42) ∧ (0 ≤ w40 ∧ w40 ≤ 1000000000000) ∧ (0 ≤ w41 ∧ w41 ≤ x1 - x0 + 1)) → gK D vwCl (wdX a cI cJ cS cT) lgX A p l e { frames := 4, cells := 0, slots := 0, locals := 256 } s m args below meth c 8 (gQQ D vwCl (wdX a cI cJ cS cT) lgX A kJ in64 below args s) (f_X2_stretchMean x0 x1 s0) s42 97 [(0, .ref (a 5)), (3, gI ((x0 * 16) + x1)), (4, gL w40)] []) → gK D vwCl (wdX a cI cJ cS cT) lgX A p l e { frames := 4, cells := 0, slots := 0, locals := 256 } s m args below meth c 8 (gQQ D vwCl (wdX a cI cJ cS cT) lgX A kJ in64 below args s) (f_X2_stretchMean x0 x1 s0) s37 31 [(0, .ref (a 5)), (1, gI x0), (2, gI x1), (3, gI ((x0 * 16) + x1)), (4, gL v35), (6, gI v36)] [] := by
        intro n39; induction n39 with
        | zero =>
          intro v35 v36 s37 hq hm hk
          exfalso
          obtain ⟨hq64, hq65, hf_s37, hKM_s37, hKF_s37, hKC_s37, hKT_s37, hq66, hq67⟩ := hq
          omega
        | succ n39 ih =>
          intro v35 v36 s37 hq hm hk
          obtain ⟨hq68, hq69, hf_s37, hKM_s37, hKF_s37, hKC_s37, hKT_s37, hq70, hq71⟩ := hq
          have hT := w_X2_stretchMean_31_s x0 x1 ((x0 * 16) + x1) n39 v35 v36 s37
          refine k_iload (pc := 31) E 5 dX2_stretchMean_31 rfl ?_
          refine k_iloadn (pc := 33) E 2 dX2_stretchMean_33 rfl rfl ?_
          refine k_iloadn (pc := 34) E 1 dX2_stretchMean_34 rfl rfl ?_
          refine k_isub (pc := 35) E dX2_stretchMean_35 ?_
          by_cases h43 : (x1 - x0) < v36
          · replace hT := hT.trans (if_pos h43)
            refine k_icmp_gt_t (pc := 36) (tgt := 97) E (by omega) (by omega) dX2_stretchMean_36 (by decide) h43 ?_
            refine k_lv (lv' := [(0, .ref (a 5)), (3, gI ((x0 * 16) + x1)), (4, gL v35)]) [0, 3, 4] rfl ?_
            exact hk v35 v36 s37 hT ⟨(by omega), (by omega), hf_s37, hKM_s37, hKF_s37, hKC_s37, hKT_s37, (by first | assumption | omega), (by first | assumption | omega)⟩
          · replace hT := hT.trans (if_neg h43)
            refine k_icmp_gt_f (pc := 36) (tgt := 97) E (by omega) (by omega) dX2_stretchMean_36 (by decide) h43 ?_
            refine k_aloadn (pc := 39) E 0 dX2_stretchMean_39 rfl rfl ?_
            refine k_iloadn (pc := 40) E 1 dX2_stretchMean_40 rfl rfl ?_
            refine k_iloadn (pc := 41) E 2 dX2_stretchMean_41 rfl rfl ?_
            refine k_iload (pc := 42) E 5 dX2_stretchMean_42 rfl ?_
            refine k_mr (fun hm_s37 => ?_)
            refine k_callV (pc := 44) (np := 3) (As := [gI x0, gI x1, gI v36]) (st := []) (q0 := 5) E (c_X2_upAfter l D a cI cJ cS cT s37 x0 x1 v36 (by omega) (by omega) (by omega) (WY_fr hpre8 (fun k hk => hf_s37 k (dj (by decide) k hk))) (by first | assumption | omega) (by first | assumption | omega)) wm_598 wm_7 wm_595 wm_597 wp_20 (by decide +kernel) rfl rfl ⟨by decide, by decide⟩ rfl (Nat.le_of_ble_eq_true rfl) dX2_stretchMean_44 (ro_kk (fun hr44 => ?_))
            have hp45 := f_X2_upAfter_p x0 x1 v36 s37 (by omega) (by omega) (by omega) hm_s37 (WY_fr hpre8 (fun k hk => hf_s37 k (dj (by decide) k hk))) (by first | assumption | omega) (by first | assumption | omega)
            refine k_st (st' := [gI (f_X2_upAfter x0 x1 v36 s37)]) rfl ?_
            refine k_istore (pc := 47) (lv' := [(7, gI (f_X2_upAfter x0 x1 v36 s37)), (0, .ref (a 5)), (1, gI x0), (2, gI x1), (3, gI ((x0 * 16) + x1)), (4, gL v35), (6, gI v36)]) E dX2_stretchMean_47 (by decide) rfl ?_
            refine k_lload (pc := 49) E 5 dX2_stretchMean_49 rfl ?_
            refine k_ldc2 (pc := 51) (n := 1000) E dX2_stretchMean_51 wm_580 (by decide) ?_
            refine k_aloadn (pc := 54) E 1 dX2_stretchMean_54 rfl rfl ?_
            refine k_getf (pc := 55) (q0 := 5) (f := 0) (v := .ref (a 3)) E inX2 rfl rfl (by decide) wm_174 rfl rfl dX2_stretchMean_55 ?_
            refine k_iload (pc := 58) E 0 dX2_stretchMean_58 rfl ?_
            refine k_mr (fun hm_s37 => ?_)
            refine k_callV (pc := 60) (np := 1) (As := [gI (f_X2_upAfter x0 x1 v36 s37)]) (st := [gL 1000, gL v35]) (q0 := 3) E (c_X4_takes l D a cI cJ cS cT s37 (f_X2_upAfter x0 x1 v36 s37) (by omega) (CD_fr hpre0 (fun k hk => hf_s37 k (dj (by decide) k hk))) (BG_fr hpre1 (fun k hk => hf_s37 k (dj (by decide) k hk))) (LA_fr hpre2 (fun k hk => hf_s37 k (dj (by decide) k hk))) (MOx_fr hpre3 (fun k hk => hf_s37 k (dj (by decide) k hk))) hKT_s37 (by first | assumption | omega)) wm_522 wm_4 wm_581 wm_520 wm_521 (by decide +kernel) rfl rfl ⟨by decide, by decide⟩ rfl (Nat.le_of_ble_eq_true rfl) dX2_stretchMean_60 (fun r47 s48 hs48 hr46 => ?_)
            replace hT := gby hT hs48
            have hp49 := f_X4_takes_p (f_X2_upAfter x0 x1 v36 s37) s37 (by omega) hm_s37 (CD_fr hpre0 (fun k hk => hf_s37 k (dj (by decide) k hk))) (BG_fr hpre1 (fun k hk => hf_s37 k (dj (by decide) k hk))) (LA_fr hpre2 (fun k hk => hf_s37 k (dj (by decide) k hk))) (MOx_fr hpre3 (fun k hk => hf_s37 k (dj (by decide) k hk))) hKT_s37 (by first | assumption | omega) r47 s48 hs48
            obtain ⟨hfc_s48, hm_s48, hp50, hKT_s48, hp51⟩ := hp49
            have hf_s48 : fr [32, 36, 37, 39, 42] s0 s48 := hf_s37.call (by decide) hfc_s48
            have hKM_s48 : KM s48 := KM_fr hKM_s37 (fun k hk => hfc_s48 k (dj (by decide) k hk))
            have hKF_s48 : KF s48 := KF_fr hKF_s37 (fun k hk => hfc_s48 k (dj (by decide) k hk))
            have hKC_s48 : KC s48 := KC_fr hKC_s37 (fun k hk => hfc_s48 k (dj (by decide) k hk))
            refine k_st (st' := [gI r47, gL 1000, gL v35]) rfl ?_
            refine k_i2l (pc := 63) E dX2_stretchMean_63 (by omega) ?_
            refine k_lmul (pc := 64) E dX2_stretchMean_64 ?_
            refine k_ladd (pc := 65) E dX2_stretchMean_65 ?_
            refine k_ldc2 (pc := 66) (n := 100) E dX2_stretchMean_66 wm_583 (by decide) ?_
            refine k_lmul (pc := 69) E dX2_stretchMean_69 ?_
            refine k_bipush (pc := 70) E dX2_stretchMean_70 (by decide) ?_
            refine k_aloadn (pc := 72) E 1 dX2_stretchMean_72 rfl rfl ?_
            refine k_getf (pc := 73) (q0 := 5) (f := 0) (v := .ref (a 3)) E inX2 rfl rfl (by decide) wm_174 rfl rfl dX2_stretchMean_73 ?_
            refine k_iload (pc := 76) E 0 dX2_stretchMean_76 rfl ?_
            refine k_iload (pc := 78) E 6 dX2_stretchMean_78 rfl ?_
            refine k_mr (fun hm_s48 => ?_)
            refine k_callV (pc := 80) (np := 2) (As := [gI (f_X2_upAfter x0 x1 v36 s37), gI v36]) (st := [gI 100, gL ((v35 + (1000 * r47)) * 100)]) (q0 := 3) E (c_X4_falls l D a cI cJ cS cT s48 (f_X2_upAfter x0 x1 v36 s37) v36 (by omega) (by omega) (CD_fr hpre0 (fun k hk => hf_s48 k (dj (by decide) k hk))) (BG_fr hpre1 (fun k hk => hf_s48 k (dj (by decide) k hk))) (LA_fr hpre2 (fun k hk => hf_s48 k (dj (by decide) k hk))) (MOx_fr hpre3 (fun k hk => hf_s48 k (dj (by decide) k hk))) hKF_s48 (by first | assumption | omega) (by first | assumption | omega)) wm_513 wm_4 wm_579 wm_511 wm_512 (by decide +kernel) rfl rfl ⟨by decide, by decide⟩ rfl (Nat.le_of_ble_eq_true rfl) dX2_stretchMean_80 (fun r53 s54 hs54 hr52 => ?_)
            replace hT := gby hT hs54
            have hp55 := f_X4_falls_p (f_X2_upAfter x0 x1 v36 s37) v36 s48 (by omega) (by omega) hm_s48 (CD_fr hpre0 (fun k hk => hf_s48 k (dj (by decide) k hk))) (BG_fr hpre1 (fun k hk => hf_s48 k (dj (by decide) k hk))) (LA_fr hpre2 (fun k hk => hf_s48 k (dj (by decide) k hk))) (MOx_fr hpre3 (fun k hk => hf_s48 k (dj (by decide) k hk))) hKF_s48 (by first | assumption | omega) (by first | assumption | omega) r53 s54 hs54
            obtain ⟨hfc_s54, hm_s54, hp56, hKF_s54, hp57⟩ := hp55
            have hf_s54 : fr [32, 36, 37, 39, 42] s0 s54 := hf_s48.call (by decide) hfc_s54
            have hKM_s54 : KM s54 := KM_fr hKM_s48 (fun k hk => hfc_s54 k (dj (by decide) k hk))
            have hKC_s54 : KC s54 := KC_fr hKC_s48 (fun k hk => hfc_s54 k (dj (by decide) k hk))
            have hKT_s54 : KT s54 := KT_fr hKT_s48 (fun k hk => hfc_s54 k (dj (by decide) k hk))
            refine k_st (st' := [gI r53, gI 100, gL ((v35 + (1000 * r47)) * 100)]) rfl ?_
            refine k_isub (pc := 83) E dX2_stretchMean_83 ?_
            refine k_i2l (pc := 84) E dX2_stretchMean_84 (by omega) ?_
            have hd58 : (0 : Int) ≤ ((v35 + (1000 * r47)) * 100) := (by omega)
            have hd59 : (0 : Int) < (100 - r53) := (by omega)
            refine k_ldivN (pc := 85) E (by omega) (by omega) hd58 hd59 dX2_stretchMean_85 ?_
            have hb60 := dv_rg hd58 hd59
            refine k_mr (fun hm_s54 => ?_)
            refine k_callS (pc := 86) (np := 1) (As := [gL (((v35 + (1000 * r47)) * 100) / (100 - r53))]) (st := []) E (c_X2_capped l D a cI cJ cS cT s54 (((v35 + (1000 * r47)) * 100) / (100 - r53)) (by omega)) wm_586 wm_7 wm_584 wm_585 (by decide +kernel) ⟨by decide, by decide⟩ rfl (Nat.le_of_ble_eq_true rfl) dX2_stretchMean_86 (ro_kk (fun hr61 => ?_))
            have hp62 := f_X2_capped_p (((v35 + (1000 * r47)) * 100) / (100 - r53)) (by omega) 
            refine k_st (st' := [gL (f_X2_capped (((v35 + (1000 * r47)) * 100) / (100 - r53)))]) rfl ?_
            obtain ⟨v63, hv63, hT⟩ := glx hT
            refine k_st (st' := [gL v63]) (by rw [hv63]) ?_
            refine k_lstore (pc := 89) (lv' := [(4, gL v63), (7, gI (f_X2_upAfter x0 x1 v36 s37)), (0, .ref (a 5)), (1, gI x0), (2, gI x1), (3, gI ((x0 * 16) + x1)), (6, gI v36)]) E dX2_stretchMean_89 (by decide) rfl ?_
            refine k_iinc (pc := 91) (lv' := [(6, gI (v36 + 1)), (4, gL v63), (7, gI (f_X2_upAfter x0 x1 v36 s37)), (0, .ref (a 5)), (1, gI x0), (2, gI x1), (3, gI ((x0 * 16) + x1))]) E 6 dX2_stretchMean_91 rfl (by decide) rfl ?_
            refine k_goto (pc := 94) (tgt := 31) E dX2_stretchMean_94 (by decide) ?_
            refine k_lv (lv' := [(0, .ref (a 5)), (1, gI x0), (2, gI x1), (3, gI ((x0 * 16) + x1)), (4, gL v63), (6, gI (v36 + 1))]) [3, 4, 5, 6, 1, 0] rfl ?_
            exact ih v63 (v36 + 1) s54 ⟨(by omega), (by omega), hf_s54, hKM_s54, hKF_s54, hKC_s54, hKT_s54, (by first | assumption | omega), (by first | assumption | omega)⟩ (by omega) (fun w40 w41 s42 hw hi => hk w40 w41 s42 (hT.trans hw) hi)
      refine k_lv (lv' := [(0, .ref (a 5)), (1, gI x0), (2, gI x1), (3, gI ((x0 * 16) + x1)), (4, gL 0), (6, gI 0)]) [3, 4, 5, 2, 1, 0] rfl ?_
      refine L38 17 0 0 s0 ⟨(by omega), (by omega), hf_s0, hKM_s0, hKF_s0, hKC_s0, hKT_s0, (by first | assumption | omega), (by first | assumption | omega)⟩ (by omega) (fun v72 v73 s74 hw hq => ?_)
      obtain ⟨hq75, hq76, hf_s74, hKM_s74, hKF_s74, hKC_s74, hKT_s74, hq77, hq78⟩ := hq
      replace hT := gl3y hT hw
      refine k_aloadn (pc := 97) E 0 dX2_stretchMean_97 rfl rfl ?_
      refine k_getf (pc := 98) (q0 := 5) (f := 1) (v := .ref (a 42)) E inX2 rfl rfl (by decide) wm_175 rfl rfl dX2_stretchMean_98 ?_
      refine k_iloadn (pc := 101) E 1 dX2_stretchMean_101 rfl rfl ?_
      refine k_lload (pc := 102) E 2 dX2_stretchMean_102 rfl ?_
      refine k_lastore (pc := 104) (q0 := 42) (t0 := 1) (k := 42) (n := 256) E rfl rfl rfl rfl (by decide) (by omega) (by omega) (by omega) dX2_stretchMean_104 ?_
      obtain ⟨s79, hs79, hT⟩ := glx hT
      refine k_sg hs79.symm ?_
      have hf_s79 : fr [32, 36, 37, 39, 42] s0 s79 := hs79 ▸ hf_s74.set (by decide)
      have hg_s79 : fr [42] s74 s79 := hs79 ▸ (fr.rf _ _).set (by decide)
      have hKM_s79 : KM s79 := hs79 ▸ KM_set hKM_s74 (by omega)
      have hKF_s79 : KF s79 := KF_fr hKF_s74 (fun k hk => hg_s79 k (dj (by decide) k hk))
      have hKC_s79 : KC s79 := KC_fr hKC_s74 (fun k hk => hg_s79 k (dj (by decide) k hk))
      have hKT_s79 : KT s79 := KT_fr hKT_s74 (fun k hk => hg_s79 k (dj (by decide) k hk))
      have hw80 : s79 42 ((x0 * 16) + x1) = v72 := by rw [hs79]; exact mset_eq _ _ _ _
      refine k_lv (lv' := [(0, .ref (a 5)), (3, gI ((x0 * 16) + x1))]) [0, 1] rfl ?_
      exact j5 s79 ⟨hf_s79, hKM_s79, hKF_s79, hKC_s79, hKT_s79, (by first | assumption | omega)⟩ hT
    · replace hT := hT.trans (if_neg h4)
      refine k_lcmp (pc := 21) E dX2_stretchMean_21 (by omega) (by omega) ?_
      refine k_if_ge_t (pc := 22) (tgt := 105) E (by (repeat' split) <;> omega) dX2_stretchMean_22 (by decide) (by (repeat' split) <;> omega) ?_
      refine k_lv (lv' := [(0, .ref (a 5)), (3, gI ((x0 * 16) + x1))]) [1, 0] rfl ?_
      exact j5 s0 ⟨hf_s0, hKM_s0, hKF_s0, hKC_s0, hKT_s0, (by first | assumption | omega)⟩ hT

def w_X2_meanBy_11 (c1 : Int) : Nat → Int → Int → Int → Int → gMem → Int × Int × Int × Int × gMem
  | 0, v1, v2, v3, v4, s5 => (v1, v2, v3, v4, s5)
  | n6 + 1, v1, v2, v3, v4, s5 => (if v4 < 16 then (if (f_X4_stops v4 s5) = 0 then (if (f_X8_has c1 v4) = 0 then (if (f_X2_begins v4 c1 s5) = 0 then (w_X2_meanBy_11 c1 n6 v1 v2 v3 (v4 + 1) s5) else gb (f_X2_stretchMean v4 (f_X2_lastOf v4 c1 s5) s5) (fun r29 s30 => (gj (fun j39c => (if v4 = 0 then j39c else (if (f_X4_stops (v4 - 1) s30) = 0 then (w_X2_meanBy_11 c1 n6 (f_X2_capped (v1 + r29)) v2 v3 (v4 + 1) s30) else j39c))) (gl (((f_X2_lastOf v4 c1 s5) - v4) + 1) (fun v40 => (w_X2_meanBy_11 c1 n6 (f_X2_capped (v1 + r29)) r29 v40 (v4 + 1) s30)))))) else (gj (fun j47c => (if (v4 + 1) < 16 then (if (f_X8_has c1 (v4 + 1)) = 0 then (if (f_X4_stops (v4 + 1) s5) = 0 then gb (f_X2_stretchMean (v4 + 1) (f_X2_lastOf (v4 + 1) c1 s5) s5) (fun r89 s90 => gb (f_X2_closing v4 (f_X2_capped (v2 + r89)) ((v3 + (f_X2_lastOf (v4 + 1) c1 s5)) - v4) s90) (fun r99 s100 => gl (f_X2_capped ((f_X2_capped (v2 + r89)) + r99)) (fun v112 => (w_X2_meanBy_11 c1 n6 (f_X2_capped (v1 + r99)) v112 (v3 + (((f_X2_lastOf (v4 + 1) c1 s5) - v4) + 1)) (v4 + 1) s100)))) else j47c) else j47c) else j47c)) (gb (f_X2_stretchMean (v4 + 1) v4 s5) (fun r49 s50 => gb (f_X2_closing v4 (f_X2_capped (v2 + r49)) ((v3 + v4) - v4) s50) (fun r59 s60 => gl (f_X2_capped ((f_X2_capped (v2 + r49)) + r59)) (fun v72 => (w_X2_meanBy_11 c1 n6 (f_X2_capped (v1 + r59)) v72 (v3 + ((v4 - v4) + 1)) (v4 + 1) s60))))))) else (gl2 ((if (f_X8_has c1 v4) = 0 then gb (f_X2_stretchMean v4 v4 s5) (fun r129 s130 => (r129, s130)) else gb (f_X2_closing v4 0 0 s5) (fun r135 s136 => (r135, s136)))) (fun v119 s120 => (w_X2_meanBy_11 c1 n6 (f_X2_capped (v1 + v119)) 0 0 (v4 + 1) s120)))) else (v1, v2, v3, v4, s5))
theorem w_X2_meanBy_11_s (c1 : Int) (n6 : Nat) (v1 : Int) (v2 : Int) (v3 : Int) (v4 : Int) (s5 : gMem) : w_X2_meanBy_11 c1 (n6 + 1) v1 v2 v3 v4 s5 = (if v4 < 16 then (if (f_X4_stops v4 s5) = 0 then (if (f_X8_has c1 v4) = 0 then (if (f_X2_begins v4 c1 s5) = 0 then (w_X2_meanBy_11 c1 n6 v1 v2 v3 (v4 + 1) s5) else gb (f_X2_stretchMean v4 (f_X2_lastOf v4 c1 s5) s5) (fun r29 s30 => (gj (fun j39c => (if v4 = 0 then j39c else (if (f_X4_stops (v4 - 1) s30) = 0 then (w_X2_meanBy_11 c1 n6 (f_X2_capped (v1 + r29)) v2 v3 (v4 + 1) s30) else j39c))) (gl (((f_X2_lastOf v4 c1 s5) - v4) + 1) (fun v40 => (w_X2_meanBy_11 c1 n6 (f_X2_capped (v1 + r29)) r29 v40 (v4 + 1) s30)))))) else (gj (fun j47c => (if (v4 + 1) < 16 then (if (f_X8_has c1 (v4 + 1)) = 0 then (if (f_X4_stops (v4 + 1) s5) = 0 then gb (f_X2_stretchMean (v4 + 1) (f_X2_lastOf (v4 + 1) c1 s5) s5) (fun r89 s90 => gb (f_X2_closing v4 (f_X2_capped (v2 + r89)) ((v3 + (f_X2_lastOf (v4 + 1) c1 s5)) - v4) s90) (fun r99 s100 => gl (f_X2_capped ((f_X2_capped (v2 + r89)) + r99)) (fun v112 => (w_X2_meanBy_11 c1 n6 (f_X2_capped (v1 + r99)) v112 (v3 + (((f_X2_lastOf (v4 + 1) c1 s5) - v4) + 1)) (v4 + 1) s100)))) else j47c) else j47c) else j47c)) (gb (f_X2_stretchMean (v4 + 1) v4 s5) (fun r49 s50 => gb (f_X2_closing v4 (f_X2_capped (v2 + r49)) ((v3 + v4) - v4) s50) (fun r59 s60 => gl (f_X2_capped ((f_X2_capped (v2 + r49)) + r59)) (fun v72 => (w_X2_meanBy_11 c1 n6 (f_X2_capped (v1 + r59)) v72 (v3 + ((v4 - v4) + 1)) (v4 + 1) s60))))))) else (gl2 ((if (f_X8_has c1 v4) = 0 then gb (f_X2_stretchMean v4 v4 s5) (fun r129 s130 => (r129, s130)) else gb (f_X2_closing v4 0 0 s5) (fun r135 s136 => (r135, s136)))) (fun v119 s120 => (w_X2_meanBy_11 c1 n6 (f_X2_capped (v1 + v119)) 0 0 (v4 + 1) s120)))) else (v1, v2, v3, v4, s5)) := rfl
def f_X2_meanBy (x0 : Int) (s0 : gMem) : gRes := (gl5 (w_X2_meanBy_11 x0 17 0 0 0 0 s0) (fun v303 v304 v305 v306 s307 => (v303, s307)))
theorem f_X2_meanBy_e (x0 : Int) (s0 : gMem) : f_X2_meanBy x0 s0 = (gl5 (w_X2_meanBy_11 x0 17 0 0 0 0 s0) (fun v303 v304 v305 v306 s307 => (v303, s307))) := rfl
set_option maxRecDepth 100000 in
set_option maxHeartbeats 4000000 in
theorem f_X2_meanBy_p (x0 : Int) (s0 : gMem) (hx0 : in32 x0) (hm_s0 : gMR lgX s0) (hpre0 : CD s0) (hpre1 : BG s0) (hpre2 : LA s0) (hpre3 : MOx s0) (hpre4 : KF s0) (hpre5 : KC s0) (hpre6 : KT s0) (hpre7 : KM s0) (hpre8 : WY s0) (rZ : Int) (sZ : gMem) (hres : f_X2_meanBy x0 s0 = (rZ, sZ)) : (fr [32, 36, 37, 38, 39, 42] s0 sZ) ∧ (gMR lgX sZ) ∧ (in64 rZ) ∧ (KM sZ) ∧ (KF sZ) ∧ (KC sZ) ∧ (KT sZ) ∧ (0 ≤ rZ ∧ rZ ≤ 1000000000000) := by
  have hT := f_X2_meanBy_e x0 s0
  have hf_s0 : fr [32, 36, 37, 38, 39, 42] s0 s0 := fr.rf _ _
  have hKM_s0 := hpre7
  have hKF_s0 := hpre4
  have hKC_s0 := hpre5
  have hKT_s0 := hpre6
  have L145 : ∀ (n146 : Nat) (v140 : Int) (v141 : Int) (v142 : Int) (v143 : Int) (s144 : gMem), ((in64 v140) ∧ (in64 v141) ∧ (in32 v142) ∧ (in32 v143) ∧ (fr [32, 36, 37, 38, 39, 42] s0 s144) ∧ (gMR lgX s144) ∧ (KM s144) ∧ (KF s144) ∧ (KC s144) ∧ (KT s144) ∧ (0 ≤ v143 ∧ v143 ≤ 16) ∧ (0 ≤ v140 ∧ v140 ≤ 1000000000000) ∧ (0 ≤ v141 ∧ v141 ≤ 1000000000000) ∧ (0 ≤ v142 ∧ v142 ≤ 16) ∧ (SG (s0 40) x0 v142 v143)) → 16 - v143 < (n146 : Int) → (∀ (w147 : Int) (w148 : Int) (w149 : Int) (w150 : Int) (s151 : gMem), (w_X2_meanBy_11 x0 n146 v140 v141 v142 v143 s144) = (w147, w148, w149, w150, s151) → ((in64 w147) ∧ (in64 w148) ∧ (in32 w149) ∧ (in32 w150) ∧ (fr [32, 36, 37, 38, 39, 42] s0 s151) ∧ (gMR lgX s151) ∧ (KM s151) ∧ (KF s151) ∧ (KC s151) ∧ (KT s151) ∧ (0 ≤ w150 ∧ w150 ≤ 16) ∧ (0 ≤ w147 ∧ w147 ≤ 1000000000000) ∧ (0 ≤ w148 ∧ w148 ≤ 1000000000000) ∧ (0 ≤ w149 ∧ w149 ≤ 16) ∧ (SG (s0 40) x0 w149 w150)) → (fr [32, 36, 37, 38, 39, 42] s0 sZ) ∧ (gMR lgX sZ) ∧ (in64 rZ) ∧ (KM sZ) ∧ (KF sZ) ∧ (KC sZ) ∧ (KT sZ) ∧ (0 ≤ rZ ∧ rZ ≤ 1000000000000)) → (fr [32, 36, 37, 38, 39, 42] s0 sZ) ∧ (gMR lgX sZ) ∧ (in64 rZ) ∧ (KM sZ) ∧ (KF sZ) ∧ (KC sZ) ∧ (KT sZ) ∧ (0 ≤ rZ ∧ rZ ≤ 1000000000000) := by
    intro n146; induction n146 with
    | zero =>
      intro v140 v141 v142 v143 s144 hq hm hk
      exfalso
      obtain ⟨hq285, hq286, hq287, hq288, hf_s144, hm_s144, hKM_s144, hKF_s144, hKC_s144, hKT_s144, hq289, hq290, hq291, hq292, hq293⟩ := hq
      omega
    | succ n146 ih =>
      intro v140 v141 v142 v143 s144 hq hm hk
      obtain ⟨hq294, hq295, hq296, hq297, hf_s144, hm_s144, hKM_s144, hKF_s144, hKC_s144, hKT_s144, hq298, hq299, hq300, hq301, hq302⟩ := hq
      have hT := w_X2_meanBy_11_s x0 n146 v140 v141 v142 v143 s144
      by_cases h152 : v143 < 16
      · replace hT := hT.trans (if_pos h152)
        have hp154 := f_X4_stops_p v143 s144 (by omega) hm_s144 (by first | assumption | omega)
        try simp only [hf_s144 40 (by decide)] at hp154
        obtain ⟨hp155, hp156⟩ := hp154
        by_cases h157 : (f_X4_stops v143 s144) = 0
        · replace hT := hT.trans (if_pos h157)
          have hp159 := f_X8_has_p x0 v143 (by omega) (by omega) 
          try simp only [hf_s144 40 (by decide)] at hp159
          obtain ⟨hp160, hp161⟩ := hp159
          by_cases h162 : (f_X8_has x0 v143) = 0
          · replace hT := hT.trans (if_pos h162)
            have hp164 := f_X2_begins_p v143 x0 s144 (by omega) (by omega) hm_s144 (by first | assumption | omega)
            try simp only [hf_s144 40 (by decide)] at hp164
            obtain ⟨hp165, hp166⟩ := hp164
            by_cases h167 : (f_X2_begins v143 x0 s144) = 0
            · replace hT := hT.trans (if_pos h167)
              exact ih v140 v141 v142 (v143 + 1) s144 ⟨(by omega), (by omega), (by omega), (by omega), hf_s144, hm_s144, hKM_s144, hKF_s144, hKC_s144, hKT_s144, (by first | assumption | omega), (by first | assumption | omega), (by first | assumption | omega), (by first | assumption | omega), (by first | assumption | exact SG_0 _ _ (by omega) | exact SG_skip (by assumption) (by unfold bitS; omega) (by omega) | exact SG_new (by assumption) (by omega) | exact SG_new (RUN_0 _ _ _) (by omega) | exact SG_new (RUN_c (by assumption) (by unfold bitS; omega) (by omega)) (by omega))⟩ (by omega) (fun w147 w148 w149 w150 s151 hw hi => hk w147 w148 w149 w150 s151 (hT.trans hw) hi)
            · replace hT := hT.trans (if_neg h167)
              have hp169 := f_X2_lastOf_p v143 x0 s144 (by omega) (by omega) hm_s144 (by first | assumption | omega)
              try simp only [hf_s144 40 (by decide)] at hp169
              obtain ⟨hp170, hp171, hp172⟩ := hp169
              obtain ⟨r174, s175, hs175⟩ : ∃ rr ss, (f_X2_stretchMean v143 (f_X2_lastOf v143 x0 s144) s144) = (rr, ss) := ⟨_, _, rfl⟩
              replace hT := gby hT hs175
              have hp176 := f_X2_stretchMean_p v143 (f_X2_lastOf v143 x0 s144) s144 (by omega) (by omega) hm_s144 (CD_fr hpre0 (fun k hk => hf_s144 k (dj (by decide) k hk))) (BG_fr hpre1 (fun k hk => hf_s144 k (dj (by decide) k hk))) (LA_fr hpre2 (fun k hk => hf_s144 k (dj (by decide) k hk))) (MOx_fr hpre3 (fun k hk => hf_s144 k (dj (by decide) k hk))) hKF_s144 hKC_s144 hKT_s144 hKM_s144 (WY_fr hpre8 (fun k hk => hf_s144 k (dj (by decide) k hk))) (by first | assumption | omega) (by first | assumption | omega) r174 s175 hs175
              obtain ⟨hfc_s175, hm_s175, hp177, hKM_s175, hKF_s175, hKC_s175, hKT_s175, hp178⟩ := hp176
              have hf_s175 : fr [32, 36, 37, 38, 39, 42] s0 s175 := hf_s144.call (by decide) hfc_s175
              have hKC_s175 : KC s175 := KC_fr hKC_s144 (fun k hk => hfc_s175 k (dj (by decide) k hk))
              have hp180 := f_X2_capped_p (v140 + r174) (by omega) 
              try simp only [hf_s175 40 (by decide)] at hp180
              obtain ⟨hp181, hp182⟩ := hp180
              obtain ⟨j184c, hj184c, hT⟩ := gjx hT
              have j184 : (True) → (w_X2_meanBy_11 x0 (n146 + 1) v140 v141 v142 v143 s144) = j184c  → (fr [32, 36, 37, 38, 39, 42] s0 sZ) ∧ (gMR lgX sZ) ∧ (in64 rZ) ∧ (KM sZ) ∧ (KF sZ) ∧ (KC sZ) ∧ (KT sZ) ∧ (0 ≤ rZ ∧ rZ ≤ 1000000000000) := by
                intro  hq hT
                rw [hj184c] at hT
                obtain ⟨v185, hv185, hT⟩ := glx hT
                exact ih (f_X2_capped (v140 + r174)) r174 v185 (v143 + 1) s175 ⟨(by omega), (by omega), (by omega), (by omega), hf_s175, hm_s175, hKM_s175, hKF_s175, hKC_s175, hKT_s175, (by first | assumption | omega), (by first | assumption | omega), (by first | assumption | omega), (by first | assumption | omega), (by first | assumption | exact SG_0 _ _ (by omega) | exact SG_skip (by assumption) (by unfold bitS; omega) (by omega) | exact SG_new (by assumption) (by omega) | exact SG_new (RUN_0 _ _ _) (by omega) | exact SG_new (RUN_c (by assumption) (by unfold bitS; omega) (by omega)) (by omega))⟩ (by omega) (fun w147 w148 w149 w150 s151 hw hi => hk w147 w148 w149 w150 s151 (hT.trans hw) hi)
              by_cases h183 : v143 = 0
              · replace hT := hT.trans (if_pos h183)
                exact j184  trivial hT
              · replace hT := hT.trans (if_neg h183)
                have hp187 := f_X4_stops_p (v143 - 1) s175 (by omega) hm_s175 (by first | assumption | omega)
                try simp only [hf_s175 40 (by decide)] at hp187
                obtain ⟨hp188, hp189⟩ := hp187
                by_cases h190 : (f_X4_stops (v143 - 1) s175) = 0
                · replace hT := hT.trans (if_pos h190)
                  exact ih (f_X2_capped (v140 + r174)) v141 v142 (v143 + 1) s175 ⟨(by omega), (by omega), (by omega), (by omega), hf_s175, hm_s175, hKM_s175, hKF_s175, hKC_s175, hKT_s175, (by first | assumption | omega), (by first | assumption | omega), (by first | assumption | omega), (by first | assumption | omega), (by first | assumption | exact SG_0 _ _ (by omega) | exact SG_skip (by assumption) (by unfold bitS; omega) (by omega) | exact SG_new (by assumption) (by omega) | exact SG_new (RUN_0 _ _ _) (by omega) | exact SG_new (RUN_c (by assumption) (by unfold bitS; omega) (by omega)) (by omega))⟩ (by omega) (fun w147 w148 w149 w150 s151 hw hi => hk w147 w148 w149 w150 s151 (hT.trans hw) hi)
                · replace hT := hT.trans (if_neg h190)
                  exact j184  trivial hT
          · replace hT := hT.trans (if_neg h162)
            obtain ⟨j192c, hj192c, hT⟩ := gjx hT
            have j192 : (True) → (w_X2_meanBy_11 x0 (n146 + 1) v140 v141 v142 v143 s144) = j192c  → (fr [32, 36, 37, 38, 39, 42] s0 sZ) ∧ (gMR lgX sZ) ∧ (in64 rZ) ∧ (KM sZ) ∧ (KF sZ) ∧ (KC sZ) ∧ (KT sZ) ∧ (0 ≤ rZ ∧ rZ ≤ 1000000000000) := by
              intro  hq hT
              rw [hj192c] at hT
              have ksz : v142 ≤ v143 := SG_use (by assumption) (by omega) (by unfold bitS; omega)
              obtain ⟨r194, s195, hs195⟩ : ∃ rr ss, (f_X2_stretchMean (v143 + 1) v143 s144) = (rr, ss) := ⟨_, _, rfl⟩
              replace hT := gby hT hs195
              have hp196 := f_X2_stretchMean_p (v143 + 1) v143 s144 (by omega) (by omega) hm_s144 (CD_fr hpre0 (fun k hk => hf_s144 k (dj (by decide) k hk))) (BG_fr hpre1 (fun k hk => hf_s144 k (dj (by decide) k hk))) (LA_fr hpre2 (fun k hk => hf_s144 k (dj (by decide) k hk))) (MOx_fr hpre3 (fun k hk => hf_s144 k (dj (by decide) k hk))) hKF_s144 hKC_s144 hKT_s144 hKM_s144 (WY_fr hpre8 (fun k hk => hf_s144 k (dj (by decide) k hk))) (by first | assumption | omega) (by first | assumption | omega) r194 s195 hs195
              obtain ⟨hfc_s195, hm_s195, hp197, hKM_s195, hKF_s195, hKC_s195, hKT_s195, hp198⟩ := hp196
              have hf_s195 : fr [32, 36, 37, 38, 39, 42] s0 s195 := hf_s144.call (by decide) hfc_s195
              have hKC_s195 : KC s195 := KC_fr hKC_s144 (fun k hk => hfc_s195 k (dj (by decide) k hk))
              have hp200 := f_X2_capped_p (v141 + r194) (by omega) 
              try simp only [hf_s195 40 (by decide)] at hp200
              obtain ⟨hp201, hp202⟩ := hp200
              obtain ⟨r204, s205, hs205⟩ : ∃ rr ss, (f_X2_closing v143 (f_X2_capped (v141 + r194)) ((v142 + v143) - v143) s195) = (rr, ss) := ⟨_, _, rfl⟩
              replace hT := gby hT hs205
              have hp206 := f_X2_closing_p v143 (f_X2_capped (v141 + r194)) ((v142 + v143) - v143) s195 (by omega) (by omega) (by omega) hm_s195 (CD_fr hpre0 (fun k hk => hf_s195 k (dj (by decide) k hk))) (BG_fr hpre1 (fun k hk => hf_s195 k (dj (by decide) k hk))) (LA_fr hpre2 (fun k hk => hf_s195 k (dj (by decide) k hk))) (MOx_fr hpre3 (fun k hk => hf_s195 k (dj (by decide) k hk))) hKF_s195 hKC_s195 hKT_s195 (by first | assumption | omega) (by first | assumption | omega) (by first | assumption | omega) r204 s205 hs205
              obtain ⟨hfc_s205, hm_s205, hp207, hKF_s205, hKC_s205, hKT_s205, hp208⟩ := hp206
              have hf_s205 : fr [32, 36, 37, 38, 39, 42] s0 s205 := hf_s195.call (by decide) hfc_s205
              have hKM_s205 : KM s205 := KM_fr hKM_s195 (fun k hk => hfc_s205 k (dj (by decide) k hk))
              have hp210 := f_X2_capped_p (v140 + r204) (by omega) 
              try simp only [hf_s205 40 (by decide)] at hp210
              obtain ⟨hp211, hp212⟩ := hp210
              have hp214 := f_X2_capped_p ((f_X2_capped (v141 + r194)) + r204) (by omega) 
              try simp only [hf_s205 40 (by decide)] at hp214
              obtain ⟨hp215, hp216⟩ := hp214
              obtain ⟨v217, hv217, hT⟩ := glx hT
              exact ih (f_X2_capped (v140 + r204)) v217 (v142 + ((v143 - v143) + 1)) (v143 + 1) s205 ⟨(by omega), (by omega), (by omega), (by omega), hf_s205, hm_s205, hKM_s205, hKF_s205, hKC_s205, hKT_s205, (by first | assumption | omega), (by first | assumption | omega), (by first | assumption | omega), (by first | assumption | omega), (by first | assumption | exact SG_0 _ _ (by omega) | exact SG_skip (by assumption) (by unfold bitS; omega) (by omega) | exact SG_new (by assumption) (by omega) | exact SG_new (RUN_0 _ _ _) (by omega) | exact SG_new (RUN_c (by assumption) (by unfold bitS; omega) (by omega)) (by omega))⟩ (by omega) (fun w147 w148 w149 w150 s151 hw hi => hk w147 w148 w149 w150 s151 (hT.trans hw) hi)
            by_cases h191 : (v143 + 1) < 16
            · replace hT := hT.trans (if_pos h191)
              have hp219 := f_X8_has_p x0 (v143 + 1) (by omega) (by omega) 
              try simp only [hf_s144 40 (by decide)] at hp219
              obtain ⟨hp220, hp221⟩ := hp219
              by_cases h222 : (f_X8_has x0 (v143 + 1)) = 0
              · replace hT := hT.trans (if_pos h222)
                have hp224 := f_X4_stops_p (v143 + 1) s144 (by omega) hm_s144 (by first | assumption | omega)
                try simp only [hf_s144 40 (by decide)] at hp224
                obtain ⟨hp225, hp226⟩ := hp224
                by_cases h227 : (f_X4_stops (v143 + 1) s144) = 0
                · replace hT := hT.trans (if_pos h227)
                  have hp229 := f_X2_lastOf_p (v143 + 1) x0 s144 (by omega) (by omega) hm_s144 (by first | assumption | omega)
                  try simp only [hf_s144 40 (by decide)] at hp229
                  obtain ⟨hp230, hp231, hp232⟩ := hp229
                  have ksz : v142 ≤ v143 := SG_use (by assumption) (by omega) (by unfold bitS; omega)
                  obtain ⟨r234, s235, hs235⟩ : ∃ rr ss, (f_X2_stretchMean (v143 + 1) (f_X2_lastOf (v143 + 1) x0 s144) s144) = (rr, ss) := ⟨_, _, rfl⟩
                  replace hT := gby hT hs235
                  have hp236 := f_X2_stretchMean_p (v143 + 1) (f_X2_lastOf (v143 + 1) x0 s144) s144 (by omega) (by omega) hm_s144 (CD_fr hpre0 (fun k hk => hf_s144 k (dj (by decide) k hk))) (BG_fr hpre1 (fun k hk => hf_s144 k (dj (by decide) k hk))) (LA_fr hpre2 (fun k hk => hf_s144 k (dj (by decide) k hk))) (MOx_fr hpre3 (fun k hk => hf_s144 k (dj (by decide) k hk))) hKF_s144 hKC_s144 hKT_s144 hKM_s144 (WY_fr hpre8 (fun k hk => hf_s144 k (dj (by decide) k hk))) (by first | assumption | omega) (by first | assumption | omega) r234 s235 hs235
                  obtain ⟨hfc_s235, hm_s235, hp237, hKM_s235, hKF_s235, hKC_s235, hKT_s235, hp238⟩ := hp236
                  have hf_s235 : fr [32, 36, 37, 38, 39, 42] s0 s235 := hf_s144.call (by decide) hfc_s235
                  have hKC_s235 : KC s235 := KC_fr hKC_s144 (fun k hk => hfc_s235 k (dj (by decide) k hk))
                  have hp240 := f_X2_capped_p (v141 + r234) (by omega) 
                  try simp only [hf_s235 40 (by decide)] at hp240
                  obtain ⟨hp241, hp242⟩ := hp240
                  obtain ⟨r244, s245, hs245⟩ : ∃ rr ss, (f_X2_closing v143 (f_X2_capped (v141 + r234)) ((v142 + (f_X2_lastOf (v143 + 1) x0 s144)) - v143) s235) = (rr, ss) := ⟨_, _, rfl⟩
                  replace hT := gby hT hs245
                  have hp246 := f_X2_closing_p v143 (f_X2_capped (v141 + r234)) ((v142 + (f_X2_lastOf (v143 + 1) x0 s144)) - v143) s235 (by omega) (by omega) (by omega) hm_s235 (CD_fr hpre0 (fun k hk => hf_s235 k (dj (by decide) k hk))) (BG_fr hpre1 (fun k hk => hf_s235 k (dj (by decide) k hk))) (LA_fr hpre2 (fun k hk => hf_s235 k (dj (by decide) k hk))) (MOx_fr hpre3 (fun k hk => hf_s235 k (dj (by decide) k hk))) hKF_s235 hKC_s235 hKT_s235 (by first | assumption | omega) (by first | assumption | omega) (by first | assumption | omega) r244 s245 hs245
                  obtain ⟨hfc_s245, hm_s245, hp247, hKF_s245, hKC_s245, hKT_s245, hp248⟩ := hp246
                  have hf_s245 : fr [32, 36, 37, 38, 39, 42] s0 s245 := hf_s235.call (by decide) hfc_s245
                  have hKM_s245 : KM s245 := KM_fr hKM_s235 (fun k hk => hfc_s245 k (dj (by decide) k hk))
                  have hp250 := f_X2_capped_p (v140 + r244) (by omega) 
                  try simp only [hf_s245 40 (by decide)] at hp250
                  obtain ⟨hp251, hp252⟩ := hp250
                  have hp254 := f_X2_capped_p ((f_X2_capped (v141 + r234)) + r244) (by omega) 
                  try simp only [hf_s245 40 (by decide)] at hp254
                  obtain ⟨hp255, hp256⟩ := hp254
                  obtain ⟨v257, hv257, hT⟩ := glx hT
                  exact ih (f_X2_capped (v140 + r244)) v257 (v142 + (((f_X2_lastOf (v143 + 1) x0 s144) - v143) + 1)) (v143 + 1) s245 ⟨(by omega), (by omega), (by omega), (by omega), hf_s245, hm_s245, hKM_s245, hKF_s245, hKC_s245, hKT_s245, (by first | assumption | omega), (by first | assumption | omega), (by first | assumption | omega), (by first | assumption | omega), (by first | assumption | exact SG_0 _ _ (by omega) | exact SG_skip (by assumption) (by unfold bitS; omega) (by omega) | exact SG_new (by assumption) (by omega) | exact SG_new (RUN_0 _ _ _) (by omega) | exact SG_new (RUN_c (by assumption) (by unfold bitS; omega) (by omega)) (by omega))⟩ (by omega) (fun w147 w148 w149 w150 s151 hw hi => hk w147 w148 w149 w150 s151 (hT.trans hw) hi)
                · replace hT := hT.trans (if_neg h227)
                  exact j192  trivial hT
              · replace hT := hT.trans (if_neg h222)
                exact j192  trivial hT
            · replace hT := hT.trans (if_neg h191)
              exact j192  trivial hT
        · replace hT := hT.trans (if_neg h157)
          have hp259 := f_X8_has_p x0 v143 (by omega) (by omega) 
          try simp only [hf_s144 40 (by decide)] at hp259
          obtain ⟨hp260, hp261⟩ := hp259
          obtain ⟨z272, hz272, hT⟩ := gl2x hT
          have j263 : ∀ (v264 : Int) (s265 : gMem), ((in64 v264) ∧ (0 ≤ v264 ∧ v264 ≤ 1000000000000) ∧ (fr [32, 36, 37, 38, 39, 42] s0 s265) ∧ (gMR lgX s265) ∧ (KM s265) ∧ (KF s265) ∧ (KC s265) ∧ (KT s265)) → z272 = (v264, s265) → (fr [32, 36, 37, 38, 39, 42] s0 sZ) ∧ (gMR lgX sZ) ∧ (in64 rZ) ∧ (KM sZ) ∧ (KF sZ) ∧ (KC sZ) ∧ (KT sZ) ∧ (0 ≤ rZ ∧ rZ ≤ 1000000000000) := by
            intro v264 s265 hq hz
            obtain ⟨hq270, hq271, hf_s265, hm_s265, hKM_s265, hKF_s265, hKC_s265, hKT_s265⟩ := hq
            replace hT := gl2y hT hz
            have hp267 := f_X2_capped_p (v140 + v264) (by omega) 
            try simp only [hf_s265 40 (by decide)] at hp267
            obtain ⟨hp268, hp269⟩ := hp267
            exact ih (f_X2_capped (v140 + v264)) 0 0 (v143 + 1) s265 ⟨(by omega), (by omega), (by omega), (by omega), hf_s265, hm_s265, hKM_s265, hKF_s265, hKC_s265, hKT_s265, (by first | assumption | omega), (by first | assumption | omega), (by first | assumption | omega), (by first | assumption | omega), (by first | assumption | exact SG_0 _ _ (by omega) | exact SG_skip (by assumption) (by unfold bitS; omega) (by omega) | exact SG_new (by assumption) (by omega) | exact SG_new (RUN_0 _ _ _) (by omega) | exact SG_new (RUN_c (by assumption) (by unfold bitS; omega) (by omega)) (by omega))⟩ (by omega) (fun w147 w148 w149 w150 s151 hw hi => hk w147 w148 w149 w150 s151 (hT.trans hw) hi)
          replace hT := hz272
          by_cases h262 : (f_X8_has x0 v143) = 0
          · replace hT := hT.trans (if_pos h262)
            obtain ⟨r274, s275, hs275⟩ : ∃ rr ss, (f_X2_stretchMean v143 v143 s144) = (rr, ss) := ⟨_, _, rfl⟩
            replace hT := gby hT hs275
            have hp276 := f_X2_stretchMean_p v143 v143 s144 (by omega) (by omega) hm_s144 (CD_fr hpre0 (fun k hk => hf_s144 k (dj (by decide) k hk))) (BG_fr hpre1 (fun k hk => hf_s144 k (dj (by decide) k hk))) (LA_fr hpre2 (fun k hk => hf_s144 k (dj (by decide) k hk))) (MOx_fr hpre3 (fun k hk => hf_s144 k (dj (by decide) k hk))) hKF_s144 hKC_s144 hKT_s144 hKM_s144 (WY_fr hpre8 (fun k hk => hf_s144 k (dj (by decide) k hk))) (by first | assumption | omega) (by first | assumption | omega) r274 s275 hs275
            obtain ⟨hfc_s275, hm_s275, hp277, hKM_s275, hKF_s275, hKC_s275, hKT_s275, hp278⟩ := hp276
            have hf_s275 : fr [32, 36, 37, 38, 39, 42] s0 s275 := hf_s144.call (by decide) hfc_s275
            have hKC_s275 : KC s275 := KC_fr hKC_s144 (fun k hk => hfc_s275 k (dj (by decide) k hk))
            exact j263 r274 s275 ⟨(by omega), (by first | assumption | omega), hf_s275, hm_s275, hKM_s275, hKF_s275, hKC_s275, hKT_s275⟩ hT
          · replace hT := hT.trans (if_neg h262)
            obtain ⟨r280, s281, hs281⟩ : ∃ rr ss, (f_X2_closing v143 0 0 s144) = (rr, ss) := ⟨_, _, rfl⟩
            replace hT := gby hT hs281
            have hp282 := f_X2_closing_p v143 0 0 s144 (by omega) (by omega) (by omega) hm_s144 (CD_fr hpre0 (fun k hk => hf_s144 k (dj (by decide) k hk))) (BG_fr hpre1 (fun k hk => hf_s144 k (dj (by decide) k hk))) (LA_fr hpre2 (fun k hk => hf_s144 k (dj (by decide) k hk))) (MOx_fr hpre3 (fun k hk => hf_s144 k (dj (by decide) k hk))) hKF_s144 hKC_s144 hKT_s144 (by first | assumption | omega) (by first | assumption | omega) (by first | assumption | omega) r280 s281 hs281
            obtain ⟨hfc_s281, hm_s281, hp283, hKF_s281, hKC_s281, hKT_s281, hp284⟩ := hp282
            have hf_s281 : fr [32, 36, 37, 38, 39, 42] s0 s281 := hf_s144.call (by decide) hfc_s281
            have hKM_s281 : KM s281 := KM_fr hKM_s144 (fun k hk => hfc_s281 k (dj (by decide) k hk))
            exact j263 r280 s281 ⟨(by omega), (by first | assumption | omega), hf_s281, hm_s281, hKM_s281, hKF_s281, hKC_s281, hKT_s281⟩ hT
      · replace hT := hT.trans (if_neg h152)
        exact hk v140 v141 v142 v143 s144 hT ⟨(by omega), (by omega), (by omega), (by omega), hf_s144, hm_s144, hKM_s144, hKF_s144, hKC_s144, hKT_s144, (by first | assumption | omega), (by first | assumption | omega), (by first | assumption | omega), (by first | assumption | omega), (by first | assumption | exact SG_0 _ _ (by omega) | exact SG_skip (by assumption) (by unfold bitS; omega) (by omega) | exact SG_new (by assumption) (by omega) | exact SG_new (RUN_0 _ _ _) (by omega) | exact SG_new (RUN_c (by assumption) (by unfold bitS; omega) (by omega)) (by omega))⟩
  refine L145 17 0 0 0 0 s0 ⟨(by omega), (by omega), (by omega), (by omega), hf_s0, hm_s0, hKM_s0, hKF_s0, hKC_s0, hKT_s0, (by first | assumption | omega), (by first | assumption | omega), (by first | assumption | omega), (by first | assumption | omega), (by first | assumption | exact SG_0 _ _ (by omega) | exact SG_skip (by assumption) (by unfold bitS; omega) (by omega) | exact SG_new (by assumption) (by omega) | exact SG_new (RUN_0 _ _ _) (by omega) | exact SG_new (RUN_c (by assumption) (by unfold bitS; omega) (by omega)) (by omega))⟩ (by omega) (fun v303 v304 v305 v306 s307 hw hq => ?_)
  obtain ⟨hq308, hq309, hq310, hq311, hf_s307, hm_s307, hKM_s307, hKF_s307, hKC_s307, hKT_s307, hq312, hq313, hq314, hq315, hq316⟩ := hq
  replace hT := gl5y hT hw
  obtain ⟨rfl, rfl⟩ := Prod.mk.inj (hT.symm.trans hres)
  exact ⟨hf_s307, hm_s307, (by omega), hKM_s307, hKF_s307, hKC_s307, hKT_s307, (by first | assumption | omega)⟩
set_option maxRecDepth 100000 in
set_option maxHeartbeats 4000000 in
theorem c_X2_meanBy (l : Launch) (D : va_G) (a : Nat → Nat) (cI cJ cS cT : ClassId) (s0 : gMem) (x0 : Int) (hx0 : in32 x0) (hpre0 : CD s0) (hpre1 : BG s0) (hpre2 : LA s0) (hpre3 : MOx s0) (hpre4 : KF s0) (hpre5 : KC s0) (hpre6 : KT s0) (hpre7 : KM s0) (hpre8 : WY s0) : gC l yX2_meanBy cX2_meanBy 13 (some .long) 5 320 D vwCl (gT cI cJ cS cT) (wdX a cI cJ cS cT) lgX kJ in64 [.ref (a 5), gI x0] s0 (f_X2_meanBy x0 s0) := by
  refine gC_of (by decide +kernel) (hwdX a cI cJ cS cT) (Nat.le_of_ble_eq_true rfl) ?_
  intro A p e R s m args below meth c hR E
  subst hR
  have hT := f_X2_meanBy_e x0 s0
  have hf_s0 : fr [32, 36, 37, 38, 39, 42] s0 s0 := fr.rf _ _
  refine k_lv0 (lv' := [(0, .ref (a 5)), (1, gI x0)]) rfl ?_
  refine k_mr (fun hm_s0 => ?_)
  have hKM_s0 := hpre7
  have hKF_s0 := hpre4
  have hKC_s0 := hpre5
  have hKT_s0 := hpre6
  refine k_lconst0 (pc := 0) E dX2_meanBy_0 ?_
  refine k_lstoren (pc := 1) (lv' := [(2, gL 0), (0, .ref (a 5)), (1, gI x0)]) E dX2_meanBy_1 rfl (by decide) rfl ?_
  refine k_lconst0 (pc := 2) E dX2_meanBy_2 ?_
  refine k_lstore (pc := 3) (lv' := [(4, gL 0), (2, gL 0), (0, .ref (a 5)), (1, gI x0)]) E dX2_meanBy_3 (by decide) rfl ?_
  refine k_iconst (pc := 5) E dX2_meanBy_5 ?_
  refine k_istore (pc := 6) (lv' := [(6, gI 0), (4, gL 0), (2, gL 0), (0, .ref (a 5)), (1, gI x0)]) E dX2_meanBy_6 (by decide) rfl ?_
  refine k_iconst (pc := 8) E dX2_meanBy_8 ?_
  refine k_istore (pc := 9) (lv' := [(7, gI 0), (6, gI 0), (4, gL 0), (2, gL 0), (0, .ref (a 5)), (1, gI x0)]) E dX2_meanBy_9 (by decide) rfl ?_
  have L145 : ∀ (n146 : Nat) (v140 : Int) (v141 : Int) (v142 : Int) (v143 : Int) (s144 : gMem), ((in64 v140) ∧ (in64 v141) ∧ (in32 v142) ∧ (in32 v143) ∧ (fr [32, 36, 37, 38, 39, 42] s0 s144) ∧ (KM s144) ∧ (KF s144) ∧ (KC s144) ∧ (KT s144) ∧ (0 ≤ v143 ∧ v143 ≤ 16) ∧ (0 ≤ v140 ∧ v140 ≤ 1000000000000) ∧ (0 ≤ v141 ∧ v141 ≤ 1000000000000) ∧ (0 ≤ v142 ∧ v142 ≤ 16) ∧ (SG (s0 40) x0 v142 v143)) → 16 - v143 < (n146 : Int) → (∀ (w147 : Int) (w148 : Int) (w149 : Int) (w150 : Int) (s151 : gMem), (w_X2_meanBy_11 x0 n146 v140 v141 v142 v143 s144) = (w147, w148, w149, w150, s151) → ((in64 w147) ∧ (in64 w148) ∧ (in32 w149) ∧ (in32 w150) ∧ (fr [32, 36, 37, 38, 39, 42] s0 s151) ∧ (KM s151) ∧ (KF s151) ∧ (KC s151) ∧ (KT s151) ∧ (0 ≤ w150 ∧ w150 ≤ 16) ∧ (0 ≤ w147 ∧ w147 ≤ 1000000000000) ∧ (0 ≤ w148 ∧ w148 ≤ 1000000000000) ∧ (0 ≤ w149 ∧ w149 ≤ 16) ∧ (SG (s0 40) x0 w149 w150)) → gK D vwCl (wdX a cI cJ cS cT) lgX A p l e { frames := 5, cells := 0, slots := 0, locals := 320 } s m args below meth c 13 (gQQ D vwCl (wdX a cI cJ cS cT) lgX A kJ in64 below args s) (f_X2_meanBy x0 s0) s151 276 [(2, gL w147)] []) → gK D vwCl (wdX a cI cJ cS cT) lgX A p l e { frames := 5, cells := 0, slots := 0, locals := 320 } s m args below meth c 13 (gQQ D vwCl (wdX a cI cJ cS cT) lgX A kJ in64 below args s) (f_X2_meanBy x0 s0) s144 11 [(0, .ref (a 5)), (1, gI x0), (2, gL v140), (4, gL v141), (6, gI v142), (7, gI v143)] [] := by
    intro n146; induction n146 with
    | zero =>
      intro v140 v141 v142 v143 s144 hq hm hk
      exfalso
      obtain ⟨hq285, hq286, hq287, hq288, hf_s144, hKM_s144, hKF_s144, hKC_s144, hKT_s144, hq289, hq290, hq291, hq292, hq293⟩ := hq
      omega
    | succ n146 ih =>
      intro v140 v141 v142 v143 s144 hq hm hk
      obtain ⟨hq294, hq295, hq296, hq297, hf_s144, hKM_s144, hKF_s144, hKC_s144, hKT_s144, hq298, hq299, hq300, hq301, hq302⟩ := hq
      have hT := w_X2_meanBy_11_s x0 n146 v140 v141 v142 v143 s144
      refine k_iload (pc := 11) E 5 dX2_meanBy_11 rfl ?_
      refine k_bipush (pc := 13) E dX2_meanBy_13 (by decide) ?_
      by_cases h152 : v143 < 16
      · replace hT := hT.trans (if_pos h152)
        refine k_icmp_ge_f (pc := 15) (tgt := 276) E (by omega) (by omega) dX2_meanBy_15 (by decide) h152 ?_
        refine k_aloadn (pc := 18) E 0 dX2_meanBy_18 rfl rfl ?_
        refine k_getf (pc := 19) (q0 := 5) (f := 0) (v := .ref (a 3)) E inX2 rfl rfl (by decide) wm_174 rfl rfl dX2_meanBy_19 ?_
        refine k_iload (pc := 22) E 5 dX2_meanBy_22 rfl ?_
        refine k_mr (fun hm_s144 => ?_)
        refine k_callV (pc := 24) (np := 1) (As := [gI v143]) (st := []) (q0 := 3) E (c_X4_stops l D a cI cJ cS cT s144 v143 (by omega) (by first | assumption | omega)) wm_533 wm_4 wm_553 wm_531 wm_532 (by decide +kernel) rfl rfl ⟨by decide, by decide⟩ rfl (Nat.le_of_ble_eq_true rfl) dX2_meanBy_24 (ro_kk (fun hr153 => ?_))
        have hp154 := f_X4_stops_p v143 s144 (by omega) hm_s144 (by first | assumption | omega)
        try simp only [hf_s144 40 (by decide)] at hp154
        obtain ⟨hp155, hp156⟩ := hp154
        refine k_st (st' := [gI (f_X4_stops v143 s144)]) rfl ?_
        by_cases h157 : (f_X4_stops v143 s144) = 0
        · replace hT := hT.trans (if_pos h157)
          refine k_if_eq_t (pc := 27) (tgt := 73) E (by omega) dX2_meanBy_27 (by decide) h157 ?_
          refine k_iloadn (pc := 73) E 1 dX2_meanBy_73 rfl rfl ?_
          refine k_iload (pc := 74) E 5 dX2_meanBy_74 rfl ?_
          refine k_mr (fun hm_s144 => ?_)
          refine k_callSN (pc := 76) (np := 2) (As := [gI x0, gI v143]) (st := []) E (c_X8_has l D a cI cJ cS cT s144 x0 v143 (by omega) (by omega)) wm_552 wm_1 (List.mem_of_getElem? (i := 0) rfl) wm_551 (by decide +kernel) ⟨by decide, by decide⟩ rfl (Nat.le_of_ble_eq_true rfl) dX2_meanBy_76 (ro_kk (fun hr158 => ?_))
          have hp159 := f_X8_has_p x0 v143 (by omega) (by omega) 
          try simp only [hf_s144 40 (by decide)] at hp159
          obtain ⟨hp160, hp161⟩ := hp159
          refine k_st (st' := [gI (f_X8_has x0 v143)]) rfl ?_
          by_cases h162 : (f_X8_has x0 v143) = 0
          · replace hT := hT.trans (if_pos h162)
            refine k_if_eq_t (pc := 79) (tgt := 201) E (by omega) dX2_meanBy_79 (by decide) h162 ?_
            refine k_aloadn (pc := 201) E 0 dX2_meanBy_201 rfl rfl ?_
            refine k_iload (pc := 202) E 5 dX2_meanBy_202 rfl ?_
            refine k_iloadn (pc := 204) E 1 dX2_meanBy_204 rfl rfl ?_
            refine k_mr (fun hm_s144 => ?_)
            refine k_callV (pc := 205) (np := 2) (As := [gI v143, gI x0]) (st := []) (q0 := 5) E (c_X2_begins l D a cI cJ cS cT s144 v143 x0 (by omega) (by omega) (by first | assumption | omega)) wm_549 wm_7 wm_546 wm_548 wp_16 (by decide +kernel) rfl rfl ⟨by decide, by decide⟩ rfl (Nat.le_of_ble_eq_true rfl) dX2_meanBy_205 (ro_kk (fun hr163 => ?_))
            have hp164 := f_X2_begins_p v143 x0 s144 (by omega) (by omega) hm_s144 (by first | assumption | omega)
            try simp only [hf_s144 40 (by decide)] at hp164
            obtain ⟨hp165, hp166⟩ := hp164
            refine k_st (st' := [gI (f_X2_begins v143 x0 s144)]) rfl ?_
            by_cases h167 : (f_X2_begins v143 x0 s144) = 0
            · replace hT := hT.trans (if_pos h167)
              refine k_if_eq_t (pc := 208) (tgt := 270) E (by omega) dX2_meanBy_208 (by decide) h167 ?_
              refine k_iinc (pc := 270) (lv' := [(7, gI (v143 + 1)), (0, .ref (a 5)), (1, gI x0), (2, gL v140), (4, gL v141), (6, gI v142)]) E 5 dX2_meanBy_270 rfl (by decide) rfl ?_
              refine k_goto (pc := 273) (tgt := 11) E dX2_meanBy_273 (by decide) ?_
              refine k_lv (lv' := [(0, .ref (a 5)), (1, gI x0), (2, gL v140), (4, gL v141), (6, gI v142), (7, gI (v143 + 1))]) [1, 2, 3, 4, 5, 0] rfl ?_
              exact ih v140 v141 v142 (v143 + 1) s144 ⟨(by omega), (by omega), (by omega), (by omega), hf_s144, hKM_s144, hKF_s144, hKC_s144, hKT_s144, (by first | assumption | omega), (by first | assumption | omega), (by first | assumption | omega), (by first | assumption | omega), (by first | assumption | exact SG_0 _ _ (by omega) | exact SG_skip (by assumption) (by unfold bitS; omega) (by omega) | exact SG_new (by assumption) (by omega) | exact SG_new (RUN_0 _ _ _) (by omega) | exact SG_new (RUN_c (by assumption) (by unfold bitS; omega) (by omega)) (by omega))⟩ (by omega) (fun w147 w148 w149 w150 s151 hw hi => hk w147 w148 w149 w150 s151 (hT.trans hw) hi)
            · replace hT := hT.trans (if_neg h167)
              refine k_if_eq_f (pc := 208) (tgt := 270) E (by omega) dX2_meanBy_208 (by decide) h167 ?_
              refine k_aloadn (pc := 211) E 0 dX2_meanBy_211 rfl rfl ?_
              refine k_iload (pc := 212) E 5 dX2_meanBy_212 rfl ?_
              refine k_iloadn (pc := 214) E 1 dX2_meanBy_214 rfl rfl ?_
              refine k_mr (fun hm_s144 => ?_)
              refine k_callV (pc := 215) (np := 2) (As := [gI v143, gI x0]) (st := []) (q0 := 5) E (c_X2_lastOf l D a cI cJ cS cT s144 v143 x0 (by omega) (by omega) (by first | assumption | omega)) wm_557 wm_7 wm_554 wm_556 wp_17 (by decide +kernel) rfl rfl ⟨by decide, by decide⟩ rfl (Nat.le_of_ble_eq_true rfl) dX2_meanBy_215 (ro_kk (fun hr168 => ?_))
              have hp169 := f_X2_lastOf_p v143 x0 s144 (by omega) (by omega) hm_s144 (by first | assumption | omega)
              try simp only [hf_s144 40 (by decide)] at hp169
              obtain ⟨hp170, hp171, hp172⟩ := hp169
              refine k_st (st' := [gI (f_X2_lastOf v143 x0 s144)]) rfl ?_
              refine k_istore (pc := 218) (lv' := [(8, gI (f_X2_lastOf v143 x0 s144)), (0, .ref (a 5)), (1, gI x0), (2, gL v140), (4, gL v141), (6, gI v142), (7, gI v143)]) E dX2_meanBy_218 (by decide) rfl ?_
              refine k_aloadn (pc := 220) E 1 dX2_meanBy_220 rfl rfl ?_
              refine k_iload (pc := 221) E 6 dX2_meanBy_221 rfl ?_
              refine k_iload (pc := 223) E 0 dX2_meanBy_223 rfl ?_
              refine k_mr (fun hm_s144 => ?_)
              refine k_callV (pc := 225) (np := 2) (As := [gI v143, gI (f_X2_lastOf v143 x0 s144)]) (st := []) (q0 := 5) E (c_X2_stretchMean l D a cI cJ cS cT s144 v143 (f_X2_lastOf v143 x0 s144) (by omega) (by omega) (CD_fr hpre0 (fun k hk => hf_s144 k (dj (by decide) k hk))) (BG_fr hpre1 (fun k hk => hf_s144 k (dj (by decide) k hk))) (LA_fr hpre2 (fun k hk => hf_s144 k (dj (by decide) k hk))) (MOx_fr hpre3 (fun k hk => hf_s144 k (dj (by decide) k hk))) hKF_s144 hKC_s144 hKT_s144 hKM_s144 (WY_fr hpre8 (fun k hk => hf_s144 k (dj (by decide) k hk))) (by first | assumption | omega) (by first | assumption | omega)) wm_594 wm_7 wm_591 wm_593 wp_19 (by decide +kernel) rfl rfl ⟨by decide, by decide⟩ rfl (Nat.le_of_ble_eq_true rfl) dX2_meanBy_225 (fun r174 s175 hs175 hr173 => ?_)
              replace hT := gby hT hs175
              have hp176 := f_X2_stretchMean_p v143 (f_X2_lastOf v143 x0 s144) s144 (by omega) (by omega) hm_s144 (CD_fr hpre0 (fun k hk => hf_s144 k (dj (by decide) k hk))) (BG_fr hpre1 (fun k hk => hf_s144 k (dj (by decide) k hk))) (LA_fr hpre2 (fun k hk => hf_s144 k (dj (by decide) k hk))) (MOx_fr hpre3 (fun k hk => hf_s144 k (dj (by decide) k hk))) hKF_s144 hKC_s144 hKT_s144 hKM_s144 (WY_fr hpre8 (fun k hk => hf_s144 k (dj (by decide) k hk))) (by first | assumption | omega) (by first | assumption | omega) r174 s175 hs175
              obtain ⟨hfc_s175, hm_s175, hp177, hKM_s175, hKF_s175, hKC_s175, hKT_s175, hp178⟩ := hp176
              have hf_s175 : fr [32, 36, 37, 38, 39, 42] s0 s175 := hf_s144.call (by decide) hfc_s175
              have hKC_s175 : KC s175 := KC_fr hKC_s144 (fun k hk => hfc_s175 k (dj (by decide) k hk))
              refine k_st (st' := [gL r174]) rfl ?_
              refine k_lstore (pc := 228) (lv' := [(9, gL r174), (8, gI (f_X2_lastOf v143 x0 s144)), (0, .ref (a 5)), (1, gI x0), (2, gL v140), (4, gL v141), (6, gI v142), (7, gI v143)]) E dX2_meanBy_228 (by decide) rfl ?_
              refine k_lloadn (pc := 230) E 4 dX2_meanBy_230 rfl rfl ?_
              refine k_lload (pc := 231) E 0 dX2_meanBy_231 rfl ?_
              refine k_ladd (pc := 233) E dX2_meanBy_233 ?_
              refine k_mr (fun hm_s175 => ?_)
              refine k_callS (pc := 234) (np := 1) (As := [gL (v140 + r174)]) (st := []) E (c_X2_capped l D a cI cJ cS cT s175 (v140 + r174) (by omega)) wm_586 wm_7 wm_584 wm_585 (by decide +kernel) ⟨by decide, by decide⟩ rfl (Nat.le_of_ble_eq_true rfl) dX2_meanBy_234 (ro_kk (fun hr179 => ?_))
              have hp180 := f_X2_capped_p (v140 + r174) (by omega) 
              try simp only [hf_s175 40 (by decide)] at hp180
              obtain ⟨hp181, hp182⟩ := hp180
              refine k_st (st' := [gL (f_X2_capped (v140 + r174))]) rfl ?_
              refine k_lstoren (pc := 237) (lv' := [(2, gL (f_X2_capped (v140 + r174))), (9, gL r174), (8, gI (f_X2_lastOf v143 x0 s144)), (0, .ref (a 5)), (1, gI x0), (4, gL v141), (6, gI v142), (7, gI v143)]) E dX2_meanBy_237 rfl (by decide) rfl ?_
              refine k_iload (pc := 238) E 7 dX2_meanBy_238 rfl ?_
              obtain ⟨j184c, hj184c, hT⟩ := gjx hT
              have j184 : (True) → (w_X2_meanBy_11 x0 (n146 + 1) v140 v141 v142 v143 s144) = j184c  → gK D vwCl (wdX a cI cJ cS cT) lgX A p l e { frames := 5, cells := 0, slots := 0, locals := 320 } s m args below meth c 13 (gQQ D vwCl (wdX a cI cJ cS cT) lgX A kJ in64 below args s) (f_X2_meanBy x0 s0) s175 257 [(0, .ref (a 5)), (1, gI x0), (2, gL (f_X2_capped (v140 + r174))), (7, gI v143), (8, gI (f_X2_lastOf v143 x0 s144)), (9, gL r174)] [] := by
                intro  hq hT
                rw [hj184c] at hT
                refine k_lload (pc := 257) E 5 dX2_meanBy_257 rfl ?_
                refine k_lstore (pc := 259) (lv' := [(4, gL r174), (0, .ref (a 5)), (1, gI x0), (2, gL (f_X2_capped (v140 + r174))), (7, gI v143), (8, gI (f_X2_lastOf v143 x0 s144)), (9, gL r174)]) E dX2_meanBy_259 (by decide) rfl ?_
                refine k_iload (pc := 261) E 5 dX2_meanBy_261 rfl ?_
                refine k_iload (pc := 263) E 4 dX2_meanBy_263 rfl ?_
                refine k_isub (pc := 265) E dX2_meanBy_265 ?_
                refine k_iconst (pc := 266) E dX2_meanBy_266 ?_
                refine k_iadd (pc := 267) E dX2_meanBy_267 ?_
                obtain ⟨v185, hv185, hT⟩ := glx hT
                refine k_st (st' := [gI v185]) (by rw [hv185]) ?_
                refine k_istore (pc := 268) (lv' := [(6, gI v185), (4, gL r174), (0, .ref (a 5)), (1, gI x0), (2, gL (f_X2_capped (v140 + r174))), (7, gI v143), (8, gI (f_X2_lastOf v143 x0 s144)), (9, gL r174)]) E dX2_meanBy_268 (by decide) rfl ?_
                refine k_iinc (pc := 270) (lv' := [(7, gI (v143 + 1)), (6, gI v185), (4, gL r174), (0, .ref (a 5)), (1, gI x0), (2, gL (f_X2_capped (v140 + r174))), (8, gI (f_X2_lastOf v143 x0 s144)), (9, gL r174)]) E 5 dX2_meanBy_270 rfl (by decide) rfl ?_
                refine k_goto (pc := 273) (tgt := 11) E dX2_meanBy_273 (by decide) ?_
                refine k_lv (lv' := [(0, .ref (a 5)), (1, gI x0), (2, gL (f_X2_capped (v140 + r174))), (4, gL r174), (6, gI v185), (7, gI (v143 + 1))]) [3, 4, 5, 2, 1, 0] rfl ?_
                exact ih (f_X2_capped (v140 + r174)) r174 v185 (v143 + 1) s175 ⟨(by omega), (by omega), (by omega), (by omega), hf_s175, hKM_s175, hKF_s175, hKC_s175, hKT_s175, (by first | assumption | omega), (by first | assumption | omega), (by first | assumption | omega), (by first | assumption | omega), (by first | assumption | exact SG_0 _ _ (by omega) | exact SG_skip (by assumption) (by unfold bitS; omega) (by omega) | exact SG_new (by assumption) (by omega) | exact SG_new (RUN_0 _ _ _) (by omega) | exact SG_new (RUN_c (by assumption) (by unfold bitS; omega) (by omega)) (by omega))⟩ (by omega) (fun w147 w148 w149 w150 s151 hw hi => hk w147 w148 w149 w150 s151 (hT.trans hw) hi)
              by_cases h183 : v143 = 0
              · replace hT := hT.trans (if_pos h183)
                refine k_if_eq_t (pc := 240) (tgt := 257) E (by omega) dX2_meanBy_240 (by decide) h183 ?_
                refine k_lv (lv' := [(0, .ref (a 5)), (1, gI x0), (2, gL (f_X2_capped (v140 + r174))), (7, gI v143), (8, gI (f_X2_lastOf v143 x0 s144)), (9, gL r174)]) [3, 4, 0, 7, 2, 1] rfl ?_
                exact j184  trivial hT
              · replace hT := hT.trans (if_neg h183)
                refine k_if_eq_f (pc := 240) (tgt := 257) E (by omega) dX2_meanBy_240 (by decide) h183 ?_
                refine k_aloadn (pc := 243) E 3 dX2_meanBy_243 rfl rfl ?_
                refine k_getf (pc := 244) (q0 := 5) (f := 0) (v := .ref (a 3)) E inX2 rfl rfl (by decide) wm_174 rfl rfl dX2_meanBy_244 ?_
                refine k_iload (pc := 247) E 7 dX2_meanBy_247 rfl ?_
                refine k_iconst (pc := 249) E dX2_meanBy_249 ?_
                refine k_isub (pc := 250) E dX2_meanBy_250 ?_
                refine k_mr (fun hm_s175 => ?_)
                refine k_callV (pc := 251) (np := 1) (As := [gI (v143 - 1)]) (st := []) (q0 := 3) E (c_X4_stops l D a cI cJ cS cT s175 (v143 - 1) (by omega) (by first | assumption | omega)) wm_533 wm_4 wm_553 wm_531 wm_532 (by decide +kernel) rfl rfl ⟨by decide, by decide⟩ rfl (Nat.le_of_ble_eq_true rfl) dX2_meanBy_251 (ro_kk (fun hr186 => ?_))
                have hp187 := f_X4_stops_p (v143 - 1) s175 (by omega) hm_s175 (by first | assumption | omega)
                try simp only [hf_s175 40 (by decide)] at hp187
                obtain ⟨hp188, hp189⟩ := hp187
                refine k_st (st' := [gI (f_X4_stops (v143 - 1) s175)]) rfl ?_
                by_cases h190 : (f_X4_stops (v143 - 1) s175) = 0
                · replace hT := hT.trans (if_pos h190)
                  refine k_if_eq_t (pc := 254) (tgt := 270) E (by omega) dX2_meanBy_254 (by decide) h190 ?_
                  refine k_iinc (pc := 270) (lv' := [(7, gI (v143 + 1)), (2, gL (f_X2_capped (v140 + r174))), (9, gL r174), (8, gI (f_X2_lastOf v143 x0 s144)), (0, .ref (a 5)), (1, gI x0), (4, gL v141), (6, gI v142)]) E 7 dX2_meanBy_270 rfl (by decide) rfl ?_
                  refine k_goto (pc := 273) (tgt := 11) E dX2_meanBy_273 (by decide) ?_
                  refine k_lv (lv' := [(0, .ref (a 5)), (1, gI x0), (2, gL (f_X2_capped (v140 + r174))), (4, gL v141), (6, gI v142), (7, gI (v143 + 1))]) [4, 5, 1, 6, 7, 0] rfl ?_
                  exact ih (f_X2_capped (v140 + r174)) v141 v142 (v143 + 1) s175 ⟨(by omega), (by omega), (by omega), (by omega), hf_s175, hKM_s175, hKF_s175, hKC_s175, hKT_s175, (by first | assumption | omega), (by first | assumption | omega), (by first | assumption | omega), (by first | assumption | omega), (by first | assumption | exact SG_0 _ _ (by omega) | exact SG_skip (by assumption) (by unfold bitS; omega) (by omega) | exact SG_new (by assumption) (by omega) | exact SG_new (RUN_0 _ _ _) (by omega) | exact SG_new (RUN_c (by assumption) (by unfold bitS; omega) (by omega)) (by omega))⟩ (by omega) (fun w147 w148 w149 w150 s151 hw hi => hk w147 w148 w149 w150 s151 (hT.trans hw) hi)
                · replace hT := hT.trans (if_neg h190)
                  refine k_if_eq_f (pc := 254) (tgt := 270) E (by omega) dX2_meanBy_254 (by decide) h190 ?_
                  refine k_lv (lv' := [(0, .ref (a 5)), (1, gI x0), (2, gL (f_X2_capped (v140 + r174))), (7, gI v143), (8, gI (f_X2_lastOf v143 x0 s144)), (9, gL r174)]) [3, 4, 0, 7, 2, 1] rfl ?_
                  exact j184  trivial hT
          · replace hT := hT.trans (if_neg h162)
            refine k_if_eq_f (pc := 79) (tgt := 201) E (by omega) dX2_meanBy_79 (by decide) h162 ?_
            refine k_iload (pc := 82) E 5 dX2_meanBy_82 rfl ?_
            refine k_iconst (pc := 84) E dX2_meanBy_84 ?_
            refine k_iadd (pc := 85) E dX2_meanBy_85 ?_
            refine k_bipush (pc := 86) E dX2_meanBy_86 (by decide) ?_
            obtain ⟨j192c, hj192c, hT⟩ := gjx hT
            have j192 : (True) → (w_X2_meanBy_11 x0 (n146 + 1) v140 v141 v142 v143 s144) = j192c  → gK D vwCl (wdX a cI cJ cS cT) lgX A p l e { frames := 5, cells := 0, slots := 0, locals := 320 } s m args below meth c 13 (gQQ D vwCl (wdX a cI cJ cS cT) lgX A kJ in64 below args s) (f_X2_meanBy x0 s0) s144 128 [(0, .ref (a 5)), (1, gI x0), (2, gL v140), (4, gL v141), (6, gI v142), (7, gI v143)] [] := by
              intro  hq hT
              rw [hj192c] at hT
              refine k_iload (pc := 128) E 5 dX2_meanBy_128 rfl ?_
              refine k_istore (pc := 130) (lv' := [(8, gI v143), (0, .ref (a 5)), (1, gI x0), (2, gL v140), (4, gL v141), (6, gI v142), (7, gI v143)]) E dX2_meanBy_130 (by decide) rfl ?_
              have ksz : v142 ≤ v143 := SG_use (by assumption) (by omega) (by unfold bitS; omega)
              refine k_lload (pc := 132) E 4 dX2_meanBy_132 rfl ?_
              refine k_aloadn (pc := 134) E 1 dX2_meanBy_134 rfl rfl ?_
              refine k_iload (pc := 135) E 6 dX2_meanBy_135 rfl ?_
              refine k_iconst (pc := 137) E dX2_meanBy_137 ?_
              refine k_iadd (pc := 138) E dX2_meanBy_138 ?_
              refine k_iload (pc := 139) E 0 dX2_meanBy_139 rfl ?_
              refine k_mr (fun hm_s144 => ?_)
              refine k_callV (pc := 141) (np := 2) (As := [gI (v143 + 1), gI v143]) (st := [gL v141]) (q0 := 5) E (c_X2_stretchMean l D a cI cJ cS cT s144 (v143 + 1) v143 (by omega) (by omega) (CD_fr hpre0 (fun k hk => hf_s144 k (dj (by decide) k hk))) (BG_fr hpre1 (fun k hk => hf_s144 k (dj (by decide) k hk))) (LA_fr hpre2 (fun k hk => hf_s144 k (dj (by decide) k hk))) (MOx_fr hpre3 (fun k hk => hf_s144 k (dj (by decide) k hk))) hKF_s144 hKC_s144 hKT_s144 hKM_s144 (WY_fr hpre8 (fun k hk => hf_s144 k (dj (by decide) k hk))) (by first | assumption | omega) (by first | assumption | omega)) wm_594 wm_7 wm_591 wm_593 wp_19 (by decide +kernel) rfl rfl ⟨by decide, by decide⟩ rfl (Nat.le_of_ble_eq_true rfl) dX2_meanBy_141 (fun r194 s195 hs195 hr193 => ?_)
              replace hT := gby hT hs195
              have hp196 := f_X2_stretchMean_p (v143 + 1) v143 s144 (by omega) (by omega) hm_s144 (CD_fr hpre0 (fun k hk => hf_s144 k (dj (by decide) k hk))) (BG_fr hpre1 (fun k hk => hf_s144 k (dj (by decide) k hk))) (LA_fr hpre2 (fun k hk => hf_s144 k (dj (by decide) k hk))) (MOx_fr hpre3 (fun k hk => hf_s144 k (dj (by decide) k hk))) hKF_s144 hKC_s144 hKT_s144 hKM_s144 (WY_fr hpre8 (fun k hk => hf_s144 k (dj (by decide) k hk))) (by first | assumption | omega) (by first | assumption | omega) r194 s195 hs195
              obtain ⟨hfc_s195, hm_s195, hp197, hKM_s195, hKF_s195, hKC_s195, hKT_s195, hp198⟩ := hp196
              have hf_s195 : fr [32, 36, 37, 38, 39, 42] s0 s195 := hf_s144.call (by decide) hfc_s195
              have hKC_s195 : KC s195 := KC_fr hKC_s144 (fun k hk => hfc_s195 k (dj (by decide) k hk))
              refine k_st (st' := [gL r194, gL v141]) rfl ?_
              refine k_ladd (pc := 144) E dX2_meanBy_144 ?_
              refine k_mr (fun hm_s195 => ?_)
              refine k_callS (pc := 145) (np := 1) (As := [gL (v141 + r194)]) (st := []) E (c_X2_capped l D a cI cJ cS cT s195 (v141 + r194) (by omega)) wm_586 wm_7 wm_584 wm_585 (by decide +kernel) ⟨by decide, by decide⟩ rfl (Nat.le_of_ble_eq_true rfl) dX2_meanBy_145 (ro_kk (fun hr199 => ?_))
              have hp200 := f_X2_capped_p (v141 + r194) (by omega) 
              try simp only [hf_s195 40 (by decide)] at hp200
              obtain ⟨hp201, hp202⟩ := hp200
              refine k_st (st' := [gL (f_X2_capped (v141 + r194))]) rfl ?_
              refine k_lstore (pc := 148) (lv' := [(9, gL (f_X2_capped (v141 + r194))), (8, gI v143), (0, .ref (a 5)), (1, gI x0), (2, gL v140), (4, gL v141), (6, gI v142), (7, gI v143)]) E dX2_meanBy_148 (by decide) rfl ?_
              refine k_aloadn (pc := 150) E 2 dX2_meanBy_150 rfl rfl ?_
              refine k_iload (pc := 151) E 7 dX2_meanBy_151 rfl ?_
              refine k_lload (pc := 153) E 0 dX2_meanBy_153 rfl ?_
              refine k_iload (pc := 155) E 6 dX2_meanBy_155 rfl ?_
              refine k_iload (pc := 157) E 1 dX2_meanBy_157 rfl ?_
              refine k_iadd (pc := 159) E dX2_meanBy_159 ?_
              refine k_iload (pc := 160) E 7 dX2_meanBy_160 rfl ?_
              refine k_isub (pc := 162) E dX2_meanBy_162 ?_
              refine k_mr (fun hm_s195 => ?_)
              refine k_callV (pc := 163) (np := 3) (As := [gI v143, gL (f_X2_capped (v141 + r194)), gI ((v142 + v143) - v143)]) (st := []) (q0 := 5) E (c_X2_closing l D a cI cJ cS cT s195 v143 (f_X2_capped (v141 + r194)) ((v142 + v143) - v143) (by omega) (by omega) (by omega) (CD_fr hpre0 (fun k hk => hf_s195 k (dj (by decide) k hk))) (BG_fr hpre1 (fun k hk => hf_s195 k (dj (by decide) k hk))) (LA_fr hpre2 (fun k hk => hf_s195 k (dj (by decide) k hk))) (MOx_fr hpre3 (fun k hk => hf_s195 k (dj (by decide) k hk))) hKF_s195 hKC_s195 hKT_s195 (by first | assumption | omega) (by first | assumption | omega) (by first | assumption | omega)) wm_578 wm_7 wm_575 wm_577 wp_18 (by decide +kernel) rfl rfl ⟨by decide, by decide⟩ rfl (Nat.le_of_ble_eq_true rfl) dX2_meanBy_163 (fun r204 s205 hs205 hr203 => ?_)
              replace hT := gby hT hs205
              have hp206 := f_X2_closing_p v143 (f_X2_capped (v141 + r194)) ((v142 + v143) - v143) s195 (by omega) (by omega) (by omega) hm_s195 (CD_fr hpre0 (fun k hk => hf_s195 k (dj (by decide) k hk))) (BG_fr hpre1 (fun k hk => hf_s195 k (dj (by decide) k hk))) (LA_fr hpre2 (fun k hk => hf_s195 k (dj (by decide) k hk))) (MOx_fr hpre3 (fun k hk => hf_s195 k (dj (by decide) k hk))) hKF_s195 hKC_s195 hKT_s195 (by first | assumption | omega) (by first | assumption | omega) (by first | assumption | omega) r204 s205 hs205
              obtain ⟨hfc_s205, hm_s205, hp207, hKF_s205, hKC_s205, hKT_s205, hp208⟩ := hp206
              have hf_s205 : fr [32, 36, 37, 38, 39, 42] s0 s205 := hf_s195.call (by decide) hfc_s205
              have hKM_s205 : KM s205 := KM_fr hKM_s195 (fun k hk => hfc_s205 k (dj (by decide) k hk))
              refine k_st (st' := [gL r204]) rfl ?_
              refine k_lstore (pc := 166) (lv' := [(11, gL r204), (9, gL (f_X2_capped (v141 + r194))), (8, gI v143), (0, .ref (a 5)), (1, gI x0), (2, gL v140), (4, gL v141), (6, gI v142), (7, gI v143)]) E dX2_meanBy_166 (by decide) rfl ?_
              refine k_lloadn (pc := 168) E 5 dX2_meanBy_168 rfl rfl ?_
              refine k_lload (pc := 169) E 0 dX2_meanBy_169 rfl ?_
              refine k_ladd (pc := 171) E dX2_meanBy_171 ?_
              refine k_mr (fun hm_s205 => ?_)
              refine k_callS (pc := 172) (np := 1) (As := [gL (v140 + r204)]) (st := []) E (c_X2_capped l D a cI cJ cS cT s205 (v140 + r204) (by omega)) wm_586 wm_7 wm_584 wm_585 (by decide +kernel) ⟨by decide, by decide⟩ rfl (Nat.le_of_ble_eq_true rfl) dX2_meanBy_172 (ro_kk (fun hr209 => ?_))
              have hp210 := f_X2_capped_p (v140 + r204) (by omega) 
              try simp only [hf_s205 40 (by decide)] at hp210
              obtain ⟨hp211, hp212⟩ := hp210
              refine k_st (st' := [gL (f_X2_capped (v140 + r204))]) rfl ?_
              refine k_lstoren (pc := 175) (lv' := [(2, gL (f_X2_capped (v140 + r204))), (11, gL r204), (9, gL (f_X2_capped (v141 + r194))), (8, gI v143), (0, .ref (a 5)), (1, gI x0), (4, gL v141), (6, gI v142), (7, gI v143)]) E dX2_meanBy_175 rfl (by decide) rfl ?_
              refine k_lload (pc := 176) E 2 dX2_meanBy_176 rfl ?_
              refine k_lload (pc := 178) E 1 dX2_meanBy_178 rfl ?_
              refine k_ladd (pc := 180) E dX2_meanBy_180 ?_
              refine k_mr (fun hm_s205 => ?_)
              refine k_callS (pc := 181) (np := 1) (As := [gL ((f_X2_capped (v141 + r194)) + r204)]) (st := []) E (c_X2_capped l D a cI cJ cS cT s205 ((f_X2_capped (v141 + r194)) + r204) (by omega)) wm_586 wm_7 wm_584 wm_585 (by decide +kernel) ⟨by decide, by decide⟩ rfl (Nat.le_of_ble_eq_true rfl) dX2_meanBy_181 (ro_kk (fun hr213 => ?_))
              have hp214 := f_X2_capped_p ((f_X2_capped (v141 + r194)) + r204) (by omega) 
              try simp only [hf_s205 40 (by decide)] at hp214
              obtain ⟨hp215, hp216⟩ := hp214
              refine k_st (st' := [gL (f_X2_capped ((f_X2_capped (v141 + r194)) + r204))]) rfl ?_
              obtain ⟨v217, hv217, hT⟩ := glx hT
              refine k_st (st' := [gL v217]) (by rw [hv217]) ?_
              refine k_lstore (pc := 184) (lv' := [(4, gL v217), (2, gL (f_X2_capped (v140 + r204))), (11, gL r204), (9, gL (f_X2_capped (v141 + r194))), (8, gI v143), (0, .ref (a 5)), (1, gI x0), (6, gI v142), (7, gI v143)]) E dX2_meanBy_184 (by decide) rfl ?_
              refine k_iload (pc := 186) E 7 dX2_meanBy_186 rfl ?_
              refine k_iload (pc := 188) E 4 dX2_meanBy_188 rfl ?_
              refine k_iload (pc := 190) E 8 dX2_meanBy_190 rfl ?_
              refine k_isub (pc := 192) E dX2_meanBy_192 ?_
              refine k_iconst (pc := 193) E dX2_meanBy_193 ?_
              refine k_iadd (pc := 194) E dX2_meanBy_194 ?_
              refine k_iadd (pc := 195) E dX2_meanBy_195 ?_
              refine k_istore (pc := 196) (lv' := [(6, gI (v142 + ((v143 - v143) + 1))), (4, gL v217), (2, gL (f_X2_capped (v140 + r204))), (11, gL r204), (9, gL (f_X2_capped (v141 + r194))), (8, gI v143), (0, .ref (a 5)), (1, gI x0), (7, gI v143)]) E dX2_meanBy_196 (by decide) rfl ?_
              refine k_goto (pc := 198) (tgt := 270) E dX2_meanBy_198 (by decide) ?_
              refine k_iinc (pc := 270) (lv' := [(7, gI (v143 + 1)), (6, gI (v142 + ((v143 - v143) + 1))), (4, gL v217), (2, gL (f_X2_capped (v140 + r204))), (11, gL r204), (9, gL (f_X2_capped (v141 + r194))), (8, gI v143), (0, .ref (a 5)), (1, gI x0)]) E 8 dX2_meanBy_270 rfl (by decide) rfl ?_
              refine k_goto (pc := 273) (tgt := 11) E dX2_meanBy_273 (by decide) ?_
              refine k_lv (lv' := [(0, .ref (a 5)), (1, gI x0), (2, gL (f_X2_capped (v140 + r204))), (4, gL v217), (6, gI (v142 + ((v143 - v143) + 1))), (7, gI (v143 + 1))]) [7, 8, 3, 2, 1, 0] rfl ?_
              exact ih (f_X2_capped (v140 + r204)) v217 (v142 + ((v143 - v143) + 1)) (v143 + 1) s205 ⟨(by omega), (by omega), (by omega), (by omega), hf_s205, hKM_s205, hKF_s205, hKC_s205, hKT_s205, (by first | assumption | omega), (by first | assumption | omega), (by first | assumption | omega), (by first | assumption | omega), (by first | assumption | exact SG_0 _ _ (by omega) | exact SG_skip (by assumption) (by unfold bitS; omega) (by omega) | exact SG_new (by assumption) (by omega) | exact SG_new (RUN_0 _ _ _) (by omega) | exact SG_new (RUN_c (by assumption) (by unfold bitS; omega) (by omega)) (by omega))⟩ (by omega) (fun w147 w148 w149 w150 s151 hw hi => hk w147 w148 w149 w150 s151 (hT.trans hw) hi)
            by_cases h191 : (v143 + 1) < 16
            · replace hT := hT.trans (if_pos h191)
              refine k_icmp_ge_f (pc := 88) (tgt := 128) E (by omega) (by omega) dX2_meanBy_88 (by decide) h191 ?_
              refine k_iloadn (pc := 91) E 1 dX2_meanBy_91 rfl rfl ?_
              refine k_iload (pc := 92) E 5 dX2_meanBy_92 rfl ?_
              refine k_iconst (pc := 94) E dX2_meanBy_94 ?_
              refine k_iadd (pc := 95) E dX2_meanBy_95 ?_
              refine k_mr (fun hm_s144 => ?_)
              refine k_callSN (pc := 96) (np := 2) (As := [gI x0, gI (v143 + 1)]) (st := []) E (c_X8_has l D a cI cJ cS cT s144 x0 (v143 + 1) (by omega) (by omega)) wm_552 wm_1 (List.mem_of_getElem? (i := 0) rfl) wm_551 (by decide +kernel) ⟨by decide, by decide⟩ rfl (Nat.le_of_ble_eq_true rfl) dX2_meanBy_96 (ro_kk (fun hr218 => ?_))
              have hp219 := f_X8_has_p x0 (v143 + 1) (by omega) (by omega) 
              try simp only [hf_s144 40 (by decide)] at hp219
              obtain ⟨hp220, hp221⟩ := hp219
              refine k_st (st' := [gI (f_X8_has x0 (v143 + 1))]) rfl ?_
              by_cases h222 : (f_X8_has x0 (v143 + 1)) = 0
              · replace hT := hT.trans (if_pos h222)
                refine k_if_ne_f (pc := 99) (tgt := 128) E (by omega) dX2_meanBy_99 (by decide) h222 ?_
                refine k_aloadn (pc := 102) E 0 dX2_meanBy_102 rfl rfl ?_
                refine k_getf (pc := 103) (q0 := 5) (f := 0) (v := .ref (a 3)) E inX2 rfl rfl (by decide) wm_174 rfl rfl dX2_meanBy_103 ?_
                refine k_iload (pc := 106) E 5 dX2_meanBy_106 rfl ?_
                refine k_iconst (pc := 108) E dX2_meanBy_108 ?_
                refine k_iadd (pc := 109) E dX2_meanBy_109 ?_
                refine k_mr (fun hm_s144 => ?_)
                refine k_callV (pc := 110) (np := 1) (As := [gI (v143 + 1)]) (st := []) (q0 := 3) E (c_X4_stops l D a cI cJ cS cT s144 (v143 + 1) (by omega) (by first | assumption | omega)) wm_533 wm_4 wm_553 wm_531 wm_532 (by decide +kernel) rfl rfl ⟨by decide, by decide⟩ rfl (Nat.le_of_ble_eq_true rfl) dX2_meanBy_110 (ro_kk (fun hr223 => ?_))
                have hp224 := f_X4_stops_p (v143 + 1) s144 (by omega) hm_s144 (by first | assumption | omega)
                try simp only [hf_s144 40 (by decide)] at hp224
                obtain ⟨hp225, hp226⟩ := hp224
                refine k_st (st' := [gI (f_X4_stops (v143 + 1) s144)]) rfl ?_
                by_cases h227 : (f_X4_stops (v143 + 1) s144) = 0
                · replace hT := hT.trans (if_pos h227)
                  refine k_if_ne_f (pc := 113) (tgt := 128) E (by omega) dX2_meanBy_113 (by decide) h227 ?_
                  refine k_aloadn (pc := 116) E 0 dX2_meanBy_116 rfl rfl ?_
                  refine k_iload (pc := 117) E 5 dX2_meanBy_117 rfl ?_
                  refine k_iconst (pc := 119) E dX2_meanBy_119 ?_
                  refine k_iadd (pc := 120) E dX2_meanBy_120 ?_
                  refine k_iloadn (pc := 121) E 1 dX2_meanBy_121 rfl rfl ?_
                  refine k_mr (fun hm_s144 => ?_)
                  refine k_callV (pc := 122) (np := 2) (As := [gI (v143 + 1), gI x0]) (st := []) (q0 := 5) E (c_X2_lastOf l D a cI cJ cS cT s144 (v143 + 1) x0 (by omega) (by omega) (by first | assumption | omega)) wm_557 wm_7 wm_554 wm_556 wp_17 (by decide +kernel) rfl rfl ⟨by decide, by decide⟩ rfl (Nat.le_of_ble_eq_true rfl) dX2_meanBy_122 (ro_kk (fun hr228 => ?_))
                  have hp229 := f_X2_lastOf_p (v143 + 1) x0 s144 (by omega) (by omega) hm_s144 (by first | assumption | omega)
                  try simp only [hf_s144 40 (by decide)] at hp229
                  obtain ⟨hp230, hp231, hp232⟩ := hp229
                  refine k_st (st' := [gI (f_X2_lastOf (v143 + 1) x0 s144)]) rfl ?_
                  refine k_goto (pc := 125) (tgt := 130) E dX2_meanBy_125 (by decide) ?_
                  refine k_istore (pc := 130) (lv' := [(8, gI (f_X2_lastOf (v143 + 1) x0 s144)), (0, .ref (a 5)), (1, gI x0), (2, gL v140), (4, gL v141), (6, gI v142), (7, gI v143)]) E dX2_meanBy_130 (by decide) rfl ?_
                  have ksz : v142 ≤ v143 := SG_use (by assumption) (by omega) (by unfold bitS; omega)
                  refine k_lload (pc := 132) E 4 dX2_meanBy_132 rfl ?_
                  refine k_aloadn (pc := 134) E 1 dX2_meanBy_134 rfl rfl ?_
                  refine k_iload (pc := 135) E 6 dX2_meanBy_135 rfl ?_
                  refine k_iconst (pc := 137) E dX2_meanBy_137 ?_
                  refine k_iadd (pc := 138) E dX2_meanBy_138 ?_
                  refine k_iload (pc := 139) E 0 dX2_meanBy_139 rfl ?_
                  refine k_mr (fun hm_s144 => ?_)
                  refine k_callV (pc := 141) (np := 2) (As := [gI (v143 + 1), gI (f_X2_lastOf (v143 + 1) x0 s144)]) (st := [gL v141]) (q0 := 5) E (c_X2_stretchMean l D a cI cJ cS cT s144 (v143 + 1) (f_X2_lastOf (v143 + 1) x0 s144) (by omega) (by omega) (CD_fr hpre0 (fun k hk => hf_s144 k (dj (by decide) k hk))) (BG_fr hpre1 (fun k hk => hf_s144 k (dj (by decide) k hk))) (LA_fr hpre2 (fun k hk => hf_s144 k (dj (by decide) k hk))) (MOx_fr hpre3 (fun k hk => hf_s144 k (dj (by decide) k hk))) hKF_s144 hKC_s144 hKT_s144 hKM_s144 (WY_fr hpre8 (fun k hk => hf_s144 k (dj (by decide) k hk))) (by first | assumption | omega) (by first | assumption | omega)) wm_594 wm_7 wm_591 wm_593 wp_19 (by decide +kernel) rfl rfl ⟨by decide, by decide⟩ rfl (Nat.le_of_ble_eq_true rfl) dX2_meanBy_141 (fun r234 s235 hs235 hr233 => ?_)
                  replace hT := gby hT hs235
                  have hp236 := f_X2_stretchMean_p (v143 + 1) (f_X2_lastOf (v143 + 1) x0 s144) s144 (by omega) (by omega) hm_s144 (CD_fr hpre0 (fun k hk => hf_s144 k (dj (by decide) k hk))) (BG_fr hpre1 (fun k hk => hf_s144 k (dj (by decide) k hk))) (LA_fr hpre2 (fun k hk => hf_s144 k (dj (by decide) k hk))) (MOx_fr hpre3 (fun k hk => hf_s144 k (dj (by decide) k hk))) hKF_s144 hKC_s144 hKT_s144 hKM_s144 (WY_fr hpre8 (fun k hk => hf_s144 k (dj (by decide) k hk))) (by first | assumption | omega) (by first | assumption | omega) r234 s235 hs235
                  obtain ⟨hfc_s235, hm_s235, hp237, hKM_s235, hKF_s235, hKC_s235, hKT_s235, hp238⟩ := hp236
                  have hf_s235 : fr [32, 36, 37, 38, 39, 42] s0 s235 := hf_s144.call (by decide) hfc_s235
                  have hKC_s235 : KC s235 := KC_fr hKC_s144 (fun k hk => hfc_s235 k (dj (by decide) k hk))
                  refine k_st (st' := [gL r234, gL v141]) rfl ?_
                  refine k_ladd (pc := 144) E dX2_meanBy_144 ?_
                  refine k_mr (fun hm_s235 => ?_)
                  refine k_callS (pc := 145) (np := 1) (As := [gL (v141 + r234)]) (st := []) E (c_X2_capped l D a cI cJ cS cT s235 (v141 + r234) (by omega)) wm_586 wm_7 wm_584 wm_585 (by decide +kernel) ⟨by decide, by decide⟩ rfl (Nat.le_of_ble_eq_true rfl) dX2_meanBy_145 (ro_kk (fun hr239 => ?_))
                  have hp240 := f_X2_capped_p (v141 + r234) (by omega) 
                  try simp only [hf_s235 40 (by decide)] at hp240
                  obtain ⟨hp241, hp242⟩ := hp240
                  refine k_st (st' := [gL (f_X2_capped (v141 + r234))]) rfl ?_
                  refine k_lstore (pc := 148) (lv' := [(9, gL (f_X2_capped (v141 + r234))), (8, gI (f_X2_lastOf (v143 + 1) x0 s144)), (0, .ref (a 5)), (1, gI x0), (2, gL v140), (4, gL v141), (6, gI v142), (7, gI v143)]) E dX2_meanBy_148 (by decide) rfl ?_
                  refine k_aloadn (pc := 150) E 2 dX2_meanBy_150 rfl rfl ?_
                  refine k_iload (pc := 151) E 7 dX2_meanBy_151 rfl ?_
                  refine k_lload (pc := 153) E 0 dX2_meanBy_153 rfl ?_
                  refine k_iload (pc := 155) E 6 dX2_meanBy_155 rfl ?_
                  refine k_iload (pc := 157) E 1 dX2_meanBy_157 rfl ?_
                  refine k_iadd (pc := 159) E dX2_meanBy_159 ?_
                  refine k_iload (pc := 160) E 7 dX2_meanBy_160 rfl ?_
                  refine k_isub (pc := 162) E dX2_meanBy_162 ?_
                  refine k_mr (fun hm_s235 => ?_)
                  refine k_callV (pc := 163) (np := 3) (As := [gI v143, gL (f_X2_capped (v141 + r234)), gI ((v142 + (f_X2_lastOf (v143 + 1) x0 s144)) - v143)]) (st := []) (q0 := 5) E (c_X2_closing l D a cI cJ cS cT s235 v143 (f_X2_capped (v141 + r234)) ((v142 + (f_X2_lastOf (v143 + 1) x0 s144)) - v143) (by omega) (by omega) (by omega) (CD_fr hpre0 (fun k hk => hf_s235 k (dj (by decide) k hk))) (BG_fr hpre1 (fun k hk => hf_s235 k (dj (by decide) k hk))) (LA_fr hpre2 (fun k hk => hf_s235 k (dj (by decide) k hk))) (MOx_fr hpre3 (fun k hk => hf_s235 k (dj (by decide) k hk))) hKF_s235 hKC_s235 hKT_s235 (by first | assumption | omega) (by first | assumption | omega) (by first | assumption | omega)) wm_578 wm_7 wm_575 wm_577 wp_18 (by decide +kernel) rfl rfl ⟨by decide, by decide⟩ rfl (Nat.le_of_ble_eq_true rfl) dX2_meanBy_163 (fun r244 s245 hs245 hr243 => ?_)
                  replace hT := gby hT hs245
                  have hp246 := f_X2_closing_p v143 (f_X2_capped (v141 + r234)) ((v142 + (f_X2_lastOf (v143 + 1) x0 s144)) - v143) s235 (by omega) (by omega) (by omega) hm_s235 (CD_fr hpre0 (fun k hk => hf_s235 k (dj (by decide) k hk))) (BG_fr hpre1 (fun k hk => hf_s235 k (dj (by decide) k hk))) (LA_fr hpre2 (fun k hk => hf_s235 k (dj (by decide) k hk))) (MOx_fr hpre3 (fun k hk => hf_s235 k (dj (by decide) k hk))) hKF_s235 hKC_s235 hKT_s235 (by first | assumption | omega) (by first | assumption | omega) (by first | assumption | omega) r244 s245 hs245
                  obtain ⟨hfc_s245, hm_s245, hp247, hKF_s245, hKC_s245, hKT_s245, hp248⟩ := hp246
                  have hf_s245 : fr [32, 36, 37, 38, 39, 42] s0 s245 := hf_s235.call (by decide) hfc_s245
                  have hKM_s245 : KM s245 := KM_fr hKM_s235 (fun k hk => hfc_s245 k (dj (by decide) k hk))
                  refine k_st (st' := [gL r244]) rfl ?_
                  refine k_lstore (pc := 166) (lv' := [(11, gL r244), (9, gL (f_X2_capped (v141 + r234))), (8, gI (f_X2_lastOf (v143 + 1) x0 s144)), (0, .ref (a 5)), (1, gI x0), (2, gL v140), (4, gL v141), (6, gI v142), (7, gI v143)]) E dX2_meanBy_166 (by decide) rfl ?_
                  refine k_lloadn (pc := 168) E 5 dX2_meanBy_168 rfl rfl ?_
                  refine k_lload (pc := 169) E 0 dX2_meanBy_169 rfl ?_
                  refine k_ladd (pc := 171) E dX2_meanBy_171 ?_
                  refine k_mr (fun hm_s245 => ?_)
                  refine k_callS (pc := 172) (np := 1) (As := [gL (v140 + r244)]) (st := []) E (c_X2_capped l D a cI cJ cS cT s245 (v140 + r244) (by omega)) wm_586 wm_7 wm_584 wm_585 (by decide +kernel) ⟨by decide, by decide⟩ rfl (Nat.le_of_ble_eq_true rfl) dX2_meanBy_172 (ro_kk (fun hr249 => ?_))
                  have hp250 := f_X2_capped_p (v140 + r244) (by omega) 
                  try simp only [hf_s245 40 (by decide)] at hp250
                  obtain ⟨hp251, hp252⟩ := hp250
                  refine k_st (st' := [gL (f_X2_capped (v140 + r244))]) rfl ?_
                  refine k_lstoren (pc := 175) (lv' := [(2, gL (f_X2_capped (v140 + r244))), (11, gL r244), (9, gL (f_X2_capped (v141 + r234))), (8, gI (f_X2_lastOf (v143 + 1) x0 s144)), (0, .ref (a 5)), (1, gI x0), (4, gL v141), (6, gI v142), (7, gI v143)]) E dX2_meanBy_175 rfl (by decide) rfl ?_
                  refine k_lload (pc := 176) E 2 dX2_meanBy_176 rfl ?_
                  refine k_lload (pc := 178) E 1 dX2_meanBy_178 rfl ?_
                  refine k_ladd (pc := 180) E dX2_meanBy_180 ?_
                  refine k_mr (fun hm_s245 => ?_)
                  refine k_callS (pc := 181) (np := 1) (As := [gL ((f_X2_capped (v141 + r234)) + r244)]) (st := []) E (c_X2_capped l D a cI cJ cS cT s245 ((f_X2_capped (v141 + r234)) + r244) (by omega)) wm_586 wm_7 wm_584 wm_585 (by decide +kernel) ⟨by decide, by decide⟩ rfl (Nat.le_of_ble_eq_true rfl) dX2_meanBy_181 (ro_kk (fun hr253 => ?_))
                  have hp254 := f_X2_capped_p ((f_X2_capped (v141 + r234)) + r244) (by omega) 
                  try simp only [hf_s245 40 (by decide)] at hp254
                  obtain ⟨hp255, hp256⟩ := hp254
                  refine k_st (st' := [gL (f_X2_capped ((f_X2_capped (v141 + r234)) + r244))]) rfl ?_
                  obtain ⟨v257, hv257, hT⟩ := glx hT
                  refine k_st (st' := [gL v257]) (by rw [hv257]) ?_
                  refine k_lstore (pc := 184) (lv' := [(4, gL v257), (2, gL (f_X2_capped (v140 + r244))), (11, gL r244), (9, gL (f_X2_capped (v141 + r234))), (8, gI (f_X2_lastOf (v143 + 1) x0 s144)), (0, .ref (a 5)), (1, gI x0), (6, gI v142), (7, gI v143)]) E dX2_meanBy_184 (by decide) rfl ?_
                  refine k_iload (pc := 186) E 7 dX2_meanBy_186 rfl ?_
                  refine k_iload (pc := 188) E 4 dX2_meanBy_188 rfl ?_
                  refine k_iload (pc := 190) E 8 dX2_meanBy_190 rfl ?_
                  refine k_isub (pc := 192) E dX2_meanBy_192 ?_
                  refine k_iconst (pc := 193) E dX2_meanBy_193 ?_
                  refine k_iadd (pc := 194) E dX2_meanBy_194 ?_
                  refine k_iadd (pc := 195) E dX2_meanBy_195 ?_
                  refine k_istore (pc := 196) (lv' := [(6, gI (v142 + (((f_X2_lastOf (v143 + 1) x0 s144) - v143) + 1))), (4, gL v257), (2, gL (f_X2_capped (v140 + r244))), (11, gL r244), (9, gL (f_X2_capped (v141 + r234))), (8, gI (f_X2_lastOf (v143 + 1) x0 s144)), (0, .ref (a 5)), (1, gI x0), (7, gI v143)]) E dX2_meanBy_196 (by decide) rfl ?_
                  refine k_goto (pc := 198) (tgt := 270) E dX2_meanBy_198 (by decide) ?_
                  refine k_iinc (pc := 270) (lv' := [(7, gI (v143 + 1)), (6, gI (v142 + (((f_X2_lastOf (v143 + 1) x0 s144) - v143) + 1))), (4, gL v257), (2, gL (f_X2_capped (v140 + r244))), (11, gL r244), (9, gL (f_X2_capped (v141 + r234))), (8, gI (f_X2_lastOf (v143 + 1) x0 s144)), (0, .ref (a 5)), (1, gI x0)]) E 8 dX2_meanBy_270 rfl (by decide) rfl ?_
                  refine k_goto (pc := 273) (tgt := 11) E dX2_meanBy_273 (by decide) ?_
                  refine k_lv (lv' := [(0, .ref (a 5)), (1, gI x0), (2, gL (f_X2_capped (v140 + r244))), (4, gL v257), (6, gI (v142 + (((f_X2_lastOf (v143 + 1) x0 s144) - v143) + 1))), (7, gI (v143 + 1))]) [7, 8, 3, 2, 1, 0] rfl ?_
                  exact ih (f_X2_capped (v140 + r244)) v257 (v142 + (((f_X2_lastOf (v143 + 1) x0 s144) - v143) + 1)) (v143 + 1) s245 ⟨(by omega), (by omega), (by omega), (by omega), hf_s245, hKM_s245, hKF_s245, hKC_s245, hKT_s245, (by first | assumption | omega), (by first | assumption | omega), (by first | assumption | omega), (by first | assumption | omega), (by first | assumption | exact SG_0 _ _ (by omega) | exact SG_skip (by assumption) (by unfold bitS; omega) (by omega) | exact SG_new (by assumption) (by omega) | exact SG_new (RUN_0 _ _ _) (by omega) | exact SG_new (RUN_c (by assumption) (by unfold bitS; omega) (by omega)) (by omega))⟩ (by omega) (fun w147 w148 w149 w150 s151 hw hi => hk w147 w148 w149 w150 s151 (hT.trans hw) hi)
                · replace hT := hT.trans (if_neg h227)
                  refine k_if_ne_t (pc := 113) (tgt := 128) E (by omega) dX2_meanBy_113 (by decide) h227 ?_
                  exact j192  trivial hT
              · replace hT := hT.trans (if_neg h222)
                refine k_if_ne_t (pc := 99) (tgt := 128) E (by omega) dX2_meanBy_99 (by decide) h222 ?_
                exact j192  trivial hT
            · replace hT := hT.trans (if_neg h191)
              refine k_icmp_ge_t (pc := 88) (tgt := 128) E (by omega) (by omega) dX2_meanBy_88 (by decide) h191 ?_
              exact j192  trivial hT
        · replace hT := hT.trans (if_neg h157)
          refine k_if_eq_f (pc := 27) (tgt := 73) E (by omega) dX2_meanBy_27 (by decide) h157 ?_
          refine k_lloadn (pc := 30) E 2 dX2_meanBy_30 rfl rfl ?_
          refine k_iloadn (pc := 31) E 1 dX2_meanBy_31 rfl rfl ?_
          refine k_iload (pc := 32) E 5 dX2_meanBy_32 rfl ?_
          refine k_mr (fun hm_s144 => ?_)
          refine k_callSN (pc := 34) (np := 2) (As := [gI x0, gI v143]) (st := [gL v140]) E (c_X8_has l D a cI cJ cS cT s144 x0 v143 (by omega) (by omega)) wm_552 wm_1 (List.mem_of_getElem? (i := 0) rfl) wm_551 (by decide +kernel) ⟨by decide, by decide⟩ rfl (Nat.le_of_ble_eq_true rfl) dX2_meanBy_34 (ro_kk (fun hr258 => ?_))
          have hp259 := f_X8_has_p x0 v143 (by omega) (by omega) 
          try simp only [hf_s144 40 (by decide)] at hp259
          obtain ⟨hp260, hp261⟩ := hp259
          refine k_st (st' := [gI (f_X8_has x0 v143), gL v140]) rfl ?_
          obtain ⟨z272, hz272, hT⟩ := gl2x hT
          have j263 : ∀ (v264 : Int) (s265 : gMem), ((in64 v264) ∧ (0 ≤ v264 ∧ v264 ≤ 1000000000000) ∧ (fr [32, 36, 37, 38, 39, 42] s0 s265) ∧ (KM s265) ∧ (KF s265) ∧ (KC s265) ∧ (KT s265)) → z272 = (v264, s265) → gK D vwCl (wdX a cI cJ cS cT) lgX A p l e { frames := 5, cells := 0, slots := 0, locals := 320 } s m args below meth c 13 (gQQ D vwCl (wdX a cI cJ cS cT) lgX A kJ in64 below args s) (f_X2_meanBy x0 s0) s265 59 [(0, .ref (a 5)), (1, gI x0), (7, gI v143)] [gL v264, gL v140] := by
            intro v264 s265 hq hz
            obtain ⟨hq270, hq271, hf_s265, hKM_s265, hKF_s265, hKC_s265, hKT_s265⟩ := hq
            replace hT := gl2y hT hz
            refine k_ladd (pc := 59) E dX2_meanBy_59 ?_
            refine k_mr (fun hm_s265 => ?_)
            refine k_callS (pc := 60) (np := 1) (As := [gL (v140 + v264)]) (st := []) E (c_X2_capped l D a cI cJ cS cT s265 (v140 + v264) (by omega)) wm_586 wm_7 wm_584 wm_585 (by decide +kernel) ⟨by decide, by decide⟩ rfl (Nat.le_of_ble_eq_true rfl) dX2_meanBy_60 (ro_kk (fun hr266 => ?_))
            have hp267 := f_X2_capped_p (v140 + v264) (by omega) 
            try simp only [hf_s265 40 (by decide)] at hp267
            obtain ⟨hp268, hp269⟩ := hp267
            refine k_st (st' := [gL (f_X2_capped (v140 + v264))]) rfl ?_
            refine k_lstoren (pc := 63) (lv' := [(2, gL (f_X2_capped (v140 + v264))), (0, .ref (a 5)), (1, gI x0), (7, gI v143)]) E dX2_meanBy_63 rfl (by decide) rfl ?_
            refine k_lconst0 (pc := 64) E dX2_meanBy_64 ?_
            refine k_lstore (pc := 65) (lv' := [(4, gL 0), (2, gL (f_X2_capped (v140 + v264))), (0, .ref (a 5)), (1, gI x0), (7, gI v143)]) E dX2_meanBy_65 (by decide) rfl ?_
            refine k_iconst (pc := 67) E dX2_meanBy_67 ?_
            refine k_istore (pc := 68) (lv' := [(6, gI 0), (4, gL 0), (2, gL (f_X2_capped (v140 + v264))), (0, .ref (a 5)), (1, gI x0), (7, gI v143)]) E dX2_meanBy_68 (by decide) rfl ?_
            refine k_goto (pc := 70) (tgt := 270) E dX2_meanBy_70 (by decide) ?_
            refine k_iinc (pc := 270) (lv' := [(7, gI (v143 + 1)), (6, gI 0), (4, gL 0), (2, gL (f_X2_capped (v140 + v264))), (0, .ref (a 5)), (1, gI x0)]) E 5 dX2_meanBy_270 rfl (by decide) rfl ?_
            refine k_goto (pc := 273) (tgt := 11) E dX2_meanBy_273 (by decide) ?_
            refine k_lv (lv' := [(0, .ref (a 5)), (1, gI x0), (2, gL (f_X2_capped (v140 + v264))), (4, gL 0), (6, gI 0), (7, gI (v143 + 1))]) [4, 5, 3, 2, 1, 0] rfl ?_
            exact ih (f_X2_capped (v140 + v264)) 0 0 (v143 + 1) s265 ⟨(by omega), (by omega), (by omega), (by omega), hf_s265, hKM_s265, hKF_s265, hKC_s265, hKT_s265, (by first | assumption | omega), (by first | assumption | omega), (by first | assumption | omega), (by first | assumption | omega), (by first | assumption | exact SG_0 _ _ (by omega) | exact SG_skip (by assumption) (by unfold bitS; omega) (by omega) | exact SG_new (by assumption) (by omega) | exact SG_new (RUN_0 _ _ _) (by omega) | exact SG_new (RUN_c (by assumption) (by unfold bitS; omega) (by omega)) (by omega))⟩ (by omega) (fun w147 w148 w149 w150 s151 hw hi => hk w147 w148 w149 w150 s151 (hT.trans hw) hi)
          replace hT := hz272
          by_cases h262 : (f_X8_has x0 v143) = 0
          · replace hT := hT.trans (if_pos h262)
            refine k_if_eq_t (pc := 37) (tgt := 51) E (by omega) dX2_meanBy_37 (by decide) h262 ?_
            refine k_aloadn (pc := 51) E 0 dX2_meanBy_51 rfl rfl ?_
            refine k_iload (pc := 52) E 5 dX2_meanBy_52 rfl ?_
            refine k_iload (pc := 54) E 5 dX2_meanBy_54 rfl ?_
            refine k_mr (fun hm_s144 => ?_)
            refine k_callV (pc := 56) (np := 2) (As := [gI v143, gI v143]) (st := [gL v140]) (q0 := 5) E (c_X2_stretchMean l D a cI cJ cS cT s144 v143 v143 (by omega) (by omega) (CD_fr hpre0 (fun k hk => hf_s144 k (dj (by decide) k hk))) (BG_fr hpre1 (fun k hk => hf_s144 k (dj (by decide) k hk))) (LA_fr hpre2 (fun k hk => hf_s144 k (dj (by decide) k hk))) (MOx_fr hpre3 (fun k hk => hf_s144 k (dj (by decide) k hk))) hKF_s144 hKC_s144 hKT_s144 hKM_s144 (WY_fr hpre8 (fun k hk => hf_s144 k (dj (by decide) k hk))) (by first | assumption | omega) (by first | assumption | omega)) wm_594 wm_7 wm_591 wm_593 wp_19 (by decide +kernel) rfl rfl ⟨by decide, by decide⟩ rfl (Nat.le_of_ble_eq_true rfl) dX2_meanBy_56 (fun r274 s275 hs275 hr273 => ?_)
            replace hT := gby hT hs275
            have hp276 := f_X2_stretchMean_p v143 v143 s144 (by omega) (by omega) hm_s144 (CD_fr hpre0 (fun k hk => hf_s144 k (dj (by decide) k hk))) (BG_fr hpre1 (fun k hk => hf_s144 k (dj (by decide) k hk))) (LA_fr hpre2 (fun k hk => hf_s144 k (dj (by decide) k hk))) (MOx_fr hpre3 (fun k hk => hf_s144 k (dj (by decide) k hk))) hKF_s144 hKC_s144 hKT_s144 hKM_s144 (WY_fr hpre8 (fun k hk => hf_s144 k (dj (by decide) k hk))) (by first | assumption | omega) (by first | assumption | omega) r274 s275 hs275
            obtain ⟨hfc_s275, hm_s275, hp277, hKM_s275, hKF_s275, hKC_s275, hKT_s275, hp278⟩ := hp276
            have hf_s275 : fr [32, 36, 37, 38, 39, 42] s0 s275 := hf_s144.call (by decide) hfc_s275
            have hKC_s275 : KC s275 := KC_fr hKC_s144 (fun k hk => hfc_s275 k (dj (by decide) k hk))
            refine k_st (st' := [gL r274, gL v140]) rfl ?_
            refine k_lv (lv' := [(0, .ref (a 5)), (1, gI x0), (7, gI v143)]) [0, 1, 5] rfl ?_
            exact j263 r274 s275 ⟨(by omega), (by first | assumption | omega), hf_s275, hKM_s275, hKF_s275, hKC_s275, hKT_s275⟩ hT
          · replace hT := hT.trans (if_neg h262)
            refine k_if_eq_f (pc := 37) (tgt := 51) E (by omega) dX2_meanBy_37 (by decide) h262 ?_
            refine k_aloadn (pc := 40) E 0 dX2_meanBy_40 rfl rfl ?_
            refine k_iload (pc := 41) E 5 dX2_meanBy_41 rfl ?_
            refine k_lconst0 (pc := 43) E dX2_meanBy_43 ?_
            refine k_iconst (pc := 44) E dX2_meanBy_44 ?_
            refine k_mr (fun hm_s144 => ?_)
            refine k_callV (pc := 45) (np := 3) (As := [gI v143, gL 0, gI 0]) (st := [gL v140]) (q0 := 5) E (c_X2_closing l D a cI cJ cS cT s144 v143 0 0 (by omega) (by omega) (by omega) (CD_fr hpre0 (fun k hk => hf_s144 k (dj (by decide) k hk))) (BG_fr hpre1 (fun k hk => hf_s144 k (dj (by decide) k hk))) (LA_fr hpre2 (fun k hk => hf_s144 k (dj (by decide) k hk))) (MOx_fr hpre3 (fun k hk => hf_s144 k (dj (by decide) k hk))) hKF_s144 hKC_s144 hKT_s144 (by first | assumption | omega) (by first | assumption | omega) (by first | assumption | omega)) wm_578 wm_7 wm_575 wm_577 wp_18 (by decide +kernel) rfl rfl ⟨by decide, by decide⟩ rfl (Nat.le_of_ble_eq_true rfl) dX2_meanBy_45 (fun r280 s281 hs281 hr279 => ?_)
            replace hT := gby hT hs281
            have hp282 := f_X2_closing_p v143 0 0 s144 (by omega) (by omega) (by omega) hm_s144 (CD_fr hpre0 (fun k hk => hf_s144 k (dj (by decide) k hk))) (BG_fr hpre1 (fun k hk => hf_s144 k (dj (by decide) k hk))) (LA_fr hpre2 (fun k hk => hf_s144 k (dj (by decide) k hk))) (MOx_fr hpre3 (fun k hk => hf_s144 k (dj (by decide) k hk))) hKF_s144 hKC_s144 hKT_s144 (by first | assumption | omega) (by first | assumption | omega) (by first | assumption | omega) r280 s281 hs281
            obtain ⟨hfc_s281, hm_s281, hp283, hKF_s281, hKC_s281, hKT_s281, hp284⟩ := hp282
            have hf_s281 : fr [32, 36, 37, 38, 39, 42] s0 s281 := hf_s144.call (by decide) hfc_s281
            have hKM_s281 : KM s281 := KM_fr hKM_s144 (fun k hk => hfc_s281 k (dj (by decide) k hk))
            refine k_st (st' := [gL r280, gL v140]) rfl ?_
            refine k_goto (pc := 48) (tgt := 59) E dX2_meanBy_48 (by decide) ?_
            refine k_lv (lv' := [(0, .ref (a 5)), (1, gI x0), (7, gI v143)]) [0, 1, 5] rfl ?_
            exact j263 r280 s281 ⟨(by omega), (by first | assumption | omega), hf_s281, hKM_s281, hKF_s281, hKC_s281, hKT_s281⟩ hT
      · replace hT := hT.trans (if_neg h152)
        refine k_icmp_ge_t (pc := 15) (tgt := 276) E (by omega) (by omega) dX2_meanBy_15 (by decide) h152 ?_
        refine k_lv (lv' := [(2, gL v140)]) [2] rfl ?_
        exact hk v140 v141 v142 v143 s144 hT ⟨(by omega), (by omega), (by omega), (by omega), hf_s144, hKM_s144, hKF_s144, hKC_s144, hKT_s144, (by first | assumption | omega), (by first | assumption | omega), (by first | assumption | omega), (by first | assumption | omega), (by first | assumption | exact SG_0 _ _ (by omega) | exact SG_skip (by assumption) (by unfold bitS; omega) (by omega) | exact SG_new (by assumption) (by omega) | exact SG_new (RUN_0 _ _ _) (by omega) | exact SG_new (RUN_c (by assumption) (by unfold bitS; omega) (by omega)) (by omega))⟩
  refine k_lv (lv' := [(0, .ref (a 5)), (1, gI x0), (2, gL 0), (4, gL 0), (6, gI 0), (7, gI 0)]) [4, 5, 3, 2, 1, 0] rfl ?_
  refine L145 17 0 0 0 0 s0 ⟨(by omega), (by omega), (by omega), (by omega), hf_s0, hKM_s0, hKF_s0, hKC_s0, hKT_s0, (by first | assumption | omega), (by first | assumption | omega), (by first | assumption | omega), (by first | assumption | omega), (by first | assumption | exact SG_0 _ _ (by omega) | exact SG_skip (by assumption) (by unfold bitS; omega) (by omega) | exact SG_new (by assumption) (by omega) | exact SG_new (RUN_0 _ _ _) (by omega) | exact SG_new (RUN_c (by assumption) (by unfold bitS; omega) (by omega)) (by omega))⟩ (by omega) (fun v303 v304 v305 v306 s307 hw hq => ?_)
  obtain ⟨hq308, hq309, hq310, hq311, hf_s307, hKM_s307, hKF_s307, hKC_s307, hKT_s307, hq312, hq313, hq314, hq315, hq316⟩ := hq
  replace hT := gl5y hT hw
  refine k_lloadn (pc := 276) E 0 dX2_meanBy_276 rfl rfl ?_
  exact k_rho hT (k_lret (pc := 277) E dX2_meanBy_277 (by omega))

def f_X8_mean (x0 : Int) (x1 : Int) (s0 : gMem) : gRes := (if (f_X8_outside x0 65536) = 0 then (if (f_X8_outside x1 3) = 0 then gb (f_X2_from x1 s0) (fun r8 s9 => gb (f_X2_meanBy x0 s9) (fun r13 s14 => (r13, s14))) else ((-4611686018427387904), s0)) else ((-4611686018427387904), s0))
theorem f_X8_mean_e (x0 : Int) (x1 : Int) (s0 : gMem) : f_X8_mean x0 x1 s0 = (if (f_X8_outside x0 65536) = 0 then (if (f_X8_outside x1 3) = 0 then gb (f_X2_from x1 s0) (fun r8 s9 => gb (f_X2_meanBy x0 s9) (fun r13 s14 => (r13, s14))) else ((-4611686018427387904), s0)) else ((-4611686018427387904), s0)) := rfl
set_option maxRecDepth 100000 in
set_option maxHeartbeats 4000000 in
theorem f_X8_mean_p (x0 : Int) (x1 : Int) (s0 : gMem) (hx0 : in32 x0) (hx1 : in32 x1) (hm_s0 : gMR lgX s0) (hpre0 : CD s0) (hpre1 : BG s0) (hpre2 : LA s0) (hpre3 : MOx s0) (hpre4 : KF s0) (hpre5 : KC s0) (hpre6 : KT s0) (hpre7 : KM s0) (hpre8 : WY s0) (rZ : Int) (sZ : gMem) (hres : f_X8_mean x0 x1 s0 = (rZ, sZ)) : (fr [32, 36, 37, 38, 39, 42, 64] s0 sZ) ∧ (gMR lgX sZ) ∧ (in64 rZ) ∧ (KM sZ) ∧ (WY sZ) ∧ (KF sZ) ∧ (KC sZ) ∧ (KT sZ) := by
  have hT := f_X8_mean_e x0 x1 s0
  have hf_s0 : fr [32, 36, 37, 38, 39, 42, 64] s0 s0 := fr.rf _ _
  have hKM_s0 := hpre7
  have hWY_s0 := hpre8
  have hKF_s0 := hpre4
  have hKC_s0 := hpre5
  have hKT_s0 := hpre6
  have hp2 := f_X8_outside_p x0 65536 (by omega) (by omega) 
  by_cases h3 : (f_X8_outside x0 65536) = 0
  · replace hT := hT.trans (if_pos h3)
    have hp5 := f_X8_outside_p x1 3 (by omega) (by omega) 
    by_cases h6 : (f_X8_outside x1 3) = 0
    · replace hT := hT.trans (if_pos h6)
      obtain ⟨r8, s9, hs9⟩ : ∃ rr ss, (f_X2_from x1 s0) = (rr, ss) := ⟨_, _, rfl⟩
      replace hT := gby hT hs9
      have hp10 := f_X2_from_p x1 s0 (by omega) hm_s0 hKM_s0 hWY_s0 (by first | assumption | omega) r8 s9 hs9
      obtain ⟨hfc_s9, hm_s9, hp11, hKM_s9, hWY_s9⟩ := hp10
      have hf_s9 : fr [32, 36, 37, 38, 39, 42, 64] s0 s9 := hf_s0.call (by decide) hfc_s9
      have hKF_s9 : KF s9 := KF_fr hKF_s0 (fun k hk => hfc_s9 k (dj (by decide) k hk))
      have hKC_s9 : KC s9 := KC_fr hKC_s0 (fun k hk => hfc_s9 k (dj (by decide) k hk))
      have hKT_s9 : KT s9 := KT_fr hKT_s0 (fun k hk => hfc_s9 k (dj (by decide) k hk))
      obtain ⟨r13, s14, hs14⟩ : ∃ rr ss, (f_X2_meanBy x0 s9) = (rr, ss) := ⟨_, _, rfl⟩
      replace hT := gby hT hs14
      have hp15 := f_X2_meanBy_p x0 s9 (by omega) hm_s9 (CD_fr hpre0 (fun k hk => hf_s9 k (dj (by decide) k hk))) (BG_fr hpre1 (fun k hk => hf_s9 k (dj (by decide) k hk))) (LA_fr hpre2 (fun k hk => hf_s9 k (dj (by decide) k hk))) (MOx_fr hpre3 (fun k hk => hf_s9 k (dj (by decide) k hk))) hKF_s9 hKC_s9 hKT_s9 hKM_s9 hWY_s9 r13 s14 hs14
      obtain ⟨hfc_s14, hm_s14, hp16, hKM_s14, hKF_s14, hKC_s14, hKT_s14, hp17⟩ := hp15
      have hf_s14 : fr [32, 36, 37, 38, 39, 42, 64] s0 s14 := hf_s9.call (by decide) hfc_s14
      have hWY_s14 : WY s14 := WY_fr hWY_s9 (fun k hk => hfc_s14 k (dj (by decide) k hk))
      obtain ⟨rfl, rfl⟩ := Prod.mk.inj (hT.symm.trans hres)
      exact ⟨hf_s14, hm_s14, (by omega), hKM_s14, hWY_s14, hKF_s14, hKC_s14, hKT_s14⟩
    · replace hT := hT.trans (if_neg h6)
      obtain ⟨rfl, rfl⟩ := Prod.mk.inj (hT.symm.trans hres)
      exact ⟨hf_s0, hm_s0, (by omega), hKM_s0, hWY_s0, hKF_s0, hKC_s0, hKT_s0⟩
  · replace hT := hT.trans (if_neg h3)
    obtain ⟨rfl, rfl⟩ := Prod.mk.inj (hT.symm.trans hres)
    exact ⟨hf_s0, hm_s0, (by omega), hKM_s0, hWY_s0, hKF_s0, hKC_s0, hKT_s0⟩
set_option maxRecDepth 100000 in
set_option maxHeartbeats 4000000 in
theorem c_X8_mean (l : Launch) (D : va_G) (a : Nat → Nat) (cI cJ cS cT : ClassId) (s0 : gMem) (x0 : Int) (x1 : Int) (hx0 : in32 x0) (hx1 : in32 x1) (hpre0 : CD s0) (hpre1 : BG s0) (hpre2 : LA s0) (hpre3 : MOx s0) (hpre4 : KF s0) (hpre5 : KC s0) (hpre6 : KT s0) (hpre7 : KM s0) (hpre8 : WY s0) : gC l yX8_mean cX8_mean 3 (some .long) 6 384 D vwCl (gT cI cJ cS cT) (wdX a cI cJ cS cT) lgX kJ in64 [.ref (a 0), gI x0, gI x1] s0 (f_X8_mean x0 x1 s0) := by
  refine gC_of (by decide +kernel) (hwdX a cI cJ cS cT) (Nat.le_of_ble_eq_true rfl) ?_
  intro A p e R s m args below meth c hR E
  subst hR
  have hT := f_X8_mean_e x0 x1 s0
  have hf_s0 : fr [32, 36, 37, 38, 39, 42, 64] s0 s0 := fr.rf _ _
  refine k_lv0 (lv' := [(0, .ref (a 0)), (1, gI x0), (2, gI x1)]) rfl ?_
  refine k_mr (fun hm_s0 => ?_)
  have hKM_s0 := hpre7
  have hWY_s0 := hpre8
  have hKF_s0 := hpre4
  have hKC_s0 := hpre5
  have hKT_s0 := hpre6
  refine k_iloadn (pc := 0) E 1 dX8_mean_0 rfl rfl ?_
  refine k_ldc (pc := 1) (n := 65536) E dX8_mean_1 wm_311 (by decide) ?_
  refine k_mr (fun hm_s0 => ?_)
  refine k_callS (pc := 3) (np := 2) (As := [gI x0, gI 65536]) (st := []) E (c_X8_outside l D a cI cJ cS cT s0 x0 65536 (by omega) (by omega)) wm_310 wm_1 wm_308 wm_309 (by decide +kernel) ⟨by decide, by decide⟩ rfl (Nat.le_of_ble_eq_true rfl) dX8_mean_3 (ro_kk (fun hr1 => ?_))
  have hp2 := f_X8_outside_p x0 65536 (by omega) (by omega) 
  refine k_st (st' := [gI (f_X8_outside x0 65536)]) rfl ?_
  by_cases h3 : (f_X8_outside x0 65536) = 0
  · replace hT := hT.trans (if_pos h3)
    refine k_if_ne_f (pc := 6) (tgt := 17) E (by omega) dX8_mean_6 (by decide) h3 ?_
    refine k_iloadn (pc := 9) E 2 dX8_mean_9 rfl rfl ?_
    refine k_iconst (pc := 10) E dX8_mean_10 ?_
    refine k_mr (fun hm_s0 => ?_)
    refine k_callS (pc := 11) (np := 2) (As := [gI x1, gI 3]) (st := []) E (c_X8_outside l D a cI cJ cS cT s0 x1 3 (by omega) (by omega)) wm_310 wm_1 wm_308 wm_309 (by decide +kernel) ⟨by decide, by decide⟩ rfl (Nat.le_of_ble_eq_true rfl) dX8_mean_11 (ro_kk (fun hr4 => ?_))
    have hp5 := f_X8_outside_p x1 3 (by omega) (by omega) 
    refine k_st (st' := [gI (f_X8_outside x1 3)]) rfl ?_
    by_cases h6 : (f_X8_outside x1 3) = 0
    · replace hT := hT.trans (if_pos h6)
      refine k_if_eq_t (pc := 14) (tgt := 21) E (by omega) dX8_mean_14 (by decide) h6 ?_
      refine k_aloadn (pc := 21) E 0 dX8_mean_21 rfl rfl ?_
      refine k_getf (pc := 22) (q0 := 0) (f := 3) (v := .ref (a 5)) E inX8 rfl rfl (by decide) wm_275 rfl rfl dX8_mean_22 ?_
      refine k_iloadn (pc := 25) E 2 dX8_mean_25 rfl rfl ?_
      refine k_mr (fun hm_s0 => ?_)
      refine k_callV (pc := 26) (np := 1) (As := [gI x1]) (st := []) (q0 := 5) E (c_X2_from l D a cI cJ cS cT s0 x1 (by omega) hKM_s0 hWY_s0 (by first | assumption | omega)) wm_566 wm_7 wm_563 wm_564 wm_565 (by decide +kernel) rfl rfl ⟨by decide, by decide⟩ rfl (Nat.le_of_ble_eq_true rfl) dX8_mean_26 (fun r8 s9 hs9 hr7 => ?_)
      replace hT := gby hT hs9
      have hp10 := f_X2_from_p x1 s0 (by omega) hm_s0 hKM_s0 hWY_s0 (by first | assumption | omega) r8 s9 hs9
      obtain ⟨hfc_s9, hm_s9, hp11, hKM_s9, hWY_s9⟩ := hp10
      have hf_s9 : fr [32, 36, 37, 38, 39, 42, 64] s0 s9 := hf_s0.call (by decide) hfc_s9
      have hKF_s9 : KF s9 := KF_fr hKF_s0 (fun k hk => hfc_s9 k (dj (by decide) k hk))
      have hKC_s9 : KC s9 := KC_fr hKC_s0 (fun k hk => hfc_s9 k (dj (by decide) k hk))
      have hKT_s9 : KT s9 := KT_fr hKT_s0 (fun k hk => hfc_s9 k (dj (by decide) k hk))
      refine k_st (st' := []) rfl ?_
      refine k_aloadn (pc := 29) E 0 dX8_mean_29 rfl rfl ?_
      refine k_getf (pc := 30) (q0 := 0) (f := 3) (v := .ref (a 5)) E inX8 rfl rfl (by decide) wm_275 rfl rfl dX8_mean_30 ?_
      refine k_iloadn (pc := 33) E 1 dX8_mean_33 rfl rfl ?_
      refine k_mr (fun hm_s9 => ?_)
      refine k_callV (pc := 34) (np := 1) (As := [gI x0]) (st := []) (q0 := 5) E (c_X2_meanBy l D a cI cJ cS cT s9 x0 (by omega) (CD_fr hpre0 (fun k hk => hf_s9 k (dj (by decide) k hk))) (BG_fr hpre1 (fun k hk => hf_s9 k (dj (by decide) k hk))) (LA_fr hpre2 (fun k hk => hf_s9 k (dj (by decide) k hk))) (MOx_fr hpre3 (fun k hk => hf_s9 k (dj (by decide) k hk))) hKF_s9 hKC_s9 hKT_s9 hKM_s9 hWY_s9) wm_574 wm_7 wm_571 wm_572 wm_573 (by decide +kernel) rfl rfl ⟨by decide, by decide⟩ rfl (Nat.le_of_ble_eq_true rfl) dX8_mean_34 (fun r13 s14 hs14 hr12 => ?_)
      replace hT := gby hT hs14
      have hp15 := f_X2_meanBy_p x0 s9 (by omega) hm_s9 (CD_fr hpre0 (fun k hk => hf_s9 k (dj (by decide) k hk))) (BG_fr hpre1 (fun k hk => hf_s9 k (dj (by decide) k hk))) (LA_fr hpre2 (fun k hk => hf_s9 k (dj (by decide) k hk))) (MOx_fr hpre3 (fun k hk => hf_s9 k (dj (by decide) k hk))) hKF_s9 hKC_s9 hKT_s9 hKM_s9 hWY_s9 r13 s14 hs14
      obtain ⟨hfc_s14, hm_s14, hp16, hKM_s14, hKF_s14, hKC_s14, hKT_s14, hp17⟩ := hp15
      have hf_s14 : fr [32, 36, 37, 38, 39, 42, 64] s0 s14 := hf_s9.call (by decide) hfc_s14
      have hWY_s14 : WY s14 := WY_fr hWY_s9 (fun k hk => hfc_s14 k (dj (by decide) k hk))
      refine k_st (st' := [gL r13]) rfl ?_
      exact k_rho hT (k_lret (pc := 37) E dX8_mean_37 (by omega))
    · replace hT := hT.trans (if_neg h6)
      refine k_if_eq_f (pc := 14) (tgt := 21) E (by omega) dX8_mean_14 (by decide) h6 ?_
      refine k_ldc2 (pc := 17) (n := (-4611686018427387904)) E dX8_mean_17 wm_562 (by decide) ?_
      exact k_rho hT (k_lret (pc := 20) E dX8_mean_20 (by omega))
  · replace hT := hT.trans (if_neg h3)
    refine k_if_ne_t (pc := 6) (tgt := 17) E (by omega) dX8_mean_6 (by decide) h3 ?_
    refine k_ldc2 (pc := 17) (n := (-4611686018427387904)) E dX8_mean_17 wm_562 (by decide) ?_
    exact k_rho hT (k_lret (pc := 20) E dX8_mean_20 (by omega))

def f_X8_plan  (s0 : gMem) : gRes := gb (f_X2_from (s0 61 0) s0) (fun r4 s5 => gb (f_X2_meanBy (s5 59 0) s5) (fun r10 s11 => (r10, s11)))
theorem f_X8_plan_e  (s0 : gMem) : f_X8_plan s0 = gb (f_X2_from (s0 61 0) s0) (fun r4 s5 => gb (f_X2_meanBy (s5 59 0) s5) (fun r10 s11 => (r10, s11))) := rfl
set_option maxRecDepth 100000 in
set_option maxHeartbeats 4000000 in
theorem f_X8_plan_p  (s0 : gMem)  (hm_s0 : gMR lgX s0) (hpre0 : CD s0) (hpre1 : BG s0) (hpre2 : LA s0) (hpre3 : MOx s0) (hpre4 : KF s0) (hpre5 : KC s0) (hpre6 : KT s0) (hpre7 : KM s0) (hpre8 : WY s0) (hpre9 : EN s0) (rZ : Int) (sZ : gMem) (hres : f_X8_plan s0 = (rZ, sZ)) : (fr [32, 36, 37, 38, 39, 42, 64] s0 sZ) ∧ (gMR lgX sZ) ∧ (in64 rZ) ∧ (KM sZ) ∧ (WY sZ) ∧ (KF sZ) ∧ (KC sZ) ∧ (KT sZ) ∧ (0 ≤ rZ ∧ rZ ≤ 1000000000000) := by
  have hT := f_X8_plan_e  s0
  have hf_s0 : fr [32, 36, 37, 38, 39, 42, 64] s0 s0 := fr.rf _ _
  have hKM_s0 := hpre7
  have hWY_s0 := hpre8
  have hKF_s0 := hpre4
  have hKC_s0 := hpre5
  have hKT_s0 := hpre6
  have hr1 := (hm_s0 61 0).1 rfl
  have hi2 := hpre9 0
  obtain ⟨r4, s5, hs5⟩ : ∃ rr ss, (f_X2_from (s0 61 0) s0) = (rr, ss) := ⟨_, _, rfl⟩
  replace hT := gby hT hs5
  have hp6 := f_X2_from_p (s0 61 0) s0 (by omega) hm_s0 hKM_s0 hWY_s0 (by first | assumption | omega) r4 s5 hs5
  obtain ⟨hfc_s5, hm_s5, hp7, hKM_s5, hWY_s5⟩ := hp6
  have hf_s5 : fr [32, 36, 37, 38, 39, 42, 64] s0 s5 := hf_s0.call (by decide) hfc_s5
  have hKF_s5 : KF s5 := KF_fr hKF_s0 (fun k hk => hfc_s5 k (dj (by decide) k hk))
  have hKC_s5 : KC s5 := KC_fr hKC_s0 (fun k hk => hfc_s5 k (dj (by decide) k hk))
  have hKT_s5 : KT s5 := KT_fr hKT_s0 (fun k hk => hfc_s5 k (dj (by decide) k hk))
  have hr8 := (hm_s5 59 0).1 rfl
  obtain ⟨r10, s11, hs11⟩ : ∃ rr ss, (f_X2_meanBy (s5 59 0) s5) = (rr, ss) := ⟨_, _, rfl⟩
  replace hT := gby hT hs11
  have hp12 := f_X2_meanBy_p (s5 59 0) s5 (by omega) hm_s5 (CD_fr hpre0 (fun k hk => hf_s5 k (dj (by decide) k hk))) (BG_fr hpre1 (fun k hk => hf_s5 k (dj (by decide) k hk))) (LA_fr hpre2 (fun k hk => hf_s5 k (dj (by decide) k hk))) (MOx_fr hpre3 (fun k hk => hf_s5 k (dj (by decide) k hk))) hKF_s5 hKC_s5 hKT_s5 hKM_s5 hWY_s5 r10 s11 hs11
  obtain ⟨hfc_s11, hm_s11, hp13, hKM_s11, hKF_s11, hKC_s11, hKT_s11, hp14⟩ := hp12
  have hf_s11 : fr [32, 36, 37, 38, 39, 42, 64] s0 s11 := hf_s5.call (by decide) hfc_s11
  have hWY_s11 : WY s11 := WY_fr hWY_s5 (fun k hk => hfc_s11 k (dj (by decide) k hk))
  obtain ⟨rfl, rfl⟩ := Prod.mk.inj (hT.symm.trans hres)
  exact ⟨hf_s11, hm_s11, (by omega), hKM_s11, hWY_s11, hKF_s11, hKC_s11, hKT_s11, (by first | assumption | omega)⟩
set_option maxRecDepth 100000 in
set_option maxHeartbeats 4000000 in
theorem c_X8_plan (l : Launch) (D : va_G) (a : Nat → Nat) (cI cJ cS cT : ClassId) (s0 : gMem)   (hpre0 : CD s0) (hpre1 : BG s0) (hpre2 : LA s0) (hpre3 : MOx s0) (hpre4 : KF s0) (hpre5 : KC s0) (hpre6 : KT s0) (hpre7 : KM s0) (hpre8 : WY s0) (hpre9 : EN s0) : gC l yX8_plan cX8_plan 1 (some .long) 6 384 D vwCl (gT cI cJ cS cT) (wdX a cI cJ cS cT) lgX kJ in64 [.ref (a 0)] s0 (f_X8_plan s0) := by
  refine gC_of (by decide +kernel) (hwdX a cI cJ cS cT) (Nat.le_of_ble_eq_true rfl) ?_
  intro A p e R s m args below meth c hR E
  subst hR
  have hT := f_X8_plan_e  s0
  have hf_s0 : fr [32, 36, 37, 38, 39, 42, 64] s0 s0 := fr.rf _ _
  refine k_lv0 (lv' := [(0, .ref (a 0))]) rfl ?_
  refine k_mr (fun hm_s0 => ?_)
  have hKM_s0 := hpre7
  have hWY_s0 := hpre8
  have hKF_s0 := hpre4
  have hKC_s0 := hpre5
  have hKT_s0 := hpre6
  refine k_aloadn (pc := 0) E 0 dX8_plan_0 rfl rfl ?_
  refine k_getf (pc := 1) (q0 := 0) (f := 3) (v := .ref (a 5)) E inX8 rfl rfl (by decide) wm_275 rfl rfl dX8_plan_1 ?_
  refine k_aloadn (pc := 4) E 0 dX8_plan_4 rfl rfl ?_
  refine k_getf (pc := 5) (q0 := 0) (f := 2) (v := .ref (a 3)) E inX8 rfl rfl (by decide) wm_274 rfl rfl dX8_plan_5 ?_
  refine k_getf (pc := 8) (q0 := 3) (f := 0) (v := .ref (a 4)) E inX4 rfl rfl (by decide) wm_149 rfl rfl dX8_plan_8 ?_
  refine k_getfI (pc := 11) (q0 := 4) (f := 4) (k := 61) E inX6 rfl rfl (by decide) wm_116 rfl rfl rfl dX8_plan_11 (fun hr1 => ?_)
  have hi2 := hpre9 0
  refine k_mr (fun hm_s0 => ?_)
  refine k_callV (pc := 14) (np := 1) (As := [gI (s0 61 0)]) (st := []) (q0 := 5) E (c_X2_from l D a cI cJ cS cT s0 (s0 61 0) (by omega) hKM_s0 hWY_s0 (by first | assumption | omega)) wm_566 wm_7 wm_563 wm_564 wm_565 (by decide +kernel) rfl rfl ⟨by decide, by decide⟩ rfl (Nat.le_of_ble_eq_true rfl) dX8_plan_14 (fun r4 s5 hs5 hr3 => ?_)
  replace hT := gby hT hs5
  have hp6 := f_X2_from_p (s0 61 0) s0 (by omega) hm_s0 hKM_s0 hWY_s0 (by first | assumption | omega) r4 s5 hs5
  obtain ⟨hfc_s5, hm_s5, hp7, hKM_s5, hWY_s5⟩ := hp6
  have hf_s5 : fr [32, 36, 37, 38, 39, 42, 64] s0 s5 := hf_s0.call (by decide) hfc_s5
  have hKF_s5 : KF s5 := KF_fr hKF_s0 (fun k hk => hfc_s5 k (dj (by decide) k hk))
  have hKC_s5 : KC s5 := KC_fr hKC_s0 (fun k hk => hfc_s5 k (dj (by decide) k hk))
  have hKT_s5 : KT s5 := KT_fr hKT_s0 (fun k hk => hfc_s5 k (dj (by decide) k hk))
  refine k_st (st' := []) rfl ?_
  refine k_aloadn (pc := 17) E 0 dX8_plan_17 rfl rfl ?_
  refine k_getf (pc := 18) (q0 := 0) (f := 3) (v := .ref (a 5)) E inX8 rfl rfl (by decide) wm_275 rfl rfl dX8_plan_18 ?_
  refine k_aloadn (pc := 21) E 0 dX8_plan_21 rfl rfl ?_
  refine k_getf (pc := 22) (q0 := 0) (f := 2) (v := .ref (a 3)) E inX8 rfl rfl (by decide) wm_274 rfl rfl dX8_plan_22 ?_
  refine k_getf (pc := 25) (q0 := 3) (f := 0) (v := .ref (a 4)) E inX4 rfl rfl (by decide) wm_149 rfl rfl dX8_plan_25 ?_
  refine k_getfI (pc := 28) (q0 := 4) (f := 2) (k := 59) E inX6 rfl rfl (by decide) wm_109 rfl rfl rfl dX8_plan_28 (fun hr8 => ?_)
  refine k_mr (fun hm_s5 => ?_)
  refine k_callV (pc := 31) (np := 1) (As := [gI (s5 59 0)]) (st := []) (q0 := 5) E (c_X2_meanBy l D a cI cJ cS cT s5 (s5 59 0) (by omega) (CD_fr hpre0 (fun k hk => hf_s5 k (dj (by decide) k hk))) (BG_fr hpre1 (fun k hk => hf_s5 k (dj (by decide) k hk))) (LA_fr hpre2 (fun k hk => hf_s5 k (dj (by decide) k hk))) (MOx_fr hpre3 (fun k hk => hf_s5 k (dj (by decide) k hk))) hKF_s5 hKC_s5 hKT_s5 hKM_s5 hWY_s5) wm_574 wm_7 wm_571 wm_572 wm_573 (by decide +kernel) rfl rfl ⟨by decide, by decide⟩ rfl (Nat.le_of_ble_eq_true rfl) dX8_plan_31 (fun r10 s11 hs11 hr9 => ?_)
  replace hT := gby hT hs11
  have hp12 := f_X2_meanBy_p (s5 59 0) s5 (by omega) hm_s5 (CD_fr hpre0 (fun k hk => hf_s5 k (dj (by decide) k hk))) (BG_fr hpre1 (fun k hk => hf_s5 k (dj (by decide) k hk))) (LA_fr hpre2 (fun k hk => hf_s5 k (dj (by decide) k hk))) (MOx_fr hpre3 (fun k hk => hf_s5 k (dj (by decide) k hk))) hKF_s5 hKC_s5 hKT_s5 hKM_s5 hWY_s5 r10 s11 hs11
  obtain ⟨hfc_s11, hm_s11, hp13, hKM_s11, hKF_s11, hKC_s11, hKT_s11, hp14⟩ := hp12
  have hf_s11 : fr [32, 36, 37, 38, 39, 42, 64] s0 s11 := hf_s5.call (by decide) hfc_s11
  have hWY_s11 : WY s11 := WY_fr hWY_s5 (fun k hk => hfc_s11 k (dj (by decide) k hk))
  refine k_st (st' := [gL r10]) rfl ?_
  exact k_rho hT (k_lret (pc := 34) E dX8_plan_34 (by omega))
