theorem wp_26 : Cond.selects RX9 yX9_wordFrom yX9_wordFrom ∈ gBIG := gm (List.mem_of_getElem? (i := 26) (by decide +kernel)) (by decide +kernel)
theorem wp_31 : Cond.selects RX9 yX9_holds yX9_holds ∈ gBIG := gm (List.mem_of_getElem? (i := 31) (by decide +kernel)) (by decide +kernel)
theorem wm_862 : Cond.methodLink RX9 103 yX9_wordFrom ∈ gBIG := gm (List.mem_of_getElem? (i := 916) (by decide +kernel)) (by decide +kernel)
theorem wm_864 : Cond.instanceMethod yX9_wordFrom ∈ gBIG := gm (List.mem_of_getElem? (i := 918) (by decide +kernel)) (by decide +kernel)
theorem wm_865 : Cond.code yX9_wordFrom cX9_wordFrom 6 (some .int) ∈ gBIG := gm (List.mem_of_getElem? (i := 919) (by decide +kernel)) (by decide +kernel)
theorem wm_886 : Cond.methodLink RX9 124 yX9_holds ∈ gBIG := gm (List.mem_of_getElem? (i := 940) (by decide +kernel)) (by decide +kernel)
theorem wm_888 : Cond.instanceMethod yX9_holds ∈ gBIG := gm (List.mem_of_getElem? (i := 942) (by decide +kernel)) (by decide +kernel)
theorem wm_889 : Cond.code yX9_holds cX9_holds 2 none ∈ gBIG := gm (List.mem_of_getElem? (i := 943) (by decide +kernel)) (by decide +kernel)
theorem wm_914 : Cond.fieldLink RX9 91 "AGapEveryTwentyModel" "at" "I" ∈ gBIG := gm (List.mem_of_getElem? (i := 968) (by decide +kernel)) (by decide +kernel)
theorem wm_915 : Cond.fieldLink RX9 94 "AGapEveryTwentyModel" "begun" "I" ∈ gBIG := gm (List.mem_of_getElem? (i := 969) (by decide +kernel)) (by decide +kernel)
theorem wm_916 : Cond.fieldLink RX9 97 "AGapEveryTwentyModel" "token" "I" ∈ gBIG := gm (List.mem_of_getElem? (i := 970) (by decide +kernel)) (by decide +kernel)
theorem wm_917 : Cond.fieldLink RX9 100 "AGapEveryTwentyModel" "value" "I" ∈ gBIG := gm (List.mem_of_getElem? (i := 971) (by decide +kernel)) (by decide +kernel)
theorem wm_918 : Cond.fieldLink RX9 43 "AGapEveryTwentyModel" "words" "[I" ∈ gBIG := gm (List.mem_of_getElem? (i := 972) (by decide +kernel)) (by decide +kernel)
theorem wm_919 : Cond.fieldLink RX9 46 "AGapEveryTwentyModel" "held" "[I" ∈ gBIG := gm (List.mem_of_getElem? (i := 973) (by decide +kernel)) (by decide +kernel)
theorem wm_920 : Cond.fieldLink RX9 110 "AGapEveryTwentyModel" "heldMany" "I" ∈ gBIG := gm (List.mem_of_getElem? (i := 974) (by decide +kernel)) (by decide +kernel)
theorem wm_921 : Cond.fieldLink RX9 117 "AGapEveryTwentyModel" "opens" "I" ∈ gBIG := gm (List.mem_of_getElem? (i := 975) (by decide +kernel)) (by decide +kernel)
theorem wm_922 : Cond.fieldLink RX9 107 "AGapEveryTwentyModel" "out" "I" ∈ gBIG := gm (List.mem_of_getElem? (i := 976) (by decide +kernel)) (by decide +kernel)
/-! texts of the reference -/
theorem OP1 {f g h : Int → Int} {q q2 x : Int} (hg : ∀ i, g i = if i = q then x else f i) (e : f = h) (e2 : q = q2) : ∀ i, g i = if i = q2 then x else h i := by
  subst e; subst e2
  exact hg

def w_X9_wordFrom_26 (c1 : Int) (c2 : Int) (c3 : Int) (s0 : gMem) : Nat → Int → Int → Int × Int
  | 0, v7, v8 => (v7, v8)
  | n9 + 1, v7, v8 => (if v8 < 8 then (if v7 = 0 then (v7, v8) else (gl ((if (c1 + v8) < c2 then (s0 3 (c1 + v8)) else 32)) (fun v15 => (gl ((if (s0 20 ((8 * c3) + v8)) = v15 then 1 else 0)) (fun v18 => (w_X9_wordFrom_26 c1 c2 c3 s0 n9 v18 (v8 + 1))))))) else (v7, v8))
theorem w_X9_wordFrom_26_s (c1 : Int) (c2 : Int) (c3 : Int) (s0 : gMem) (n9 : Nat) (v7 : Int) (v8 : Int)  : w_X9_wordFrom_26 c1 c2 c3 s0 (n9 + 1) v7 v8 = (if v8 < 8 then (if v7 = 0 then (v7, v8) else (gl ((if (c1 + v8) < c2 then (s0 3 (c1 + v8)) else 32)) (fun v15 => (gl ((if (s0 20 ((8 * c3) + v8)) = v15 then 1 else 0)) (fun v18 => (w_X9_wordFrom_26 c1 c2 c3 s0 n9 v18 (v8 + 1))))))) else (v7, v8)) := rfl
def t_X9_wordFrom_2 (c1 : Int) (c2 : Int) (s0 : gMem) : Nat → Int → Int
  | 0, v1 => 0
  | n2 + 1, v1 => (if v1 < 12 then (gl ((if 8 < (c2 - c1) then 0 else 1)) (fun v6 => (gl2 (w_X9_wordFrom_26 c1 c2 v1 s0 9 v6 0) (fun v54 v55 => (if v54 = 0 then (t_X9_wordFrom_2 c1 c2 s0 n2 (v1 + 1)) else v1))))) else 12)
theorem t_X9_wordFrom_2_s (c1 : Int) (c2 : Int) (s0 : gMem) (n2 : Nat) (v1 : Int)  : t_X9_wordFrom_2 c1 c2 s0 (n2 + 1) v1 = (if v1 < 12 then (gl ((if 8 < (c2 - c1) then 0 else 1)) (fun v6 => (gl2 (w_X9_wordFrom_26 c1 c2 v1 s0 9 v6 0) (fun v54 v55 => (if v54 = 0 then (t_X9_wordFrom_2 c1 c2 s0 n2 (v1 + 1)) else v1))))) else 12) := rfl
def f_X9_wordFrom (x0 : Int) (x1 : Int) (s0 : gMem) : Int := (t_X9_wordFrom_2 x0 x1 s0 13 0)
theorem f_X9_wordFrom_e (x0 : Int) (x1 : Int) (s0 : gMem) : f_X9_wordFrom x0 x1 s0 = (t_X9_wordFrom_2 x0 x1 s0 13 0) := rfl
set_option maxRecDepth 100000 in
set_option maxHeartbeats 4000000 in
theorem f_X9_wordFrom_p (x0 : Int) (x1 : Int) (s0 : gMem) (hx0 : in32 x0) (hx1 : in32 x1) (hm_s0 : gMR lgM s0) (hpre0 : 0 ≤ x0 ∧ x0 ≤ x1 ∧ x1 ≤ 160) : (in32 (f_X9_wordFrom x0 x1 s0)) ∧ (0 ≤ (f_X9_wordFrom x0 x1 s0) ∧ (f_X9_wordFrom x0 x1 s0) ≤ 12) := by
  have hT := f_X9_wordFrom_e x0 x1 s0
  have L65 : ∀ (n66 : Nat) (v64 : Int), ((in32 v64) ∧ (0 ≤ v64 ∧ v64 ≤ 12)) → 12 - v64 < (n66 : Int) → (f_X9_wordFrom x0 x1 s0) = (t_X9_wordFrom_2 x0 x1 s0 n66 v64) → (in32 (f_X9_wordFrom x0 x1 s0)) ∧ (0 ≤ (f_X9_wordFrom x0 x1 s0) ∧ (f_X9_wordFrom x0 x1 s0) ≤ 12) := by
    intro n66; induction n66 with
    | zero =>
      intro v64 hq hm hT
      exfalso
      obtain ⟨hq129, hq130⟩ := hq
      omega
    | succ n66 ih =>
      intro v64 hq hm hT
      obtain ⟨hq131, hq132⟩ := hq
      replace hT := hT.trans (t_X9_wordFrom_2_s x0 x1 s0 n66 v64)
      by_cases h68 : v64 < 12
      · replace hT := hT.trans (if_pos h68)
        obtain ⟨z128, hz128, hT⟩ := gl1x hT
        have j70 : ∀ (v71 : Int), ((in32 v71) ∧ (0 ≤ v71 ∧ v71 ≤ 1)) → z128 = v71 → (in32 (f_X9_wordFrom x0 x1 s0)) ∧ (0 ≤ (f_X9_wordFrom x0 x1 s0) ∧ (f_X9_wordFrom x0 x1 s0) ≤ 12) := by
          intro v71 hq hz
          obtain ⟨hq126, hq127⟩ := hq
          replace hT := gl1y hT hz
          have L92 : ∀ (n93 : Nat) (v90 : Int) (v91 : Int), ((in32 v90) ∧ (in32 v91) ∧ (0 ≤ v91 ∧ v91 ≤ 8) ∧ (0 ≤ v90 ∧ v90 ≤ 1)) → 8 - v91 < (n93 : Int) → (∀ (w94 : Int) (w95 : Int), (w_X9_wordFrom_26 x0 x1 v64 s0 n93 v90 v91) = (w94, w95) → ((in32 w94) ∧ (in32 w95) ∧ (0 ≤ w95 ∧ w95 ≤ 8) ∧ (0 ≤ w94 ∧ w94 ≤ 1)) → (in32 (f_X9_wordFrom x0 x1 s0)) ∧ (0 ≤ (f_X9_wordFrom x0 x1 s0) ∧ (f_X9_wordFrom x0 x1 s0) ≤ 12)) → (in32 (f_X9_wordFrom x0 x1 s0)) ∧ (0 ≤ (f_X9_wordFrom x0 x1 s0) ∧ (f_X9_wordFrom x0 x1 s0) ≤ 12) := by
            intro n93; induction n93 with
            | zero =>
              intro v90 v91 hq hm hk
              exfalso
              obtain ⟨hq111, hq112, hq113, hq114⟩ := hq
              omega
            | succ n93 ih =>
              intro v90 v91 hq hm hk
              obtain ⟨hq115, hq116, hq117, hq118⟩ := hq
              have hT := w_X9_wordFrom_26_s x0 x1 v64 s0 n93 v90 v91
              by_cases h96 : v91 < 8
              · replace hT := hT.trans (if_pos h96)
                by_cases h97 : v90 = 0
                · replace hT := hT.trans (if_pos h97)
                  exact hk v90 v91 hT ⟨(by omega), (by omega), (by first | assumption | omega), (by first | assumption | omega)⟩
                · replace hT := hT.trans (if_neg h97)
                  have hr98 := (hm_s0 20 ((8 * v64) + v91)).1 rfl
                  obtain ⟨z109, hz109, hT⟩ := gl1x hT
                  have j100 : ∀ (v101 : Int), ((in32 v101)) → z109 = v101 → (in32 (f_X9_wordFrom x0 x1 s0)) ∧ (0 ≤ (f_X9_wordFrom x0 x1 s0) ∧ (f_X9_wordFrom x0 x1 s0) ≤ 12) := by
                    intro v101 hq hz
                    have hq108 := hq
                    replace hT := gl1y hT hz
                    obtain ⟨z107, hz107, hT⟩ := gl1x hT
                    have j103 : ∀ (v104 : Int), ((in32 v104) ∧ (0 ≤ v104 ∧ v104 ≤ 1)) → z107 = v104 → (in32 (f_X9_wordFrom x0 x1 s0)) ∧ (0 ≤ (f_X9_wordFrom x0 x1 s0) ∧ (f_X9_wordFrom x0 x1 s0) ≤ 12) := by
                      intro v104 hq hz
                      obtain ⟨hq105, hq106⟩ := hq
                      replace hT := gl1y hT hz
                      exact ih v104 (v91 + 1) ⟨(by omega), (by omega), (by first | assumption | omega), (by first | assumption | omega)⟩ (by omega) (fun w94 w95 hw hi => hk w94 w95 (hT.trans hw) hi)
                    replace hT := hz107
                    by_cases h102 : (s0 20 ((8 * v64) + v91)) = v101
                    · replace hT := hT.trans (if_pos h102)
                      exact j103 1 ⟨(by omega), (by first | assumption | omega)⟩ hT
                    · replace hT := hT.trans (if_neg h102)
                      exact j103 0 ⟨(by omega), (by first | assumption | omega)⟩ hT
                  replace hT := hz109
                  by_cases h99 : (x0 + v91) < x1
                  · replace hT := hT.trans (if_pos h99)
                    have hr110 := (hm_s0 3 (x0 + v91)).1 rfl
                    exact j100 (s0 3 (x0 + v91)) (by omega) hT
                  · replace hT := hT.trans (if_neg h99)
                    exact j100 32 (by omega) hT
              · replace hT := hT.trans (if_neg h96)
                exact hk v90 v91 hT ⟨(by omega), (by omega), (by first | assumption | omega), (by first | assumption | omega)⟩
          refine L92 9 v71 0 ⟨(by omega), (by omega), (by first | assumption | omega), (by first | assumption | omega)⟩ (by omega) (fun v119 v120 hw hq => ?_)
          obtain ⟨hq121, hq122, hq123, hq124⟩ := hq
          replace hT := gl2y hT hw
          by_cases h125 : v119 = 0
          · replace hT := hT.trans (if_pos h125)
            exact ih (v64 + 1) ⟨(by omega), (by first | assumption | omega)⟩ (by omega) hT
          · replace hT := hT.trans (if_neg h125)
            rw [hT]
            exact ⟨(by omega), (by first | assumption | omega)⟩
        replace hT := hz128
        by_cases h69 : 8 < (x1 - x0)
        · replace hT := hT.trans (if_pos h69)
          exact j70 0 ⟨(by omega), (by first | assumption | omega)⟩ hT
        · replace hT := hT.trans (if_neg h69)
          exact j70 1 ⟨(by omega), (by first | assumption | omega)⟩ hT
      · replace hT := hT.trans (if_neg h68)
        rw [hT]
        exact ⟨(by omega), (by first | assumption | omega)⟩
  exact L65 13 0 ⟨(by omega), (by first | assumption | omega)⟩ (by omega) hT
set_option maxRecDepth 100000 in
set_option maxHeartbeats 4000000 in
theorem c_X9_wordFrom (l : Launch) (D : va_G) (a : Nat → Nat) (cI cJ cS cT : ClassId) (s0 : gMem) (x0 : Int) (x1 : Int) (hx0 : in32 x0) (hx1 : in32 x1) (hpre0 : 0 ≤ x0 ∧ x0 ≤ x1 ∧ x1 ≤ 160) : gC l yX9_wordFrom cX9_wordFrom 6 (some .int) 1 64 D vwCl (gT cI cJ cS cT) (wdM a cI cJ) lgM kI in32 [.ref (a 0), gI x0, gI x1] s0 ((f_X9_wordFrom x0 x1 s0), s0) := by
  refine gC_of (by decide +kernel) (hwdM a cI cJ) (Nat.le_of_ble_eq_true rfl) ?_
  intro A p e R s m args below meth c hR E
  subst hR
  have hT := f_X9_wordFrom_e x0 x1 s0
  refine k_lv0 (lv' := [(0, .ref (a 0)), (1, gI x0), (2, gI x1)]) rfl ?_
  refine k_mr (fun hm_s0 => ?_)
  refine k_iconst (pc := 0) E dX9_wordFrom_0 ?_
  refine k_istoren (pc := 1) (lv' := [(3, gI 0), (0, .ref (a 0)), (1, gI x0), (2, gI x1)]) E dX9_wordFrom_1 rfl (by decide) rfl ?_
  have L65 : ∀ (n66 : Nat) (v64 : Int), ((in32 v64) ∧ (0 ≤ v64 ∧ v64 ≤ 12)) → 12 - v64 < (n66 : Int) → (f_X9_wordFrom x0 x1 s0) = (t_X9_wordFrom_2 x0 x1 s0 n66 v64) → gK D vwCl (wdM a cI cJ) lgM A p l e { frames := 1, cells := 0, slots := 0, locals := 64 } s m args below meth c 6 (gQQ D vwCl (wdM a cI cJ) lgM A kI in32 below args s) ((f_X9_wordFrom x0 x1 s0), s0) s0 2 [(0, .ref (a 0)), (1, gI x0), (2, gI x1), (3, gI v64)] [] := by
    intro n66; induction n66 with
    | zero =>
      intro v64 hq hm hT
      exfalso
      obtain ⟨hq129, hq130⟩ := hq
      omega
    | succ n66 ih =>
      intro v64 hq hm hT
      obtain ⟨hq131, hq132⟩ := hq
      replace hT := hT.trans (t_X9_wordFrom_2_s x0 x1 s0 n66 v64)
      refine k_iloadn (pc := 2) E 3 dX9_wordFrom_2 rfl rfl ?_
      refine k_bipush (pc := 3) E dX9_wordFrom_3 (by decide) ?_
      by_cases h68 : v64 < 12
      · replace hT := hT.trans (if_pos h68)
        refine k_icmp_ge_f (pc := 5) (tgt := 101) E (by omega) (by omega) dX9_wordFrom_5 (by decide) h68 ?_
        refine k_iloadn (pc := 8) E 2 dX9_wordFrom_8 rfl rfl ?_
        refine k_iloadn (pc := 9) E 1 dX9_wordFrom_9 rfl rfl ?_
        refine k_isub (pc := 10) E dX9_wordFrom_10 ?_
        refine k_bipush (pc := 11) E dX9_wordFrom_11 (by decide) ?_
        obtain ⟨z128, hz128, hT⟩ := gl1x hT
        have j70 : ∀ (v71 : Int), ((in32 v71) ∧ (0 ≤ v71 ∧ v71 ≤ 1)) → z128 = v71 → gK D vwCl (wdM a cI cJ) lgM A p l e { frames := 1, cells := 0, slots := 0, locals := 64 } s m args below meth c 6 (gQQ D vwCl (wdM a cI cJ) lgM A kI in32 below args s) ((f_X9_wordFrom x0 x1 s0), s0) s0 21 [(0, .ref (a 0)), (1, gI x0), (2, gI x1), (3, gI v64)] [gI v71] := by
          intro v71 hq hz
          obtain ⟨hq126, hq127⟩ := hq
          replace hT := gl1y hT hz
          refine k_istore (pc := 21) (lv' := [(4, gI v71), (0, .ref (a 0)), (1, gI x0), (2, gI x1), (3, gI v64)]) E dX9_wordFrom_21 (by decide) rfl ?_
          refine k_iconst (pc := 23) E dX9_wordFrom_23 ?_
          refine k_istore (pc := 24) (lv' := [(5, gI 0), (4, gI v71), (0, .ref (a 0)), (1, gI x0), (2, gI x1), (3, gI v64)]) E dX9_wordFrom_24 (by decide) rfl ?_
          have L92 : ∀ (n93 : Nat) (v90 : Int) (v91 : Int), ((in32 v90) ∧ (in32 v91) ∧ (0 ≤ v91 ∧ v91 ≤ 8) ∧ (0 ≤ v90 ∧ v90 ≤ 1)) → 8 - v91 < (n93 : Int) → (∀ (w94 : Int) (w95 : Int), (w_X9_wordFrom_26 x0 x1 v64 s0 n93 v90 v91) = (w94, w95) → ((in32 w94) ∧ (in32 w95) ∧ (0 ≤ w95 ∧ w95 ≤ 8) ∧ (0 ≤ w94 ∧ w94 ≤ 1)) → gK D vwCl (wdM a cI cJ) lgM A p l e { frames := 1, cells := 0, slots := 0, locals := 64 } s m args below meth c 6 (gQQ D vwCl (wdM a cI cJ) lgM A kI in32 below args s) ((f_X9_wordFrom x0 x1 s0), s0) s0 88 [(0, .ref (a 0)), (1, gI x0), (2, gI x1), (3, gI v64), (4, gI w94)] []) → gK D vwCl (wdM a cI cJ) lgM A p l e { frames := 1, cells := 0, slots := 0, locals := 64 } s m args below meth c 6 (gQQ D vwCl (wdM a cI cJ) lgM A kI in32 below args s) ((f_X9_wordFrom x0 x1 s0), s0) s0 26 [(0, .ref (a 0)), (1, gI x0), (2, gI x1), (3, gI v64), (4, gI v90), (5, gI v91)] [] := by
            intro n93; induction n93 with
            | zero =>
              intro v90 v91 hq hm hk
              exfalso
              obtain ⟨hq111, hq112, hq113, hq114⟩ := hq
              omega
            | succ n93 ih =>
              intro v90 v91 hq hm hk
              obtain ⟨hq115, hq116, hq117, hq118⟩ := hq
              have hT := w_X9_wordFrom_26_s x0 x1 v64 s0 n93 v90 v91
              refine k_iload (pc := 26) E 5 dX9_wordFrom_26 rfl ?_
              refine k_bipush (pc := 28) E dX9_wordFrom_28 (by decide) ?_
              by_cases h96 : v91 < 8
              · replace hT := hT.trans (if_pos h96)
                refine k_icmp_ge_f (pc := 30) (tgt := 88) E (by omega) (by omega) dX9_wordFrom_30 (by decide) h96 ?_
                refine k_iload (pc := 33) E 4 dX9_wordFrom_33 rfl ?_
                by_cases h97 : v90 = 0
                · replace hT := hT.trans (if_pos h97)
                  refine k_if_eq_t (pc := 35) (tgt := 88) E (by omega) dX9_wordFrom_35 (by decide) h97 ?_
                  refine k_lv (lv' := [(0, .ref (a 0)), (1, gI x0), (2, gI x1), (3, gI v64), (4, gI v90)]) [0, 1, 2, 3, 4] rfl ?_
                  exact hk v90 v91 hT ⟨(by omega), (by omega), (by first | assumption | omega), (by first | assumption | omega)⟩
                · replace hT := hT.trans (if_neg h97)
                  refine k_if_eq_f (pc := 35) (tgt := 88) E (by omega) dX9_wordFrom_35 (by decide) h97 ?_
                  refine k_aloadn (pc := 38) E 0 dX9_wordFrom_38 rfl rfl ?_
                  refine k_getf (pc := 39) (q0 := 0) (f := 20) (v := .ref (a 12)) E inX9 rfl rfl (by decide) wm_918 rfl rfl dX9_wordFrom_39 ?_
                  refine k_bipush (pc := 42) E dX9_wordFrom_42 (by decide) ?_
                  refine k_iloadn (pc := 44) E 3 dX9_wordFrom_44 rfl rfl ?_
                  refine k_imul (pc := 45) E dX9_wordFrom_45 ?_
                  refine k_iload (pc := 46) E 5 dX9_wordFrom_46 rfl ?_
                  refine k_iadd (pc := 48) E dX9_wordFrom_48 ?_
                  refine k_iaload (pc := 49) (q0 := 12) (t0 := 0) (k := 20) (n := 96) E rfl rfl rfl (by decide) (by omega) (by omega) dX9_wordFrom_49 (fun hr98 => ?_)
                  refine k_iloadn (pc := 50) E 1 dX9_wordFrom_50 rfl rfl ?_
                  refine k_iload (pc := 51) E 5 dX9_wordFrom_51 rfl ?_
                  refine k_iadd (pc := 53) E dX9_wordFrom_53 ?_
                  refine k_iloadn (pc := 54) E 2 dX9_wordFrom_54 rfl rfl ?_
                  obtain ⟨z109, hz109, hT⟩ := gl1x hT
                  have j100 : ∀ (v101 : Int), ((in32 v101)) → z109 = v101 → gK D vwCl (wdM a cI cJ) lgM A p l e { frames := 1, cells := 0, slots := 0, locals := 64 } s m args below meth c 6 (gQQ D vwCl (wdM a cI cJ) lgM A kI in32 below args s) ((f_X9_wordFrom x0 x1 s0), s0) s0 72 [(0, .ref (a 0)), (1, gI x0), (2, gI x1), (3, gI v64), (5, gI v91)] [gI v101, gI (s0 20 ((8 * v64) + v91))] := by
                    intro v101 hq hz
                    have hq108 := hq
                    replace hT := gl1y hT hz
                    obtain ⟨z107, hz107, hT⟩ := gl1x hT
                    have j103 : ∀ (v104 : Int), ((in32 v104) ∧ (0 ≤ v104 ∧ v104 ≤ 1)) → z107 = v104 → gK D vwCl (wdM a cI cJ) lgM A p l e { frames := 1, cells := 0, slots := 0, locals := 64 } s m args below meth c 6 (gQQ D vwCl (wdM a cI cJ) lgM A kI in32 below args s) ((f_X9_wordFrom x0 x1 s0), s0) s0 80 [(0, .ref (a 0)), (1, gI x0), (2, gI x1), (3, gI v64), (5, gI v91)] [gI v104] := by
                      intro v104 hq hz
                      obtain ⟨hq105, hq106⟩ := hq
                      replace hT := gl1y hT hz
                      refine k_istore (pc := 80) (lv' := [(4, gI v104), (0, .ref (a 0)), (1, gI x0), (2, gI x1), (3, gI v64), (5, gI v91)]) E dX9_wordFrom_80 (by decide) rfl ?_
                      refine k_iinc (pc := 82) (lv' := [(5, gI (v91 + 1)), (4, gI v104), (0, .ref (a 0)), (1, gI x0), (2, gI x1), (3, gI v64)]) E 5 dX9_wordFrom_82 rfl (by decide) rfl ?_
                      refine k_goto (pc := 85) (tgt := 26) E dX9_wordFrom_85 (by decide) ?_
                      refine k_lv (lv' := [(0, .ref (a 0)), (1, gI x0), (2, gI x1), (3, gI v64), (4, gI v104), (5, gI (v91 + 1))]) [2, 3, 4, 5, 1, 0] rfl ?_
                      exact ih v104 (v91 + 1) ⟨(by omega), (by omega), (by first | assumption | omega), (by first | assumption | omega)⟩ (by omega) (fun w94 w95 hw hi => hk w94 w95 (hT.trans hw) hi)
                    replace hT := hz107
                    by_cases h102 : (s0 20 ((8 * v64) + v91)) = v101
                    · replace hT := hT.trans (if_pos h102)
                      refine k_icmp_ne_f (pc := 72) (tgt := 79) E (by omega) (by omega) dX9_wordFrom_72 (by decide) h102 ?_
                      refine k_iconst (pc := 75) E dX9_wordFrom_75 ?_
                      refine k_goto (pc := 76) (tgt := 80) E dX9_wordFrom_76 (by decide) ?_
                      exact j103 1 ⟨(by omega), (by first | assumption | omega)⟩ hT
                    · replace hT := hT.trans (if_neg h102)
                      refine k_icmp_ne_t (pc := 72) (tgt := 79) E (by omega) (by omega) dX9_wordFrom_72 (by decide) h102 ?_
                      refine k_iconst (pc := 79) E dX9_wordFrom_79 ?_
                      exact j103 0 ⟨(by omega), (by first | assumption | omega)⟩ hT
                  replace hT := hz109
                  by_cases h99 : (x0 + v91) < x1
                  · replace hT := hT.trans (if_pos h99)
                    refine k_icmp_ge_f (pc := 55) (tgt := 70) E (by omega) (by omega) dX9_wordFrom_55 (by decide) h99 ?_
                    refine k_aloadn (pc := 58) E 0 dX9_wordFrom_58 rfl rfl ?_
                    refine k_getf (pc := 59) (q0 := 0) (f := 3) (v := .ref (a 4)) E inX9 rfl rfl (by decide) wm_901 rfl rfl dX9_wordFrom_59 ?_
                    refine k_iloadn (pc := 62) E 1 dX9_wordFrom_62 rfl rfl ?_
                    refine k_iload (pc := 63) E 5 dX9_wordFrom_63 rfl ?_
                    refine k_iadd (pc := 65) E dX9_wordFrom_65 ?_
                    refine k_iaload (pc := 66) (q0 := 4) (t0 := 0) (k := 3) (n := 160) E rfl rfl rfl (by decide) (by omega) (by omega) dX9_wordFrom_66 (fun hr110 => ?_)
                    refine k_goto (pc := 67) (tgt := 72) E dX9_wordFrom_67 (by decide) ?_
                    refine k_lv (lv' := [(0, .ref (a 0)), (1, gI x0), (2, gI x1), (3, gI v64), (5, gI v91)]) [0, 1, 2, 3, 5] rfl ?_
                    exact j100 (s0 3 (x0 + v91)) (by omega) hT
                  · replace hT := hT.trans (if_neg h99)
                    refine k_icmp_ge_t (pc := 55) (tgt := 70) E (by omega) (by omega) dX9_wordFrom_55 (by decide) h99 ?_
                    refine k_bipush (pc := 70) E dX9_wordFrom_70 (by decide) ?_
                    refine k_lv (lv' := [(0, .ref (a 0)), (1, gI x0), (2, gI x1), (3, gI v64), (5, gI v91)]) [0, 1, 2, 3, 5] rfl ?_
                    exact j100 32 (by omega) hT
              · replace hT := hT.trans (if_neg h96)
                refine k_icmp_ge_t (pc := 30) (tgt := 88) E (by omega) (by omega) dX9_wordFrom_30 (by decide) h96 ?_
                refine k_lv (lv' := [(0, .ref (a 0)), (1, gI x0), (2, gI x1), (3, gI v64), (4, gI v90)]) [0, 1, 2, 3, 4] rfl ?_
                exact hk v90 v91 hT ⟨(by omega), (by omega), (by first | assumption | omega), (by first | assumption | omega)⟩
          refine k_lv (lv' := [(0, .ref (a 0)), (1, gI x0), (2, gI x1), (3, gI v64), (4, gI v71), (5, gI 0)]) [2, 3, 4, 5, 1, 0] rfl ?_
          refine L92 9 v71 0 ⟨(by omega), (by omega), (by first | assumption | omega), (by first | assumption | omega)⟩ (by omega) (fun v119 v120 hw hq => ?_)
          obtain ⟨hq121, hq122, hq123, hq124⟩ := hq
          replace hT := gl2y hT hw
          refine k_iload (pc := 88) E 4 dX9_wordFrom_88 rfl ?_
          by_cases h125 : v119 = 0
          · replace hT := hT.trans (if_pos h125)
            refine k_if_eq_t (pc := 90) (tgt := 95) E (by omega) dX9_wordFrom_90 (by decide) h125 ?_
            refine k_iinc (pc := 95) (lv' := [(3, gI (v64 + 1)), (0, .ref (a 0)), (1, gI x0), (2, gI x1), (4, gI v119)]) E 3 dX9_wordFrom_95 rfl (by decide) rfl ?_
            refine k_goto (pc := 98) (tgt := 2) E dX9_wordFrom_98 (by decide) ?_
            refine k_lv (lv' := [(0, .ref (a 0)), (1, gI x0), (2, gI x1), (3, gI (v64 + 1))]) [1, 2, 3, 0] rfl ?_
            exact ih (v64 + 1) ⟨(by omega), (by first | assumption | omega)⟩ (by omega) hT
          · replace hT := hT.trans (if_neg h125)
            refine k_if_eq_f (pc := 90) (tgt := 95) E (by omega) dX9_wordFrom_90 (by decide) h125 ?_
            refine k_iloadn (pc := 93) E 3 dX9_wordFrom_93 rfl rfl ?_
            exact k_rho (congrArg (fun q => (q, s0)) hT) (k_iret (pc := 94) E dX9_wordFrom_94 (by omega))
        replace hT := hz128
        by_cases h69 : 8 < (x1 - x0)
        · replace hT := hT.trans (if_pos h69)
          refine k_icmp_gt_t (pc := 13) (tgt := 20) E (by omega) (by omega) dX9_wordFrom_13 (by decide) h69 ?_
          refine k_iconst (pc := 20) E dX9_wordFrom_20 ?_
          exact j70 0 ⟨(by omega), (by first | assumption | omega)⟩ hT
        · replace hT := hT.trans (if_neg h69)
          refine k_icmp_gt_f (pc := 13) (tgt := 20) E (by omega) (by omega) dX9_wordFrom_13 (by decide) h69 ?_
          refine k_iconst (pc := 16) E dX9_wordFrom_16 ?_
          refine k_goto (pc := 17) (tgt := 21) E dX9_wordFrom_17 (by decide) ?_
          exact j70 1 ⟨(by omega), (by first | assumption | omega)⟩ hT
      · replace hT := hT.trans (if_neg h68)
        refine k_icmp_ge_t (pc := 5) (tgt := 101) E (by omega) (by omega) dX9_wordFrom_5 (by decide) h68 ?_
        refine k_bipush (pc := 101) E dX9_wordFrom_101 (by decide) ?_
        exact k_rho (congrArg (fun q => (q, s0)) hT) (k_iret (pc := 103) E dX9_wordFrom_103 (by omega))
  refine k_lv (lv' := [(0, .ref (a 0)), (1, gI x0), (2, gI x1), (3, gI 0)]) [1, 2, 3, 0] rfl ?_
  exact L65 13 0 ⟨(by omega), (by first | assumption | omega)⟩ (by omega) hT

def f_X9_rank (x0 : Int) : Int := (if x0 = 0 then 0 else (if x0 = 11 then 1 else (if x0 = 12 then 2 else (if x0 = 13 then 3 else (if 15 < x0 then (if 17 < x0 then (if x0 = 18 then 6 else 7) else 5) else 4)))))
theorem f_X9_rank_e (x0 : Int) : f_X9_rank x0 = (if x0 = 0 then 0 else (if x0 = 11 then 1 else (if x0 = 12 then 2 else (if x0 = 13 then 3 else (if 15 < x0 then (if 17 < x0 then (if x0 = 18 then 6 else 7) else 5) else 4))))) := rfl
set_option maxRecDepth 100000 in
set_option maxHeartbeats 4000000 in
theorem f_X9_rank_p (x0 : Int) (hx0 : in32 x0)  : (in32 (f_X9_rank x0)) ∧ (0 ≤ (f_X9_rank x0) ∧ (f_X9_rank x0) ≤ 7) ∧ (x0 = 0 → (f_X9_rank x0) = 0) ∧ (x0 ≠ 0 → 1 ≤ (f_X9_rank x0)) := by
  have hT := f_X9_rank_e x0
  by_cases h1 : x0 = 0
  · replace hT := hT.trans (if_pos h1)
    rw [hT]
    exact ⟨(by omega), (by first | assumption | omega), (by first | assumption | omega), (by first | assumption | omega)⟩
  · replace hT := hT.trans (if_neg h1)
    by_cases h2 : x0 = 11
    · replace hT := hT.trans (if_pos h2)
      rw [hT]
      exact ⟨(by omega), (by first | assumption | omega), (by first | assumption | omega), (by first | assumption | omega)⟩
    · replace hT := hT.trans (if_neg h2)
      by_cases h3 : x0 = 12
      · replace hT := hT.trans (if_pos h3)
        rw [hT]
        exact ⟨(by omega), (by first | assumption | omega), (by first | assumption | omega), (by first | assumption | omega)⟩
      · replace hT := hT.trans (if_neg h3)
        by_cases h4 : x0 = 13
        · replace hT := hT.trans (if_pos h4)
          rw [hT]
          exact ⟨(by omega), (by first | assumption | omega), (by first | assumption | omega), (by first | assumption | omega)⟩
        · replace hT := hT.trans (if_neg h4)
          by_cases h5 : 15 < x0
          · replace hT := hT.trans (if_pos h5)
            by_cases h6 : 17 < x0
            · replace hT := hT.trans (if_pos h6)
              by_cases h7 : x0 = 18
              · replace hT := hT.trans (if_pos h7)
                rw [hT]
                exact ⟨(by omega), (by first | assumption | omega), (by first | assumption | omega), (by first | assumption | omega)⟩
              · replace hT := hT.trans (if_neg h7)
                rw [hT]
                exact ⟨(by omega), (by first | assumption | omega), (by first | assumption | omega), (by first | assumption | omega)⟩
            · replace hT := hT.trans (if_neg h6)
              rw [hT]
              exact ⟨(by omega), (by first | assumption | omega), (by first | assumption | omega), (by first | assumption | omega)⟩
          · replace hT := hT.trans (if_neg h5)
            rw [hT]
            exact ⟨(by omega), (by first | assumption | omega), (by first | assumption | omega), (by first | assumption | omega)⟩
set_option maxRecDepth 100000 in
set_option maxHeartbeats 4000000 in
theorem c_X9_rank (l : Launch) (D : va_G) (a : Nat → Nat) (cI cJ cS cT : ClassId) (s0 : gMem) (x0 : Int) (hx0 : in32 x0)  : gC l yX9_rank cX9_rank 1 (some .int) 1 64 D vwCl (gT cI cJ cS cT) (wdM a cI cJ) lgM kI in32 [gI x0] s0 ((f_X9_rank x0), s0) := by
  refine gC_of (by decide +kernel) (hwdM a cI cJ) (Nat.le_of_ble_eq_true rfl) ?_
  intro A p e R s m args below meth c hR E
  subst hR
  have hT := f_X9_rank_e x0
  refine k_lv0 (lv' := [(0, gI x0)]) rfl ?_
  refine k_iloadn (pc := 0) E 0 dX9_rank_0 rfl rfl ?_
  by_cases h1 : x0 = 0
  · replace hT := hT.trans (if_pos h1)
    refine k_if_ne_f (pc := 1) (tgt := 8) E (by omega) dX9_rank_1 (by decide) h1 ?_
    refine k_iconst (pc := 4) E dX9_rank_4 ?_
    refine k_goto (pc := 5) (tgt := 71) E dX9_rank_5 (by decide) ?_
    exact k_rho (congrArg (fun q => (q, s0)) hT) (k_iret (pc := 71) E dX9_rank_71 (by omega))
  · replace hT := hT.trans (if_neg h1)
    refine k_if_ne_t (pc := 1) (tgt := 8) E (by omega) dX9_rank_1 (by decide) h1 ?_
    refine k_iloadn (pc := 8) E 0 dX9_rank_8 rfl rfl ?_
    refine k_bipush (pc := 9) E dX9_rank_9 (by decide) ?_
    by_cases h2 : x0 = 11
    · replace hT := hT.trans (if_pos h2)
      refine k_icmp_ne_f (pc := 11) (tgt := 18) E (by omega) (by omega) dX9_rank_11 (by decide) h2 ?_
      refine k_iconst (pc := 14) E dX9_rank_14 ?_
      refine k_goto (pc := 15) (tgt := 71) E dX9_rank_15 (by decide) ?_
      exact k_rho (congrArg (fun q => (q, s0)) hT) (k_iret (pc := 71) E dX9_rank_71 (by omega))
    · replace hT := hT.trans (if_neg h2)
      refine k_icmp_ne_t (pc := 11) (tgt := 18) E (by omega) (by omega) dX9_rank_11 (by decide) h2 ?_
      refine k_iloadn (pc := 18) E 0 dX9_rank_18 rfl rfl ?_
      refine k_bipush (pc := 19) E dX9_rank_19 (by decide) ?_
      by_cases h3 : x0 = 12
      · replace hT := hT.trans (if_pos h3)
        refine k_icmp_ne_f (pc := 21) (tgt := 28) E (by omega) (by omega) dX9_rank_21 (by decide) h3 ?_
        refine k_iconst (pc := 24) E dX9_rank_24 ?_
        refine k_goto (pc := 25) (tgt := 71) E dX9_rank_25 (by decide) ?_
        exact k_rho (congrArg (fun q => (q, s0)) hT) (k_iret (pc := 71) E dX9_rank_71 (by omega))
      · replace hT := hT.trans (if_neg h3)
        refine k_icmp_ne_t (pc := 21) (tgt := 28) E (by omega) (by omega) dX9_rank_21 (by decide) h3 ?_
        refine k_iloadn (pc := 28) E 0 dX9_rank_28 rfl rfl ?_
        refine k_bipush (pc := 29) E dX9_rank_29 (by decide) ?_
        by_cases h4 : x0 = 13
        · replace hT := hT.trans (if_pos h4)
          refine k_icmp_ne_f (pc := 31) (tgt := 38) E (by omega) (by omega) dX9_rank_31 (by decide) h4 ?_
          refine k_iconst (pc := 34) E dX9_rank_34 ?_
          refine k_goto (pc := 35) (tgt := 71) E dX9_rank_35 (by decide) ?_
          exact k_rho (congrArg (fun q => (q, s0)) hT) (k_iret (pc := 71) E dX9_rank_71 (by omega))
        · replace hT := hT.trans (if_neg h4)
          refine k_icmp_ne_t (pc := 31) (tgt := 38) E (by omega) (by omega) dX9_rank_31 (by decide) h4 ?_
          refine k_iloadn (pc := 38) E 0 dX9_rank_38 rfl rfl ?_
          refine k_bipush (pc := 39) E dX9_rank_39 (by decide) ?_
          by_cases h5 : 15 < x0
          · replace hT := hT.trans (if_pos h5)
            refine k_icmp_gt_t (pc := 41) (tgt := 48) E (by omega) (by omega) dX9_rank_41 (by decide) h5 ?_
            refine k_iloadn (pc := 48) E 0 dX9_rank_48 rfl rfl ?_
            refine k_bipush (pc := 49) E dX9_rank_49 (by decide) ?_
            by_cases h6 : 17 < x0
            · replace hT := hT.trans (if_pos h6)
              refine k_icmp_gt_t (pc := 51) (tgt := 58) E (by omega) (by omega) dX9_rank_51 (by decide) h6 ?_
              refine k_iloadn (pc := 58) E 0 dX9_rank_58 rfl rfl ?_
              refine k_bipush (pc := 59) E dX9_rank_59 (by decide) ?_
              by_cases h7 : x0 = 18
              · replace hT := hT.trans (if_pos h7)
                refine k_icmp_ne_f (pc := 61) (tgt := 69) E (by omega) (by omega) dX9_rank_61 (by decide) h7 ?_
                refine k_bipush (pc := 64) E dX9_rank_64 (by decide) ?_
                refine k_goto (pc := 66) (tgt := 71) E dX9_rank_66 (by decide) ?_
                exact k_rho (congrArg (fun q => (q, s0)) hT) (k_iret (pc := 71) E dX9_rank_71 (by omega))
              · replace hT := hT.trans (if_neg h7)
                refine k_icmp_ne_t (pc := 61) (tgt := 69) E (by omega) (by omega) dX9_rank_61 (by decide) h7 ?_
                refine k_bipush (pc := 69) E dX9_rank_69 (by decide) ?_
                exact k_rho (congrArg (fun q => (q, s0)) hT) (k_iret (pc := 71) E dX9_rank_71 (by omega))
            · replace hT := hT.trans (if_neg h6)
              refine k_icmp_gt_f (pc := 51) (tgt := 58) E (by omega) (by omega) dX9_rank_51 (by decide) h6 ?_
              refine k_iconst (pc := 54) E dX9_rank_54 ?_
              refine k_goto (pc := 55) (tgt := 71) E dX9_rank_55 (by decide) ?_
              exact k_rho (congrArg (fun q => (q, s0)) hT) (k_iret (pc := 71) E dX9_rank_71 (by omega))
          · replace hT := hT.trans (if_neg h5)
            refine k_icmp_gt_f (pc := 41) (tgt := 48) E (by omega) (by omega) dX9_rank_41 (by decide) h5 ?_
            refine k_iconst (pc := 44) E dX9_rank_44 ?_
            refine k_goto (pc := 45) (tgt := 71) E dX9_rank_45 (by decide) ?_
            exact k_rho (congrArg (fun q => (q, s0)) hT) (k_iret (pc := 71) E dX9_rank_71 (by omega))

def f_X9_signOf  (s0 : gMem) : Int := (if (s0 18 0) = 4 then 11 else (if (s0 18 0) = 5 then 12 else (if (s0 18 0) = 60 then 14 else (if (s0 18 0) = 61 then 15 else (if (s0 18 0) = 43 then 16 else (if (s0 18 0) = 45 then 17 else (if (s0 18 0) = 42 then 18 else (-1))))))))
theorem f_X9_signOf_e  (s0 : gMem) : f_X9_signOf s0 = (if (s0 18 0) = 4 then 11 else (if (s0 18 0) = 5 then 12 else (if (s0 18 0) = 60 then 14 else (if (s0 18 0) = 61 then 15 else (if (s0 18 0) = 43 then 16 else (if (s0 18 0) = 45 then 17 else (if (s0 18 0) = 42 then 18 else (-1)))))))) := rfl
set_option maxRecDepth 100000 in
set_option maxHeartbeats 4000000 in
theorem f_X9_signOf_p  (s0 : gMem)  (hm_s0 : gMR lgM s0)  : (in32 (f_X9_signOf s0)) ∧ ((f_X9_signOf s0) = -1 ∨ (f_X9_signOf s0) = 11 ∨ (f_X9_signOf s0) = 12 ∨ (14 ≤ (f_X9_signOf s0) ∧ (f_X9_signOf s0) ≤ 18)) ∧ ((f_X9_signOf s0) = -1 ∨ s0 18 0 ≠ 0) := by
  have hT := f_X9_signOf_e  s0
  have hr1 := (hm_s0 18 0).1 rfl
  by_cases h2 : (s0 18 0) = 4
  · replace hT := hT.trans (if_pos h2)
    rw [hT]
    exact ⟨(by omega), (by first | assumption | omega), (by first | assumption | omega)⟩
  · replace hT := hT.trans (if_neg h2)
    have hr3 := (hm_s0 18 0).1 rfl
    by_cases h4 : (s0 18 0) = 5
    · replace hT := hT.trans (if_pos h4)
      rw [hT]
      exact ⟨(by omega), (by first | assumption | omega), (by first | assumption | omega)⟩
    · replace hT := hT.trans (if_neg h4)
      have hr5 := (hm_s0 18 0).1 rfl
      by_cases h6 : (s0 18 0) = 60
      · replace hT := hT.trans (if_pos h6)
        rw [hT]
        exact ⟨(by omega), (by first | assumption | omega), (by first | assumption | omega)⟩
      · replace hT := hT.trans (if_neg h6)
        have hr7 := (hm_s0 18 0).1 rfl
        by_cases h8 : (s0 18 0) = 61
        · replace hT := hT.trans (if_pos h8)
          rw [hT]
          exact ⟨(by omega), (by first | assumption | omega), (by first | assumption | omega)⟩
        · replace hT := hT.trans (if_neg h8)
          have hr9 := (hm_s0 18 0).1 rfl
          by_cases h10 : (s0 18 0) = 43
          · replace hT := hT.trans (if_pos h10)
            rw [hT]
            exact ⟨(by omega), (by first | assumption | omega), (by first | assumption | omega)⟩
          · replace hT := hT.trans (if_neg h10)
            have hr11 := (hm_s0 18 0).1 rfl
            by_cases h12 : (s0 18 0) = 45
            · replace hT := hT.trans (if_pos h12)
              rw [hT]
              exact ⟨(by omega), (by first | assumption | omega), (by first | assumption | omega)⟩
            · replace hT := hT.trans (if_neg h12)
              have hr13 := (hm_s0 18 0).1 rfl
              by_cases h14 : (s0 18 0) = 42
              · replace hT := hT.trans (if_pos h14)
                rw [hT]
                exact ⟨(by omega), (by first | assumption | omega), (by first | assumption | omega)⟩
              · replace hT := hT.trans (if_neg h14)
                rw [hT]
                exact ⟨(by omega), (by first | assumption | omega), (by first | assumption | omega)⟩
set_option maxRecDepth 100000 in
set_option maxHeartbeats 4000000 in
theorem c_X9_signOf (l : Launch) (D : va_G) (a : Nat → Nat) (cI cJ cS cT : ClassId) (s0 : gMem)    : gC l yX9_signOf cX9_signOf 1 (some .int) 1 64 D vwCl (gT cI cJ cS cT) (wdM a cI cJ) lgM kI in32 [.ref (a 0)] s0 ((f_X9_signOf s0), s0) := by
  refine gC_of (by decide +kernel) (hwdM a cI cJ) (Nat.le_of_ble_eq_true rfl) ?_
  intro A p e R s m args below meth c hR E
  subst hR
  have hT := f_X9_signOf_e  s0
  refine k_lv0 (lv' := [(0, .ref (a 0))]) rfl ?_
  refine k_mr (fun hm_s0 => ?_)
  refine k_aloadn (pc := 0) E 0 dX9_signOf_0 rfl rfl ?_
  refine k_getfI (pc := 1) (q0 := 0) (f := 18) (k := 18) E inX9 rfl rfl (by decide) wm_916 rfl rfl rfl dX9_signOf_1 (fun hr1 => ?_)
  refine k_iconst (pc := 4) E dX9_signOf_4 ?_
  by_cases h2 : (s0 18 0) = 4
  · replace hT := hT.trans (if_pos h2)
    refine k_icmp_ne_f (pc := 5) (tgt := 13) E (by omega) (by omega) dX9_signOf_5 (by decide) h2 ?_
    refine k_bipush (pc := 8) E dX9_signOf_8 (by decide) ?_
    refine k_goto (pc := 10) (tgt := 97) E dX9_signOf_10 (by decide) ?_
    exact k_rho (congrArg (fun q => (q, s0)) hT) (k_iret (pc := 97) E dX9_signOf_97 (by omega))
  · replace hT := hT.trans (if_neg h2)
    refine k_icmp_ne_t (pc := 5) (tgt := 13) E (by omega) (by omega) dX9_signOf_5 (by decide) h2 ?_
    refine k_aloadn (pc := 13) E 0 dX9_signOf_13 rfl rfl ?_
    refine k_getfI (pc := 14) (q0 := 0) (f := 18) (k := 18) E inX9 rfl rfl (by decide) wm_916 rfl rfl rfl dX9_signOf_14 (fun hr3 => ?_)
    refine k_iconst (pc := 17) E dX9_signOf_17 ?_
    by_cases h4 : (s0 18 0) = 5
    · replace hT := hT.trans (if_pos h4)
      refine k_icmp_ne_f (pc := 18) (tgt := 26) E (by omega) (by omega) dX9_signOf_18 (by decide) h4 ?_
      refine k_bipush (pc := 21) E dX9_signOf_21 (by decide) ?_
      refine k_goto (pc := 23) (tgt := 97) E dX9_signOf_23 (by decide) ?_
      exact k_rho (congrArg (fun q => (q, s0)) hT) (k_iret (pc := 97) E dX9_signOf_97 (by omega))
    · replace hT := hT.trans (if_neg h4)
      refine k_icmp_ne_t (pc := 18) (tgt := 26) E (by omega) (by omega) dX9_signOf_18 (by decide) h4 ?_
      refine k_aloadn (pc := 26) E 0 dX9_signOf_26 rfl rfl ?_
      refine k_getfI (pc := 27) (q0 := 0) (f := 18) (k := 18) E inX9 rfl rfl (by decide) wm_916 rfl rfl rfl dX9_signOf_27 (fun hr5 => ?_)
      refine k_bipush (pc := 30) E dX9_signOf_30 (by decide) ?_
      by_cases h6 : (s0 18 0) = 60
      · replace hT := hT.trans (if_pos h6)
        refine k_icmp_ne_f (pc := 32) (tgt := 40) E (by omega) (by omega) dX9_signOf_32 (by decide) h6 ?_
        refine k_bipush (pc := 35) E dX9_signOf_35 (by decide) ?_
        refine k_goto (pc := 37) (tgt := 97) E dX9_signOf_37 (by decide) ?_
        exact k_rho (congrArg (fun q => (q, s0)) hT) (k_iret (pc := 97) E dX9_signOf_97 (by omega))
      · replace hT := hT.trans (if_neg h6)
        refine k_icmp_ne_t (pc := 32) (tgt := 40) E (by omega) (by omega) dX9_signOf_32 (by decide) h6 ?_
        refine k_aloadn (pc := 40) E 0 dX9_signOf_40 rfl rfl ?_
        refine k_getfI (pc := 41) (q0 := 0) (f := 18) (k := 18) E inX9 rfl rfl (by decide) wm_916 rfl rfl rfl dX9_signOf_41 (fun hr7 => ?_)
        refine k_bipush (pc := 44) E dX9_signOf_44 (by decide) ?_
        by_cases h8 : (s0 18 0) = 61
        · replace hT := hT.trans (if_pos h8)
          refine k_icmp_ne_f (pc := 46) (tgt := 54) E (by omega) (by omega) dX9_signOf_46 (by decide) h8 ?_
          refine k_bipush (pc := 49) E dX9_signOf_49 (by decide) ?_
          refine k_goto (pc := 51) (tgt := 97) E dX9_signOf_51 (by decide) ?_
          exact k_rho (congrArg (fun q => (q, s0)) hT) (k_iret (pc := 97) E dX9_signOf_97 (by omega))
        · replace hT := hT.trans (if_neg h8)
          refine k_icmp_ne_t (pc := 46) (tgt := 54) E (by omega) (by omega) dX9_signOf_46 (by decide) h8 ?_
          refine k_aloadn (pc := 54) E 0 dX9_signOf_54 rfl rfl ?_
          refine k_getfI (pc := 55) (q0 := 0) (f := 18) (k := 18) E inX9 rfl rfl (by decide) wm_916 rfl rfl rfl dX9_signOf_55 (fun hr9 => ?_)
          refine k_bipush (pc := 58) E dX9_signOf_58 (by decide) ?_
          by_cases h10 : (s0 18 0) = 43
          · replace hT := hT.trans (if_pos h10)
            refine k_icmp_ne_f (pc := 60) (tgt := 68) E (by omega) (by omega) dX9_signOf_60 (by decide) h10 ?_
            refine k_bipush (pc := 63) E dX9_signOf_63 (by decide) ?_
            refine k_goto (pc := 65) (tgt := 97) E dX9_signOf_65 (by decide) ?_
            exact k_rho (congrArg (fun q => (q, s0)) hT) (k_iret (pc := 97) E dX9_signOf_97 (by omega))
          · replace hT := hT.trans (if_neg h10)
            refine k_icmp_ne_t (pc := 60) (tgt := 68) E (by omega) (by omega) dX9_signOf_60 (by decide) h10 ?_
            refine k_aloadn (pc := 68) E 0 dX9_signOf_68 rfl rfl ?_
            refine k_getfI (pc := 69) (q0 := 0) (f := 18) (k := 18) E inX9 rfl rfl (by decide) wm_916 rfl rfl rfl dX9_signOf_69 (fun hr11 => ?_)
            refine k_bipush (pc := 72) E dX9_signOf_72 (by decide) ?_
            by_cases h12 : (s0 18 0) = 45
            · replace hT := hT.trans (if_pos h12)
              refine k_icmp_ne_f (pc := 74) (tgt := 82) E (by omega) (by omega) dX9_signOf_74 (by decide) h12 ?_
              refine k_bipush (pc := 77) E dX9_signOf_77 (by decide) ?_
              refine k_goto (pc := 79) (tgt := 97) E dX9_signOf_79 (by decide) ?_
              exact k_rho (congrArg (fun q => (q, s0)) hT) (k_iret (pc := 97) E dX9_signOf_97 (by omega))
            · replace hT := hT.trans (if_neg h12)
              refine k_icmp_ne_t (pc := 74) (tgt := 82) E (by omega) (by omega) dX9_signOf_74 (by decide) h12 ?_
              refine k_aloadn (pc := 82) E 0 dX9_signOf_82 rfl rfl ?_
              refine k_getfI (pc := 83) (q0 := 0) (f := 18) (k := 18) E inX9 rfl rfl (by decide) wm_916 rfl rfl rfl dX9_signOf_83 (fun hr13 => ?_)
              refine k_bipush (pc := 86) E dX9_signOf_86 (by decide) ?_
              by_cases h14 : (s0 18 0) = 42
              · replace hT := hT.trans (if_pos h14)
                refine k_icmp_ne_f (pc := 88) (tgt := 96) E (by omega) (by omega) dX9_signOf_88 (by decide) h14 ?_
                refine k_bipush (pc := 91) E dX9_signOf_91 (by decide) ?_
                refine k_goto (pc := 93) (tgt := 97) E dX9_signOf_93 (by decide) ?_
                exact k_rho (congrArg (fun q => (q, s0)) hT) (k_iret (pc := 97) E dX9_signOf_97 (by omega))
              · replace hT := hT.trans (if_neg h14)
                refine k_icmp_ne_t (pc := 88) (tgt := 96) E (by omega) (by omega) dX9_signOf_88 (by decide) h14 ?_
                refine k_iconst (pc := 96) E dX9_signOf_96 ?_
                exact k_rho (congrArg (fun q => (q, s0)) hT) (k_iret (pc := 97) E dX9_signOf_97 (by omega))

def w_X9_next_0  : Nat → gMem → gMem
  | 0, s1 => s1
  | n2 + 1, s1 => (if (s1 16 0) < (s1 4 0) then (gj (fun j9c => (if (s1 3 (s1 16 0)) = 32 then j9c else (if (s1 3 (s1 16 0)) = 10 then j9c else s1))) (gl (mset s1 16 0 ((s1 16 0) + 1)) (fun s11 => (w_X9_next_0 n2 s11)))) else s1)
theorem w_X9_next_0_s  (n2 : Nat)  (s1 : gMem) : w_X9_next_0  (n2 + 1) s1 = (if (s1 16 0) < (s1 4 0) then (gj (fun j9c => (if (s1 3 (s1 16 0)) = 32 then j9c else (if (s1 3 (s1 16 0)) = 10 then j9c else s1))) (gl (mset s1 16 0 ((s1 16 0) + 1)) (fun s11 => (w_X9_next_0 n2 s11)))) else s1) := rfl
def w_X9_next_230  : Nat → Int → gMem → Int × gMem
  | 0, v132, s133 => (v132, s133)
  | n134 + 1, v132, s133 => (if (s133 16 0) < (s133 4 0) then (if (f_X9_in (s133 3 (s133 16 0)) 48 57) = 0 then (v132, s133) else (gl ((if v132 < 4 then (((10 * (s133 19 0)) + (s133 3 (s133 16 0))) - 48) else 0)) (fun v145 => gl (mset s133 19 0 v145) (fun s146 => gl (mset s146 16 0 ((s146 16 0) + 1)) (fun s153 => (w_X9_next_230 n134 (v132 + 1) s153)))))) else (v132, s133))
theorem w_X9_next_230_s  (n134 : Nat) (v132 : Int) (s133 : gMem) : w_X9_next_230  (n134 + 1) v132 s133 = (if (s133 16 0) < (s133 4 0) then (if (f_X9_in (s133 3 (s133 16 0)) 48 57) = 0 then (v132, s133) else (gl ((if v132 < 4 then (((10 * (s133 19 0)) + (s133 3 (s133 16 0))) - 48) else 0)) (fun v145 => gl (mset s133 19 0 v145) (fun s146 => gl (mset s146 16 0 ((s146 16 0) + 1)) (fun s153 => (w_X9_next_230 n134 (v132 + 1) s153)))))) else (v132, s133)) := rfl
def w_X9_next_103  : Nat → gMem → gMem
  | 0, s247 => s247
  | n248 + 1, s247 => (if (s247 16 0) < (s247 4 0) then (if (f_X9_in (s247 3 (s247 16 0)) 97 122) = 0 then s247 else gl (mset s247 16 0 ((s247 16 0) + 1)) (fun s258 => (w_X9_next_103 n248 s258))) else s247)
theorem w_X9_next_103_s  (n248 : Nat)  (s247 : gMem) : w_X9_next_103  (n248 + 1) s247 = (if (s247 16 0) < (s247 4 0) then (if (f_X9_in (s247 3 (s247 16 0)) 97 122) = 0 then s247 else gl (mset s247 16 0 ((s247 16 0) + 1)) (fun s258 => (w_X9_next_103 n248 s258))) else s247) := rfl
def f_X9_next  (s0 : gMem) : gRes := (gl (w_X9_next_0 161 s0) (fun  s51 => gl (mset s51 17 0 (s51 16 0)) (fun s58 => gl (mset s58 18 0 0) (fun s64 => gl (mset s64 19 0 0) (fun s70 => (if (s70 16 0) = (s70 4 0) then (0, s70) else (if (f_X9_in (s70 3 (s70 16 0)) 97 122) = 0 then (if (f_X9_in (s70 3 (s70 16 0)) 48 57) = 0 then (gj (fun j88c => (if (s70 3 (s70 16 0)) = 40 then j88c else (if (s70 3 (s70 16 0)) = 41 then j88c else (if (s70 3 (s70 16 0)) = 59 then j88c else (if (s70 3 (s70 16 0)) = 43 then j88c else (if (s70 3 (s70 16 0)) = 45 then j88c else (if (s70 3 (s70 16 0)) = 42 then j88c else (if (s70 3 (s70 16 0)) = 60 then j88c else (if (s70 3 (s70 16 0)) = 61 then j88c else (gl ((if (0 : Int) = 0 then (-1) else (s70 3 (s70 16 0)))) (fun v116 => gl (mset s70 18 0 v116) (fun s117 => gl (mset s117 16 0 ((s117 16 0) + 1)) (fun s124 => (0, s124)))))))))))))) ((gl ((if (1 : Int) = 0 then (-1) else (s70 3 (s70 16 0)))) (fun v91 => gl (mset s70 18 0 v91) (fun s92 => gl (mset s92 16 0 ((s92 16 0) + 1)) (fun s99 => (0, s99))))))) else (gl2 (w_X9_next_230 161 0 s70) (fun v223 s224 => (gl ((if 4 < v223 then (-1) else 1)) (fun v238 => gl (mset s224 18 0 v238) (fun s239 => (0, s239))))))) else (gl (w_X9_next_103 161 s70) (fun  s297 => gl (f_X9_wordFrom (s297 17 0) (s297 16 0) s297) (fun v310 => (gl ((if v310 < 3 then 3 else (if v310 < 9 then 2 else (if v310 = 12 then (-1) else ((4 + v310) - 9))))) (fun v313 => gl (mset s297 18 0 v313) (fun s314 => (gl ((if v310 < 3 then v310 else (v310 - 3))) (fun v322 => gl (mset s314 19 0 v322) (fun s323 => (0, s323)))))))))))))))))
theorem f_X9_next_e  (s0 : gMem) : f_X9_next s0 = (gl (w_X9_next_0 161 s0) (fun  s51 => gl (mset s51 17 0 (s51 16 0)) (fun s58 => gl (mset s58 18 0 0) (fun s64 => gl (mset s64 19 0 0) (fun s70 => (if (s70 16 0) = (s70 4 0) then (0, s70) else (if (f_X9_in (s70 3 (s70 16 0)) 97 122) = 0 then (if (f_X9_in (s70 3 (s70 16 0)) 48 57) = 0 then (gj (fun j88c => (if (s70 3 (s70 16 0)) = 40 then j88c else (if (s70 3 (s70 16 0)) = 41 then j88c else (if (s70 3 (s70 16 0)) = 59 then j88c else (if (s70 3 (s70 16 0)) = 43 then j88c else (if (s70 3 (s70 16 0)) = 45 then j88c else (if (s70 3 (s70 16 0)) = 42 then j88c else (if (s70 3 (s70 16 0)) = 60 then j88c else (if (s70 3 (s70 16 0)) = 61 then j88c else (gl ((if (0 : Int) = 0 then (-1) else (s70 3 (s70 16 0)))) (fun v116 => gl (mset s70 18 0 v116) (fun s117 => gl (mset s117 16 0 ((s117 16 0) + 1)) (fun s124 => (0, s124)))))))))))))) ((gl ((if (1 : Int) = 0 then (-1) else (s70 3 (s70 16 0)))) (fun v91 => gl (mset s70 18 0 v91) (fun s92 => gl (mset s92 16 0 ((s92 16 0) + 1)) (fun s99 => (0, s99))))))) else (gl2 (w_X9_next_230 161 0 s70) (fun v223 s224 => (gl ((if 4 < v223 then (-1) else 1)) (fun v238 => gl (mset s224 18 0 v238) (fun s239 => (0, s239))))))) else (gl (w_X9_next_103 161 s70) (fun  s297 => gl (f_X9_wordFrom (s297 17 0) (s297 16 0) s297) (fun v310 => (gl ((if v310 < 3 then 3 else (if v310 < 9 then 2 else (if v310 = 12 then (-1) else ((4 + v310) - 9))))) (fun v313 => gl (mset s297 18 0 v313) (fun s314 => (gl ((if v310 < 3 then v310 else (v310 - 3))) (fun v322 => gl (mset s314 19 0 v322) (fun s323 => (0, s323))))))))))))))))) := rfl
set_option maxRecDepth 100000 in
set_option maxHeartbeats 4000000 in
theorem f_X9_next_p  (s0 : gMem)  (hm_s0 : gMR lgM s0) (hpre0 : 0 ≤ s0 4 0 ∧ s0 4 0 ≤ 160) (hpre1 : 0 ≤ s0 16 0 ∧ s0 16 0 ≤ s0 4 0) (rZ : Int) (sZ : gMem) (hres : f_X9_next s0 = (rZ, sZ)) : (fr [16, 17, 18, 19] s0 sZ) ∧ (gMR lgM sZ) ∧ (True) ∧ (s0 16 0 ≤ sZ 17 0 ∧ sZ 17 0 ≤ sZ 16 0 ∧ sZ 16 0 ≤ s0 4 0) ∧ (sZ 18 0 = 0 ∨ sZ 17 0 < sZ 16 0) ∧ (0 ≤ sZ 19 0 ∧ sZ 19 0 ≤ 9999) ∧ (sZ 18 0 = 2 → sZ 19 0 ≤ 5) := by
  have hT := f_X9_next_e  s0
  have hf_s0 : fr [16, 17, 18, 19] s0 s0 := fr.rf _ _
  have L21 : ∀ (n22 : Nat)  (s20 : gMem), ((fr [16, 17, 18, 19] s0 s20) ∧ (gMR lgM s20) ∧ (s20 4 0 = s0 4 0) ∧ (s20 17 0 = s0 17 0) ∧ (s20 18 0 = s0 18 0) ∧ (s20 19 0 = s0 19 0) ∧ (s0 16 0 ≤ s20 16 0 ∧ s20 16 0 ≤ s0 4 0)) → s0 4 0 - s20 16 0 < (n22 : Int) → (∀  (s23 : gMem), (w_X9_next_0 n22 s20) = s23 → ((fr [16, 17, 18, 19] s0 s23) ∧ (gMR lgM s23) ∧ (s23 4 0 = s0 4 0) ∧ (s23 17 0 = s0 17 0) ∧ (s23 18 0 = s0 18 0) ∧ (s23 19 0 = s0 19 0) ∧ (s0 16 0 ≤ s23 16 0 ∧ s23 16 0 ≤ s0 4 0)) → (fr [16, 17, 18, 19] s0 sZ) ∧ (gMR lgM sZ) ∧ (True) ∧ (s0 16 0 ≤ sZ 17 0 ∧ sZ 17 0 ≤ sZ 16 0 ∧ sZ 16 0 ≤ s0 4 0) ∧ (sZ 18 0 = 0 ∨ sZ 17 0 < sZ 16 0) ∧ (0 ≤ sZ 19 0 ∧ sZ 19 0 ≤ 9999) ∧ (sZ 18 0 = 2 → sZ 19 0 ≤ 5)) → (fr [16, 17, 18, 19] s0 sZ) ∧ (gMR lgM sZ) ∧ (True) ∧ (s0 16 0 ≤ sZ 17 0 ∧ sZ 17 0 ≤ sZ 16 0 ∧ sZ 16 0 ≤ s0 4 0) ∧ (sZ 18 0 = 0 ∨ sZ 17 0 < sZ 16 0) ∧ (0 ≤ sZ 19 0 ∧ sZ 19 0 ≤ 9999) ∧ (sZ 18 0 = 2 → sZ 19 0 ≤ 5) := by
    intro n22; induction n22 with
    | zero =>
      intro  s20 hq hm hk
      exfalso
      obtain ⟨hf_s20, hm_s20, hq41, hq42, hq43, hq44, hq45⟩ := hq
      omega
    | succ n22 ih =>
      intro  s20 hq hm hk
      obtain ⟨hf_s20, hm_s20, hq46, hq47, hq48, hq49, hq50⟩ := hq
      have hT := w_X9_next_0_s  n22  s20
      have hr24 := (hm_s20 16 0).1 rfl
      have hr25 := (hm_s20 4 0).1 rfl
      by_cases h26 : (s20 16 0) < (s20 4 0)
      · replace hT := hT.trans (if_pos h26)
        have hr27 := (hm_s20 16 0).1 rfl
        have hr28 := (hm_s20 3 (s20 16 0)).1 rfl
        obtain ⟨j30c, hj30c, hT⟩ := gjx hT
        have j30 : (True) → (w_X9_next_0 (n22 + 1) s20) = j30c  → (fr [16, 17, 18, 19] s0 sZ) ∧ (gMR lgM sZ) ∧ (True) ∧ (s0 16 0 ≤ sZ 17 0 ∧ sZ 17 0 ≤ sZ 16 0 ∧ sZ 16 0 ≤ s0 4 0) ∧ (sZ 18 0 = 0 ∨ sZ 17 0 < sZ 16 0) ∧ (0 ≤ sZ 19 0 ∧ sZ 19 0 ≤ 9999) ∧ (sZ 18 0 = 2 → sZ 19 0 ≤ 5) := by
          intro  hq hT
          rw [hj30c] at hT
          have hr31 := (hm_s20 16 0).1 rfl
          obtain ⟨s32, hs32, hT⟩ := glx hT
          have hf_s32 : fr [16, 17, 18, 19] s0 s32 := hs32 ▸ hf_s20.set (by decide)
          have hm_s32 : gMR lgM s32 := hs32 ▸ hm_s20.set32 rfl (by omega)
          have ht33 : s32 4 0 = s20 4 0 := by rw [hs32]; exact mset_ne _ _ _ _ _ (by decide)
          have ht34 : s32 16 0 = ((s20 16 0) + 1) := by rw [hs32]; exact mset_eq _ _ _ _
          have ht35 : s32 17 0 = s20 17 0 := by rw [hs32]; exact mset_ne _ _ _ _ _ (by decide)
          have ht36 : s32 18 0 = s20 18 0 := by rw [hs32]; exact mset_ne _ _ _ _ _ (by decide)
          have ht37 : s32 19 0 = s20 19 0 := by rw [hs32]; exact mset_ne _ _ _ _ _ (by decide)
          exact ih  s32 ⟨hf_s32, hm_s32, (by first | assumption | omega), (by first | assumption | omega), (by first | assumption | omega), (by first | assumption | omega), (by first | assumption | omega)⟩ (by omega) (fun  s23 hw hi => hk  s23 (hT.trans hw) hi)
        by_cases h29 : (s20 3 (s20 16 0)) = 32
        · replace hT := hT.trans (if_pos h29)
          exact j30  trivial hT
        · replace hT := hT.trans (if_neg h29)
          have hr38 := (hm_s20 16 0).1 rfl
          have hr39 := (hm_s20 3 (s20 16 0)).1 rfl
          by_cases h40 : (s20 3 (s20 16 0)) = 10
          · replace hT := hT.trans (if_pos h40)
            exact j30  trivial hT
          · replace hT := hT.trans (if_neg h40)
            exact hk  s20 hT ⟨hf_s20, hm_s20, (by first | assumption | omega), (by first | assumption | omega), (by first | assumption | omega), (by first | assumption | omega), (by first | assumption | omega)⟩
      · replace hT := hT.trans (if_neg h26)
        exact hk  s20 hT ⟨hf_s20, hm_s20, (by first | assumption | omega), (by first | assumption | omega), (by first | assumption | omega), (by first | assumption | omega), (by first | assumption | omega)⟩
  refine L21 161  s0 ⟨hf_s0, hm_s0, (by first | assumption | omega), (by first | assumption | omega), (by first | assumption | omega), (by first | assumption | omega), (by first | assumption | omega)⟩ (by omega) (fun  s51 hw hq => ?_)
  obtain ⟨hf_s51, hm_s51, hq52, hq53, hq54, hq55, hq56⟩ := hq
  replace hT := gl1y hT hw
  have hr57 := (hm_s51 16 0).1 rfl
  obtain ⟨s58, hs58, hT⟩ := glx hT
  have hf_s58 : fr [16, 17, 18, 19] s0 s58 := hs58 ▸ hf_s51.set (by decide)
  have hm_s58 : gMR lgM s58 := hs58 ▸ hm_s51.set32 rfl (by omega)
  have ht59 : s58 4 0 = s51 4 0 := by rw [hs58]; exact mset_ne _ _ _ _ _ (by decide)
  have ht60 : s58 16 0 = s51 16 0 := by rw [hs58]; exact mset_ne _ _ _ _ _ (by decide)
  have ht61 : s58 17 0 = (s51 16 0) := by rw [hs58]; exact mset_eq _ _ _ _
  have ht62 : s58 18 0 = s51 18 0 := by rw [hs58]; exact mset_ne _ _ _ _ _ (by decide)
  have ht63 : s58 19 0 = s51 19 0 := by rw [hs58]; exact mset_ne _ _ _ _ _ (by decide)
  obtain ⟨s64, hs64, hT⟩ := glx hT
  have hf_s64 : fr [16, 17, 18, 19] s0 s64 := hs64 ▸ hf_s58.set (by decide)
  have hm_s64 : gMR lgM s64 := hs64 ▸ hm_s58.set32 rfl (by omega)
  have ht65 : s64 4 0 = s58 4 0 := by rw [hs64]; exact mset_ne _ _ _ _ _ (by decide)
  have ht66 : s64 16 0 = s58 16 0 := by rw [hs64]; exact mset_ne _ _ _ _ _ (by decide)
  have ht67 : s64 17 0 = s58 17 0 := by rw [hs64]; exact mset_ne _ _ _ _ _ (by decide)
  have ht68 : s64 18 0 = 0 := by rw [hs64]; exact mset_eq _ _ _ _
  have ht69 : s64 19 0 = s58 19 0 := by rw [hs64]; exact mset_ne _ _ _ _ _ (by decide)
  obtain ⟨s70, hs70, hT⟩ := glx hT
  have hf_s70 : fr [16, 17, 18, 19] s0 s70 := hs70 ▸ hf_s64.set (by decide)
  have hm_s70 : gMR lgM s70 := hs70 ▸ hm_s64.set32 rfl (by omega)
  have ht71 : s70 4 0 = s64 4 0 := by rw [hs70]; exact mset_ne _ _ _ _ _ (by decide)
  have ht72 : s70 16 0 = s64 16 0 := by rw [hs70]; exact mset_ne _ _ _ _ _ (by decide)
  have ht73 : s70 17 0 = s64 17 0 := by rw [hs70]; exact mset_ne _ _ _ _ _ (by decide)
  have ht74 : s70 18 0 = s64 18 0 := by rw [hs70]; exact mset_ne _ _ _ _ _ (by decide)
  have ht75 : s70 19 0 = 0 := by rw [hs70]; exact mset_eq _ _ _ _
  have hr76 := (hm_s70 16 0).1 rfl
  have hr77 := (hm_s70 4 0).1 rfl
  by_cases h78 : (s70 16 0) = (s70 4 0)
  · replace hT := hT.trans (if_pos h78)
    obtain ⟨rfl, rfl⟩ := Prod.mk.inj (hT.symm.trans hres)
    exact ⟨hf_s70, hm_s70, trivial, (by first | assumption | omega), (by first | assumption | omega), (by first | assumption | omega), (by first | assumption | omega)⟩
  · replace hT := hT.trans (if_neg h78)
    have hr79 := (hm_s70 16 0).1 rfl
    have hr80 := (hm_s70 3 (s70 16 0)).1 rfl
    have hp82 := f_X9_in_p (s70 3 (s70 16 0)) 97 122 (by omega) (by omega) (by omega) 
    by_cases h83 : (f_X9_in (s70 3 (s70 16 0)) 97 122) = 0
    · replace hT := hT.trans (if_pos h83)
      have hp85 := f_X9_in_p (s70 3 (s70 16 0)) 48 57 (by omega) (by omega) (by omega) 
      by_cases h86 : (f_X9_in (s70 3 (s70 16 0)) 48 57) = 0
      · replace hT := hT.trans (if_pos h86)
        obtain ⟨j88c, hj88c, hT⟩ := gjx hT
        have j88 : (True) → (f_X9_next s0) = j88c  → (fr [16, 17, 18, 19] s0 sZ) ∧ (gMR lgM sZ) ∧ (True) ∧ (s0 16 0 ≤ sZ 17 0 ∧ sZ 17 0 ≤ sZ 16 0 ∧ sZ 16 0 ≤ s0 4 0) ∧ (sZ 18 0 = 0 ∨ sZ 17 0 < sZ 16 0) ∧ (0 ≤ sZ 19 0 ∧ sZ 19 0 ≤ 9999) ∧ (sZ 18 0 = 2 → sZ 19 0 ≤ 5) := by
          intro  hq hT
          rw [hj88c] at hT
          obtain ⟨z106, hz106, hT⟩ := gl1x hT
          have j90 : ∀ (v91 : Int), ((in32 v91)) → z106 = v91 → (fr [16, 17, 18, 19] s0 sZ) ∧ (gMR lgM sZ) ∧ (True) ∧ (s0 16 0 ≤ sZ 17 0 ∧ sZ 17 0 ≤ sZ 16 0 ∧ sZ 16 0 ≤ s0 4 0) ∧ (sZ 18 0 = 0 ∨ sZ 17 0 < sZ 16 0) ∧ (0 ≤ sZ 19 0 ∧ sZ 19 0 ≤ 9999) ∧ (sZ 18 0 = 2 → sZ 19 0 ≤ 5) := by
            intro v91 hq hz
            have hq105 := hq
            replace hT := gl1y hT hz
            obtain ⟨s92, hs92, hT⟩ := glx hT
            have hf_s92 : fr [16, 17, 18, 19] s0 s92 := hs92 ▸ hf_s70.set (by decide)
            have hm_s92 : gMR lgM s92 := hs92 ▸ hm_s70.set32 rfl (by omega)
            have ht93 : s92 4 0 = s70 4 0 := by rw [hs92]; exact mset_ne _ _ _ _ _ (by decide)
            have ht94 : s92 16 0 = s70 16 0 := by rw [hs92]; exact mset_ne _ _ _ _ _ (by decide)
            have ht95 : s92 17 0 = s70 17 0 := by rw [hs92]; exact mset_ne _ _ _ _ _ (by decide)
            have ht96 : s92 18 0 = v91 := by rw [hs92]; exact mset_eq _ _ _ _
            have ht97 : s92 19 0 = s70 19 0 := by rw [hs92]; exact mset_ne _ _ _ _ _ (by decide)
            have hr98 := (hm_s92 16 0).1 rfl
            obtain ⟨s99, hs99, hT⟩ := glx hT
            have hf_s99 : fr [16, 17, 18, 19] s0 s99 := hs99 ▸ hf_s92.set (by decide)
            have hm_s99 : gMR lgM s99 := hs99 ▸ hm_s92.set32 rfl (by omega)
            have ht100 : s99 4 0 = s92 4 0 := by rw [hs99]; exact mset_ne _ _ _ _ _ (by decide)
            have ht101 : s99 16 0 = ((s92 16 0) + 1) := by rw [hs99]; exact mset_eq _ _ _ _
            have ht102 : s99 17 0 = s92 17 0 := by rw [hs99]; exact mset_ne _ _ _ _ _ (by decide)
            have ht103 : s99 18 0 = s92 18 0 := by rw [hs99]; exact mset_ne _ _ _ _ _ (by decide)
            have ht104 : s99 19 0 = s92 19 0 := by rw [hs99]; exact mset_ne _ _ _ _ _ (by decide)
            obtain ⟨rfl, rfl⟩ := Prod.mk.inj (hT.symm.trans hres)
            exact ⟨hf_s99, hm_s99, trivial, (by first | assumption | omega), (by first | assumption | omega), (by first | assumption | omega), (by first | assumption | omega)⟩
          replace hT := hz106
          by_cases h89 : (1 : Int) = 0
          · replace hT := hT.trans (if_pos h89)
            exact j90 (-1) (by omega) hT
          · replace hT := hT.trans (if_neg h89)
            exact j90 (s70 3 (s70 16 0)) (by omega) hT
        by_cases h87 : (s70 3 (s70 16 0)) = 40
        · replace hT := hT.trans (if_pos h87)
          exact j88  trivial hT
        · replace hT := hT.trans (if_neg h87)
          by_cases h107 : (s70 3 (s70 16 0)) = 41
          · replace hT := hT.trans (if_pos h107)
            exact j88  trivial hT
          · replace hT := hT.trans (if_neg h107)
            by_cases h108 : (s70 3 (s70 16 0)) = 59
            · replace hT := hT.trans (if_pos h108)
              exact j88  trivial hT
            · replace hT := hT.trans (if_neg h108)
              by_cases h109 : (s70 3 (s70 16 0)) = 43
              · replace hT := hT.trans (if_pos h109)
                exact j88  trivial hT
              · replace hT := hT.trans (if_neg h109)
                by_cases h110 : (s70 3 (s70 16 0)) = 45
                · replace hT := hT.trans (if_pos h110)
                  exact j88  trivial hT
                · replace hT := hT.trans (if_neg h110)
                  by_cases h111 : (s70 3 (s70 16 0)) = 42
                  · replace hT := hT.trans (if_pos h111)
                    exact j88  trivial hT
                  · replace hT := hT.trans (if_neg h111)
                    by_cases h112 : (s70 3 (s70 16 0)) = 60
                    · replace hT := hT.trans (if_pos h112)
                      exact j88  trivial hT
                    · replace hT := hT.trans (if_neg h112)
                      by_cases h113 : (s70 3 (s70 16 0)) = 61
                      · replace hT := hT.trans (if_pos h113)
                        exact j88  trivial hT
                      · replace hT := hT.trans (if_neg h113)
                        obtain ⟨z131, hz131, hT⟩ := gl1x hT
                        have j115 : ∀ (v116 : Int), ((in32 v116)) → z131 = v116 → (fr [16, 17, 18, 19] s0 sZ) ∧ (gMR lgM sZ) ∧ (True) ∧ (s0 16 0 ≤ sZ 17 0 ∧ sZ 17 0 ≤ sZ 16 0 ∧ sZ 16 0 ≤ s0 4 0) ∧ (sZ 18 0 = 0 ∨ sZ 17 0 < sZ 16 0) ∧ (0 ≤ sZ 19 0 ∧ sZ 19 0 ≤ 9999) ∧ (sZ 18 0 = 2 → sZ 19 0 ≤ 5) := by
                          intro v116 hq hz
                          have hq130 := hq
                          replace hT := gl1y hT hz
                          obtain ⟨s117, hs117, hT⟩ := glx hT
                          have hf_s117 : fr [16, 17, 18, 19] s0 s117 := hs117 ▸ hf_s70.set (by decide)
                          have hm_s117 : gMR lgM s117 := hs117 ▸ hm_s70.set32 rfl (by omega)
                          have ht118 : s117 4 0 = s70 4 0 := by rw [hs117]; exact mset_ne _ _ _ _ _ (by decide)
                          have ht119 : s117 16 0 = s70 16 0 := by rw [hs117]; exact mset_ne _ _ _ _ _ (by decide)
                          have ht120 : s117 17 0 = s70 17 0 := by rw [hs117]; exact mset_ne _ _ _ _ _ (by decide)
                          have ht121 : s117 18 0 = v116 := by rw [hs117]; exact mset_eq _ _ _ _
                          have ht122 : s117 19 0 = s70 19 0 := by rw [hs117]; exact mset_ne _ _ _ _ _ (by decide)
                          have hr123 := (hm_s117 16 0).1 rfl
                          obtain ⟨s124, hs124, hT⟩ := glx hT
                          have hf_s124 : fr [16, 17, 18, 19] s0 s124 := hs124 ▸ hf_s117.set (by decide)
                          have hm_s124 : gMR lgM s124 := hs124 ▸ hm_s117.set32 rfl (by omega)
                          have ht125 : s124 4 0 = s117 4 0 := by rw [hs124]; exact mset_ne _ _ _ _ _ (by decide)
                          have ht126 : s124 16 0 = ((s117 16 0) + 1) := by rw [hs124]; exact mset_eq _ _ _ _
                          have ht127 : s124 17 0 = s117 17 0 := by rw [hs124]; exact mset_ne _ _ _ _ _ (by decide)
                          have ht128 : s124 18 0 = s117 18 0 := by rw [hs124]; exact mset_ne _ _ _ _ _ (by decide)
                          have ht129 : s124 19 0 = s117 19 0 := by rw [hs124]; exact mset_ne _ _ _ _ _ (by decide)
                          obtain ⟨rfl, rfl⟩ := Prod.mk.inj (hT.symm.trans hres)
                          exact ⟨hf_s124, hm_s124, trivial, (by first | assumption | omega), (by first | assumption | omega), (by first | assumption | omega), (by first | assumption | omega)⟩
                        replace hT := hz131
                        by_cases h114 : (0 : Int) = 0
                        · replace hT := hT.trans (if_pos h114)
                          exact j115 (-1) (by omega) hT
                        · replace hT := hT.trans (if_neg h114)
                          exact j115 (s70 3 (s70 16 0)) (by omega) hT
      · replace hT := hT.trans (if_neg h86)
        have L168 : ∀ (n169 : Nat) (v166 : Int) (s167 : gMem), ((in32 v166) ∧ (fr [16, 17, 18, 19] s0 s167) ∧ (gMR lgM s167) ∧ (s167 4 0 = s70 4 0) ∧ (s167 17 0 = s70 17 0) ∧ (s167 18 0 = s70 18 0) ∧ (s0 16 0 ≤ s167 17 0 ∧ s167 17 0 ≤ s167 16 0 ∧ s167 16 0 ≤ s0 4 0) ∧ (0 ≤ v166 ∧ v166 = s167 16 0 - s167 17 0) ∧ (0 ≤ s167 19 0 ∧ s167 19 0 ≤ 9999) ∧ ((v166 = 0 → s167 19 0 = 0) ∧ (v166 = 1 → s167 19 0 ≤ 9) ∧ (v166 = 2 → s167 19 0 ≤ 99) ∧ (v166 = 3 → s167 19 0 ≤ 999)) ∧ (s167 17 0 < s0 4 0) ∧ (s167 17 0 < s167 16 0 ∨ (48 ≤ s167 3 (s167 16 0) ∧ s167 3 (s167 16 0) ≤ 57))) → s0 4 0 - s167 16 0 < (n169 : Int) → (∀ (w170 : Int) (s171 : gMem), (w_X9_next_230 n169 v166 s167) = (w170, s171) → ((in32 w170) ∧ (fr [16, 17, 18, 19] s0 s171) ∧ (gMR lgM s171) ∧ (s171 4 0 = s70 4 0) ∧ (s171 17 0 = s70 17 0) ∧ (s171 18 0 = s70 18 0) ∧ (s0 16 0 ≤ s171 17 0 ∧ s171 17 0 ≤ s171 16 0 ∧ s171 16 0 ≤ s0 4 0) ∧ (0 ≤ w170 ∧ w170 = s171 16 0 - s171 17 0) ∧ (0 ≤ s171 19 0 ∧ s171 19 0 ≤ 9999) ∧ ((w170 = 0 → s171 19 0 = 0) ∧ (w170 = 1 → s171 19 0 ≤ 9) ∧ (w170 = 2 → s171 19 0 ≤ 99) ∧ (w170 = 3 → s171 19 0 ≤ 999)) ∧ (s171 17 0 < s0 4 0) ∧ (s171 17 0 < s171 16 0 ∨ (48 ≤ s171 3 (s171 16 0) ∧ s171 3 (s171 16 0) ≤ 57)) ∧ (s171 17 0 < s171 16 0)) → (fr [16, 17, 18, 19] s0 sZ) ∧ (gMR lgM sZ) ∧ (True) ∧ (s0 16 0 ≤ sZ 17 0 ∧ sZ 17 0 ≤ sZ 16 0 ∧ sZ 16 0 ≤ s0 4 0) ∧ (sZ 18 0 = 0 ∨ sZ 17 0 < sZ 16 0) ∧ (0 ≤ sZ 19 0 ∧ sZ 19 0 ≤ 9999) ∧ (sZ 18 0 = 2 → sZ 19 0 ≤ 5)) → (fr [16, 17, 18, 19] s0 sZ) ∧ (gMR lgM sZ) ∧ (True) ∧ (s0 16 0 ≤ sZ 17 0 ∧ sZ 17 0 ≤ sZ 16 0 ∧ sZ 16 0 ≤ s0 4 0) ∧ (sZ 18 0 = 0 ∨ sZ 17 0 < sZ 16 0) ∧ (0 ≤ sZ 19 0 ∧ sZ 19 0 ≤ 9999) ∧ (sZ 18 0 = 2 → sZ 19 0 ≤ 5) := by
          intro n169; induction n169 with
          | zero =>
            intro v166 s167 hq hm hk
            exfalso
            obtain ⟨hq203, hf_s167, hm_s167, hq204, hq205, hq206, hq207, hq208, hq209, hq210, hq211, hq212⟩ := hq
            omega
          | succ n169 ih =>
            intro v166 s167 hq hm hk
            obtain ⟨hq213, hf_s167, hm_s167, hq214, hq215, hq216, hq217, hq218, hq219, hq220, hq221, hq222⟩ := hq
            have hT := w_X9_next_230_s  n169 v166 s167
            have hr172 := (hm_s167 16 0).1 rfl
            have hr173 := (hm_s167 4 0).1 rfl
            by_cases h174 : (s167 16 0) < (s167 4 0)
            · replace hT := hT.trans (if_pos h174)
              have hr175 := (hm_s167 16 0).1 rfl
              have hr176 := (hm_s167 3 (s167 16 0)).1 rfl
              have hp178 := f_X9_in_p (s167 3 (s167 16 0)) 48 57 (by omega) (by omega) (by omega) 
              by_cases h179 : (f_X9_in (s167 3 (s167 16 0)) 48 57) = 0
              · replace hT := hT.trans (if_pos h179)
                exact hk v166 s167 hT ⟨(by omega), hf_s167, hm_s167, (by first | assumption | omega), (by first | assumption | omega), (by first | assumption | omega), (by first | assumption | omega), (by first | assumption | omega), (by first | assumption | omega), (by first | assumption | omega), (by first | assumption | omega), (by first | assumption | omega), (by first | assumption | omega)⟩
              · replace hT := hT.trans (if_neg h179)
                obtain ⟨z199, hz199, hT⟩ := gl1x hT
                have j181 : ∀ (v182 : Int), ((in32 v182) ∧ (0 ≤ v182 ∧ v182 ≤ 9999) ∧ ((v166 = 0 → v182 ≤ 9) ∧ (v166 = 1 → v182 ≤ 99) ∧ (v166 = 2 → v182 ≤ 999))) → z199 = v182 → (fr [16, 17, 18, 19] s0 sZ) ∧ (gMR lgM sZ) ∧ (True) ∧ (s0 16 0 ≤ sZ 17 0 ∧ sZ 17 0 ≤ sZ 16 0 ∧ sZ 16 0 ≤ s0 4 0) ∧ (sZ 18 0 = 0 ∨ sZ 17 0 < sZ 16 0) ∧ (0 ≤ sZ 19 0 ∧ sZ 19 0 ≤ 9999) ∧ (sZ 18 0 = 2 → sZ 19 0 ≤ 5) := by
                  intro v182 hq hz
                  obtain ⟨hq196, hq197, hq198⟩ := hq
                  replace hT := gl1y hT hz
                  obtain ⟨s183, hs183, hT⟩ := glx hT
                  have hf_s183 : fr [16, 17, 18, 19] s0 s183 := hs183 ▸ hf_s167.set (by decide)
                  have hm_s183 : gMR lgM s183 := hs183 ▸ hm_s167.set32 rfl (by omega)
                  have ht184 : s183 4 0 = s167 4 0 := by rw [hs183]; exact mset_ne _ _ _ _ _ (by decide)
                  have ht185 : s183 16 0 = s167 16 0 := by rw [hs183]; exact mset_ne _ _ _ _ _ (by decide)
                  have ht186 : s183 17 0 = s167 17 0 := by rw [hs183]; exact mset_ne _ _ _ _ _ (by decide)
                  have ht187 : s183 18 0 = s167 18 0 := by rw [hs183]; exact mset_ne _ _ _ _ _ (by decide)
                  have ht188 : s183 19 0 = v182 := by rw [hs183]; exact mset_eq _ _ _ _
                  have hr189 := (hm_s183 16 0).1 rfl
                  obtain ⟨s190, hs190, hT⟩ := glx hT
                  have hf_s190 : fr [16, 17, 18, 19] s0 s190 := hs190 ▸ hf_s183.set (by decide)
                  have hm_s190 : gMR lgM s190 := hs190 ▸ hm_s183.set32 rfl (by omega)
                  have ht191 : s190 4 0 = s183 4 0 := by rw [hs190]; exact mset_ne _ _ _ _ _ (by decide)
                  have ht192 : s190 16 0 = ((s183 16 0) + 1) := by rw [hs190]; exact mset_eq _ _ _ _
                  have ht193 : s190 17 0 = s183 17 0 := by rw [hs190]; exact mset_ne _ _ _ _ _ (by decide)
                  have ht194 : s190 18 0 = s183 18 0 := by rw [hs190]; exact mset_ne _ _ _ _ _ (by decide)
                  have ht195 : s190 19 0 = s183 19 0 := by rw [hs190]; exact mset_ne _ _ _ _ _ (by decide)
                  exact ih (v166 + 1) s190 ⟨(by omega), hf_s190, hm_s190, (by first | assumption | omega), (by first | assumption | omega), (by first | assumption | omega), (by first | assumption | omega), (by first | assumption | omega), (by first | assumption | omega), (by first | assumption | omega), (by first | assumption | omega), (by first | assumption | omega)⟩ (by omega) (fun w170 s171 hw hi => hk w170 s171 (hT.trans hw) hi)
                replace hT := hz199
                by_cases h180 : v166 < 4
                · replace hT := hT.trans (if_pos h180)
                  have hr200 := (hm_s167 19 0).1 rfl
                  have hr201 := (hm_s167 16 0).1 rfl
                  have hr202 := (hm_s167 3 (s167 16 0)).1 rfl
                  exact j181 (((10 * (s167 19 0)) + (s167 3 (s167 16 0))) - 48) ⟨(by omega), (by first | assumption | omega), (by first | assumption | omega)⟩ hT
                · replace hT := hT.trans (if_neg h180)
                  exact j181 0 ⟨(by omega), (by first | assumption | omega), (by first | assumption | omega)⟩ hT
            · replace hT := hT.trans (if_neg h174)
              exact hk v166 s167 hT ⟨(by omega), hf_s167, hm_s167, (by first | assumption | omega), (by first | assumption | omega), (by first | assumption | omega), (by first | assumption | omega), (by first | assumption | omega), (by first | assumption | omega), (by first | assumption | omega), (by first | assumption | omega), (by first | assumption | omega), (by first | assumption | omega)⟩
        refine L168 161 0 s70 ⟨(by omega), hf_s70, hm_s70, (by first | assumption | omega), (by first | assumption | omega), (by first | assumption | omega), (by first | assumption | omega), (by first | assumption | omega), (by first | assumption | omega), (by first | assumption | omega), (by first | assumption | omega), (by first | assumption | omega)⟩ (by omega) (fun v223 s224 hw hq => ?_)
        obtain ⟨hq225, hf_s224, hm_s224, hq226, hq227, hq228, hq229, hq230, hq231, hq232, hq233, hq234, hq235⟩ := hq
        replace hT := gl2y hT hw
        obtain ⟨z246, hz246, hT⟩ := gl1x hT
        have j237 : ∀ (v238 : Int), ((in32 v238)) → z246 = v238 → (fr [16, 17, 18, 19] s0 sZ) ∧ (gMR lgM sZ) ∧ (True) ∧ (s0 16 0 ≤ sZ 17 0 ∧ sZ 17 0 ≤ sZ 16 0 ∧ sZ 16 0 ≤ s0 4 0) ∧ (sZ 18 0 = 0 ∨ sZ 17 0 < sZ 16 0) ∧ (0 ≤ sZ 19 0 ∧ sZ 19 0 ≤ 9999) ∧ (sZ 18 0 = 2 → sZ 19 0 ≤ 5) := by
          intro v238 hq hz
          have hq245 := hq
          replace hT := gl1y hT hz
          obtain ⟨s239, hs239, hT⟩ := glx hT
          have hf_s239 : fr [16, 17, 18, 19] s0 s239 := hs239 ▸ hf_s224.set (by decide)
          have hm_s239 : gMR lgM s239 := hs239 ▸ hm_s224.set32 rfl (by omega)
          have ht240 : s239 4 0 = s224 4 0 := by rw [hs239]; exact mset_ne _ _ _ _ _ (by decide)
          have ht241 : s239 16 0 = s224 16 0 := by rw [hs239]; exact mset_ne _ _ _ _ _ (by decide)
          have ht242 : s239 17 0 = s224 17 0 := by rw [hs239]; exact mset_ne _ _ _ _ _ (by decide)
          have ht243 : s239 18 0 = v238 := by rw [hs239]; exact mset_eq _ _ _ _
          have ht244 : s239 19 0 = s224 19 0 := by rw [hs239]; exact mset_ne _ _ _ _ _ (by decide)
          obtain ⟨rfl, rfl⟩ := Prod.mk.inj (hT.symm.trans hres)
          exact ⟨hf_s239, hm_s239, trivial, (by first | assumption | omega), (by first | assumption | omega), (by first | assumption | omega), (by first | assumption | omega)⟩
        replace hT := hz246
        by_cases h236 : 4 < v223
        · replace hT := hT.trans (if_pos h236)
          exact j237 (-1) (by omega) hT
        · replace hT := hT.trans (if_neg h236)
          exact j237 1 (by omega) hT
    · replace hT := hT.trans (if_neg h83)
      have L265 : ∀ (n266 : Nat)  (s264 : gMem), ((fr [16, 17, 18, 19] s0 s264) ∧ (gMR lgM s264) ∧ (s264 4 0 = s70 4 0) ∧ (s264 17 0 = s70 17 0) ∧ (s264 18 0 = s70 18 0) ∧ (s264 19 0 = s70 19 0) ∧ (s0 16 0 ≤ s264 17 0 ∧ s264 17 0 ≤ s264 16 0 ∧ s264 16 0 ≤ s0 4 0) ∧ (s264 17 0 < s0 4 0) ∧ (s264 17 0 < s264 16 0 ∨ (97 ≤ s264 3 (s264 16 0) ∧ s264 3 (s264 16 0) ≤ 122))) → s0 4 0 - s264 16 0 < (n266 : Int) → (∀  (s267 : gMem), (w_X9_next_103 n266 s264) = s267 → ((fr [16, 17, 18, 19] s0 s267) ∧ (gMR lgM s267) ∧ (s267 4 0 = s70 4 0) ∧ (s267 17 0 = s70 17 0) ∧ (s267 18 0 = s70 18 0) ∧ (s267 19 0 = s70 19 0) ∧ (s0 16 0 ≤ s267 17 0 ∧ s267 17 0 ≤ s267 16 0 ∧ s267 16 0 ≤ s0 4 0) ∧ (s267 17 0 < s0 4 0) ∧ (s267 17 0 < s267 16 0 ∨ (97 ≤ s267 3 (s267 16 0) ∧ s267 3 (s267 16 0) ≤ 122)) ∧ (s267 17 0 < s267 16 0)) → (fr [16, 17, 18, 19] s0 sZ) ∧ (gMR lgM sZ) ∧ (True) ∧ (s0 16 0 ≤ sZ 17 0 ∧ sZ 17 0 ≤ sZ 16 0 ∧ sZ 16 0 ≤ s0 4 0) ∧ (sZ 18 0 = 0 ∨ sZ 17 0 < sZ 16 0) ∧ (0 ≤ sZ 19 0 ∧ sZ 19 0 ≤ 9999) ∧ (sZ 18 0 = 2 → sZ 19 0 ≤ 5)) → (fr [16, 17, 18, 19] s0 sZ) ∧ (gMR lgM sZ) ∧ (True) ∧ (s0 16 0 ≤ sZ 17 0 ∧ sZ 17 0 ≤ sZ 16 0 ∧ sZ 16 0 ≤ s0 4 0) ∧ (sZ 18 0 = 0 ∨ sZ 17 0 < sZ 16 0) ∧ (0 ≤ sZ 19 0 ∧ sZ 19 0 ≤ 9999) ∧ (sZ 18 0 = 2 → sZ 19 0 ≤ 5) := by
        intro n266; induction n266 with
        | zero =>
          intro  s264 hq hm hk
          exfalso
          obtain ⟨hf_s264, hm_s264, hq283, hq284, hq285, hq286, hq287, hq288, hq289⟩ := hq
          omega
        | succ n266 ih =>
          intro  s264 hq hm hk
          obtain ⟨hf_s264, hm_s264, hq290, hq291, hq292, hq293, hq294, hq295, hq296⟩ := hq
          have hT := w_X9_next_103_s  n266  s264
          have hr268 := (hm_s264 16 0).1 rfl
          have hr269 := (hm_s264 4 0).1 rfl
          by_cases h270 : (s264 16 0) < (s264 4 0)
          · replace hT := hT.trans (if_pos h270)
            have hr271 := (hm_s264 16 0).1 rfl
            have hr272 := (hm_s264 3 (s264 16 0)).1 rfl
            have hp274 := f_X9_in_p (s264 3 (s264 16 0)) 97 122 (by omega) (by omega) (by omega) 
            by_cases h275 : (f_X9_in (s264 3 (s264 16 0)) 97 122) = 0
            · replace hT := hT.trans (if_pos h275)
              exact hk  s264 hT ⟨hf_s264, hm_s264, (by first | assumption | omega), (by first | assumption | omega), (by first | assumption | omega), (by first | assumption | omega), (by first | assumption | omega), (by first | assumption | omega), (by first | assumption | omega), (by first | assumption | omega)⟩
            · replace hT := hT.trans (if_neg h275)
              have hr276 := (hm_s264 16 0).1 rfl
              obtain ⟨s277, hs277, hT⟩ := glx hT
              have hf_s277 : fr [16, 17, 18, 19] s0 s277 := hs277 ▸ hf_s264.set (by decide)
              have hm_s277 : gMR lgM s277 := hs277 ▸ hm_s264.set32 rfl (by omega)
              have ht278 : s277 4 0 = s264 4 0 := by rw [hs277]; exact mset_ne _ _ _ _ _ (by decide)
              have ht279 : s277 16 0 = ((s264 16 0) + 1) := by rw [hs277]; exact mset_eq _ _ _ _
              have ht280 : s277 17 0 = s264 17 0 := by rw [hs277]; exact mset_ne _ _ _ _ _ (by decide)
              have ht281 : s277 18 0 = s264 18 0 := by rw [hs277]; exact mset_ne _ _ _ _ _ (by decide)
              have ht282 : s277 19 0 = s264 19 0 := by rw [hs277]; exact mset_ne _ _ _ _ _ (by decide)
              exact ih  s277 ⟨hf_s277, hm_s277, (by first | assumption | omega), (by first | assumption | omega), (by first | assumption | omega), (by first | assumption | omega), (by first | assumption | omega), (by first | assumption | omega), (by first | assumption | omega)⟩ (by omega) (fun  s267 hw hi => hk  s267 (hT.trans hw) hi)
          · replace hT := hT.trans (if_neg h270)
            exact hk  s264 hT ⟨hf_s264, hm_s264, (by first | assumption | omega), (by first | assumption | omega), (by first | assumption | omega), (by first | assumption | omega), (by first | assumption | omega), (by first | assumption | omega), (by first | assumption | omega), (by first | assumption | omega)⟩
      refine L265 161  s70 ⟨hf_s70, hm_s70, (by first | assumption | omega), (by first | assumption | omega), (by first | assumption | omega), (by first | assumption | omega), (by first | assumption | omega), (by first | assumption | omega), (by first | assumption | omega)⟩ (by omega) (fun  s297 hw hq => ?_)
      obtain ⟨hf_s297, hm_s297, hq298, hq299, hq300, hq301, hq302, hq303, hq304, hq305⟩ := hq
      replace hT := gl1y hT hw
      have hr306 := (hm_s297 17 0).1 rfl
      have hr307 := (hm_s297 16 0).1 rfl
      have hp309 := f_X9_wordFrom_p (s297 17 0) (s297 16 0) s297 (by omega) (by omega) hm_s297 (by first | assumption | omega)
      obtain ⟨v310, hv310, hT⟩ := glx hT
      obtain ⟨z332, hz332, hT⟩ := gl1x hT
      have j312 : ∀ (v313 : Int), ((in32 v313)) → z332 = v313 → (fr [16, 17, 18, 19] s0 sZ) ∧ (gMR lgM sZ) ∧ (True) ∧ (s0 16 0 ≤ sZ 17 0 ∧ sZ 17 0 ≤ sZ 16 0 ∧ sZ 16 0 ≤ s0 4 0) ∧ (sZ 18 0 = 0 ∨ sZ 17 0 < sZ 16 0) ∧ (0 ≤ sZ 19 0 ∧ sZ 19 0 ≤ 9999) ∧ (sZ 18 0 = 2 → sZ 19 0 ≤ 5) := by
        intro v313 hq hz
        have hq331 := hq
        replace hT := gl1y hT hz
        obtain ⟨s314, hs314, hT⟩ := glx hT
        have hf_s314 : fr [16, 17, 18, 19] s0 s314 := hs314 ▸ hf_s297.set (by decide)
        have hm_s314 : gMR lgM s314 := hs314 ▸ hm_s297.set32 rfl (by omega)
        have ht315 : s314 4 0 = s297 4 0 := by rw [hs314]; exact mset_ne _ _ _ _ _ (by decide)
        have ht316 : s314 16 0 = s297 16 0 := by rw [hs314]; exact mset_ne _ _ _ _ _ (by decide)
        have ht317 : s314 17 0 = s297 17 0 := by rw [hs314]; exact mset_ne _ _ _ _ _ (by decide)
        have ht318 : s314 18 0 = v313 := by rw [hs314]; exact mset_eq _ _ _ _
        have ht319 : s314 19 0 = s297 19 0 := by rw [hs314]; exact mset_ne _ _ _ _ _ (by decide)
        obtain ⟨z330, hz330, hT⟩ := gl1x hT
        have j321 : ∀ (v322 : Int), ((in32 v322)) → z330 = v322 → (fr [16, 17, 18, 19] s0 sZ) ∧ (gMR lgM sZ) ∧ (True) ∧ (s0 16 0 ≤ sZ 17 0 ∧ sZ 17 0 ≤ sZ 16 0 ∧ sZ 16 0 ≤ s0 4 0) ∧ (sZ 18 0 = 0 ∨ sZ 17 0 < sZ 16 0) ∧ (0 ≤ sZ 19 0 ∧ sZ 19 0 ≤ 9999) ∧ (sZ 18 0 = 2 → sZ 19 0 ≤ 5) := by
          intro v322 hq hz
          have hq329 := hq
          replace hT := gl1y hT hz
          obtain ⟨s323, hs323, hT⟩ := glx hT
          have hf_s323 : fr [16, 17, 18, 19] s0 s323 := hs323 ▸ hf_s314.set (by decide)
          have hm_s323 : gMR lgM s323 := hs323 ▸ hm_s314.set32 rfl (by omega)
          have ht324 : s323 4 0 = s314 4 0 := by rw [hs323]; exact mset_ne _ _ _ _ _ (by decide)
          have ht325 : s323 16 0 = s314 16 0 := by rw [hs323]; exact mset_ne _ _ _ _ _ (by decide)
          have ht326 : s323 17 0 = s314 17 0 := by rw [hs323]; exact mset_ne _ _ _ _ _ (by decide)
          have ht327 : s323 18 0 = s314 18 0 := by rw [hs323]; exact mset_ne _ _ _ _ _ (by decide)
          have ht328 : s323 19 0 = v322 := by rw [hs323]; exact mset_eq _ _ _ _
          obtain ⟨rfl, rfl⟩ := Prod.mk.inj (hT.symm.trans hres)
          exact ⟨hf_s323, hm_s323, trivial, (by first | assumption | omega), (by first | assumption | omega), (by first | assumption | omega), (by first | assumption | omega)⟩
        replace hT := hz330
        by_cases h320 : v310 < 3
        · replace hT := hT.trans (if_pos h320)
          exact j321 v310 (by omega) hT
        · replace hT := hT.trans (if_neg h320)
          exact j321 (v310 - 3) (by omega) hT
      replace hT := hz332
      by_cases h311 : v310 < 3
      · replace hT := hT.trans (if_pos h311)
        exact j312 3 (by omega) hT
      · replace hT := hT.trans (if_neg h311)
        by_cases h333 : v310 < 9
        · replace hT := hT.trans (if_pos h333)
          exact j312 2 (by omega) hT
        · replace hT := hT.trans (if_neg h333)
          by_cases h334 : v310 = 12
          · replace hT := hT.trans (if_pos h334)
            exact j312 (-1) (by omega) hT
          · replace hT := hT.trans (if_neg h334)
            exact j312 ((4 + v310) - 9) (by omega) hT
set_option maxRecDepth 100000 in
set_option maxHeartbeats 4000000 in
theorem c_X9_next (l : Launch) (D : va_G) (a : Nat → Nat) (cI cJ cS cT : ClassId) (s0 : gMem)   (hpre0 : 0 ≤ s0 4 0 ∧ s0 4 0 ≤ 160) (hpre1 : 0 ≤ s0 16 0 ∧ s0 16 0 ≤ s0 4 0) : gC l yX9_next cX9_next 3 none 2 128 D vwCl (gT cI cJ cS cT) (wdM a cI cJ) lgM kV rgV [.ref (a 0)] s0 (f_X9_next s0) := by
  refine gC_of (by decide +kernel) (hwdM a cI cJ) (Nat.le_of_ble_eq_true rfl) ?_
  intro A p e R s m args below meth c hR E
  subst hR
  have hT := f_X9_next_e  s0
  have hf_s0 : fr [16, 17, 18, 19] s0 s0 := fr.rf _ _
  refine k_lv0 (lv' := [(0, .ref (a 0))]) rfl ?_
  refine k_mr (fun hm_s0 => ?_)
  have L21 : ∀ (n22 : Nat)  (s20 : gMem), ((fr [16, 17, 18, 19] s0 s20) ∧ (s20 4 0 = s0 4 0) ∧ (s20 17 0 = s0 17 0) ∧ (s20 18 0 = s0 18 0) ∧ (s20 19 0 = s0 19 0) ∧ (s0 16 0 ≤ s20 16 0 ∧ s20 16 0 ≤ s0 4 0)) → s0 4 0 - s20 16 0 < (n22 : Int) → (∀  (s23 : gMem), (w_X9_next_0 n22 s20) = s23 → ((fr [16, 17, 18, 19] s0 s23) ∧ (s23 4 0 = s0 4 0) ∧ (s23 17 0 = s0 17 0) ∧ (s23 18 0 = s0 18 0) ∧ (s23 19 0 = s0 19 0) ∧ (s0 16 0 ≤ s23 16 0 ∧ s23 16 0 ≤ s0 4 0)) → gK D vwCl (wdM a cI cJ) lgM A p l e { frames := 2, cells := 0, slots := 0, locals := 128 } s m args below meth c 3 (gQQ D vwCl (wdM a cI cJ) lgM A kV rgV below args s) (f_X9_next s0) s23 52 [(0, .ref (a 0))] []) → gK D vwCl (wdM a cI cJ) lgM A p l e { frames := 2, cells := 0, slots := 0, locals := 128 } s m args below meth c 3 (gQQ D vwCl (wdM a cI cJ) lgM A kV rgV below args s) (f_X9_next s0) s20 0 [(0, .ref (a 0))] [] := by
    intro n22; induction n22 with
    | zero =>
      intro  s20 hq hm hk
      exfalso
      obtain ⟨hf_s20, hq41, hq42, hq43, hq44, hq45⟩ := hq
      omega
    | succ n22 ih =>
      intro  s20 hq hm hk
      obtain ⟨hf_s20, hq46, hq47, hq48, hq49, hq50⟩ := hq
      have hT := w_X9_next_0_s  n22  s20
      refine k_aloadn (pc := 0) E 0 dX9_next_0 rfl rfl ?_
      refine k_getfI (pc := 1) (q0 := 0) (f := 16) (k := 16) E inX9 rfl rfl (by decide) wm_914 rfl rfl rfl dX9_next_1 (fun hr24 => ?_)
      refine k_aloadn (pc := 4) E 0 dX9_next_4 rfl rfl ?_
      refine k_getfI (pc := 5) (q0 := 0) (f := 4) (k := 4) E inX9 rfl rfl (by decide) wm_902 rfl rfl rfl dX9_next_5 (fun hr25 => ?_)
      by_cases h26 : (s20 16 0) < (s20 4 0)
      · replace hT := hT.trans (if_pos h26)
        refine k_icmp_ge_f (pc := 8) (tgt := 52) E (by omega) (by omega) dX9_next_8 (by decide) h26 ?_
        refine k_aloadn (pc := 11) E 0 dX9_next_11 rfl rfl ?_
        refine k_getf (pc := 12) (q0 := 0) (f := 3) (v := .ref (a 4)) E inX9 rfl rfl (by decide) wm_901 rfl rfl dX9_next_12 ?_
        refine k_aloadn (pc := 15) E 0 dX9_next_15 rfl rfl ?_
        refine k_getfI (pc := 16) (q0 := 0) (f := 16) (k := 16) E inX9 rfl rfl (by decide) wm_914 rfl rfl rfl dX9_next_16 (fun hr27 => ?_)
        refine k_iaload (pc := 19) (q0 := 4) (t0 := 0) (k := 3) (n := 160) E rfl rfl rfl (by decide) (by omega) (by omega) dX9_next_19 (fun hr28 => ?_)
        refine k_bipush (pc := 20) E dX9_next_20 (by decide) ?_
        obtain ⟨j30c, hj30c, hT⟩ := gjx hT
        have j30 : (True) → (w_X9_next_0 (n22 + 1) s20) = j30c  → gK D vwCl (wdM a cI cJ) lgM A p l e { frames := 2, cells := 0, slots := 0, locals := 128 } s m args below meth c 3 (gQQ D vwCl (wdM a cI cJ) lgM A kV rgV below args s) (f_X9_next s0) s20 39 [(0, .ref (a 0))] [] := by
          intro  hq hT
          rw [hj30c] at hT
          refine k_aloadn (pc := 39) E 0 dX9_next_39 rfl rfl ?_
          refine k_dup (pc := 40) E dX9_next_40 rfl ?_
          refine k_getfI (pc := 41) (q0 := 0) (f := 16) (k := 16) E inX9 rfl rfl (by decide) wm_914 rfl rfl rfl dX9_next_41 (fun hr31 => ?_)
          refine k_iconst (pc := 44) E dX9_next_44 ?_
          refine k_iadd (pc := 45) E dX9_next_45 ?_
          refine k_putfI (pc := 46) (q0 := 0) (f := 16) (k := 16) E tyX9 tyX9_ok nmX9 inX9 rfl rfl (by decide) wm_914 rfl rfl rfl (Nat.le_of_ble_eq_true rfl) rfl rfl (by omega) dX9_next_46 ?_
          obtain ⟨s32, hs32, hT⟩ := glx hT
          refine k_sg hs32.symm ?_
          have hf_s32 : fr [16, 17, 18, 19] s0 s32 := hs32 ▸ hf_s20.set (by decide)
          have ht33 : s32 4 0 = s20 4 0 := by rw [hs32]; exact mset_ne _ _ _ _ _ (by decide)
          have ht34 : s32 16 0 = ((s20 16 0) + 1) := by rw [hs32]; exact mset_eq _ _ _ _
          have ht35 : s32 17 0 = s20 17 0 := by rw [hs32]; exact mset_ne _ _ _ _ _ (by decide)
          have ht36 : s32 18 0 = s20 18 0 := by rw [hs32]; exact mset_ne _ _ _ _ _ (by decide)
          have ht37 : s32 19 0 = s20 19 0 := by rw [hs32]; exact mset_ne _ _ _ _ _ (by decide)
          refine k_goto (pc := 49) (tgt := 0) E dX9_next_49 (by decide) ?_
          exact ih  s32 ⟨hf_s32, (by first | assumption | omega), (by first | assumption | omega), (by first | assumption | omega), (by first | assumption | omega), (by first | assumption | omega)⟩ (by omega) (fun  s23 hw hi => hk  s23 (hT.trans hw) hi)
        by_cases h29 : (s20 3 (s20 16 0)) = 32
        · replace hT := hT.trans (if_pos h29)
          refine k_icmp_eq_t (pc := 22) (tgt := 39) E (by omega) (by omega) dX9_next_22 (by decide) h29 ?_
          exact j30  trivial hT
        · replace hT := hT.trans (if_neg h29)
          refine k_icmp_eq_f (pc := 22) (tgt := 39) E (by omega) (by omega) dX9_next_22 (by decide) h29 ?_
          refine k_aloadn (pc := 25) E 0 dX9_next_25 rfl rfl ?_
          refine k_getf (pc := 26) (q0 := 0) (f := 3) (v := .ref (a 4)) E inX9 rfl rfl (by decide) wm_901 rfl rfl dX9_next_26 ?_
          refine k_aloadn (pc := 29) E 0 dX9_next_29 rfl rfl ?_
          refine k_getfI (pc := 30) (q0 := 0) (f := 16) (k := 16) E inX9 rfl rfl (by decide) wm_914 rfl rfl rfl dX9_next_30 (fun hr38 => ?_)
          refine k_iaload (pc := 33) (q0 := 4) (t0 := 0) (k := 3) (n := 160) E rfl rfl rfl (by decide) (by omega) (by omega) dX9_next_33 (fun hr39 => ?_)
          refine k_bipush (pc := 34) E dX9_next_34 (by decide) ?_
          by_cases h40 : (s20 3 (s20 16 0)) = 10
          · replace hT := hT.trans (if_pos h40)
            refine k_icmp_ne_f (pc := 36) (tgt := 52) E (by omega) (by omega) dX9_next_36 (by decide) h40 ?_
            exact j30  trivial hT
          · replace hT := hT.trans (if_neg h40)
            refine k_icmp_ne_t (pc := 36) (tgt := 52) E (by omega) (by omega) dX9_next_36 (by decide) h40 ?_
            exact hk  s20 hT ⟨hf_s20, (by first | assumption | omega), (by first | assumption | omega), (by first | assumption | omega), (by first | assumption | omega), (by first | assumption | omega)⟩
      · replace hT := hT.trans (if_neg h26)
        refine k_icmp_ge_t (pc := 8) (tgt := 52) E (by omega) (by omega) dX9_next_8 (by decide) h26 ?_
        exact hk  s20 hT ⟨hf_s20, (by first | assumption | omega), (by first | assumption | omega), (by first | assumption | omega), (by first | assumption | omega), (by first | assumption | omega)⟩
  refine L21 161  s0 ⟨hf_s0, (by first | assumption | omega), (by first | assumption | omega), (by first | assumption | omega), (by first | assumption | omega), (by first | assumption | omega)⟩ (by omega) (fun  s51 hw hq => ?_)
  obtain ⟨hf_s51, hq52, hq53, hq54, hq55, hq56⟩ := hq
  replace hT := gl1y hT hw
  refine k_aloadn (pc := 52) E 0 dX9_next_52 rfl rfl ?_
  refine k_aloadn (pc := 53) E 0 dX9_next_53 rfl rfl ?_
  refine k_getfI (pc := 54) (q0 := 0) (f := 16) (k := 16) E inX9 rfl rfl (by decide) wm_914 rfl rfl rfl dX9_next_54 (fun hr57 => ?_)
  refine k_putfI (pc := 57) (q0 := 0) (f := 17) (k := 17) E tyX9 tyX9_ok nmX9 inX9 rfl rfl (by decide) wm_915 rfl rfl rfl (Nat.le_of_ble_eq_true rfl) rfl rfl (by omega) dX9_next_57 ?_
  obtain ⟨s58, hs58, hT⟩ := glx hT
  refine k_sg hs58.symm ?_
  have hf_s58 : fr [16, 17, 18, 19] s0 s58 := hs58 ▸ hf_s51.set (by decide)
  have ht59 : s58 4 0 = s51 4 0 := by rw [hs58]; exact mset_ne _ _ _ _ _ (by decide)
  have ht60 : s58 16 0 = s51 16 0 := by rw [hs58]; exact mset_ne _ _ _ _ _ (by decide)
  have ht61 : s58 17 0 = (s51 16 0) := by rw [hs58]; exact mset_eq _ _ _ _
  have ht62 : s58 18 0 = s51 18 0 := by rw [hs58]; exact mset_ne _ _ _ _ _ (by decide)
  have ht63 : s58 19 0 = s51 19 0 := by rw [hs58]; exact mset_ne _ _ _ _ _ (by decide)
  refine k_aloadn (pc := 60) E 0 dX9_next_60 rfl rfl ?_
  refine k_iconst (pc := 61) E dX9_next_61 ?_
  refine k_putfI (pc := 62) (q0 := 0) (f := 18) (k := 18) E tyX9 tyX9_ok nmX9 inX9 rfl rfl (by decide) wm_916 rfl rfl rfl (Nat.le_of_ble_eq_true rfl) rfl rfl (by omega) dX9_next_62 ?_
  obtain ⟨s64, hs64, hT⟩ := glx hT
  refine k_sg hs64.symm ?_
  have hf_s64 : fr [16, 17, 18, 19] s0 s64 := hs64 ▸ hf_s58.set (by decide)
  have ht65 : s64 4 0 = s58 4 0 := by rw [hs64]; exact mset_ne _ _ _ _ _ (by decide)
  have ht66 : s64 16 0 = s58 16 0 := by rw [hs64]; exact mset_ne _ _ _ _ _ (by decide)
  have ht67 : s64 17 0 = s58 17 0 := by rw [hs64]; exact mset_ne _ _ _ _ _ (by decide)
  have ht68 : s64 18 0 = 0 := by rw [hs64]; exact mset_eq _ _ _ _
  have ht69 : s64 19 0 = s58 19 0 := by rw [hs64]; exact mset_ne _ _ _ _ _ (by decide)
  refine k_aloadn (pc := 65) E 0 dX9_next_65 rfl rfl ?_
  refine k_iconst (pc := 66) E dX9_next_66 ?_
  refine k_putfI (pc := 67) (q0 := 0) (f := 19) (k := 19) E tyX9 tyX9_ok nmX9 inX9 rfl rfl (by decide) wm_917 rfl rfl rfl (Nat.le_of_ble_eq_true rfl) rfl rfl (by omega) dX9_next_67 ?_
  obtain ⟨s70, hs70, hT⟩ := glx hT
  refine k_sg hs70.symm ?_
  have hf_s70 : fr [16, 17, 18, 19] s0 s70 := hs70 ▸ hf_s64.set (by decide)
  have ht71 : s70 4 0 = s64 4 0 := by rw [hs70]; exact mset_ne _ _ _ _ _ (by decide)
  have ht72 : s70 16 0 = s64 16 0 := by rw [hs70]; exact mset_ne _ _ _ _ _ (by decide)
  have ht73 : s70 17 0 = s64 17 0 := by rw [hs70]; exact mset_ne _ _ _ _ _ (by decide)
  have ht74 : s70 18 0 = s64 18 0 := by rw [hs70]; exact mset_ne _ _ _ _ _ (by decide)
  have ht75 : s70 19 0 = 0 := by rw [hs70]; exact mset_eq _ _ _ _
  refine k_aloadn (pc := 70) E 0 dX9_next_70 rfl rfl ?_
  refine k_getfI (pc := 71) (q0 := 0) (f := 16) (k := 16) E inX9 rfl rfl (by decide) wm_914 rfl rfl rfl dX9_next_71 (fun hr76 => ?_)
  refine k_aloadn (pc := 74) E 0 dX9_next_74 rfl rfl ?_
  refine k_getfI (pc := 75) (q0 := 0) (f := 4) (k := 4) E inX9 rfl rfl (by decide) wm_902 rfl rfl rfl dX9_next_75 (fun hr77 => ?_)
  by_cases h78 : (s70 16 0) = (s70 4 0)
  · replace hT := hT.trans (if_pos h78)
    refine k_icmp_ne_f (pc := 78) (tgt := 82) E (by omega) (by omega) dX9_next_78 (by decide) h78 ?_
    exact k_rho hT (k_vret (pc := 81) E dX9_next_81)
  · replace hT := hT.trans (if_neg h78)
    refine k_icmp_ne_t (pc := 78) (tgt := 82) E (by omega) (by omega) dX9_next_78 (by decide) h78 ?_
    refine k_aloadn (pc := 82) E 0 dX9_next_82 rfl rfl ?_
    refine k_getf (pc := 83) (q0 := 0) (f := 3) (v := .ref (a 4)) E inX9 rfl rfl (by decide) wm_901 rfl rfl dX9_next_83 ?_
    refine k_aloadn (pc := 86) E 0 dX9_next_86 rfl rfl ?_
    refine k_getfI (pc := 87) (q0 := 0) (f := 16) (k := 16) E inX9 rfl rfl (by decide) wm_914 rfl rfl rfl dX9_next_87 (fun hr79 => ?_)
    refine k_iaload (pc := 90) (q0 := 4) (t0 := 0) (k := 3) (n := 160) E rfl rfl rfl (by decide) (by omega) (by omega) dX9_next_90 (fun hr80 => ?_)
    refine k_istoren (pc := 91) (lv' := [(1, gI (s70 3 (s70 16 0))), (0, .ref (a 0))]) E dX9_next_91 rfl (by decide) rfl ?_
    refine k_iloadn (pc := 92) E 0 dX9_next_92 rfl rfl ?_
    refine k_bipush (pc := 93) E dX9_next_93 (by decide) ?_
    refine k_bipush (pc := 95) E dX9_next_95 (by decide) ?_
    refine k_mr (fun hm_s70 => ?_)
    refine k_callS (pc := 97) (np := 3) (As := [gI (s70 3 (s70 16 0)), gI 97, gI 122]) (st := []) E (c_X9_in l D a cI cJ cS cT s70 (s70 3 (s70 16 0)) 97 122 (by omega) (by omega) (by omega)) wm_861 wm_11 wm_859 wm_860 (by decide +kernel) ⟨by decide, by decide⟩ rfl (Nat.le_of_ble_eq_true rfl) dX9_next_97 (ro_kk (fun hr81 => ?_))
    have hp82 := f_X9_in_p (s70 3 (s70 16 0)) 97 122 (by omega) (by omega) (by omega) 
    refine k_st (st' := [gI (f_X9_in (s70 3 (s70 16 0)) 97 122)]) rfl ?_
    by_cases h83 : (f_X9_in (s70 3 (s70 16 0)) 97 122) = 0
    · replace hT := hT.trans (if_pos h83)
      refine k_if_eq_t (pc := 100) (tgt := 217) E (by omega) dX9_next_100 (by decide) h83 ?_
      refine k_iloadn (pc := 217) E 0 dX9_next_217 rfl rfl ?_
      refine k_bipush (pc := 218) E dX9_next_218 (by decide) ?_
      refine k_bipush (pc := 220) E dX9_next_220 (by decide) ?_
      refine k_mr (fun hm_s70 => ?_)
      refine k_callS (pc := 222) (np := 3) (As := [gI (s70 3 (s70 16 0)), gI 48, gI 57]) (st := []) E (c_X9_in l D a cI cJ cS cT s70 (s70 3 (s70 16 0)) 48 57 (by omega) (by omega) (by omega)) wm_861 wm_11 wm_859 wm_860 (by decide +kernel) ⟨by decide, by decide⟩ rfl (Nat.le_of_ble_eq_true rfl) dX9_next_222 (ro_kk (fun hr84 => ?_))
      have hp85 := f_X9_in_p (s70 3 (s70 16 0)) 48 57 (by omega) (by omega) (by omega) 
      refine k_st (st' := [gI (f_X9_in (s70 3 (s70 16 0)) 48 57)]) rfl ?_
      by_cases h86 : (f_X9_in (s70 3 (s70 16 0)) 48 57) = 0
      · replace hT := hT.trans (if_pos h86)
        refine k_if_eq_t (pc := 225) (tgt := 326) E (by omega) dX9_next_225 (by decide) h86 ?_
        refine k_iloadn (pc := 326) E 0 dX9_next_326 rfl rfl ?_
        refine k_bipush (pc := 327) E dX9_next_327 (by decide) ?_
        obtain ⟨j88c, hj88c, hT⟩ := gjx hT
        have j88 : (True) → (f_X9_next s0) = j88c  → gK D vwCl (wdM a cI cJ) lgM A p l e { frames := 2, cells := 0, slots := 0, locals := 128 } s m args below meth c 3 (gQQ D vwCl (wdM a cI cJ) lgM A kV rgV below args s) (f_X9_next s0) s70 374 [(0, .ref (a 0)), (1, gI (s70 3 (s70 16 0)))] [] := by
          intro  hq hT
          rw [hj88c] at hT
          refine k_iconst (pc := 374) E dX9_next_374 ?_
          refine k_goto (pc := 375) (tgt := 379) E dX9_next_375 (by decide) ?_
          refine k_istoren (pc := 379) (lv' := [(2, gI 1), (0, .ref (a 0)), (1, gI (s70 3 (s70 16 0)))]) E dX9_next_379 rfl (by decide) rfl ?_
          refine k_aloadn (pc := 380) E 1 dX9_next_380 rfl rfl ?_
          refine k_iloadn (pc := 381) E 0 dX9_next_381 rfl rfl ?_
          obtain ⟨z106, hz106, hT⟩ := gl1x hT
          have j90 : ∀ (v91 : Int), ((in32 v91)) → z106 = v91 → gK D vwCl (wdM a cI cJ) lgM A p l e { frames := 2, cells := 0, slots := 0, locals := 128 } s m args below meth c 3 (gQQ D vwCl (wdM a cI cJ) lgM A kV rgV below args s) (f_X9_next s0) s70 390 [(0, .ref (a 0))] [gI v91, .ref (a 0)] := by
            intro v91 hq hz
            have hq105 := hq
            replace hT := gl1y hT hz
            refine k_putfI (pc := 390) (q0 := 0) (f := 18) (k := 18) E tyX9 tyX9_ok nmX9 inX9 rfl rfl (by decide) wm_916 rfl rfl rfl (Nat.le_of_ble_eq_true rfl) rfl rfl (by omega) dX9_next_390 ?_
            obtain ⟨s92, hs92, hT⟩ := glx hT
            refine k_sg hs92.symm ?_
            have hf_s92 : fr [16, 17, 18, 19] s0 s92 := hs92 ▸ hf_s70.set (by decide)
            have ht93 : s92 4 0 = s70 4 0 := by rw [hs92]; exact mset_ne _ _ _ _ _ (by decide)
            have ht94 : s92 16 0 = s70 16 0 := by rw [hs92]; exact mset_ne _ _ _ _ _ (by decide)
            have ht95 : s92 17 0 = s70 17 0 := by rw [hs92]; exact mset_ne _ _ _ _ _ (by decide)
            have ht96 : s92 18 0 = v91 := by rw [hs92]; exact mset_eq _ _ _ _
            have ht97 : s92 19 0 = s70 19 0 := by rw [hs92]; exact mset_ne _ _ _ _ _ (by decide)
            refine k_aloadn (pc := 393) E 0 dX9_next_393 rfl rfl ?_
            refine k_dup (pc := 394) E dX9_next_394 rfl ?_
            refine k_getfI (pc := 395) (q0 := 0) (f := 16) (k := 16) E inX9 rfl rfl (by decide) wm_914 rfl rfl rfl dX9_next_395 (fun hr98 => ?_)
            refine k_iconst (pc := 398) E dX9_next_398 ?_
            refine k_iadd (pc := 399) E dX9_next_399 ?_
            refine k_putfI (pc := 400) (q0 := 0) (f := 16) (k := 16) E tyX9 tyX9_ok nmX9 inX9 rfl rfl (by decide) wm_914 rfl rfl rfl (Nat.le_of_ble_eq_true rfl) rfl rfl (by omega) dX9_next_400 ?_
            obtain ⟨s99, hs99, hT⟩ := glx hT
            refine k_sg hs99.symm ?_
            have hf_s99 : fr [16, 17, 18, 19] s0 s99 := hs99 ▸ hf_s92.set (by decide)
            have ht100 : s99 4 0 = s92 4 0 := by rw [hs99]; exact mset_ne _ _ _ _ _ (by decide)
            have ht101 : s99 16 0 = ((s92 16 0) + 1) := by rw [hs99]; exact mset_eq _ _ _ _
            have ht102 : s99 17 0 = s92 17 0 := by rw [hs99]; exact mset_ne _ _ _ _ _ (by decide)
            have ht103 : s99 18 0 = s92 18 0 := by rw [hs99]; exact mset_ne _ _ _ _ _ (by decide)
            have ht104 : s99 19 0 = s92 19 0 := by rw [hs99]; exact mset_ne _ _ _ _ _ (by decide)
            exact k_rho hT (k_vret (pc := 403) E dX9_next_403)
          replace hT := hz106
          by_cases h89 : (1 : Int) = 0
          · replace hT := hT.trans (if_pos h89)
            refine k_if_eq_t (pc := 382) (tgt := 389) E (by omega) dX9_next_382 (by decide) h89 ?_
            refine k_iconst (pc := 389) E dX9_next_389 ?_
            refine k_lv (lv' := [(0, .ref (a 0))]) [1] rfl ?_
            exact j90 (-1) (by omega) hT
          · replace hT := hT.trans (if_neg h89)
            refine k_if_eq_f (pc := 382) (tgt := 389) E (by omega) dX9_next_382 (by decide) h89 ?_
            refine k_iloadn (pc := 385) E 2 dX9_next_385 rfl rfl ?_
            refine k_goto (pc := 386) (tgt := 390) E dX9_next_386 (by decide) ?_
            refine k_lv (lv' := [(0, .ref (a 0))]) [1] rfl ?_
            exact j90 (s70 3 (s70 16 0)) (by omega) hT
        by_cases h87 : (s70 3 (s70 16 0)) = 40
        · replace hT := hT.trans (if_pos h87)
          refine k_icmp_eq_t (pc := 329) (tgt := 374) E (by omega) (by omega) dX9_next_329 (by decide) h87 ?_
          refine k_lv (lv' := [(0, .ref (a 0)), (1, gI (s70 3 (s70 16 0)))]) [1, 0] rfl ?_
          exact j88  trivial hT
        · replace hT := hT.trans (if_neg h87)
          refine k_icmp_eq_f (pc := 329) (tgt := 374) E (by omega) (by omega) dX9_next_329 (by decide) h87 ?_
          refine k_iloadn (pc := 332) E 0 dX9_next_332 rfl rfl ?_
          refine k_bipush (pc := 333) E dX9_next_333 (by decide) ?_
          by_cases h107 : (s70 3 (s70 16 0)) = 41
          · replace hT := hT.trans (if_pos h107)
            refine k_icmp_eq_t (pc := 335) (tgt := 374) E (by omega) (by omega) dX9_next_335 (by decide) h107 ?_
            refine k_lv (lv' := [(0, .ref (a 0)), (1, gI (s70 3 (s70 16 0)))]) [1, 0] rfl ?_
            exact j88  trivial hT
          · replace hT := hT.trans (if_neg h107)
            refine k_icmp_eq_f (pc := 335) (tgt := 374) E (by omega) (by omega) dX9_next_335 (by decide) h107 ?_
            refine k_iloadn (pc := 338) E 0 dX9_next_338 rfl rfl ?_
            refine k_bipush (pc := 339) E dX9_next_339 (by decide) ?_
            by_cases h108 : (s70 3 (s70 16 0)) = 59
            · replace hT := hT.trans (if_pos h108)
              refine k_icmp_eq_t (pc := 341) (tgt := 374) E (by omega) (by omega) dX9_next_341 (by decide) h108 ?_
              refine k_lv (lv' := [(0, .ref (a 0)), (1, gI (s70 3 (s70 16 0)))]) [1, 0] rfl ?_
              exact j88  trivial hT
            · replace hT := hT.trans (if_neg h108)
              refine k_icmp_eq_f (pc := 341) (tgt := 374) E (by omega) (by omega) dX9_next_341 (by decide) h108 ?_
              refine k_iloadn (pc := 344) E 0 dX9_next_344 rfl rfl ?_
              refine k_bipush (pc := 345) E dX9_next_345 (by decide) ?_
              by_cases h109 : (s70 3 (s70 16 0)) = 43
              · replace hT := hT.trans (if_pos h109)
                refine k_icmp_eq_t (pc := 347) (tgt := 374) E (by omega) (by omega) dX9_next_347 (by decide) h109 ?_
                refine k_lv (lv' := [(0, .ref (a 0)), (1, gI (s70 3 (s70 16 0)))]) [1, 0] rfl ?_
                exact j88  trivial hT
              · replace hT := hT.trans (if_neg h109)
                refine k_icmp_eq_f (pc := 347) (tgt := 374) E (by omega) (by omega) dX9_next_347 (by decide) h109 ?_
                refine k_iloadn (pc := 350) E 0 dX9_next_350 rfl rfl ?_
                refine k_bipush (pc := 351) E dX9_next_351 (by decide) ?_
                by_cases h110 : (s70 3 (s70 16 0)) = 45
                · replace hT := hT.trans (if_pos h110)
                  refine k_icmp_eq_t (pc := 353) (tgt := 374) E (by omega) (by omega) dX9_next_353 (by decide) h110 ?_
                  refine k_lv (lv' := [(0, .ref (a 0)), (1, gI (s70 3 (s70 16 0)))]) [1, 0] rfl ?_
                  exact j88  trivial hT
                · replace hT := hT.trans (if_neg h110)
                  refine k_icmp_eq_f (pc := 353) (tgt := 374) E (by omega) (by omega) dX9_next_353 (by decide) h110 ?_
                  refine k_iloadn (pc := 356) E 0 dX9_next_356 rfl rfl ?_
                  refine k_bipush (pc := 357) E dX9_next_357 (by decide) ?_
                  by_cases h111 : (s70 3 (s70 16 0)) = 42
                  · replace hT := hT.trans (if_pos h111)
                    refine k_icmp_eq_t (pc := 359) (tgt := 374) E (by omega) (by omega) dX9_next_359 (by decide) h111 ?_
                    refine k_lv (lv' := [(0, .ref (a 0)), (1, gI (s70 3 (s70 16 0)))]) [1, 0] rfl ?_
                    exact j88  trivial hT
                  · replace hT := hT.trans (if_neg h111)
                    refine k_icmp_eq_f (pc := 359) (tgt := 374) E (by omega) (by omega) dX9_next_359 (by decide) h111 ?_
                    refine k_iloadn (pc := 362) E 0 dX9_next_362 rfl rfl ?_
                    refine k_bipush (pc := 363) E dX9_next_363 (by decide) ?_
                    by_cases h112 : (s70 3 (s70 16 0)) = 60
                    · replace hT := hT.trans (if_pos h112)
                      refine k_icmp_eq_t (pc := 365) (tgt := 374) E (by omega) (by omega) dX9_next_365 (by decide) h112 ?_
                      refine k_lv (lv' := [(0, .ref (a 0)), (1, gI (s70 3 (s70 16 0)))]) [1, 0] rfl ?_
                      exact j88  trivial hT
                    · replace hT := hT.trans (if_neg h112)
                      refine k_icmp_eq_f (pc := 365) (tgt := 374) E (by omega) (by omega) dX9_next_365 (by decide) h112 ?_
                      refine k_iloadn (pc := 368) E 0 dX9_next_368 rfl rfl ?_
                      refine k_bipush (pc := 369) E dX9_next_369 (by decide) ?_
                      by_cases h113 : (s70 3 (s70 16 0)) = 61
                      · replace hT := hT.trans (if_pos h113)
                        refine k_icmp_ne_f (pc := 371) (tgt := 378) E (by omega) (by omega) dX9_next_371 (by decide) h113 ?_
                        refine k_lv (lv' := [(0, .ref (a 0)), (1, gI (s70 3 (s70 16 0)))]) [1, 0] rfl ?_
                        exact j88  trivial hT
                      · replace hT := hT.trans (if_neg h113)
                        refine k_icmp_ne_t (pc := 371) (tgt := 378) E (by omega) (by omega) dX9_next_371 (by decide) h113 ?_
                        refine k_iconst (pc := 378) E dX9_next_378 ?_
                        refine k_istoren (pc := 379) (lv' := [(2, gI 0), (1, gI (s70 3 (s70 16 0))), (0, .ref (a 0))]) E dX9_next_379 rfl (by decide) rfl ?_
                        refine k_aloadn (pc := 380) E 2 dX9_next_380 rfl rfl ?_
                        refine k_iloadn (pc := 381) E 0 dX9_next_381 rfl rfl ?_
                        obtain ⟨z131, hz131, hT⟩ := gl1x hT
                        have j115 : ∀ (v116 : Int), ((in32 v116)) → z131 = v116 → gK D vwCl (wdM a cI cJ) lgM A p l e { frames := 2, cells := 0, slots := 0, locals := 128 } s m args below meth c 3 (gQQ D vwCl (wdM a cI cJ) lgM A kV rgV below args s) (f_X9_next s0) s70 390 [(0, .ref (a 0))] [gI v116, .ref (a 0)] := by
                          intro v116 hq hz
                          have hq130 := hq
                          replace hT := gl1y hT hz
                          refine k_putfI (pc := 390) (q0 := 0) (f := 18) (k := 18) E tyX9 tyX9_ok nmX9 inX9 rfl rfl (by decide) wm_916 rfl rfl rfl (Nat.le_of_ble_eq_true rfl) rfl rfl (by omega) dX9_next_390 ?_
                          obtain ⟨s117, hs117, hT⟩ := glx hT
                          refine k_sg hs117.symm ?_
                          have hf_s117 : fr [16, 17, 18, 19] s0 s117 := hs117 ▸ hf_s70.set (by decide)
                          have ht118 : s117 4 0 = s70 4 0 := by rw [hs117]; exact mset_ne _ _ _ _ _ (by decide)
                          have ht119 : s117 16 0 = s70 16 0 := by rw [hs117]; exact mset_ne _ _ _ _ _ (by decide)
                          have ht120 : s117 17 0 = s70 17 0 := by rw [hs117]; exact mset_ne _ _ _ _ _ (by decide)
                          have ht121 : s117 18 0 = v116 := by rw [hs117]; exact mset_eq _ _ _ _
                          have ht122 : s117 19 0 = s70 19 0 := by rw [hs117]; exact mset_ne _ _ _ _ _ (by decide)
                          refine k_aloadn (pc := 393) E 0 dX9_next_393 rfl rfl ?_
                          refine k_dup (pc := 394) E dX9_next_394 rfl ?_
                          refine k_getfI (pc := 395) (q0 := 0) (f := 16) (k := 16) E inX9 rfl rfl (by decide) wm_914 rfl rfl rfl dX9_next_395 (fun hr123 => ?_)
                          refine k_iconst (pc := 398) E dX9_next_398 ?_
                          refine k_iadd (pc := 399) E dX9_next_399 ?_
                          refine k_putfI (pc := 400) (q0 := 0) (f := 16) (k := 16) E tyX9 tyX9_ok nmX9 inX9 rfl rfl (by decide) wm_914 rfl rfl rfl (Nat.le_of_ble_eq_true rfl) rfl rfl (by omega) dX9_next_400 ?_
                          obtain ⟨s124, hs124, hT⟩ := glx hT
                          refine k_sg hs124.symm ?_
                          have hf_s124 : fr [16, 17, 18, 19] s0 s124 := hs124 ▸ hf_s117.set (by decide)
                          have ht125 : s124 4 0 = s117 4 0 := by rw [hs124]; exact mset_ne _ _ _ _ _ (by decide)
                          have ht126 : s124 16 0 = ((s117 16 0) + 1) := by rw [hs124]; exact mset_eq _ _ _ _
                          have ht127 : s124 17 0 = s117 17 0 := by rw [hs124]; exact mset_ne _ _ _ _ _ (by decide)
                          have ht128 : s124 18 0 = s117 18 0 := by rw [hs124]; exact mset_ne _ _ _ _ _ (by decide)
                          have ht129 : s124 19 0 = s117 19 0 := by rw [hs124]; exact mset_ne _ _ _ _ _ (by decide)
                          exact k_rho hT (k_vret (pc := 403) E dX9_next_403)
                        replace hT := hz131
                        by_cases h114 : (0 : Int) = 0
                        · replace hT := hT.trans (if_pos h114)
                          refine k_if_eq_t (pc := 382) (tgt := 389) E (by omega) dX9_next_382 (by decide) h114 ?_
                          refine k_iconst (pc := 389) E dX9_next_389 ?_
                          refine k_lv (lv' := [(0, .ref (a 0))]) [2] rfl ?_
                          exact j115 (-1) (by omega) hT
                        · replace hT := hT.trans (if_neg h114)
                          refine k_if_eq_f (pc := 382) (tgt := 389) E (by omega) dX9_next_382 (by decide) h114 ?_
                          refine k_iloadn (pc := 385) E 1 dX9_next_385 rfl rfl ?_
                          refine k_goto (pc := 386) (tgt := 390) E dX9_next_386 (by decide) ?_
                          refine k_lv (lv' := [(0, .ref (a 0))]) [2] rfl ?_
                          exact j115 (s70 3 (s70 16 0)) (by omega) hT
      · replace hT := hT.trans (if_neg h86)
        refine k_if_eq_f (pc := 225) (tgt := 326) E (by omega) dX9_next_225 (by decide) h86 ?_
        refine k_iconst (pc := 228) E dX9_next_228 ?_
        refine k_istoren (pc := 229) (lv' := [(2, gI 0), (1, gI (s70 3 (s70 16 0))), (0, .ref (a 0))]) E dX9_next_229 rfl (by decide) rfl ?_
        have L168 : ∀ (n169 : Nat) (v166 : Int) (s167 : gMem), ((in32 v166) ∧ (fr [16, 17, 18, 19] s0 s167) ∧ (s167 4 0 = s70 4 0) ∧ (s167 17 0 = s70 17 0) ∧ (s167 18 0 = s70 18 0) ∧ (s0 16 0 ≤ s167 17 0 ∧ s167 17 0 ≤ s167 16 0 ∧ s167 16 0 ≤ s0 4 0) ∧ (0 ≤ v166 ∧ v166 = s167 16 0 - s167 17 0) ∧ (0 ≤ s167 19 0 ∧ s167 19 0 ≤ 9999) ∧ ((v166 = 0 → s167 19 0 = 0) ∧ (v166 = 1 → s167 19 0 ≤ 9) ∧ (v166 = 2 → s167 19 0 ≤ 99) ∧ (v166 = 3 → s167 19 0 ≤ 999)) ∧ (s167 17 0 < s0 4 0) ∧ (s167 17 0 < s167 16 0 ∨ (48 ≤ s167 3 (s167 16 0) ∧ s167 3 (s167 16 0) ≤ 57))) → s0 4 0 - s167 16 0 < (n169 : Int) → (∀ (w170 : Int) (s171 : gMem), (w_X9_next_230 n169 v166 s167) = (w170, s171) → ((in32 w170) ∧ (fr [16, 17, 18, 19] s0 s171) ∧ (s171 4 0 = s70 4 0) ∧ (s171 17 0 = s70 17 0) ∧ (s171 18 0 = s70 18 0) ∧ (s0 16 0 ≤ s171 17 0 ∧ s171 17 0 ≤ s171 16 0 ∧ s171 16 0 ≤ s0 4 0) ∧ (0 ≤ w170 ∧ w170 = s171 16 0 - s171 17 0) ∧ (0 ≤ s171 19 0 ∧ s171 19 0 ≤ 9999) ∧ ((w170 = 0 → s171 19 0 = 0) ∧ (w170 = 1 → s171 19 0 ≤ 9) ∧ (w170 = 2 → s171 19 0 ≤ 99) ∧ (w170 = 3 → s171 19 0 ≤ 999)) ∧ (s171 17 0 < s0 4 0) ∧ (s171 17 0 < s171 16 0 ∨ (48 ≤ s171 3 (s171 16 0) ∧ s171 3 (s171 16 0) ≤ 57)) ∧ (s171 17 0 < s171 16 0)) → gK D vwCl (wdM a cI cJ) lgM A p l e { frames := 2, cells := 0, slots := 0, locals := 128 } s m args below meth c 3 (gQQ D vwCl (wdM a cI cJ) lgM A kV rgV below args s) (f_X9_next s0) s171 309 [(0, .ref (a 0)), (2, gI w170)] []) → gK D vwCl (wdM a cI cJ) lgM A p l e { frames := 2, cells := 0, slots := 0, locals := 128 } s m args below meth c 3 (gQQ D vwCl (wdM a cI cJ) lgM A kV rgV below args s) (f_X9_next s0) s167 230 [(0, .ref (a 0)), (2, gI v166)] [] := by
          intro n169; induction n169 with
          | zero =>
            intro v166 s167 hq hm hk
            exfalso
            obtain ⟨hq203, hf_s167, hq204, hq205, hq206, hq207, hq208, hq209, hq210, hq211, hq212⟩ := hq
            omega
          | succ n169 ih =>
            intro v166 s167 hq hm hk
            obtain ⟨hq213, hf_s167, hq214, hq215, hq216, hq217, hq218, hq219, hq220, hq221, hq222⟩ := hq
            have hT := w_X9_next_230_s  n169 v166 s167
            refine k_aloadn (pc := 230) E 0 dX9_next_230 rfl rfl ?_
            refine k_getfI (pc := 231) (q0 := 0) (f := 16) (k := 16) E inX9 rfl rfl (by decide) wm_914 rfl rfl rfl dX9_next_231 (fun hr172 => ?_)
            refine k_aloadn (pc := 234) E 0 dX9_next_234 rfl rfl ?_
            refine k_getfI (pc := 235) (q0 := 0) (f := 4) (k := 4) E inX9 rfl rfl (by decide) wm_902 rfl rfl rfl dX9_next_235 (fun hr173 => ?_)
            by_cases h174 : (s167 16 0) < (s167 4 0)
            · replace hT := hT.trans (if_pos h174)
              refine k_icmp_ge_f (pc := 238) (tgt := 309) E (by omega) (by omega) dX9_next_238 (by decide) h174 ?_
              refine k_aloadn (pc := 241) E 0 dX9_next_241 rfl rfl ?_
              refine k_getf (pc := 242) (q0 := 0) (f := 3) (v := .ref (a 4)) E inX9 rfl rfl (by decide) wm_901 rfl rfl dX9_next_242 ?_
              refine k_aloadn (pc := 245) E 0 dX9_next_245 rfl rfl ?_
              refine k_getfI (pc := 246) (q0 := 0) (f := 16) (k := 16) E inX9 rfl rfl (by decide) wm_914 rfl rfl rfl dX9_next_246 (fun hr175 => ?_)
              refine k_iaload (pc := 249) (q0 := 4) (t0 := 0) (k := 3) (n := 160) E rfl rfl rfl (by decide) (by omega) (by omega) dX9_next_249 (fun hr176 => ?_)
              refine k_bipush (pc := 250) E dX9_next_250 (by decide) ?_
              refine k_bipush (pc := 252) E dX9_next_252 (by decide) ?_
              refine k_mr (fun hm_s167 => ?_)
              refine k_callS (pc := 254) (np := 3) (As := [gI (s167 3 (s167 16 0)), gI 48, gI 57]) (st := []) E (c_X9_in l D a cI cJ cS cT s167 (s167 3 (s167 16 0)) 48 57 (by omega) (by omega) (by omega)) wm_861 wm_11 wm_859 wm_860 (by decide +kernel) ⟨by decide, by decide⟩ rfl (Nat.le_of_ble_eq_true rfl) dX9_next_254 (ro_kk (fun hr177 => ?_))
              have hp178 := f_X9_in_p (s167 3 (s167 16 0)) 48 57 (by omega) (by omega) (by omega) 
              refine k_st (st' := [gI (f_X9_in (s167 3 (s167 16 0)) 48 57)]) rfl ?_
              by_cases h179 : (f_X9_in (s167 3 (s167 16 0)) 48 57) = 0
              · replace hT := hT.trans (if_pos h179)
                refine k_if_eq_t (pc := 257) (tgt := 309) E (by omega) dX9_next_257 (by decide) h179 ?_
                exact hk v166 s167 hT ⟨(by omega), hf_s167, (by first | assumption | omega), (by first | assumption | omega), (by first | assumption | omega), (by first | assumption | omega), (by first | assumption | omega), (by first | assumption | omega), (by first | assumption | omega), (by first | assumption | omega), (by first | assumption | omega), (by first | assumption | omega)⟩
              · replace hT := hT.trans (if_neg h179)
                refine k_if_eq_f (pc := 257) (tgt := 309) E (by omega) dX9_next_257 (by decide) h179 ?_
                refine k_aloadn (pc := 260) E 0 dX9_next_260 rfl rfl ?_
                refine k_iloadn (pc := 261) E 1 dX9_next_261 rfl rfl ?_
                refine k_iconst (pc := 262) E dX9_next_262 ?_
                obtain ⟨z199, hz199, hT⟩ := gl1x hT
                have j181 : ∀ (v182 : Int), ((in32 v182) ∧ (0 ≤ v182 ∧ v182 ≤ 9999) ∧ ((v166 = 0 → v182 ≤ 9) ∧ (v166 = 1 → v182 ≤ 99) ∧ (v166 = 2 → v182 ≤ 999))) → z199 = v182 → gK D vwCl (wdM a cI cJ) lgM A p l e { frames := 2, cells := 0, slots := 0, locals := 128 } s m args below meth c 3 (gQQ D vwCl (wdM a cI cJ) lgM A kV rgV below args s) (f_X9_next s0) s167 290 [(0, .ref (a 0)), (2, gI v166)] [gI v182, .ref (a 0)] := by
                  intro v182 hq hz
                  obtain ⟨hq196, hq197, hq198⟩ := hq
                  replace hT := gl1y hT hz
                  refine k_putfI (pc := 290) (q0 := 0) (f := 19) (k := 19) E tyX9 tyX9_ok nmX9 inX9 rfl rfl (by decide) wm_917 rfl rfl rfl (Nat.le_of_ble_eq_true rfl) rfl rfl (by omega) dX9_next_290 ?_
                  obtain ⟨s183, hs183, hT⟩ := glx hT
                  refine k_sg hs183.symm ?_
                  have hf_s183 : fr [16, 17, 18, 19] s0 s183 := hs183 ▸ hf_s167.set (by decide)
                  have ht184 : s183 4 0 = s167 4 0 := by rw [hs183]; exact mset_ne _ _ _ _ _ (by decide)
                  have ht185 : s183 16 0 = s167 16 0 := by rw [hs183]; exact mset_ne _ _ _ _ _ (by decide)
                  have ht186 : s183 17 0 = s167 17 0 := by rw [hs183]; exact mset_ne _ _ _ _ _ (by decide)
                  have ht187 : s183 18 0 = s167 18 0 := by rw [hs183]; exact mset_ne _ _ _ _ _ (by decide)
                  have ht188 : s183 19 0 = v182 := by rw [hs183]; exact mset_eq _ _ _ _
                  refine k_iinc (pc := 293) (lv' := [(2, gI (v166 + 1)), (0, .ref (a 0))]) E 1 dX9_next_293 rfl (by decide) rfl ?_
                  refine k_aloadn (pc := 296) E 1 dX9_next_296 rfl rfl ?_
                  refine k_dup (pc := 297) E dX9_next_297 rfl ?_
                  refine k_getfI (pc := 298) (q0 := 0) (f := 16) (k := 16) E inX9 rfl rfl (by decide) wm_914 rfl rfl rfl dX9_next_298 (fun hr189 => ?_)
                  refine k_iconst (pc := 301) E dX9_next_301 ?_
                  refine k_iadd (pc := 302) E dX9_next_302 ?_
                  refine k_putfI (pc := 303) (q0 := 0) (f := 16) (k := 16) E tyX9 tyX9_ok nmX9 inX9 rfl rfl (by decide) wm_914 rfl rfl rfl (Nat.le_of_ble_eq_true rfl) rfl rfl (by omega) dX9_next_303 ?_
                  obtain ⟨s190, hs190, hT⟩ := glx hT
                  refine k_sg hs190.symm ?_
                  have hf_s190 : fr [16, 17, 18, 19] s0 s190 := hs190 ▸ hf_s183.set (by decide)
                  have ht191 : s190 4 0 = s183 4 0 := by rw [hs190]; exact mset_ne _ _ _ _ _ (by decide)
                  have ht192 : s190 16 0 = ((s183 16 0) + 1) := by rw [hs190]; exact mset_eq _ _ _ _
                  have ht193 : s190 17 0 = s183 17 0 := by rw [hs190]; exact mset_ne _ _ _ _ _ (by decide)
                  have ht194 : s190 18 0 = s183 18 0 := by rw [hs190]; exact mset_ne _ _ _ _ _ (by decide)
                  have ht195 : s190 19 0 = s183 19 0 := by rw [hs190]; exact mset_ne _ _ _ _ _ (by decide)
                  refine k_goto (pc := 306) (tgt := 230) E dX9_next_306 (by decide) ?_
                  refine k_lv (lv' := [(0, .ref (a 0)), (2, gI (v166 + 1))]) [1, 0] rfl ?_
                  exact ih (v166 + 1) s190 ⟨(by omega), hf_s190, (by first | assumption | omega), (by first | assumption | omega), (by first | assumption | omega), (by first | assumption | omega), (by first | assumption | omega), (by first | assumption | omega), (by first | assumption | omega), (by first | assumption | omega), (by first | assumption | omega)⟩ (by omega) (fun w170 s171 hw hi => hk w170 s171 (hT.trans hw) hi)
                replace hT := hz199
                by_cases h180 : v166 < 4
                · replace hT := hT.trans (if_pos h180)
                  refine k_icmp_ge_f (pc := 263) (tgt := 289) E (by omega) (by omega) dX9_next_263 (by decide) h180 ?_
                  refine k_bipush (pc := 266) E dX9_next_266 (by decide) ?_
                  refine k_aloadn (pc := 268) E 0 dX9_next_268 rfl rfl ?_
                  refine k_getfI (pc := 269) (q0 := 0) (f := 19) (k := 19) E inX9 rfl rfl (by decide) wm_917 rfl rfl rfl dX9_next_269 (fun hr200 => ?_)
                  refine k_imul (pc := 272) E dX9_next_272 ?_
                  refine k_aloadn (pc := 273) E 0 dX9_next_273 rfl rfl ?_
                  refine k_getf (pc := 274) (q0 := 0) (f := 3) (v := .ref (a 4)) E inX9 rfl rfl (by decide) wm_901 rfl rfl dX9_next_274 ?_
                  refine k_aloadn (pc := 277) E 0 dX9_next_277 rfl rfl ?_
                  refine k_getfI (pc := 278) (q0 := 0) (f := 16) (k := 16) E inX9 rfl rfl (by decide) wm_914 rfl rfl rfl dX9_next_278 (fun hr201 => ?_)
                  refine k_iaload (pc := 281) (q0 := 4) (t0 := 0) (k := 3) (n := 160) E rfl rfl rfl (by decide) (by omega) (by omega) dX9_next_281 (fun hr202 => ?_)
                  refine k_iadd (pc := 282) E dX9_next_282 ?_
                  refine k_bipush (pc := 283) E dX9_next_283 (by decide) ?_
                  refine k_isub (pc := 285) E dX9_next_285 ?_
                  refine k_goto (pc := 286) (tgt := 290) E dX9_next_286 (by decide) ?_
                  exact j181 (((10 * (s167 19 0)) + (s167 3 (s167 16 0))) - 48) ⟨(by omega), (by first | assumption | omega), (by first | assumption | omega)⟩ hT
                · replace hT := hT.trans (if_neg h180)
                  refine k_icmp_ge_t (pc := 263) (tgt := 289) E (by omega) (by omega) dX9_next_263 (by decide) h180 ?_
                  refine k_iconst (pc := 289) E dX9_next_289 ?_
                  exact j181 0 ⟨(by omega), (by first | assumption | omega), (by first | assumption | omega)⟩ hT
            · replace hT := hT.trans (if_neg h174)
              refine k_icmp_ge_t (pc := 238) (tgt := 309) E (by omega) (by omega) dX9_next_238 (by decide) h174 ?_
              exact hk v166 s167 hT ⟨(by omega), hf_s167, (by first | assumption | omega), (by first | assumption | omega), (by first | assumption | omega), (by first | assumption | omega), (by first | assumption | omega), (by first | assumption | omega), (by first | assumption | omega), (by first | assumption | omega), (by first | assumption | omega), (by first | assumption | omega)⟩
        refine k_lv (lv' := [(0, .ref (a 0)), (2, gI 0)]) [2, 0] rfl ?_
        refine L168 161 0 s70 ⟨(by omega), hf_s70, (by first | assumption | omega), (by first | assumption | omega), (by first | assumption | omega), (by first | assumption | omega), (by first | assumption | omega), (by first | assumption | omega), (by first | assumption | omega), (by first | assumption | omega), (by first | assumption | omega)⟩ (by omega) (fun v223 s224 hw hq => ?_)
        obtain ⟨hq225, hf_s224, hq226, hq227, hq228, hq229, hq230, hq231, hq232, hq233, hq234, hq235⟩ := hq
        replace hT := gl2y hT hw
        refine k_aloadn (pc := 309) E 0 dX9_next_309 rfl rfl ?_
        refine k_iloadn (pc := 310) E 1 dX9_next_310 rfl rfl ?_
        refine k_iconst (pc := 311) E dX9_next_311 ?_
        obtain ⟨z246, hz246, hT⟩ := gl1x hT
        have j237 : ∀ (v238 : Int), ((in32 v238)) → z246 = v238 → gK D vwCl (wdM a cI cJ) lgM A p l e { frames := 2, cells := 0, slots := 0, locals := 128 } s m args below meth c 3 (gQQ D vwCl (wdM a cI cJ) lgM A kV rgV below args s) (f_X9_next s0) s224 320 [] [gI v238, .ref (a 0)] := by
          intro v238 hq hz
          have hq245 := hq
          replace hT := gl1y hT hz
          refine k_putfI (pc := 320) (q0 := 0) (f := 18) (k := 18) E tyX9 tyX9_ok nmX9 inX9 rfl rfl (by decide) wm_916 rfl rfl rfl (Nat.le_of_ble_eq_true rfl) rfl rfl (by omega) dX9_next_320 ?_
          obtain ⟨s239, hs239, hT⟩ := glx hT
          refine k_sg hs239.symm ?_
          have hf_s239 : fr [16, 17, 18, 19] s0 s239 := hs239 ▸ hf_s224.set (by decide)
          have ht240 : s239 4 0 = s224 4 0 := by rw [hs239]; exact mset_ne _ _ _ _ _ (by decide)
          have ht241 : s239 16 0 = s224 16 0 := by rw [hs239]; exact mset_ne _ _ _ _ _ (by decide)
          have ht242 : s239 17 0 = s224 17 0 := by rw [hs239]; exact mset_ne _ _ _ _ _ (by decide)
          have ht243 : s239 18 0 = v238 := by rw [hs239]; exact mset_eq _ _ _ _
          have ht244 : s239 19 0 = s224 19 0 := by rw [hs239]; exact mset_ne _ _ _ _ _ (by decide)
          refine k_goto (pc := 323) (tgt := 403) E dX9_next_323 (by decide) ?_
          exact k_rho hT (k_vret (pc := 403) E dX9_next_403)
        replace hT := hz246
        by_cases h236 : 4 < v223
        · replace hT := hT.trans (if_pos h236)
          refine k_icmp_le_f (pc := 312) (tgt := 319) E (by omega) (by omega) dX9_next_312 (by decide) h236 ?_
          refine k_iconst (pc := 315) E dX9_next_315 ?_
          refine k_goto (pc := 316) (tgt := 320) E dX9_next_316 (by decide) ?_
          refine k_lv (lv' := []) [] rfl ?_
          exact j237 (-1) (by omega) hT
        · replace hT := hT.trans (if_neg h236)
          refine k_icmp_le_t (pc := 312) (tgt := 319) E (by omega) (by omega) dX9_next_312 (by decide) h236 ?_
          refine k_iconst (pc := 319) E dX9_next_319 ?_
          refine k_lv (lv' := []) [] rfl ?_
          exact j237 1 (by omega) hT
    · replace hT := hT.trans (if_neg h83)
      refine k_if_eq_f (pc := 100) (tgt := 217) E (by omega) dX9_next_100 (by decide) h83 ?_
      have L265 : ∀ (n266 : Nat)  (s264 : gMem), ((fr [16, 17, 18, 19] s0 s264) ∧ (s264 4 0 = s70 4 0) ∧ (s264 17 0 = s70 17 0) ∧ (s264 18 0 = s70 18 0) ∧ (s264 19 0 = s70 19 0) ∧ (s0 16 0 ≤ s264 17 0 ∧ s264 17 0 ≤ s264 16 0 ∧ s264 16 0 ≤ s0 4 0) ∧ (s264 17 0 < s0 4 0) ∧ (s264 17 0 < s264 16 0 ∨ (97 ≤ s264 3 (s264 16 0) ∧ s264 3 (s264 16 0) ≤ 122))) → s0 4 0 - s264 16 0 < (n266 : Int) → (∀  (s267 : gMem), (w_X9_next_103 n266 s264) = s267 → ((fr [16, 17, 18, 19] s0 s267) ∧ (s267 4 0 = s70 4 0) ∧ (s267 17 0 = s70 17 0) ∧ (s267 18 0 = s70 18 0) ∧ (s267 19 0 = s70 19 0) ∧ (s0 16 0 ≤ s267 17 0 ∧ s267 17 0 ≤ s267 16 0 ∧ s267 16 0 ≤ s0 4 0) ∧ (s267 17 0 < s0 4 0) ∧ (s267 17 0 < s267 16 0 ∨ (97 ≤ s267 3 (s267 16 0) ∧ s267 3 (s267 16 0) ≤ 122)) ∧ (s267 17 0 < s267 16 0)) → gK D vwCl (wdM a cI cJ) lgM A p l e { frames := 2, cells := 0, slots := 0, locals := 128 } s m args below meth c 3 (gQQ D vwCl (wdM a cI cJ) lgM A kV rgV below args s) (f_X9_next s0) s267 146 [(0, .ref (a 0))] []) → gK D vwCl (wdM a cI cJ) lgM A p l e { frames := 2, cells := 0, slots := 0, locals := 128 } s m args below meth c 3 (gQQ D vwCl (wdM a cI cJ) lgM A kV rgV below args s) (f_X9_next s0) s264 103 [(0, .ref (a 0))] [] := by
        intro n266; induction n266 with
        | zero =>
          intro  s264 hq hm hk
          exfalso
          obtain ⟨hf_s264, hq283, hq284, hq285, hq286, hq287, hq288, hq289⟩ := hq
          omega
        | succ n266 ih =>
          intro  s264 hq hm hk
          obtain ⟨hf_s264, hq290, hq291, hq292, hq293, hq294, hq295, hq296⟩ := hq
          have hT := w_X9_next_103_s  n266  s264
          refine k_aloadn (pc := 103) E 0 dX9_next_103 rfl rfl ?_
          refine k_getfI (pc := 104) (q0 := 0) (f := 16) (k := 16) E inX9 rfl rfl (by decide) wm_914 rfl rfl rfl dX9_next_104 (fun hr268 => ?_)
          refine k_aloadn (pc := 107) E 0 dX9_next_107 rfl rfl ?_
          refine k_getfI (pc := 108) (q0 := 0) (f := 4) (k := 4) E inX9 rfl rfl (by decide) wm_902 rfl rfl rfl dX9_next_108 (fun hr269 => ?_)
          by_cases h270 : (s264 16 0) < (s264 4 0)
          · replace hT := hT.trans (if_pos h270)
            refine k_icmp_ge_f (pc := 111) (tgt := 146) E (by omega) (by omega) dX9_next_111 (by decide) h270 ?_
            refine k_aloadn (pc := 114) E 0 dX9_next_114 rfl rfl ?_
            refine k_getf (pc := 115) (q0 := 0) (f := 3) (v := .ref (a 4)) E inX9 rfl rfl (by decide) wm_901 rfl rfl dX9_next_115 ?_
            refine k_aloadn (pc := 118) E 0 dX9_next_118 rfl rfl ?_
            refine k_getfI (pc := 119) (q0 := 0) (f := 16) (k := 16) E inX9 rfl rfl (by decide) wm_914 rfl rfl rfl dX9_next_119 (fun hr271 => ?_)
            refine k_iaload (pc := 122) (q0 := 4) (t0 := 0) (k := 3) (n := 160) E rfl rfl rfl (by decide) (by omega) (by omega) dX9_next_122 (fun hr272 => ?_)
            refine k_bipush (pc := 123) E dX9_next_123 (by decide) ?_
            refine k_bipush (pc := 125) E dX9_next_125 (by decide) ?_
            refine k_mr (fun hm_s264 => ?_)
            refine k_callS (pc := 127) (np := 3) (As := [gI (s264 3 (s264 16 0)), gI 97, gI 122]) (st := []) E (c_X9_in l D a cI cJ cS cT s264 (s264 3 (s264 16 0)) 97 122 (by omega) (by omega) (by omega)) wm_861 wm_11 wm_859 wm_860 (by decide +kernel) ⟨by decide, by decide⟩ rfl (Nat.le_of_ble_eq_true rfl) dX9_next_127 (ro_kk (fun hr273 => ?_))
            have hp274 := f_X9_in_p (s264 3 (s264 16 0)) 97 122 (by omega) (by omega) (by omega) 
            refine k_st (st' := [gI (f_X9_in (s264 3 (s264 16 0)) 97 122)]) rfl ?_
            by_cases h275 : (f_X9_in (s264 3 (s264 16 0)) 97 122) = 0
            · replace hT := hT.trans (if_pos h275)
              refine k_if_eq_t (pc := 130) (tgt := 146) E (by omega) dX9_next_130 (by decide) h275 ?_
              exact hk  s264 hT ⟨hf_s264, (by first | assumption | omega), (by first | assumption | omega), (by first | assumption | omega), (by first | assumption | omega), (by first | assumption | omega), (by first | assumption | omega), (by first | assumption | omega), (by first | assumption | omega)⟩
            · replace hT := hT.trans (if_neg h275)
              refine k_if_eq_f (pc := 130) (tgt := 146) E (by omega) dX9_next_130 (by decide) h275 ?_
              refine k_aloadn (pc := 133) E 0 dX9_next_133 rfl rfl ?_
              refine k_dup (pc := 134) E dX9_next_134 rfl ?_
              refine k_getfI (pc := 135) (q0 := 0) (f := 16) (k := 16) E inX9 rfl rfl (by decide) wm_914 rfl rfl rfl dX9_next_135 (fun hr276 => ?_)
              refine k_iconst (pc := 138) E dX9_next_138 ?_
              refine k_iadd (pc := 139) E dX9_next_139 ?_
              refine k_putfI (pc := 140) (q0 := 0) (f := 16) (k := 16) E tyX9 tyX9_ok nmX9 inX9 rfl rfl (by decide) wm_914 rfl rfl rfl (Nat.le_of_ble_eq_true rfl) rfl rfl (by omega) dX9_next_140 ?_
              obtain ⟨s277, hs277, hT⟩ := glx hT
              refine k_sg hs277.symm ?_
              have hf_s277 : fr [16, 17, 18, 19] s0 s277 := hs277 ▸ hf_s264.set (by decide)
              have ht278 : s277 4 0 = s264 4 0 := by rw [hs277]; exact mset_ne _ _ _ _ _ (by decide)
              have ht279 : s277 16 0 = ((s264 16 0) + 1) := by rw [hs277]; exact mset_eq _ _ _ _
              have ht280 : s277 17 0 = s264 17 0 := by rw [hs277]; exact mset_ne _ _ _ _ _ (by decide)
              have ht281 : s277 18 0 = s264 18 0 := by rw [hs277]; exact mset_ne _ _ _ _ _ (by decide)
              have ht282 : s277 19 0 = s264 19 0 := by rw [hs277]; exact mset_ne _ _ _ _ _ (by decide)
              refine k_goto (pc := 143) (tgt := 103) E dX9_next_143 (by decide) ?_
              exact ih  s277 ⟨hf_s277, (by first | assumption | omega), (by first | assumption | omega), (by first | assumption | omega), (by first | assumption | omega), (by first | assumption | omega), (by first | assumption | omega), (by first | assumption | omega)⟩ (by omega) (fun  s267 hw hi => hk  s267 (hT.trans hw) hi)
          · replace hT := hT.trans (if_neg h270)
            refine k_icmp_ge_t (pc := 111) (tgt := 146) E (by omega) (by omega) dX9_next_111 (by decide) h270 ?_
            exact hk  s264 hT ⟨hf_s264, (by first | assumption | omega), (by first | assumption | omega), (by first | assumption | omega), (by first | assumption | omega), (by first | assumption | omega), (by first | assumption | omega), (by first | assumption | omega), (by first | assumption | omega)⟩
      refine k_lv (lv' := [(0, .ref (a 0))]) [1] rfl ?_
      refine L265 161  s70 ⟨hf_s70, (by first | assumption | omega), (by first | assumption | omega), (by first | assumption | omega), (by first | assumption | omega), (by first | assumption | omega), (by first | assumption | omega), (by first | assumption | omega)⟩ (by omega) (fun  s297 hw hq => ?_)
      obtain ⟨hf_s297, hq298, hq299, hq300, hq301, hq302, hq303, hq304, hq305⟩ := hq
      replace hT := gl1y hT hw
      refine k_aloadn (pc := 146) E 0 dX9_next_146 rfl rfl ?_
      refine k_aloadn (pc := 147) E 0 dX9_next_147 rfl rfl ?_
      refine k_getfI (pc := 148) (q0 := 0) (f := 17) (k := 17) E inX9 rfl rfl (by decide) wm_915 rfl rfl rfl dX9_next_148 (fun hr306 => ?_)
      refine k_aloadn (pc := 151) E 0 dX9_next_151 rfl rfl ?_
      refine k_getfI (pc := 152) (q0 := 0) (f := 16) (k := 16) E inX9 rfl rfl (by decide) wm_914 rfl rfl rfl dX9_next_152 (fun hr307 => ?_)
      refine k_mr (fun hm_s297 => ?_)
      refine k_callV (pc := 155) (np := 2) (As := [gI (s297 17 0), gI (s297 16 0)]) (st := []) (q0 := 0) E (c_X9_wordFrom l D a cI cJ cS cT s297 (s297 17 0) (s297 16 0) (by omega) (by omega) (by first | assumption | omega)) wm_865 wm_11 wm_862 wm_864 wp_26 (by decide +kernel) rfl rfl ⟨by decide, by decide⟩ rfl (Nat.le_of_ble_eq_true rfl) dX9_next_155 (ro_kk (fun hr308 => ?_))
      have hp309 := f_X9_wordFrom_p (s297 17 0) (s297 16 0) s297 (by omega) (by omega) hm_s297 (by first | assumption | omega)
      refine k_st (st' := [gI (f_X9_wordFrom (s297 17 0) (s297 16 0) s297)]) rfl ?_
      obtain ⟨v310, hv310, hT⟩ := glx hT
      refine k_st (st' := [gI v310]) (by rw [hv310]) ?_
      refine k_istoren (pc := 158) (lv' := [(2, gI v310), (0, .ref (a 0))]) E dX9_next_158 rfl (by decide) rfl ?_
      refine k_aloadn (pc := 159) E 1 dX9_next_159 rfl rfl ?_
      refine k_iloadn (pc := 160) E 0 dX9_next_160 rfl rfl ?_
      refine k_iconst (pc := 161) E dX9_next_161 ?_
      obtain ⟨z332, hz332, hT⟩ := gl1x hT
      have j312 : ∀ (v313 : Int), ((in32 v313)) → z332 = v313 → gK D vwCl (wdM a cI cJ) lgM A p l e { frames := 2, cells := 0, slots := 0, locals := 128 } s m args below meth c 3 (gQQ D vwCl (wdM a cI cJ) lgM A kV rgV below args s) (f_X9_next s0) s297 195 [(0, .ref (a 0)), (2, gI v310)] [gI v313, .ref (a 0)] := by
        intro v313 hq hz
        have hq331 := hq
        replace hT := gl1y hT hz
        refine k_putfI (pc := 195) (q0 := 0) (f := 18) (k := 18) E tyX9 tyX9_ok nmX9 inX9 rfl rfl (by decide) wm_916 rfl rfl rfl (Nat.le_of_ble_eq_true rfl) rfl rfl (by omega) dX9_next_195 ?_
        obtain ⟨s314, hs314, hT⟩ := glx hT
        refine k_sg hs314.symm ?_
        have hf_s314 : fr [16, 17, 18, 19] s0 s314 := hs314 ▸ hf_s297.set (by decide)
        have ht315 : s314 4 0 = s297 4 0 := by rw [hs314]; exact mset_ne _ _ _ _ _ (by decide)
        have ht316 : s314 16 0 = s297 16 0 := by rw [hs314]; exact mset_ne _ _ _ _ _ (by decide)
        have ht317 : s314 17 0 = s297 17 0 := by rw [hs314]; exact mset_ne _ _ _ _ _ (by decide)
        have ht318 : s314 18 0 = v313 := by rw [hs314]; exact mset_eq _ _ _ _
        have ht319 : s314 19 0 = s297 19 0 := by rw [hs314]; exact mset_ne _ _ _ _ _ (by decide)
        refine k_aloadn (pc := 198) E 0 dX9_next_198 rfl rfl ?_
        refine k_iloadn (pc := 199) E 1 dX9_next_199 rfl rfl ?_
        refine k_iconst (pc := 200) E dX9_next_200 ?_
        obtain ⟨z330, hz330, hT⟩ := gl1x hT
        have j321 : ∀ (v322 : Int), ((in32 v322)) → z330 = v322 → gK D vwCl (wdM a cI cJ) lgM A p l e { frames := 2, cells := 0, slots := 0, locals := 128 } s m args below meth c 3 (gQQ D vwCl (wdM a cI cJ) lgM A kV rgV below args s) (f_X9_next s0) s314 211 [] [gI v322, .ref (a 0)] := by
          intro v322 hq hz
          have hq329 := hq
          replace hT := gl1y hT hz
          refine k_putfI (pc := 211) (q0 := 0) (f := 19) (k := 19) E tyX9 tyX9_ok nmX9 inX9 rfl rfl (by decide) wm_917 rfl rfl rfl (Nat.le_of_ble_eq_true rfl) rfl rfl (by omega) dX9_next_211 ?_
          obtain ⟨s323, hs323, hT⟩ := glx hT
          refine k_sg hs323.symm ?_
          have hf_s323 : fr [16, 17, 18, 19] s0 s323 := hs323 ▸ hf_s314.set (by decide)
          have ht324 : s323 4 0 = s314 4 0 := by rw [hs323]; exact mset_ne _ _ _ _ _ (by decide)
          have ht325 : s323 16 0 = s314 16 0 := by rw [hs323]; exact mset_ne _ _ _ _ _ (by decide)
          have ht326 : s323 17 0 = s314 17 0 := by rw [hs323]; exact mset_ne _ _ _ _ _ (by decide)
          have ht327 : s323 18 0 = s314 18 0 := by rw [hs323]; exact mset_ne _ _ _ _ _ (by decide)
          have ht328 : s323 19 0 = v322 := by rw [hs323]; exact mset_eq _ _ _ _
          refine k_goto (pc := 214) (tgt := 403) E dX9_next_214 (by decide) ?_
          exact k_rho hT (k_vret (pc := 403) E dX9_next_403)
        replace hT := hz330
        by_cases h320 : v310 < 3
        · replace hT := hT.trans (if_pos h320)
          refine k_icmp_ge_f (pc := 201) (tgt := 208) E (by omega) (by omega) dX9_next_201 (by decide) h320 ?_
          refine k_iloadn (pc := 204) E 1 dX9_next_204 rfl rfl ?_
          refine k_goto (pc := 205) (tgt := 211) E dX9_next_205 (by decide) ?_
          refine k_lv (lv' := []) [] rfl ?_
          exact j321 v310 (by omega) hT
        · replace hT := hT.trans (if_neg h320)
          refine k_icmp_ge_t (pc := 201) (tgt := 208) E (by omega) (by omega) dX9_next_201 (by decide) h320 ?_
          refine k_iloadn (pc := 208) E 1 dX9_next_208 rfl rfl ?_
          refine k_iconst (pc := 209) E dX9_next_209 ?_
          refine k_isub (pc := 210) E dX9_next_210 ?_
          refine k_lv (lv' := []) [] rfl ?_
          exact j321 (v310 - 3) (by omega) hT
      replace hT := hz332
      by_cases h311 : v310 < 3
      · replace hT := hT.trans (if_pos h311)
        refine k_icmp_ge_f (pc := 162) (tgt := 169) E (by omega) (by omega) dX9_next_162 (by decide) h311 ?_
        refine k_iconst (pc := 165) E dX9_next_165 ?_
        refine k_goto (pc := 166) (tgt := 195) E dX9_next_166 (by decide) ?_
        refine k_lv (lv' := [(0, .ref (a 0)), (2, gI v310)]) [1, 0] rfl ?_
        exact j312 3 (by omega) hT
      · replace hT := hT.trans (if_neg h311)
        refine k_icmp_ge_t (pc := 162) (tgt := 169) E (by omega) (by omega) dX9_next_162 (by decide) h311 ?_
        refine k_iloadn (pc := 169) E 0 dX9_next_169 rfl rfl ?_
        refine k_bipush (pc := 170) E dX9_next_170 (by decide) ?_
        by_cases h333 : v310 < 9
        · replace hT := hT.trans (if_pos h333)
          refine k_icmp_ge_f (pc := 172) (tgt := 179) E (by omega) (by omega) dX9_next_172 (by decide) h333 ?_
          refine k_iconst (pc := 175) E dX9_next_175 ?_
          refine k_goto (pc := 176) (tgt := 195) E dX9_next_176 (by decide) ?_
          refine k_lv (lv' := [(0, .ref (a 0)), (2, gI v310)]) [1, 0] rfl ?_
          exact j312 2 (by omega) hT
        · replace hT := hT.trans (if_neg h333)
          refine k_icmp_ge_t (pc := 172) (tgt := 179) E (by omega) (by omega) dX9_next_172 (by decide) h333 ?_
          refine k_iloadn (pc := 179) E 0 dX9_next_179 rfl rfl ?_
          refine k_bipush (pc := 180) E dX9_next_180 (by decide) ?_
          by_cases h334 : v310 = 12
          · replace hT := hT.trans (if_pos h334)
            refine k_icmp_ne_f (pc := 182) (tgt := 189) E (by omega) (by omega) dX9_next_182 (by decide) h334 ?_
            refine k_iconst (pc := 185) E dX9_next_185 ?_
            refine k_goto (pc := 186) (tgt := 195) E dX9_next_186 (by decide) ?_
            refine k_lv (lv' := [(0, .ref (a 0)), (2, gI v310)]) [1, 0] rfl ?_
            exact j312 (-1) (by omega) hT
          · replace hT := hT.trans (if_neg h334)
            refine k_icmp_ne_t (pc := 182) (tgt := 189) E (by omega) (by omega) dX9_next_182 (by decide) h334 ?_
            refine k_iconst (pc := 189) E dX9_next_189 ?_
            refine k_iloadn (pc := 190) E 0 dX9_next_190 rfl rfl ?_
            refine k_iadd (pc := 191) E dX9_next_191 ?_
            refine k_bipush (pc := 192) E dX9_next_192 (by decide) ?_
            refine k_isub (pc := 194) E dX9_next_194 ?_
            refine k_lv (lv' := [(0, .ref (a 0)), (2, gI v310)]) [1, 0] rfl ?_
            exact j312 ((4 + v310) - 9) (by omega) hT

def f_X9_holds (x0 : Int) (s0 : gMem) : gRes := gl (mset s0 21 (s0 22 0) x0) (fun s2 => gl (mset s2 22 0 ((s2 22 0) + 1)) (fun s5 => (0, s5)))
theorem f_X9_holds_e (x0 : Int) (s0 : gMem) : f_X9_holds x0 s0 = gl (mset s0 21 (s0 22 0) x0) (fun s2 => gl (mset s2 22 0 ((s2 22 0) + 1)) (fun s5 => (0, s5))) := rfl
set_option maxRecDepth 100000 in
set_option maxHeartbeats 4000000 in
theorem f_X9_holds_p (x0 : Int) (s0 : gMem) (hx0 : in32 x0) (hm_s0 : gMR lgM s0) (hpre0 : 0 ≤ s0 22 0 ∧ s0 22 0 ≤ 199) (rZ : Int) (sZ : gMem) (hres : f_X9_holds x0 s0 = (rZ, sZ)) : (fr [21, 22] s0 sZ) ∧ (gMR lgM sZ) ∧ (True) ∧ (sZ 22 0 = s0 22 0 + 1) ∧ (∀ i, sZ 21 i = if i = s0 22 0 then x0 else s0 21 i) := by
  have hT := f_X9_holds_e x0 s0
  have hf_s0 : fr [21, 22] s0 s0 := fr.rf _ _
  have hr1 := (hm_s0 22 0).1 rfl
  obtain ⟨s2, hs2, hT⟩ := glx hT
  have hf_s2 : fr [21, 22] s0 s2 := hs2 ▸ hf_s0.set (by decide)
  have hm_s2 : gMR lgM s2 := hs2 ▸ hm_s0.set32 rfl (by omega)
  have ht3 : s2 22 0 = s0 22 0 := by rw [hs2]; exact mset_ne _ _ _ _ _ (by decide)
  have hr4 := (hm_s2 22 0).1 rfl
  obtain ⟨s5, hs5, hT⟩ := glx hT
  have hf_s5 : fr [21, 22] s0 s5 := hs5 ▸ hf_s2.set (by decide)
  have hm_s5 : gMR lgM s5 := hs5 ▸ hm_s2.set32 rfl (by omega)
  have ht6 : s5 22 0 = ((s2 22 0) + 1) := by rw [hs5]; exact mset_eq _ _ _ _
  obtain ⟨rfl, rfl⟩ := Prod.mk.inj (hT.symm.trans hres)
  exact ⟨hf_s5, hm_s5, trivial, (by first | assumption | omega), (by intro i; subst_vars; rw [mset_ne _ _ _ _ _ (by decide), mset_at])⟩
set_option maxRecDepth 100000 in
set_option maxHeartbeats 4000000 in
theorem c_X9_holds (l : Launch) (D : va_G) (a : Nat → Nat) (cI cJ cS cT : ClassId) (s0 : gMem) (x0 : Int) (hx0 : in32 x0) (hpre0 : 0 ≤ s0 22 0 ∧ s0 22 0 ≤ 199) : gC l yX9_holds cX9_holds 2 none 1 64 D vwCl (gT cI cJ cS cT) (wdM a cI cJ) lgM kV rgV [.ref (a 0), gI x0] s0 (f_X9_holds x0 s0) := by
  refine gC_of (by decide +kernel) (hwdM a cI cJ) (Nat.le_of_ble_eq_true rfl) ?_
  intro A p e R s m args below meth c hR E
  subst hR
  have hT := f_X9_holds_e x0 s0
  have hf_s0 : fr [21, 22] s0 s0 := fr.rf _ _
  refine k_lv0 (lv' := [(0, .ref (a 0)), (1, gI x0)]) rfl ?_
  refine k_mr (fun hm_s0 => ?_)
  refine k_aloadn (pc := 0) E 0 dX9_holds_0 rfl rfl ?_
  refine k_getf (pc := 1) (q0 := 0) (f := 21) (v := .ref (a 13)) E inX9 rfl rfl (by decide) wm_919 rfl rfl dX9_holds_1 ?_
  refine k_aloadn (pc := 4) E 0 dX9_holds_4 rfl rfl ?_
  refine k_getfI (pc := 5) (q0 := 0) (f := 22) (k := 22) E inX9 rfl rfl (by decide) wm_920 rfl rfl rfl dX9_holds_5 (fun hr1 => ?_)
  refine k_iloadn (pc := 8) E 1 dX9_holds_8 rfl rfl ?_
  refine k_iastore (pc := 9) (q0 := 13) (t0 := 0) (k := 21) (n := 200) E rfl rfl rfl rfl (by decide) (by omega) (by omega) (by omega) dX9_holds_9 ?_
  obtain ⟨s2, hs2, hT⟩ := glx hT
  refine k_sg hs2.symm ?_
  have hf_s2 : fr [21, 22] s0 s2 := hs2 ▸ hf_s0.set (by decide)
  have ht3 : s2 22 0 = s0 22 0 := by rw [hs2]; exact mset_ne _ _ _ _ _ (by decide)
  refine k_aloadn (pc := 10) E 0 dX9_holds_10 rfl rfl ?_
  refine k_dup (pc := 11) E dX9_holds_11 rfl ?_
  refine k_getfI (pc := 12) (q0 := 0) (f := 22) (k := 22) E inX9 rfl rfl (by decide) wm_920 rfl rfl rfl dX9_holds_12 (fun hr4 => ?_)
  refine k_iconst (pc := 15) E dX9_holds_15 ?_
  refine k_iadd (pc := 16) E dX9_holds_16 ?_
  refine k_putfI (pc := 17) (q0 := 0) (f := 22) (k := 22) E tyX9 tyX9_ok nmX9 inX9 rfl rfl (by decide) wm_920 rfl rfl rfl (Nat.le_of_ble_eq_true rfl) rfl rfl (by omega) dX9_holds_17 ?_
  obtain ⟨s5, hs5, hT⟩ := glx hT
  refine k_sg hs5.symm ?_
  have hf_s5 : fr [21, 22] s0 s5 := hs5 ▸ hf_s2.set (by decide)
  have ht6 : s5 22 0 = ((s2 22 0) + 1) := by rw [hs5]; exact mset_eq _ _ _ _
  exact k_rho hT (k_vret (pc := 20) E dX9_holds_20)

def f_X9_puts (x0 : Int) (s0 : gMem) : gRes := gl (mset s0 5 ((200 * (s0 7 0)) + (s0 24 0)) x0) (fun s3 => gl (mset s3 24 0 ((s3 24 0) + 1)) (fun s6 => (0, s6)))
theorem f_X9_puts_e (x0 : Int) (s0 : gMem) : f_X9_puts x0 s0 = gl (mset s0 5 ((200 * (s0 7 0)) + (s0 24 0)) x0) (fun s3 => gl (mset s3 24 0 ((s3 24 0) + 1)) (fun s6 => (0, s6))) := rfl
set_option maxRecDepth 100000 in
set_option maxHeartbeats 4000000 in
theorem f_X9_puts_p (x0 : Int) (s0 : gMem) (hx0 : in32 x0) (hm_s0 : gMR lgM s0) (hpre0 : 0 ≤ s0 24 0 ∧ s0 24 0 ≤ 199) (hpre1 : 0 ≤ s0 7 0 ∧ s0 7 0 ≤ 5) (rZ : Int) (sZ : gMem) (hres : f_X9_puts x0 s0 = (rZ, sZ)) : (fr [5, 24] s0 sZ) ∧ (gMR lgM sZ) ∧ (True) ∧ (sZ 24 0 = s0 24 0 + 1) ∧ (∀ i, sZ 5 i = if i = 200 * s0 7 0 + s0 24 0 then x0 else s0 5 i) := by
  have hT := f_X9_puts_e x0 s0
  have hf_s0 : fr [5, 24] s0 s0 := fr.rf _ _
  have hr1 := (hm_s0 7 0).1 rfl
  have hr2 := (hm_s0 24 0).1 rfl
  obtain ⟨s3, hs3, hT⟩ := glx hT
  have hf_s3 : fr [5, 24] s0 s3 := hs3 ▸ hf_s0.set (by decide)
  have hm_s3 : gMR lgM s3 := hs3 ▸ hm_s0.set32 rfl (by omega)
  have ht4 : s3 24 0 = s0 24 0 := by rw [hs3]; exact mset_ne _ _ _ _ _ (by decide)
  have hr5 := (hm_s3 24 0).1 rfl
  obtain ⟨s6, hs6, hT⟩ := glx hT
  have hf_s6 : fr [5, 24] s0 s6 := hs6 ▸ hf_s3.set (by decide)
  have hm_s6 : gMR lgM s6 := hs6 ▸ hm_s3.set32 rfl (by omega)
  have ht7 : s6 24 0 = ((s3 24 0) + 1) := by rw [hs6]; exact mset_eq _ _ _ _
  obtain ⟨rfl, rfl⟩ := Prod.mk.inj (hT.symm.trans hres)
  exact ⟨hf_s6, hm_s6, trivial, (by first | assumption | omega), (by intro i; subst_vars; rw [mset_ne _ _ _ _ _ (by decide), mset_at])⟩
set_option maxRecDepth 100000 in
set_option maxHeartbeats 4000000 in
theorem c_X9_puts (l : Launch) (D : va_G) (a : Nat → Nat) (cI cJ cS cT : ClassId) (s0 : gMem) (x0 : Int) (hx0 : in32 x0) (hpre0 : 0 ≤ s0 24 0 ∧ s0 24 0 ≤ 199) (hpre1 : 0 ≤ s0 7 0 ∧ s0 7 0 ≤ 5) : gC l yX9_puts cX9_puts 2 none 1 64 D vwCl (gT cI cJ cS cT) (wdM a cI cJ) lgM kV rgV [.ref (a 0), gI x0] s0 (f_X9_puts x0 s0) := by
  refine gC_of (by decide +kernel) (hwdM a cI cJ) (Nat.le_of_ble_eq_true rfl) ?_
  intro A p e R s m args below meth c hR E
  subst hR
  have hT := f_X9_puts_e x0 s0
  have hf_s0 : fr [5, 24] s0 s0 := fr.rf _ _
  refine k_lv0 (lv' := [(0, .ref (a 0)), (1, gI x0)]) rfl ?_
  refine k_mr (fun hm_s0 => ?_)
  refine k_aloadn (pc := 0) E 0 dX9_puts_0 rfl rfl ?_
  refine k_getf (pc := 1) (q0 := 0) (f := 5) (v := .ref (a 5)) E inX9 rfl rfl (by decide) wm_903 rfl rfl dX9_puts_1 ?_
  refine k_sipush (pc := 4) E dX9_puts_4 (by decide) ?_
  refine k_aloadn (pc := 7) E 0 dX9_puts_7 rfl rfl ?_
  refine k_getfI (pc := 8) (q0 := 0) (f := 7) (k := 7) E inX9 rfl rfl (by decide) wm_905 rfl rfl rfl dX9_puts_8 (fun hr1 => ?_)
  refine k_imul (pc := 11) E dX9_puts_11 ?_
  refine k_aloadn (pc := 12) E 0 dX9_puts_12 rfl rfl ?_
  refine k_getfI (pc := 13) (q0 := 0) (f := 24) (k := 24) E inX9 rfl rfl (by decide) wm_922 rfl rfl rfl dX9_puts_13 (fun hr2 => ?_)
  refine k_iadd (pc := 16) E dX9_puts_16 ?_
  refine k_iloadn (pc := 17) E 1 dX9_puts_17 rfl rfl ?_
  refine k_iastore (pc := 18) (q0 := 5) (t0 := 0) (k := 5) (n := 1200) E rfl rfl rfl rfl (by decide) (by omega) (by omega) (by omega) dX9_puts_18 ?_
  obtain ⟨s3, hs3, hT⟩ := glx hT
  refine k_sg hs3.symm ?_
  have hf_s3 : fr [5, 24] s0 s3 := hs3 ▸ hf_s0.set (by decide)
  have ht4 : s3 24 0 = s0 24 0 := by rw [hs3]; exact mset_ne _ _ _ _ _ (by decide)
  refine k_aloadn (pc := 19) E 0 dX9_puts_19 rfl rfl ?_
  refine k_dup (pc := 20) E dX9_puts_20 rfl ?_
  refine k_getfI (pc := 21) (q0 := 0) (f := 24) (k := 24) E inX9 rfl rfl (by decide) wm_922 rfl rfl rfl dX9_puts_21 (fun hr5 => ?_)
  refine k_iconst (pc := 24) E dX9_puts_24 ?_
  refine k_iadd (pc := 25) E dX9_puts_25 ?_
  refine k_putfI (pc := 26) (q0 := 0) (f := 24) (k := 24) E tyX9 tyX9_ok nmX9 inX9 rfl rfl (by decide) wm_922 rfl rfl rfl (Nat.le_of_ble_eq_true rfl) rfl rfl (by omega) dX9_puts_26 ?_
  obtain ⟨s6, hs6, hT⟩ := glx hT
  refine k_sg hs6.symm ?_
  have hf_s6 : fr [5, 24] s0 s6 := hs6 ▸ hf_s3.set (by decide)
  have ht7 : s6 24 0 = ((s3 24 0) + 1) := by rw [hs6]; exact mset_eq _ _ _ _
  exact k_rho hT (k_vret (pc := 29) E dX9_puts_29)

def f_X9_opensOne (x0 : Int) (s0 : gMem) : gRes := (if (s0 23 0) = 5 then (0, s0) else gl (mset s0 23 0 ((s0 23 0) + 1)) (fun s4 => gb (f_X9_holds x0 s4) (fun r8 s9 => (1, s9))))
theorem f_X9_opensOne_e (x0 : Int) (s0 : gMem) : f_X9_opensOne x0 s0 = (if (s0 23 0) = 5 then (0, s0) else gl (mset s0 23 0 ((s0 23 0) + 1)) (fun s4 => gb (f_X9_holds x0 s4) (fun r8 s9 => (1, s9)))) := rfl
set_option maxRecDepth 100000 in
set_option maxHeartbeats 4000000 in
theorem f_X9_opensOne_p (x0 : Int) (s0 : gMem) (hx0 : in32 x0) (hm_s0 : gMR lgM s0) (hpre0 : 0 ≤ s0 22 0 ∧ s0 22 0 ≤ 199) (hpre1 : -1000 ≤ s0 23 0 ∧ s0 23 0 ≤ 5) (rZ : Int) (sZ : gMem) (hres : f_X9_opensOne x0 s0 = (rZ, sZ)) : (fr [21, 22, 23] s0 sZ) ∧ (gMR lgM sZ) ∧ ((rZ = 0 ∨ rZ = 1)) ∧ ((rZ = 0 ∧ sZ 22 0 = s0 22 0 ∧ sZ 23 0 = s0 23 0 ∧ sZ 21 = s0 21) ∨ (rZ = 1 ∧ sZ 22 0 = s0 22 0 + 1 ∧ sZ 23 0 = s0 23 0 + 1 ∧ sZ 23 0 ≤ 5 ∧ ∀ i, sZ 21 i = if i = s0 22 0 then x0 else s0 21 i)) := by
  have hT := f_X9_opensOne_e x0 s0
  have hf_s0 : fr [21, 22, 23] s0 s0 := fr.rf _ _
  have hr1 := (hm_s0 23 0).1 rfl
  by_cases h2 : (s0 23 0) = 5
  · replace hT := hT.trans (if_pos h2)
    obtain ⟨rfl, rfl⟩ := Prod.mk.inj (hT.symm.trans hres)
    exact ⟨hf_s0, hm_s0, (by first | exact Or.inl rfl | exact Or.inr rfl | omega), (Or.inl ⟨rfl, rfl, rfl, rfl⟩)⟩
  · replace hT := hT.trans (if_neg h2)
    have hr3 := (hm_s0 23 0).1 rfl
    obtain ⟨s4, hs4, hT⟩ := glx hT
    have hf_s4 : fr [21, 22, 23] s0 s4 := hs4 ▸ hf_s0.set (by decide)
    have hm_s4 : gMR lgM s4 := hs4 ▸ hm_s0.set32 rfl (by omega)
    have ht5 : s4 22 0 = s0 22 0 := by rw [hs4]; exact mset_ne _ _ _ _ _ (by decide)
    have ht6 : s4 23 0 = ((s0 23 0) + 1) := by rw [hs4]; exact mset_eq _ _ _ _
    have htf21_s4 : s4 21 = s0 21 := (by rw [hs4]; exact mset_nf (by decide))
    obtain ⟨r8, s9, hs9⟩ : ∃ rr ss, (f_X9_holds x0 s4) = (rr, ss) := ⟨_, _, rfl⟩
    replace hT := gby hT hs9
    have hp10 := f_X9_holds_p x0 s4 (by omega) hm_s4 (by first | assumption | omega) r8 s9 hs9
    obtain ⟨hfc_s9, hm_s9, hp11, hp12, hp13⟩ := hp10
    have hf_s9 : fr [21, 22, 23] s0 s9 := hf_s4.call (by decide) hfc_s9
    have ht14 : s9 23 0 = s4 23 0 := by rw [hfc_s9 23 (by decide)]
    obtain ⟨rfl, rfl⟩ := Prod.mk.inj (hT.symm.trans hres)
    exact ⟨hf_s9, hm_s9, (by first | exact Or.inl rfl | exact Or.inr rfl | omega), (Or.inr ⟨rfl, by omega, by omega, by omega, OP1 (by assumption) (by assumption) (by omega)⟩)⟩
set_option maxRecDepth 100000 in
set_option maxHeartbeats 4000000 in
theorem c_X9_opensOne (l : Launch) (D : va_G) (a : Nat → Nat) (cI cJ cS cT : ClassId) (s0 : gMem) (x0 : Int) (hx0 : in32 x0) (hpre0 : 0 ≤ s0 22 0 ∧ s0 22 0 ≤ 199) (hpre1 : -1000 ≤ s0 23 0 ∧ s0 23 0 ≤ 5) : gC l yX9_opensOne cX9_opensOne 2 (some .boolean) 2 128 D vwCl (gT cI cJ cS cT) (wdM a cI cJ) lgM kI rgZ [.ref (a 0), gI x0] s0 (f_X9_opensOne x0 s0) := by
  refine gC_of (by decide +kernel) (hwdM a cI cJ) (Nat.le_of_ble_eq_true rfl) ?_
  intro A p e R s m args below meth c hR E
  subst hR
  have hT := f_X9_opensOne_e x0 s0
  have hf_s0 : fr [21, 22, 23] s0 s0 := fr.rf _ _
  refine k_lv0 (lv' := [(0, .ref (a 0)), (1, gI x0)]) rfl ?_
  refine k_mr (fun hm_s0 => ?_)
  refine k_aloadn (pc := 0) E 0 dX9_opensOne_0 rfl rfl ?_
  refine k_getfI (pc := 1) (q0 := 0) (f := 23) (k := 23) E inX9 rfl rfl (by decide) wm_921 rfl rfl rfl dX9_opensOne_1 (fun hr1 => ?_)
  refine k_iconst (pc := 4) E dX9_opensOne_4 ?_
  by_cases h2 : (s0 23 0) = 5
  · replace hT := hT.trans (if_pos h2)
    refine k_icmp_ne_f (pc := 5) (tgt := 10) E (by omega) (by omega) dX9_opensOne_5 (by decide) h2 ?_
    refine k_iconst (pc := 8) E dX9_opensOne_8 ?_
    exact k_rho hT (k_zret (pc := 9) E dX9_opensOne_9 (by first | exact Or.inl rfl | exact Or.inr rfl | omega))
  · replace hT := hT.trans (if_neg h2)
    refine k_icmp_ne_t (pc := 5) (tgt := 10) E (by omega) (by omega) dX9_opensOne_5 (by decide) h2 ?_
    refine k_aloadn (pc := 10) E 0 dX9_opensOne_10 rfl rfl ?_
    refine k_dup (pc := 11) E dX9_opensOne_11 rfl ?_
    refine k_getfI (pc := 12) (q0 := 0) (f := 23) (k := 23) E inX9 rfl rfl (by decide) wm_921 rfl rfl rfl dX9_opensOne_12 (fun hr3 => ?_)
    refine k_iconst (pc := 15) E dX9_opensOne_15 ?_
    refine k_iadd (pc := 16) E dX9_opensOne_16 ?_
    refine k_putfI (pc := 17) (q0 := 0) (f := 23) (k := 23) E tyX9 tyX9_ok nmX9 inX9 rfl rfl (by decide) wm_921 rfl rfl rfl (Nat.le_of_ble_eq_true rfl) rfl rfl (by omega) dX9_opensOne_17 ?_
    obtain ⟨s4, hs4, hT⟩ := glx hT
    refine k_sg hs4.symm ?_
    have hf_s4 : fr [21, 22, 23] s0 s4 := hs4 ▸ hf_s0.set (by decide)
    have ht5 : s4 22 0 = s0 22 0 := by rw [hs4]; exact mset_ne _ _ _ _ _ (by decide)
    have ht6 : s4 23 0 = ((s0 23 0) + 1) := by rw [hs4]; exact mset_eq _ _ _ _
    have htf21_s4 : s4 21 = s0 21 := (by rw [hs4]; exact mset_nf (by decide))
    refine k_aloadn (pc := 20) E 0 dX9_opensOne_20 rfl rfl ?_
    refine k_iloadn (pc := 21) E 1 dX9_opensOne_21 rfl rfl ?_
    refine k_mr (fun hm_s4 => ?_)
    refine k_callV (pc := 22) (np := 1) (As := [gI x0]) (st := []) (q0 := 0) E (c_X9_holds l D a cI cJ cS cT s4 x0 (by omega) (by first | assumption | omega)) wm_889 wm_11 wm_886 wm_888 wp_31 (by decide +kernel) rfl rfl ⟨by decide, by decide⟩ rfl (Nat.le_of_ble_eq_true rfl) dX9_opensOne_22 (fun r8 s9 hs9 hr7 => ?_)
    replace hT := gby hT hs9
    have hp10 := f_X9_holds_p x0 s4 (by omega) hm_s4 (by first | assumption | omega) r8 s9 hs9
    obtain ⟨hfc_s9, hm_s9, hp11, hp12, hp13⟩ := hp10
    have hf_s9 : fr [21, 22, 23] s0 s9 := hf_s4.call (by decide) hfc_s9
    have ht14 : s9 23 0 = s4 23 0 := by rw [hfc_s9 23 (by decide)]
    refine k_st (st' := []) rfl ?_
    refine k_iconst (pc := 25) E dX9_opensOne_25 ?_
    exact k_rho hT (k_zret (pc := 26) E dX9_opensOne_26 (by first | exact Or.inl rfl | exact Or.inr rfl | omega))
