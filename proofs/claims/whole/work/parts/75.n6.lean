section
def tm0 : gMem := fun k i => if k = 3 then xsm lawL 31 i else if k = 4 then (if i = 0 then 31 else 0) else if k = 12 then xsm neg4 4 i else if k = 15 then xsm lawL 31 i else if k = 20 then xsm wordL 96 i else 0
set_option maxRecDepth 100000 in
set_option maxHeartbeats 4000000 in
theorem wdM_tm0 (a : Nat → Nat) (cI cJ : ClassId) : wdM a cI cJ tm0 = [(a 0, .inr (9, [.ref (a 1), .ref (a 2), .ref (a 3), .ref (a 4), gI 31, .ref (a 5), .ref (a 6), gI 0, gI 0, gI 0, gI 0, .ref (a 7), .ref (a 8), .ref (a 9), .ref (a 10), .ref (a 11), gI 0, gI 0, gI 0, gI 0, .ref (a 12), .ref (a 13), gI 0, gI 0, gI 0, .ref (a 14), .ref (a 15), .ref (a 16), .ref (a 17), .ref (a 18), gI 0, gI 0, gI 0, gI 0, .ref (a 19), gI 0, gI 0, gI 0])), (a 1, .inl (cI, 16, .inl (fun _ => 0))), (a 2, .inl (cI, 16, .inl (fun _ => 0))), (a 3, .inl (cI, 4, .inl (fun _ => 0))), (a 4, .inl (cI, 160, .inl (xst lawL 31))), (a 5, .inl (cI, 1200, .inl (fun _ => 0))), (a 6, .inl (cI, 24, .inl (fun _ => 0))), (a 7, .inl (cI, 36, .inl (fun _ => 0))), (a 8, .inl (cI, 4, .inl (xst neg4 4))), (a 9, .inl (cI, 4, .inl (fun _ => 0))), (a 10, .inl (cI, 160, .inl (fun _ => 0))), (a 11, .inl (cI, 31, .inl (xst lawL 31))), (a 12, .inl (cI, 96, .inl (xst wordL 96))), (a 13, .inl (cI, 200, .inl (fun _ => 0))), (a 14, .inl (cI, 200, .inl (fun _ => 0))), (a 15, .inl (cI, 6, .inl (fun _ => 0))), (a 16, .inl (cI, 16, .inl (fun _ => 0))), (a 17, .inl (cI, 16, .inl (fun _ => 0))), (a 18, .inl (cI, 16, .inl (fun _ => 0))), (a 19, .inl (cJ, 16, .inr (.inl (fun _ => 0))))] := by
  have e3 : (fun j : Nat => Int32.ofInt (tm0 3 (j : Int))) = xst lawL 31 := xsm_st lawL 31
  have e12 : (fun j : Nat => Int32.ofInt (tm0 12 (j : Int))) = xst neg4 4 := xsm_st neg4 4
  have e15 : (fun j : Nat => Int32.ofInt (tm0 15 (j : Int))) = xst lawL 31 := xsm_st lawL 31
  have e20 : (fun j : Nat => Int32.ofInt (tm0 20 (j : Int))) = xst wordL 96 := xsm_st wordL 96
  unfold wdM
  rw [e3, e12, e15, e20]
  rfl
theorem xsm_in {L : List Int} (h : ∀ i : Nat, i < L.length → in32 (L.getD i 0)) (k : Nat) (i : Int) : in32 (xsm L k i) := by
  unfold xsm
  split
  · by_cases q : i.toNat < L.length
    · exact h _ q
    · rw [List.getD_eq_getElem?_getD, List.getElem?_eq_none (by omega)]
      exact ⟨by decide, by decide⟩
  · exact ⟨by decide, by decide⟩
theorem lawL_in : ∀ i : Nat, i < lawL.length → in32 (lawL.getD i 0) := by decide +kernel
theorem wordL_in : ∀ i : Nat, i < wordL.length → in32 (wordL.getD i 0) := by decide +kernel
theorem neg4_in : ∀ i : Nat, i < neg4.length → in32 (neg4.getD i 0) := by decide +kernel
theorem tm0_R : gMR lgM tm0 := by
  have z : in32 0 := ⟨by decide, by decide⟩
  have z1 : in32 31 := ⟨by decide, by decide⟩
  have h : ∀ k i, in32 (tm0 k i) := by
    intro k i
    unfold tm0
    split
    · exact xsm_in lawL_in _ _
    · split
      · split
        · exact z1
        · exact z
      · split
        · exact xsm_in neg4_in _ _
        · split
          · exact xsm_in lawL_in _ _
          · split
            · exact xsm_in wordL_in _ _
            · exact z
  exact fun k i => ⟨fun _ => h k i, fun _ => ⟨by have := h k i; omega, by have := h k i; omega⟩⟩
theorem tm0_VS : VS0 tm0 := ⟨by decide, by decide, by decide, by decide, fun t part h1 h2 => absurd (show t < 0 from h2) (by omega)⟩
theorem wn_11 : Cond.initialized RX9 ∈ gBIG := gm (List.mem_of_getElem? (i := 65) (by decide +kernel)) (by decide +kernel)
theorem wn_851 : Cond.methodLink RX9 72 yX9_text ∈ gBIG := gm (List.mem_of_getElem? (i := 905) (by decide +kernel)) (by decide +kernel)
theorem wn_852 : Cond.instanceMethod yX9_text ∈ gBIG := gm (List.mem_of_getElem? (i := 906) (by decide +kernel)) (by decide +kernel)
theorem wn_853 : Cond.selects RX9 yX9_text yX9_text ∈ gBIG := gm (List.mem_of_getElem? (i := 907) (by decide +kernel)) (by decide +kernel)
theorem wn_854 : Cond.code yX9_text cX9_text 3 (some .int) ∈ gBIG := gm (List.mem_of_getElem? (i := 908) (by decide +kernel)) (by decide +kernel)
set_option maxRecDepth 100000 in
set_option maxHeartbeats 4000000 in
theorem c_X9_init (l : Launch) (D : va_G) (cI cJ cS cT : ClassId) (h : Nat) : nC l yX9_init cX9_init 2 8 19 2221 512 D (gT cI cJ cS cT) [(h, .inr (9, [.null, .null, .null, .null, gI 0, .null, .null, gI 0, gI 0, gI 0, gI 0, .null, .null, .null, .null, .null, gI 0, gI 0, gI 0, gI 0, .null, .null, gI 0, gI 0, gI 0, .null, .null, .null, .null, .null, gI 0, gI 0, gI 0, gI 0, .null, gI 0, gI 0, gI 0]))] [.ref h] (fun u => wdM (hd h u) cI cJ (f_X9_text tm0).2) := by
  refine nC_of (by decide +kernel) (Nat.le_of_ble_eq_true rfl) ?_
  intro A p e R s m args below meth c hR hAe E
  subst hR
  refine n_lv [0] (lv' := [(0, .ref h)]) rfl ?_
  refine s_X9_0 h  E (fun q1 q2 q3 q4 q5 q6 q7 => ?_)
  refine s_X9_1 h q1 q2 q3 q4 q5 q6 q7 E (fun q8 q9 q10 => ?_)
  refine s_X9_2 h q1 q2 q3 q4 q5 q6 q7 q8 q9 q10 E (fun q11 => ?_)
  refine s_X9_3 h q1 q2 q3 q4 q5 q6 q7 q8 q9 q10 q11 E ?_
  refine s_X9_4 h q1 q2 q3 q4 q5 q6 q7 q8 q9 q10 q11 E (fun q12 => ?_)
  refine s_X9_5 h q1 q2 q3 q4 q5 q6 q7 q8 q9 q10 q11 q12 E ?_
  refine s_X9_6 h q1 q2 q3 q4 q5 q6 q7 q8 q9 q10 q11 q12 E ?_
  refine s_X9_7 h q1 q2 q3 q4 q5 q6 q7 q8 q9 q10 q11 q12 E ?_
  refine s_X9_8 h q1 q2 q3 q4 q5 q6 q7 q8 q9 q10 q11 q12 E (fun q13 q14 q15 q16 q17 q18 q19 => ?_)
  refine s_X9_9 h q1 q2 q3 q4 q5 q6 q7 q8 q9 q10 q11 q12 q13 q14 q15 q16 q17 q18 q19 E ?_
  refine s_X9_10 h q1 q2 q3 q4 q5 q6 q7 q8 q9 q10 q11 q12 q13 q14 q15 q16 q17 q18 q19 E ?_
  refine s_X9_11 h q1 q2 q3 q4 q5 q6 q7 q8 q9 q10 q11 q12 q13 q14 q15 q16 q17 q18 q19 E ?_
  refine s_X9_12 h q1 q2 q3 q4 q5 q6 q7 q8 q9 q10 q11 q12 q13 q14 q15 q16 q17 q18 q19 E ?_
  refine s_X9_13 h q1 q2 q3 q4 q5 q6 q7 q8 q9 q10 q11 q12 q13 q14 q15 q16 q17 q18 q19 E ?_
  refine s_X9_14 h q1 q2 q3 q4 q5 q6 q7 q8 q9 q10 q11 q12 q13 q14 q15 q16 q17 q18 q19 E ?_
  refine n_callG (pc := 957) (np := 0) (As := []) (st := []) (q0 := 0) (σ := tm0) (wr := []) E (c_X9_text0 l D (hd h (fun k => [q1, q2, q3, q4, q5, q6, q7, q8, q9, q10, q11, q12, q13, q14, q15, q16, q17, q18, q19].getD k 0)) cI cJ cS cT tm0 tm0_VS ⟨by decide, by decide⟩) (hwdM (hd h (fun k => [q1, q2, q3, q4, q5, q6, q7, q8, q9, q10, q11, q12, q13, q14, q15, q16, q17, q18, q19].getD k 0)) cI cJ) tm0_R rfl rfl wn_854 wn_11 wn_851 wn_852 wn_853 (by decide +kernel) ⟨Nat.le_of_ble_eq_true rfl, Nat.le_of_ble_eq_true rfl⟩ ⟨Nat.le_of_ble_eq_true rfl, Nat.le_of_ble_eq_true rfl⟩ rfl (Nat.le_of_ble_eq_true rfl) [0, 1, 2, 3, 4, 5, 6, 7, 8, 9, 10, 11, 12, 13, 14, 15, 16, 17, 18, 19] [] (by rw [wdM_tm0]; rfl) rfl rfl rfl (by decide) dX9_init_957 (fun _ _ => ?_)
  refine n_st (st' := [gI (f_X9_text tm0).1]) rfl ?_
  refine n_pop (pc := 960) E dX9_init_960 rfl ?_
  exact n_ret (pc := 961) E hAe (fun k => [q1, q2, q3, q4, q5, q6, q7, q8, q9, q10, q11, q12, q13, q14, q15, q16, q17, q18, q19].getD k 0) [0, 1, 2, 3, 4, 5, 6, 7, 8, 9, 10, 11, 12, 13, 14, 15, 16, 17, 18, 19] rfl rfl dX9_init_961
end
