section
theorem wn_19 : Cond.classLink RL 7 RX8 ∈ gBIG := gm (List.mem_of_getElem? (i := 73) (by decide +kernel)) (by decide +kernel)
theorem wn_20 : Cond.instantiable RX8 9 ∈ gBIG := gm (List.mem_of_getElem? (i := 74) (by decide +kernel)) (by decide +kernel)
theorem wn_21 : Cond.methodLink RL 9 yX8_init ∈ gBIG := gm (List.mem_of_getElem? (i := 75) (by decide +kernel)) (by decide +kernel)
theorem wn_22 : Cond.instanceMethod yX8_init ∈ gBIG := gm (List.mem_of_getElem? (i := 76) (by decide +kernel)) (by decide +kernel)
theorem wn_23 : Cond.code yX8_init cX8_init 2 none ∈ gBIG := gm (List.mem_of_getElem? (i := 77) (by decide +kernel)) (by decide +kernel)
theorem wn_845 : Cond.classLink RL 10 RX9 ∈ gBIG := gm (List.mem_of_getElem? (i := 899) (by decide +kernel)) (by decide +kernel)
theorem wn_846 : Cond.instantiable RX9 38 ∈ gBIG := gm (List.mem_of_getElem? (i := 900) (by decide +kernel)) (by decide +kernel)
theorem wn_847 : Cond.methodLink RL 12 yX9_init ∈ gBIG := gm (List.mem_of_getElem? (i := 901) (by decide +kernel)) (by decide +kernel)
theorem wn_848 : Cond.instanceMethod yX9_init ∈ gBIG := gm (List.mem_of_getElem? (i := 902) (by decide +kernel)) (by decide +kernel)
set_option maxRecDepth 100000 in
theorem wn_849 : Cond.code yX9_init cX9_init 2 none ∈ gBIG := gm (List.mem_append_right (k2_sels lw_privs) (List.mem_append_right tables_1_1 (List.mem_append_right tables_1_2 (List.mem_append_right tables_1_3 (List.mem_append_left (tables_1_5 ++ tables_1_6) (List.mem_of_getElem? (i := 129) rfl)))))) rfl
theorem lq_nest : ∀ w ∈ gNEST, w ∈ lw_tbl := by decide +kernel
theorem lq_nN : ∀ w ∈ nN, w ∈ lw_tbl := by decide +kernel
theorem lq_K {args : Array Value} {s : State} (hts : ∀ w ∈ lw_tbl, w.before args s = true) : ∃ (D : va_G) (cI cJ cS cT : ClassId), va_K D vwCl (gT cI cJ cS cT) s ∧ nX s := by
  have htB : ∀ w ∈ gBIG, w.before args s = true := fun w hw => hts w (List.mem_filter.mp hw).1
  have h0 : ∀ k : Nat, ∃ cd : ClassId × (Nat → Nat), ∀ q : vw_C, vwCl[k]? = some q → u_Kn s q.1 q.2.1 q.2.2 cd.1 cd.2 := by
    intro k
    match k with
    | 0 =>
      obtain ⟨cc, ii, hh⟩ := u_known (C := RX0) (T := TX0) (N := 5) (n := 5) htB inX0 (htB _ wn_226)
      exact ⟨(cc, ii), fun q hq => by cases hq; exact hh⟩
    | 1 =>
      obtain ⟨cc, ii, hh⟩ := u_known (C := RX1) (T := TX1) (N := 4) (n := 4) htB inX1 (htB _ wn_205)
      exact ⟨(cc, ii), fun q hq => by cases hq; exact hh⟩
    | 2 =>
      obtain ⟨cc, ii, hh⟩ := u_known (C := RX2) (T := TX2) (N := 8) (n := 8) htB inX2 (htB _ wn_169)
      exact ⟨(cc, ii), fun q hq => by cases hq; exact hh⟩
    | 3 =>
      obtain ⟨cc, ii, hh⟩ := u_known (C := RX3) (T := TX3) (N := 10) (n := 10) htB inX3 (htB _ wn_51)
      exact ⟨(cc, ii), fun q hq => by cases hq; exact hh⟩
    | 4 =>
      obtain ⟨cc, ii, hh⟩ := u_known (C := RX4) (T := TX4) (N := 6) (n := 6) htB inX4 (htB _ wn_91)
      exact ⟨(cc, ii), fun q hq => by cases hq; exact hh⟩
    | 5 =>
      obtain ⟨cc, ii, hh⟩ := u_known (C := RX5) (T := TX5) (N := 3) (n := 3) htB inX5 (htB _ wn_254)
      exact ⟨(cc, ii), fun q hq => by cases hq; exact hh⟩
    | 6 =>
      obtain ⟨cc, ii, hh⟩ := u_known (C := RX6) (T := TX6) (N := 7) (n := 7) htB inX6 (htB _ wn_97)
      exact ⟨(cc, ii), fun q hq => by cases hq; exact hh⟩
    | 7 =>
      obtain ⟨cc, ii, hh⟩ := u_known (C := RX7) (T := TX7) (N := 4) (n := 4) htB inX7 (htB _ wn_28)
      exact ⟨(cc, ii), fun q hq => by cases hq; exact hh⟩
    | 8 =>
      obtain ⟨cc, ii, hh⟩ := u_known (C := RX8) (T := TX8) (N := 9) (n := 9) htB inX8 (htB _ wn_20)
      exact ⟨(cc, ii), fun q hq => by cases hq; exact hh⟩
    | 9 =>
      obtain ⟨cc, ii, hh⟩ := u_known (C := RX9) (T := TX9) (N := 38) (n := 38) htB inX9 (htB _ wn_846)
      exact ⟨(cc, ii), fun q hq => by cases hq; exact hh⟩
    | k + 10 =>
      obtain ⟨cc, ii, hh⟩ := u_known (C := RX0) (T := TX0) (N := 5) (n := 5) htB inX0 (htB _ wn_226)
      exact ⟨(cc, ii), fun q hq => by have h9 := (List.getElem?_eq_some_iff.mp hq).1; have h10 : k + 10 < 10 := h9; omega⟩
  obtain ⟨cd, hcd⟩ := Classical.axiomOfChoice h0
  have hao : (Cond.arrayOver (.object RX5)).before args s = true := hts _ (List.mem_of_getElem? (i := 307) (by decide +kernel))
  have hat : (Cond.arrayOver (.array .int)).before args s = true := hts _ (List.mem_of_getElem? (i := 88) (by decide +kernel))
  have hci : (Cond.arrayClass .int).before args s = true := htB _ wn_aI
  have hcj : (Cond.arrayClass .long).before args s = true := htB _ wn_aJ
  obtain ⟨cI, kI, c1, hI1, hI2, hI3⟩ := Cond.arrayClass_spec hci
  obtain ⟨cJ, kJ, c2, hJ1, hJ2, hJ3⟩ := Cond.arrayClass_spec hcj
  obtain ⟨c3, cS, kS, hS1, -, hS2, hS3, hS4⟩ := Cond.arrayOver_spec hao
  obtain ⟨c4, cT, kT, hT1, -, hT2, hT3, hT4⟩ := arrayOverA_spec hat
  refine ⟨(fun k => (cd k).1, fun k => (cd k).2), cI, cJ, cS, cT, ⟨fun k q hq => hcd k q hq, fun k q hq => ?_⟩, fun w hw => va_tabs (gNEST_tbl w hw) rfl (hts w (lq_nest w hw)), fun w hw => va_tabs (nN_tbl w hw) rfl (hts w (lq_nN w hw)), va_AO.of hao, mm_A_of hat hci⟩
  match k, hq with
  | 0, hq => cases hq; exact ⟨fun n z => ⟨fun k h => (by cases h), kI, hI2, c1, hI3⟩, hI1⟩
  | 1, hq => cases hq; exact ⟨fun n z => ⟨fun k h => (by cases h), kJ, hJ2, c2, hJ3⟩, hJ1⟩
  | 2, hq => cases hq; exact ⟨fun n z => ⟨fun k h => (by cases h), kS, hS2, c3, hS3⟩, kS, c3, hS2, hS3, hS1, hS4⟩
  | 3, hq => cases hq; exact ⟨fun n z => ⟨fun k h => (by cases h), kT, hT2, c4, hT3⟩, hT4⟩
  | k + 4, hq => exact absurd (List.getElem?_eq_some_iff.mp hq).1 (by show ¬ (k + 4 < 4); omega)
set_option maxRecDepth 100000 in
set_option maxHeartbeats 4000000 in
/-- the law from its entry, over the empty world -/
theorem lq_start {D : va_G} {cI cJ cS cT : ClassId} {A : Nat → Prop} {p : Program} {l : Launch} {e : Env} {s : State} {m : MethodId} {args : Array Value} {below : List Frame} {meth : Method} {c : Code} {QQ : State → Prop} {bs L : Nat} {xs : Nat → Int32} {adK adV : Nat → Nat} {kA : Nat} (E : nE D (gT cI cJ cS cT) A p s m args meth c cL_law 4 RL ret meth.name) (HX : XS adK adV kA A s) (hXs : va_X bs L xs s s.heap) (hbl : bs < s.heap.size) (hbA : ¬ A bs) (hL : L ≤ 3584) (kend : ∀ (w : va_W) (lv : List (Nat × Value)), nK D A p l e room_1 s m args below meth c 4 QQ w 67 4894 1493 lv []) : nK D A p l e room_1 s m args below meth c 4 QQ [] 0 0 0 [(0, .ref bs)] [] := by
  refine n_new (pc := 0) (ci := 8) (fs := [.null, .null, .null, .null, .null, .null, .null, .null, gI 0]) E inX8 tyX8 tyX8_ok wn_19 wn_20 wn_1 rfl df_X8 (Nat.le_of_ble_eq_true rfl) (Nat.le_of_ble_eq_true rfl) dL_law_0 (fun q1 => ?_)
  refine n_w (ws' := [(q1, .inr (8, [.null, .null, .null, .null, .null, .null, .null, .null, gI 0]))]) rfl ?_
  refine n_dup (pc := 3) E dL_law_3 rfl ?_
  refine n_call (pc := 4) (np := 0) (As := []) (st := [.ref q1]) (wr := []) E (c_X8_init l D cI cJ cS cT q1) wn_23 wn_1 wn_21 wn_22 rfl (by decide +kernel) ⟨Nat.le_of_ble_eq_true rfl, Nat.le_of_ble_eq_true rfl⟩ ⟨Nat.le_of_ble_eq_true rfl, Nat.le_of_ble_eq_true rfl⟩ rfl (Nat.le_of_ble_eq_true rfl) [0] [] rfl rfl rfl (by decide) dL_law_4 rfl (fun u1 => ?_)
  refine n_w (ws' := wdX (hd q1 u1) cI cJ cS cT xm0) rfl ?_
  refine n_astore (pc := 7) (lv' := [(1, .ref q1), (0, .ref bs)]) E dL_law_7 rfl (by decide) rfl ?_
  refine n_new (pc := 8) (ci := 9) (fs := [.null, .null, .null, .null, gI 0, .null, .null, gI 0, gI 0, gI 0, gI 0, .null, .null, .null, .null, .null, gI 0, gI 0, gI 0, gI 0, .null, .null, gI 0, gI 0, gI 0, .null, .null, .null, .null, .null, gI 0, gI 0, gI 0, gI 0, .null, gI 0, gI 0, gI 0]) E inX9 tyX9 tyX9_ok wn_845 wn_846 wn_11 rfl df_X9 (Nat.le_of_ble_eq_true rfl) (Nat.le_of_ble_eq_true rfl) dL_law_8 (fun q2 => ?_)
  refine n_dup (pc := 11) E dL_law_11 rfl ?_
  refine n_call (pc := 12) (np := 0) (As := []) (st := [.ref q2]) (wr := wdX (hd q1 u1) cI cJ cS cT xm0) E (c_X9_init l D cI cJ cS cT q2) wn_849 wn_11 wn_847 wn_848 rfl (by decide +kernel) ⟨Nat.le_of_ble_eq_true rfl, Nat.le_of_ble_eq_true rfl⟩ ⟨Nat.le_of_ble_eq_true rfl, Nat.le_of_ble_eq_true rfl⟩ rfl (Nat.le_of_ble_eq_true rfl) [47] lqA rfl rfl lqAn (by decide) dL_law_12 rfl (fun u2 => ?_)
  refine n_astore (pc := 15) (lv' := [(2, .ref q2), (1, .ref q1), (0, .ref bs)]) E dL_law_15 rfl (by decide) rfl ?_
  refine n_iconst (pc := 16) E dL_law_16 ?_
  refine n_istore (pc := 17) (lv' := [(3, gI 0), (2, .ref q2), (1, .ref q1), (0, .ref bs)]) E dL_law_17 rfl (by decide) rfl ?_
  refine n_lv [0, 2, 1, 3] (lv' := lqV 0 (hd q1 u1) (hd q2 u2) bs) rfl ?_
  exact lq_loop (a := hd q1 u1) (b := hd q2 u2) E HX hXs hbl hbA hL kend (L + 1) 0 (by omega) (Nat.zero_le L) xm0 (f_X9_text tm0).2 ⟨TF_INV TF_q TF_v, TF_IW TF_q⟩
end
