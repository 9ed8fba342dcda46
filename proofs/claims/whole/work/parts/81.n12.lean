section
theorem iand63 (x : Int) : 0 ≤ iand x 63 ∧ iand x 63 < 64 := by
  have h : (Int32.ofInt x &&& 63).toBitVec.toNat < 64 := by
    rw [Int32.toBitVec_and, BitVec.toNat_and]
    exact Nat.lt_of_le_of_lt Nat.and_le_right (by decide)
  have h2 : iand x 63 = ((Int32.ofInt x &&& 63).toBitVec.toNat : Int) := by
    show (Int32.ofInt x &&& 63).toBitVec.toInt = _
    rw [BitVec.toInt_eq_toNat_of_lt (by omega)]
  omega
set_option maxRecDepth 100000 in
set_option maxHeartbeats 4000000 in
/-- one round, from the switch to the round's end -/
theorem lq_round {D : va_G} {a b : Nat → Nat} {cI cJ cS cT : ClassId} {A : Nat → Prop} {p : Program} {l : Launch} {e : Env} {s : State} {m : MethodId} {args : Array Value} {below : List Frame} {meth : Method} {c : Code} {QQ : State → Prop} {bs L : Nat} {xs : Nat → Int32} {adK adV : Nat → Nat} {kA : Nat} (E : nE D (gT cI cJ cS cT) A p s m args meth c cL_law 4 RL ret meth.name) (HX : XS adK adV kA A s) (hXs : va_X bs L xs s s.heap) (hbl : bs < s.heap.size) (hbA : ¬ A bs) (hL : L ≤ 3584) {i : Nat} (hi : i + 7 ≤ L) {sx t : gMem} (hI : INW sx t) (kk : ∀ sx' t' : gMem, INW sx' t' → nK D A p l e room_1 s m args below meth c 4 QQ (wdX a cI cJ cS cT sx' ++ wdM b cI cJ t') 67 4894 1487 (lqV i a b bs) []) {v : Int} (hv : 0 ≤ v ∧ v < 64) : nK D A p l e room_1 s m args below meth c 4 QQ (wdX a cI cJ cS cT sx ++ wdM b cI cJ t) 67 4894 33 (lqV i a b bs) [gI v] := by
  have hin : in32 v := by omega
  by_cases h37 : v ≤ 37
  · have hd : v = 0 ∨ v = 1 ∨ v = 2 ∨ v = 3 ∨ v = 4 ∨ v = 5 ∨ v = 6 ∨ v = 7 ∨ v = 8 ∨ v = 9 ∨ v = 10 ∨ v = 11 ∨ v = 12 ∨ v = 13 ∨ v = 14 ∨ v = 15 ∨ v = 16 ∨ v = 17 ∨ v = 18 ∨ v = 19 ∨ v = 20 ∨ v = 21 ∨ v = 22 ∨ v = 23 ∨ v = 24 ∨ v = 25 ∨ v = 26 ∨ v = 27 ∨ v = 28 ∨ v = 29 ∨ v = 30 ∨ v = 31 ∨ v = 32 ∨ v = 33 ∨ v = 34 ∨ v = 35 ∨ v = 36 ∨ v = 37 := by omega
    rcases hd with rfl | rfl | rfl | rfl | rfl | rfl | rfl | rfl | rfl | rfl | rfl | rfl | rfl | rfl | rfl | rfl | rfl | rfl | rfl | rfl | rfl | rfl | rfl | rfl | rfl | rfl | rfl | rfl | rfl | rfl | rfl | rfl | rfl | rfl | rfl | rfl | rfl | rfl
    · exact n_tabIn (pc := 33) (tgt := 200) (off := 167) E dL_law_33 hin (by decide) (by decide) rfl (by decide) (lq_count E HX hXs hbl hbA hL hi hI kk)
    · exact n_tabIn (pc := 33) (tgt := 223) (off := 190) E dL_law_33 hin (by decide) (by decide) rfl (by decide) (lq_set E HX hXs hbl hbA hL hi hI kk)
    · exact n_tabIn (pc := 33) (tgt := 256) (off := 223) E dL_law_33 hin (by decide) (by decide) rfl (by decide) (lq_feed E HX hXs hbl hbA hL hi hI kk)
    · exact n_tabIn (pc := 33) (tgt := 331) (off := 298) E dL_law_33 hin (by decide) (by decide) rfl (by decide) (lq_text E HX hXs hbl hbA hL hi hI kk)
    · exact n_tabIn (pc := 33) (tgt := 344) (off := 311) E dL_law_33 hin (by decide) (by decide) rfl (by decide) (lq_force E HX hXs hbl hbA hL hi hI kk)
    · exact n_tabIn (pc := 33) (tgt := 367) (off := 334) E dL_law_33 hin (by decide) (by decide) rfl (by decide) (lq_asks E HX hXs hbl hbA hL hi hI kk)
    · exact n_tabIn (pc := 33) (tgt := 410) (off := 377) E dL_law_33 hin (by decide) (by decide) rfl (by decide) (lq_lay E HX hXs hbl hbA hL hi hI kk)
    · exact n_tabIn (pc := 33) (tgt := 453) (off := 420) E dL_law_33 hin (by decide) (by decide) rfl (by decide) (lq_told E HX hXs hbl hbA hL hi hI kk)
    · exact n_tabIn (pc := 33) (tgt := 486) (off := 453) E dL_law_33 hin (by decide) (by decide) rfl (by decide) (lq_stretch E HX hXs hbl hbA hL hi hI kk)
    · exact n_tabIn (pc := 33) (tgt := 519) (off := 486) E dL_law_33 hin (by decide) (by decide) rfl (by decide) (lq_mean E HX hXs hbl hbA hL hi hI kk)
    · exact n_tabIn (pc := 33) (tgt := 553) (off := 520) E dL_law_33 hin (by decide) (by decide) rfl (by decide) (lq_plan E HX hXs hbl hbA hL hi hI kk)
    · exact n_tabIn (pc := 33) (tgt := 567) (off := 534) E dL_law_33 hin (by decide) (by decide) rfl (by decide) (lq_best E HX hXs hbl hbA hL hi hI kk)
    · exact n_tabIn (pc := 33) (tgt := 601) (off := 568) E dL_law_33 hin (by decide) (by decide) rfl (by decide) (lq_every E HX hXs hbl hbA hL hi hI kk)
    · exact n_tabIn (pc := 33) (tgt := 625) (off := 592) E dL_law_33 hin (by decide) (by decide) rfl (by decide) (lq_which E HX hXs hbl hbA hL hi hI kk)
    · exact n_tabIn (pc := 33) (tgt := 649) (off := 616) E dL_law_33 hin (by decide) (by decide) rfl (by decide) (lq_stop E HX hXs hbl hbA hL hi hI kk)
    · exact n_tabIn (pc := 33) (tgt := 673) (off := 640) E dL_law_33 hin (by decide) (by decide) rfl (by decide) (lq_dear E HX hXs hbl hbA hL hi hI kk)
    · exact n_tabIn (pc := 33) (tgt := 697) (off := 664) E dL_law_33 hin (by decide) (by decide) rfl (by decide) (lq_likely E HX hXs hbl hbA hL hi hI kk)
    · exact n_tabIn (pc := 33) (tgt := 731) (off := 698) E dL_law_33 hin (by decide) (by decide) rfl (by decide) (lq_push E HX hXs hbl hbA hL hi hI kk)
    · exact n_tabIn (pc := 33) (tgt := 764) (off := 731) E dL_law_33 hin (by decide) (by decide) rfl (by decide) (lq_far E HX hXs hbl hbA hL hi hI kk)
    · exact n_tabIn (pc := 33) (tgt := 787) (off := 754) E dL_law_33 hin (by decide) (by decide) rfl (by decide) (lq_tip E HX hXs hbl hbA hL hi hI kk)
    · exact n_tabIn (pc := 33) (tgt := 820) (off := 787) E dL_law_33 hin (by decide) (by decide) rfl (by decide) (lq_put E HX hXs hbl hbA hL hi hI kk)
    · exact n_tabIn (pc := 33) (tgt := 853) (off := 820) E dL_law_33 hin (by decide) (by decide) rfl (by decide) (lq_drawn E HX hXs hbl hbA hL hi hI kk)
    · exact n_tabIn (pc := 33) (tgt := 896) (off := 863) E dL_law_33 hin (by decide) (by decide) rfl (by decide) (lq_odds E HX hXs hbl hbA hL hi hI kk)
    · exact n_tabIn (pc := 33) (tgt := 950) (off := 917) E dL_law_33 hin (by decide) (by decide) rfl (by decide) (lq_judge E HX hXs hbl hbA hL hi hI kk)
    · exact n_tabIn (pc := 33) (tgt := 993) (off := 960) E dL_law_33 hin (by decide) (by decide) rfl (by decide) (lq_origin E HX hXs hbl hbA hL hi hI kk)
    · exact n_tabIn (pc := 33) (tgt := 1026) (off := 993) E dL_law_33 hin (by decide) (by decide) rfl (by decide) (lq_how E HX hXs hbl hbA hL hi hI kk)
    · exact n_tabIn (pc := 33) (tgt := 1069) (off := 1036) E dL_law_33 hin (by decide) (by decide) rfl (by decide) (lq_check E HX hXs hbl hbA hL hi hI kk)
    · exact n_tabIn (pc := 33) (tgt := 1092) (off := 1059) E dL_law_33 hin (by decide) (by decide) rfl (by decide) (lq_kinds E HX hXs hbl hbA hL hi hI kk)
    · exact n_tabIn (pc := 33) (tgt := 1135) (off := 1102) E dL_law_33 hin (by decide) (by decide) rfl (by decide) (lq_laws E HX hXs hbl hbA hL hi hI kk)
    · exact n_tabIn (pc := 33) (tgt := 1158) (off := 1125) E dL_law_33 hin (by decide) (by decide) rfl (by decide) (lq_amiss E HX hXs hbl hbA hL hi hI kk)
    · exact n_tabIn (pc := 33) (tgt := 1182) (off := 1149) E dL_law_33 hin (by decide) (by decide) rfl (by decide) (lq_film E HX hXs hbl hbA hL hi hI kk)
    · exact n_tabIn (pc := 33) (tgt := 1225) (off := 1192) E dL_law_33 hin (by decide) (by decide) rfl (by decide) (lq_image E HX hXs hbl hbA hL hi hI kk)
    · exact n_tabIn (pc := 33) (tgt := 1238) (off := 1205) E dL_law_33 hin (by decide) (by decide) rfl (by decide) (lq_back E HX hXs hbl hbA hL hi hI kk)
    · exact n_tabIn (pc := 33) (tgt := 1251) (off := 1218) E dL_law_33 hin (by decide) (by decide) rfl (by decide) (lq_sheet E HX hXs hbl hbA hL hi hI kk)
    · exact n_tabIn (pc := 33) (tgt := 1294) (off := 1261) E dL_law_33 hin (by decide) (by decide) rfl (by decide) (lq_cell E HX hXs hbl hbA hL hi hI kk)
    · exact n_tabIn (pc := 33) (tgt := 1337) (off := 1304) E dL_law_33 hin (by decide) (by decide) rfl (by decide) (lq_copy E HX hXs hbl hbA hL hi hI kk)
    · exact n_tabIn (pc := 33) (tgt := 1400) (off := 1367) E dL_law_33 hin (by decide) (by decide) rfl (by decide) (lq_layBy E HX hXs hbl hbA hL hi hI kk)
    · exact n_tabIn (pc := 33) (tgt := 1453) (off := 1420) E dL_law_33 hin (by decide) (by decide) rfl (by decide) (lq_taken E HX hXs hbl hbA hL hi hI kk)
  · exact n_tabOut (pc := 33) (tgt := 1487) E dL_law_33 hin (Or.inr (by omega)) (by decide) (kk _ _ hI)
set_option maxRecDepth 100000 in
set_option maxHeartbeats 4000000 in
theorem lq_loop {D : va_G} {a b : Nat → Nat} {cI cJ cS cT : ClassId} {A : Nat → Prop} {p : Program} {l : Launch} {e : Env} {s : State} {m : MethodId} {args : Array Value} {below : List Frame} {meth : Method} {c : Code} {QQ : State → Prop} {bs L : Nat} {xs : Nat → Int32} {adK adV : Nat → Nat} {kA : Nat} (E : nE D (gT cI cJ cS cT) A p s m args meth c cL_law 4 RL ret meth.name) (HX : XS adK adV kA A s) (hXs : va_X bs L xs s s.heap) (hbl : bs < s.heap.size) (hbA : ¬ A bs) (hL : L ≤ 3584) (kend : ∀ (w : va_W) (lv : List (Nat × Value)), nK D A p l e room_1 s m args below meth c 4 QQ w 67 4894 1493 lv []) : ∀ (n i : Nat), L < i + n → i ≤ L → ∀ sx t : gMem, INW sx t → nK D A p l e room_1 s m args below meth c 4 QQ (wdX a cI cJ cS cT sx ++ wdM b cI cJ t) 67 4894 18 (lqV i a b bs) [] := by
  intro n
  induction n with
  | zero => intro i h1 h2; omega
  | succ n ih =>
    intro i h1 h2 sx t hI
    refine n_iload (pc := 18) E 0 dL_law_18 rfl rfl ?_
    refine n_aload (pc := 19) E 3 dL_law_19 rfl rfl ?_
    refine n_slen (pc := 20) E hXs hbl hbA dL_law_20 ?_
    refine n_bipush (pc := 21) E dL_law_21 (by decide) ?_
    refine n_isub (pc := 23) E dL_law_23 ?_
    by_cases hi : i + 7 ≤ L
    · refine n_gt_f (pc := 24) (tgt := 1493) (x := (i : Int)) (y := (L : Int) - 7) E (by omega) (by omega) dL_law_24 (by decide) (by omega) ?_
      refine n_aload (pc := 27) E 3 dL_law_27 rfl rfl ?_
      refine n_iload (pc := 28) E 0 dL_law_28 rfl rfl ?_
      refine n_sld (pc := 29) E hXs hbl hbA hL (j := i) rfl (by omega) dL_law_29 ?_
      refine n_bipush (pc := 30) E dL_law_30 (by decide) ?_
      refine n_iand (pc := 32) E dL_law_32 ?_
      refine lq_round E HX hXs hbl hbA hL hi hI (fun sx' t' hI' => ?_) (iand63 _)
      refine n_iinc (pc := 1487) (lv' := lqV (i + 7) a b bs) E 0 dL_law_1487 rfl (by decide) rfl ?_
      refine n_goto (pc := 1490) (tgt := 18) E dL_law_1490 (by decide) ?_
      exact ih (i + 7) (by omega) hi sx' t' hI'
    · exact n_gt_t (pc := 24) (tgt := 1493) (x := (i : Int)) (y := (L : Int) - 7) E (by omega) (by omega) dL_law_24 (by decide) (by omega) (kend _ _)
end
