section
/-! the row's constructor; its cells that 'forget' reaches -/
def wdR (a : Nat → Nat) (cI : ClassId) (s : gMem) : va_W := [(a 0, .inr (4, [.ref (a 4), .ref (a 5), .ref (a 6), .ref (a 1), .ref (a 2), .ref (a 3)])), (a 1, .inl (cI, 272, .inl (fun j : Nat => Int32.ofInt (s 37 (j : Int))))), (a 2, .inl (cI, 272, .inl (fun j : Nat => Int32.ofInt (s 38 (j : Int))))), (a 3, .inl (cI, 16, .inl (fun j : Nat => Int32.ofInt (s 39 (j : Int)))))]
theorem hwdR (a : Nat → Nat) (cI : ClassId) : ∀ σ, (wdR a cI σ).map (·.1) = (wdR a cI (fun _ _ => 0)).map (·.1) := fun _ => rfl
set_option maxRecDepth 100000 in
set_option maxHeartbeats 4000000 in
theorem c_X4_forgetR (l : Launch) (D : va_G) (a : Nat → Nat) (cI cJ cS cT : ClassId) (s0 : gMem)   (hpre0 : KF s0) (hpre1 : KC s0) (hpre2 : KT s0) : gC l yX4_forget cX4_forget 1 none 2 128 D vwCl (gT cI cJ cS cT) (wdR a cI) lgX kV rgV [.ref (a 0)] s0 (f_X4_forget s0) := by
  refine gC_of (by decide +kernel) (hwdR a cI) (Nat.le_of_ble_eq_true rfl) ?_
  intro A p e R s m args below meth c hR E
  subst hR
  have hT := f_X4_forget_e  s0
  have hf_s0 : fr [37, 38, 39] s0 s0 := fr.rf _ _
  refine k_lv0 (lv' := [(0, .ref (a 0))]) rfl ?_
  refine k_mr (fun hm_s0 => ?_)
  have hKF_s0 := hpre0
  have hKC_s0 := hpre1
  have hKT_s0 := hpre2
  refine k_aloadn (pc := 0) E 0 dX4_forget_0 rfl rfl ?_
  refine k_getf (pc := 1) (q0 := 0) (f := 3) (v := .ref (a 1)) E inX4 rfl rfl (by decide) wm_152 rfl rfl dX4_forget_1 ?_
  refine k_iconst (pc := 4) E dX4_forget_4 ?_
  obtain ⟨s1, hs1, hT⟩ := glx hT
  have hf_s1 : fr [37, 38, 39] s0 s1 := hs1 ▸ hf_s0.fill (by decide)
  have hg_s1 : fr [37] s0 s1 := hs1 ▸ (fr.rf _ _).fill (by decide)
  have hKF_s1 : KF s1 := hs1 ▸ KF_fill hKF_s0 (by omega)
  have hKC_s1 : KC s1 := KC_fr hKC_s0 (fun k hk => hg_s1 k (dj (by decide) k hk))
  have hKT_s1 : KT s1 := KT_fr hKT_s0 (fun k hk => hg_s1 k (dj (by decide) k hk))
  refine k_callS (pc := 5) (np := 2) (As := [.ref (a 1), gI (-1)]) (st := []) E (c_fillI l D (hwdR a cI) (q0 := 1) (k := 37) (n := 272) (fun _ => rfl) (fun _ _ _ => rfl) rfl rfl (by decide) s0 (-1) (by omega)) wm_146 wm_6 wm_144 wm_145 (by decide +kernel) ⟨by decide, by decide⟩ rfl (Nat.le_of_ble_eq_true rfl) dX4_forget_5 (ro_kk (fun _ => ?_))
  refine k_sg hs1.symm ?_
  refine k_st (st' := []) rfl ?_
  refine k_aloadn (pc := 8) E 0 dX4_forget_8 rfl rfl ?_
  refine k_getf (pc := 9) (q0 := 0) (f := 4) (v := .ref (a 2)) E inX4 rfl rfl (by decide) wm_153 rfl rfl dX4_forget_9 ?_
  refine k_iconst (pc := 12) E dX4_forget_12 ?_
  obtain ⟨s2, hs2, hT⟩ := glx hT
  have hf_s2 : fr [37, 38, 39] s0 s2 := hs2 ▸ hf_s1.fill (by decide)
  have hg_s2 : fr [38] s1 s2 := hs2 ▸ (fr.rf _ _).fill (by decide)
  have hKF_s2 : KF s2 := KF_fr hKF_s1 (fun k hk => hg_s2 k (dj (by decide) k hk))
  have hKC_s2 : KC s2 := hs2 ▸ KC_fill hKC_s1 (by omega)
  have hKT_s2 : KT s2 := KT_fr hKT_s1 (fun k hk => hg_s2 k (dj (by decide) k hk))
  refine k_callS (pc := 13) (np := 2) (As := [.ref (a 2), gI (-1)]) (st := []) E (c_fillI l D (hwdR a cI) (q0 := 2) (k := 38) (n := 272) (fun _ => rfl) (fun _ _ _ => rfl) rfl rfl (by decide) s1 (-1) (by omega)) wm_146 wm_6 wm_144 wm_145 (by decide +kernel) ⟨by decide, by decide⟩ rfl (Nat.le_of_ble_eq_true rfl) dX4_forget_13 (ro_kk (fun _ => ?_))
  refine k_sg hs2.symm ?_
  refine k_st (st' := []) rfl ?_
  refine k_aloadn (pc := 16) E 0 dX4_forget_16 rfl rfl ?_
  refine k_getf (pc := 17) (q0 := 0) (f := 5) (v := .ref (a 3)) E inX4 rfl rfl (by decide) wm_154 rfl rfl dX4_forget_17 ?_
  refine k_iconst (pc := 20) E dX4_forget_20 ?_
  obtain ⟨s3, hs3, hT⟩ := glx hT
  have hf_s3 : fr [37, 38, 39] s0 s3 := hs3 ▸ hf_s2.fill (by decide)
  have hg_s3 : fr [39] s2 s3 := hs3 ▸ (fr.rf _ _).fill (by decide)
  have hKF_s3 : KF s3 := KF_fr hKF_s2 (fun k hk => hg_s3 k (dj (by decide) k hk))
  have hKC_s3 : KC s3 := KC_fr hKC_s2 (fun k hk => hg_s3 k (dj (by decide) k hk))
  have hKT_s3 : KT s3 := hs3 ▸ KT_fill hKT_s2 (by omega)
  refine k_callS (pc := 21) (np := 2) (As := [.ref (a 3), gI (-1)]) (st := []) E (c_fillI l D (hwdR a cI) (q0 := 3) (k := 39) (n := 16) (fun _ => rfl) (fun _ _ _ => rfl) rfl rfl (by decide) s2 (-1) (by omega)) wm_146 wm_6 wm_144 wm_145 (by decide +kernel) ⟨by decide, by decide⟩ rfl (Nat.le_of_ble_eq_true rfl) dX4_forget_21 (ro_kk (fun _ => ?_))
  refine k_sg hs3.symm ?_
  refine k_st (st' := []) rfl ?_
  exact k_rho hT (k_vret (pc := 24) E dX4_forget_24)
def zm : gMem := fun _ _ => 0
theorem zm_R (lg : Nat → Bool) : gMR lg zm := fun k i => ⟨fun _ => ⟨by show (-2147483648 : Int) ≤ 0; decide, by show (0 : Int) < 2147483648; decide⟩, fun _ => ⟨by show (-9223372036854775808 : Int) ≤ 0; decide, by show (0 : Int) < 9223372036854775808; decide⟩⟩
def rowm0 : gMem := (f_X4_forget zm).2
theorem wn_4 : Cond.initialized RX4 ∈ gBIG := gm (List.mem_of_getElem? (i := 58) (by decide +kernel)) (by decide +kernel)
theorem wn_5 : Cond.initialized RX6 ∈ gBIG := gm (List.mem_of_getElem? (i := 59) (by decide +kernel)) (by decide +kernel)
theorem wn_95 : Cond.methodLink RX4 3 Lib.objectInit ∈ gBIG := gm (List.mem_of_getElem? (i := 149) (by decide +kernel)) (by decide +kernel)
theorem wn_96 : Cond.classLink RX4 30 RX6 ∈ gBIG := gm (List.mem_of_getElem? (i := 150) (by decide +kernel)) (by decide +kernel)
theorem wn_97 : Cond.instantiable RX6 7 ∈ gBIG := gm (List.mem_of_getElem? (i := 151) (by decide +kernel)) (by decide +kernel)
theorem wn_99 : Cond.instanceMethod yX6_init ∈ gBIG := gm (List.mem_of_getElem? (i := 153) (by decide +kernel)) (by decide +kernel)
theorem wn_100 : Cond.code yX6_init cX6_init 1 none ∈ gBIG := gm (List.mem_of_getElem? (i := 154) (by decide +kernel)) (by decide +kernel)
theorem wn_140 : Cond.methodLink RX4 37 yX4_forget ∈ gBIG := gm (List.mem_of_getElem? (i := 194) (by decide +kernel)) (by decide +kernel)
theorem wn_141 : Cond.instanceMethod yX4_forget ∈ gBIG := gm (List.mem_of_getElem? (i := 195) (by decide +kernel)) (by decide +kernel)
theorem wn_142 : Cond.selects RX4 yX4_forget yX4_forget ∈ gBIG := gm (List.mem_of_getElem? (i := 196) (by decide +kernel)) (by decide +kernel)
theorem wn_143 : Cond.code yX4_forget cX4_forget 1 none ∈ gBIG := gm (List.mem_of_getElem? (i := 197) (by decide +kernel)) (by decide +kernel)
theorem wn_147 : Cond.fieldLink RX4 33 "AGapEveryTwenty$Row" "now" "LAGapEveryTwenty$State;" ∈ gBIG := gm (List.mem_of_getElem? (i := 201) (by decide +kernel)) (by decide +kernel)
theorem wn_150 : Cond.fieldLink RX4 26 "AGapEveryTwenty$Row" "texts" "LAGapEveryTwenty$Texts;" ∈ gBIG := gm (List.mem_of_getElem? (i := 204) (by decide +kernel)) (by decide +kernel)
theorem wn_151 : Cond.fieldLink RX4 11 "AGapEveryTwenty$Row" "names" "[I" ∈ gBIG := gm (List.mem_of_getElem? (i := 205) (by decide +kernel)) (by decide +kernel)
theorem wn_152 : Cond.fieldLink RX4 17 "AGapEveryTwenty$Row" "knownFalls" "[I" ∈ gBIG := gm (List.mem_of_getElem? (i := 206) (by decide +kernel)) (by decide +kernel)
theorem wn_153 : Cond.fieldLink RX4 20 "AGapEveryTwenty$Row" "knownCloses" "[I" ∈ gBIG := gm (List.mem_of_getElem? (i := 207) (by decide +kernel)) (by decide +kernel)
theorem wn_154 : Cond.fieldLink RX4 23 "AGapEveryTwenty$Row" "knownTakes" "[I" ∈ gBIG := gm (List.mem_of_getElem? (i := 208) (by decide +kernel)) (by decide +kernel)
set_option maxRecDepth 100000 in
set_option maxHeartbeats 4000000 in
theorem c_X4_init (l : Launch) (D : va_G) (cI cJ cS cT : ClassId) (h r : Nat) : nC l yX4_init cX4_init 2 4 7 605 256 D (gT cI cJ cS cT) [(h, .inr (4, [.null, .null, .null, .null, .null, .null]))] [.ref h, .ref r] (fun u => [(h, .inr (4, [.ref (u 1), .ref r, .ref (u 0), .ref (u 4), .ref (u 5), .ref (u 6)])), ((u 0), .inl (cI, 6, .inl (fun _ => 0))), ((u 1), .inr (6, [.ref (u 2), .ref (u 3), gI 0, gI 0, gI 0, gI 0, gI 0])), ((u 2), .inl (cI, 16, .inl (fun _ => 0))), ((u 3), .inl (cI, 16, .inl (fun _ => 0))), ((u 4), .inl (cI, 272, .inl (fun j : Nat => Int32.ofInt (rowm0 37 (j : Int))))), ((u 5), .inl (cI, 272, .inl (fun j : Nat => Int32.ofInt (rowm0 38 (j : Int))))), ((u 6), .inl (cI, 16, .inl (fun j : Nat => Int32.ofInt (rowm0 39 (j : Int)))))]) := by
  refine nC_of (by decide +kernel) (Nat.le_of_ble_eq_true rfl) ?_
  intro A p e R s m args below meth c hR hAe E
  subst hR
  refine n_lv [0, 1] (lv' := [(0, .ref h), (1, .ref r)]) rfl ?_
  refine n_aload (pc := 0) E 0 dX4_init_0 rfl rfl ?_
  refine n_obj (pc := 1) E wn_95 wn_25 wn_26 ⟨Nat.le_of_ble_eq_true rfl, Nat.le_of_ble_eq_true rfl⟩ (Nat.le_of_ble_eq_true rfl) dX4_init_1 ?_
  refine n_aload (pc := 4) E 0 dX4_init_4 rfl rfl ?_
  refine n_bipush (pc := 5) E dX4_init_5 (by decide) ?_
  refine n_newI (pc := 7) (N := 6) E 0 rfl wn_aI (by decide) rfl (by decide) (Nat.le_of_ble_eq_true rfl) (Nat.le_of_ble_eq_true rfl) dX4_init_7 (fun q1 => ?_)
  refine n_w (ws' := [(h, .inr (4, [.null, .null, .null, .null, .null, .null])), (q1, .inl (cI, 6, .inl (fun _ => 0)))]) rfl ?_
  refine n_putF (pc := 9) (q0 := 0) (f := 2) (ws' := [(h, .inr (4, [.null, .null, .ref q1, .null, .null, .null])), (q1, .inl (cI, 6, .inl (fun _ => 0)))]) E tyX4 tyX4_ok nmX4 inX4 rfl rfl (by decide) wn_151 rfl rfl rfl rfl (tyX4_ok 2 (by decide)) rfl rfl (Nat.le_of_ble_eq_true rfl) rfl dX4_init_9 ?_
  refine n_aload (pc := 12) E 0 dX4_init_12 rfl rfl ?_
  refine n_sipush (pc := 13) E dX4_init_13 (by decide) ?_
  refine n_newI (pc := 16) (N := 272) E 0 rfl wn_aI (by decide) rfl (by decide) (Nat.le_of_ble_eq_true rfl) (Nat.le_of_ble_eq_true rfl) dX4_init_16 (fun q2 => ?_)
  refine n_w (ws' := [(h, .inr (4, [.null, .null, .ref q1, .null, .null, .null])), (q1, .inl (cI, 6, .inl (fun _ => 0))), (q2, .inl (cI, 272, .inl (fun _ => 0)))]) rfl ?_
  refine n_putF (pc := 18) (q0 := 0) (f := 3) (ws' := [(h, .inr (4, [.null, .null, .ref q1, .ref q2, .null, .null])), (q1, .inl (cI, 6, .inl (fun _ => 0))), (q2, .inl (cI, 272, .inl (fun _ => 0)))]) E tyX4 tyX4_ok nmX4 inX4 rfl rfl (by decide) wn_152 rfl rfl rfl rfl (tyX4_ok 3 (by decide)) rfl rfl (Nat.le_of_ble_eq_true rfl) rfl dX4_init_18 ?_
  refine n_aload (pc := 21) E 0 dX4_init_21 rfl rfl ?_
  refine n_sipush (pc := 22) E dX4_init_22 (by decide) ?_
  refine n_newI (pc := 25) (N := 272) E 0 rfl wn_aI (by decide) rfl (by decide) (Nat.le_of_ble_eq_true rfl) (Nat.le_of_ble_eq_true rfl) dX4_init_25 (fun q3 => ?_)
  refine n_w (ws' := [(h, .inr (4, [.null, .null, .ref q1, .ref q2, .null, .null])), (q1, .inl (cI, 6, .inl (fun _ => 0))), (q2, .inl (cI, 272, .inl (fun _ => 0))), (q3, .inl (cI, 272, .inl (fun _ => 0)))]) rfl ?_
  refine n_putF (pc := 27) (q0 := 0) (f := 4) (ws' := [(h, .inr (4, [.null, .null, .ref q1, .ref q2, .ref q3, .null])), (q1, .inl (cI, 6, .inl (fun _ => 0))), (q2, .inl (cI, 272, .inl (fun _ => 0))), (q3, .inl (cI, 272, .inl (fun _ => 0)))]) E tyX4 tyX4_ok nmX4 inX4 rfl rfl (by decide) wn_153 rfl rfl rfl rfl (tyX4_ok 4 (by decide)) rfl rfl (Nat.le_of_ble_eq_true rfl) rfl dX4_init_27 ?_
  refine n_aload (pc := 30) E 0 dX4_init_30 rfl rfl ?_
  refine n_bipush (pc := 31) E dX4_init_31 (by decide) ?_
  refine n_newI (pc := 33) (N := 16) E 0 rfl wn_aI (by decide) rfl (by decide) (Nat.le_of_ble_eq_true rfl) (Nat.le_of_ble_eq_true rfl) dX4_init_33 (fun q4 => ?_)
  refine n_w (ws' := [(h, .inr (4, [.null, .null, .ref q1, .ref q2, .ref q3, .null])), (q1, .inl (cI, 6, .inl (fun _ => 0))), (q2, .inl (cI, 272, .inl (fun _ => 0))), (q3, .inl (cI, 272, .inl (fun _ => 0))), (q4, .inl (cI, 16, .inl (fun _ => 0)))]) rfl ?_
  refine n_putF (pc := 35) (q0 := 0) (f := 5) (ws' := [(h, .inr (4, [.null, .null, .ref q1, .ref q2, .ref q3, .ref q4])), (q1, .inl (cI, 6, .inl (fun _ => 0))), (q2, .inl (cI, 272, .inl (fun _ => 0))), (q3, .inl (cI, 272, .inl (fun _ => 0))), (q4, .inl (cI, 16, .inl (fun _ => 0)))]) E tyX4 tyX4_ok nmX4 inX4 rfl rfl (by decide) wn_154 rfl rfl rfl rfl (tyX4_ok 5 (by decide)) rfl rfl (Nat.le_of_ble_eq_true rfl) rfl dX4_init_35 ?_
  refine n_aload (pc := 38) E 0 dX4_init_38 rfl rfl ?_
  refine n_aload (pc := 39) E 1 dX4_init_39 rfl rfl ?_
  refine n_putF (pc := 40) (q0 := 0) (f := 1) (ws' := [(h, .inr (4, [.null, .ref r, .ref q1, .ref q2, .ref q3, .ref q4])), (q1, .inl (cI, 6, .inl (fun _ => 0))), (q2, .inl (cI, 272, .inl (fun _ => 0))), (q3, .inl (cI, 272, .inl (fun _ => 0))), (q4, .inl (cI, 16, .inl (fun _ => 0)))]) E tyX4 tyX4_ok nmX4 inX4 rfl rfl (by decide) wn_150 rfl rfl rfl rfl (tyX4_ok 1 (by decide)) rfl rfl (Nat.le_of_ble_eq_true rfl) rfl dX4_init_40 ?_
  refine n_aload (pc := 43) E 0 dX4_init_43 rfl rfl ?_
  refine n_new (pc := 44) (ci := 6) (fs := [.null, .null, gI 0, gI 0, gI 0, gI 0, gI 0]) E inX6 tyX6 tyX6_ok wn_96 wn_97 wn_5 rfl df_X6 (Nat.le_of_ble_eq_true rfl) (Nat.le_of_ble_eq_true rfl) dX4_init_44 (fun q5 => ?_)
  refine n_w (ws' := [(h, .inr (4, [.null, .ref r, .ref q1, .ref q2, .ref q3, .ref q4])), (q1, .inl (cI, 6, .inl (fun _ => 0))), (q2, .inl (cI, 272, .inl (fun _ => 0))), (q3, .inl (cI, 272, .inl (fun _ => 0))), (q4, .inl (cI, 16, .inl (fun _ => 0))), (q5, .inr (6, [.null, .null, gI 0, gI 0, gI 0, gI 0, gI 0]))]) rfl ?_
  refine n_dup (pc := 47) E dX4_init_47 rfl ?_
  refine n_callN (pc := 48) (np := 0) (As := []) (st := [.ref q5, .ref h]) (wr := [(h, .inr (4, [.null, .ref r, .ref q1, .ref q2, .ref q3, .ref q4])), (q1, .inl (cI, 6, .inl (fun _ => 0))), (q2, .inl (cI, 272, .inl (fun _ => 0))), (q3, .inl (cI, 272, .inl (fun _ => 0))), (q4, .inl (cI, 16, .inl (fun _ => 0)))]) E (c_X6_init l D cI cJ cS cT q5 ) wn_100 wn_5 (List.mem_of_getElem? (i := 1) rfl) wn_99 rfl (by decide +kernel) ⟨Nat.le_of_ble_eq_true rfl, Nat.le_of_ble_eq_true rfl⟩ ⟨Nat.le_of_ble_eq_true rfl, Nat.le_of_ble_eq_true rfl⟩ rfl (Nat.le_of_ble_eq_true rfl) [5] [0, 1, 2, 3, 4] rfl rfl rfl (by decide) dX4_init_48 rfl (fun u6 => ?_)
  refine n_w (ws' := [(h, .inr (4, [.null, .ref r, .ref q1, .ref q2, .ref q3, .ref q4])), (q1, .inl (cI, 6, .inl (fun _ => 0))), (q2, .inl (cI, 272, .inl (fun _ => 0))), (q3, .inl (cI, 272, .inl (fun _ => 0))), (q4, .inl (cI, 16, .inl (fun _ => 0))), (q5, .inr (6, [.ref (u6 0), .ref (u6 1), gI 0, gI 0, gI 0, gI 0, gI 0])), ((u6 0), .inl (cI, 16, .inl (fun _ => 0))), ((u6 1), .inl (cI, 16, .inl (fun _ => 0)))]) rfl ?_
  refine n_putF (pc := 51) (q0 := 0) (f := 0) (ws' := [(h, .inr (4, [.ref q5, .ref r, .ref q1, .ref q2, .ref q3, .ref q4])), (q1, .inl (cI, 6, .inl (fun _ => 0))), (q2, .inl (cI, 272, .inl (fun _ => 0))), (q3, .inl (cI, 272, .inl (fun _ => 0))), (q4, .inl (cI, 16, .inl (fun _ => 0))), (q5, .inr (6, [.ref (u6 0), .ref (u6 1), gI 0, gI 0, gI 0, gI 0, gI 0])), ((u6 0), .inl (cI, 16, .inl (fun _ => 0))), ((u6 1), .inl (cI, 16, .inl (fun _ => 0)))]) E tyX4 tyX4_ok nmX4 inX4 rfl rfl (by decide) wn_147 rfl rfl rfl rfl (tyX4_ok 0 (by decide)) rfl rfl (Nat.le_of_ble_eq_true rfl) rfl dX4_init_51 ?_
  refine n_aload (pc := 54) E 0 dX4_init_54 rfl rfl ?_
  refine n_callG (pc := 55) (np := 0) (As := []) (st := []) (q0 := 0) (σ := zm) (wr := [(q1, .inl (cI, 6, .inl (fun _ => 0))), (q5, .inr (6, [.ref (u6 0), .ref (u6 1), gI 0, gI 0, gI 0, gI 0, gI 0])), ((u6 0), .inl (cI, 16, .inl (fun _ => 0))), ((u6 1), .inl (cI, 16, .inl (fun _ => 0)))]) E (c_X4_forgetR l D (fun k => [h, q2, q3, q4, q5, r, q1].getD k 0) cI cJ cS cT zm (fun _ => ⟨by show (-1 : Int) ≤ 0; decide, by show (0 : Int) ≤ 99; decide⟩) (fun _ => ⟨by show (-1 : Int) ≤ 0; decide, by show (0 : Int) ≤ 99; decide⟩) (fun _ => ⟨by show (-1 : Int) ≤ 0; decide, by show (0 : Int) ≤ 200; decide⟩)) (hwdR (fun k => [h, q2, q3, q4, q5, r, q1].getD k 0) cI) (zm_R lgX) rfl rfl wn_143 wn_4 wn_140 wn_141 wn_142 (by decide +kernel) ⟨Nat.le_of_ble_eq_true rfl, Nat.le_of_ble_eq_true rfl⟩ ⟨Nat.le_of_ble_eq_true rfl, Nat.le_of_ble_eq_true rfl⟩ rfl (Nat.le_of_ble_eq_true rfl) [0, 2, 3, 4] [1, 5, 6, 7] rfl rfl rfl rfl (by decide) dX4_init_55 (fun _ _ => ?_)
  refine n_st (st' := []) rfl ?_
  refine n_w (ws' := [(q1, .inl (cI, 6, .inl (fun _ => 0))), (q5, .inr (6, [.ref (u6 0), .ref (u6 1), gI 0, gI 0, gI 0, gI 0, gI 0])), ((u6 0), .inl (cI, 16, .inl (fun _ => 0))), ((u6 1), .inl (cI, 16, .inl (fun _ => 0))), (h, .inr (4, [.ref q5, .ref r, .ref q1, .ref q2, .ref q3, .ref q4])), (q2, .inl (cI, 272, .inl (fun j : Nat => Int32.ofInt (rowm0 37 (j : Int))))), (q3, .inl (cI, 272, .inl (fun j : Nat => Int32.ofInt (rowm0 38 (j : Int))))), (q4, .inl (cI, 16, .inl (fun j : Nat => Int32.ofInt (rowm0 39 (j : Int)))))]) rfl ?_
  exact n_ret (pc := 58) E hAe (fun k => [q1, q5, (u6 0), (u6 1), q2, q3, q4].getD k 0) [4, 0, 1, 2, 3, 5, 6, 7] rfl rfl dX4_init_58
end
