/-! reading an E: one -/
def EX1 (h d k b : Int) (f : Int → Int) (n : Nat) (s T : gMem) : Prop := TOK s T ∧ T 22 0 = h - k ∧ T 23 0 = d - k ∧ s 58 0 < 0 ∧ s 53 0 = T 24 0 - k ∧ 0 ≤ s 53 0 ∧ (∀ i, 0 ≤ i → i < s 53 0 → s 34 i = mcd (T 5 (200 * T 7 0 + i))) ∧ (∀ j, 0 ≤ j → j < k → T 5 (200 * T 7 0 + (s 53 0 + j)) = 19) ∧ IV T ∧ T 24 0 + T 22 0 ≤ T 17 0 ∧ FU n T ∧ ADV T ∧ b < T 17 0 ∧ ∀ j, j < h - k → T 21 j = f j
def K19 (T : gMem) (h k : Int) : Prop := 0 ≤ k ∧ k ≤ h ∧ (∀ j, h - k ≤ j → j < h → T 21 j = 19) ∧ (h - k = 0 ∨ f_X9_rank (T 21 (h - k - 1)) < 7)
def SIM1 (F : gMem → gRes) (d : Int) : Prop := (∀ s, FAILD s → ∃ s', F s = (0, s') ∧ FAILD s' ∧ s' 58 0 = s 58 0) ∧ ∀ s T n w h k, ENT 8 7 h d n w s T → K19 T h k → ∃ s', F s = (0, s') ∧ (FLB (eB n 1 w T) s' ∨ ∃ n' w' T', eB n 1 w T = eB n' 0 w' T' ∧ EX1 h d k (T 17 0) (T 21) n' s' T')
theorem one_end {s T : gMem} {h d k : Int} {n : Nat} (P : TPR s T) (c : CR s T h d) (e : T 22 0 = h) (hb : T 24 0 + T 22 0 ≤ T 16 0) (hk : K19 T h k) (fl : T 4 0 - T 16 0 < (n : Int)) : ∃ (m : Nat) (s' T' : gMem), f_X3_next s = (0, s') ∧ (∀ w, gb (f_X9_unwinds 7 T) (fun _ U => t_X9_eRead_14 n 0 w U) = eB m 0 w T') ∧ ∀ b, b < T 16 0 → EX1 h d k b (T 21) m s' T' := by
  obtain ⟨k0, k1, k2, k3⟩ := hk
  obtain ⟨z23, z53⟩ := CR_h c e
  obtain ⟨⟨c1, c2, c3⟩, c4, c5, c6, c7⟩ := id c
  have p := P.2.2.1
  have hm : ((k.toNat : Nat) : Int) = k := by omega
  obtain ⟨U, q1, q2, q3, q4, q5, q6, q7⟩ := unw_l 7 (h - k) (by omega) 201 k.toNat T (by omega) (by omega) (fun j j0 j1 => by rw [k2 j j0 (by omega)]; decide) k3
  have q4' : U 23 0 = d - k := by
    rw [q4, cnt_19 k.toNat (fun j j0 j1 => k2 j j0 (by omega))]; omega
  have eU : f_X9_unwinds 7 T = (0, U) := by unfold f_X9_unwinds; rw [q1, gl_v]
  have U16 : U 16 0 = T 16 0 := by rw [q5 16 (by decide)]
  have U4 : U 4 0 = T 4 0 := by rw [q5 4 (by decide)]
  have U7 : U 7 0 = T 7 0 := by rw [q5 7 (by decide)]
  obtain ⟨m, s', T', n1, n2, n3, n4, n5, n6, n7, n8⟩ := nx (n := n) (TPR_fr P (fun _ _ => rfl) (frK q5 (by decide))) (IV_fr c7 (frK q5 (by decide))) (by rw [U4, U16]; exact fl)
  refine ⟨m, s', T', n1, fun w => by rw [gb_eq eU]; exact n2 0 w, fun b hb2 => ⟨n3, by rw [n5 22 (by decide)]; exact q2, by rw [n5 23 (by decide)]; exact q4', by rw [n4 58 (by decide)]; exact c4, by rw [n4 53 (by decide), n5 24 (by decide)]; omega, by rw [n4 53 (by decide)]; omega, fun i i0 i1 => ?_, fun j j0 j1 => ?_, IV_fr (IV_fr c7 (frK q5 (by decide))) (frK n5 (by decide)), by rw [n5 24 (by decide), n5 22 (by decide)]; omega, n6, n7, by omega, fun j hj => by rw [n5 21 (by decide), q5 21 (by decide)]⟩⟩
  · rw [n4 53 (by decide)] at i1
    rw [n4 34 (by decide), n5 5 (by decide), n5 7 (by decide), U7, q6 _ (by omega)]
    exact c2 i i0 (by omega)
  · rw [n4 53 (by decide), n5 5 (by decide), n5 7 (by decide), U7]
    have e5 : 200 * T 7 0 + (s 53 0 + j) = 200 * T 7 0 + T 24 0 + (h - k + ((k.toNat : Nat) : Int) - 1 - (h - 1 - j)) := by omega
    rw [e5, q7 _ (by omega) (by omega)]
    exact k2 _ (by omega) (by omega)
/-- an operand -/
theorem opd {s T : gMem} {h d k v c0 w : Int} {n : Nat} (hE : ENT 8 7 h d n w s T) (hk : K19 T h k) (hv : mcd v = c0) (h18 : ¬ T 18 0 = 0) : ∃ s' n' w' T', gb (f_X3_emit c0 s) (fun _ s6 => gb (f_X3_next s6) (fun _ s11 => ((0, s11) : gRes))) = (0, s') ∧ gb (f_X9_puts v T) (fun _ s152 => gb (f_X9_unwinds 7 s152) (fun _ s167 => (t_X9_eRead_14 n 0 w s167))) = eB n' 0 w' T' ∧ EX1 h d k (T 17 0) (T 21) n' s' T' := by
  obtain ⟨t, c, a1, a2, a3, a4, a5, a6⟩ := hE
  have t17 := tok_17 t
  obtain ⟨z23, z53⟩ := CR_h c a1
  obtain ⟨⟨c1, c2, c3⟩, c4, c5, c6, c7⟩ := id c
  have adv : T 17 0 < T 16 0 := by
    rcases a6 with z | z
    · exact absurd z h18
    · exact z
  have fl : T 4 0 - T 16 0 < (n : Int) := by
    rcases a3 with z | z
    · exact absurd z h18
    · exact z
  obtain ⟨V, hV⟩ : ∃ V, V = mset (mset T 5 (200 * (T 7 0) + T 24 0) v) 24 0 (T 24 0 + 1) := ⟨_, rfl⟩
  have fV : fr [5, 24] T V := by rw [hV]; exact ((fr.rf _ _).set (by decide)).set (by decide)
  have eV : f_X9_puts v T = (0, V) := by
    unfold f_X9_puts
    rw [gl_v, gl_v, hV, mset_ne _ _ _ _ _ (by decide)]
  have V24 : V 24 0 = T 24 0 + 1 := by rw [hV, mset_eq]
  have V5 : ∀ i, V 5 i = if i = 200 * T 7 0 + T 24 0 then v else T 5 i := fun i => by rw [hV, mset_ne _ _ _ _ _ (by decide), mset_at]
  obtain ⟨s1, hs1⟩ : ∃ s1, s1 = mset (mset s 34 (s 53 0) c0) 53 0 (s 53 0 + 1) := ⟨_, rfl⟩
  have f1 : fr [34, 53] s s1 := by rw [hs1]; exact ((fr.rf _ _).set (by decide)).set (by decide)
  have e1 : f_X3_emit c0 s = (0, s1) := by rw [emit_v _ (by omega), hs1]
  have s53 : s1 53 0 = s 53 0 + 1 := by rw [hs1, mset_eq]
  have s34 : ∀ i, s1 34 i = if i = s 53 0 then c0 else s 34 i := fun i => by rw [hs1, mset_ne _ _ _ _ _ (by decide), mset_at]
  have V22 : V 22 0 = h := by rw [fV 22 (by decide)]; exact a1
  have V7 : V 7 0 = T 7 0 := by rw [fV 7 (by decide)]
  have C1 : CR s1 V h d := by
    refine ⟨⟨by omega, fun i i0 i1 => ?_, fun j j0 j1 => by omega⟩, by rw [f1 58 (by decide)]; exact c4, by omega, by rw [fV 23 (by decide), fV 21 (by decide), fV 22 (by decide)]; exact c6, IV_fr c7 (frK fV (by decide))⟩
    rw [s34, V5, V7]
    by_cases y : i = s 53 0
    · rw [if_pos y, if_pos (by omega), hv]
    · rw [if_neg y, if_neg (by omega)]; exact c2 i i0 (by omega)
  have V16 : V 16 0 = T 16 0 := by rw [fV 16 (by decide)]
  have V4 : V 4 0 = T 4 0 := by rw [fV 4 (by decide)]
  obtain ⟨m, s', T', q1, q2, q3⟩ := one_end (n := n) (k := k) (TPR_fr t.1 (frK f1 (by decide)) (frK fV (by decide))) C1 V22 (by omega) (by unfold K19; rw [fV 21 (by decide)]; exact hk) (by omega)
  refine ⟨s', m, w, T', by rw [gb_eq e1, gb_eq q1], by rw [gb_eq eV]; exact q2 w, ?_⟩
  have z := q3 (T 17 0) (by omega)
  rw [fV 21 (by decide)] at z
  exact z
/-- the end of an E that is not the one asked for -/
theorem BADX {s T : gMem} {h d b : Int} {f : Int → Int} {n : Nat} (w : Int) (hE : EX0 1 h d b f n s T) (hN : NXT 1 h T) (st : h = 0 ∨ f_X9_rank (T 21 (h - 1)) < 1) (h59 : T 18 0 = 59 → 0 < h) (h41 : T 18 0 = 41 → h = 0) : ∃ T'', eB n 0 w T = (0, T'') ∧ T'' 17 0 = T 17 0 := by
  obtain ⟨t, c, hr, hb, -, -, -, -⟩ := hE
  have t17 := tok_17 t
  have kt := t.2.2.2
  have c5 := c.2.2.1
  by_cases y59 : T 18 0 = 59
  · obtain ⟨U, q1, q2, q3, q4, q5⟩ := CR_unw c (by omega) hr st
    have := h59 y59
    refine ⟨U, ?_, by rw [q5 17 (by decide)]⟩
    unfold eB
    rw [if_pos zz, if_pos y59, gb_eq q1, if_neg (by omega)]
  · by_cases y41 : T 18 0 = 41
    · obtain ⟨U, q1, q2, q3, q4, q5⟩ := CR_unw c (by omega) hr st
      have := h41 y41
      refine ⟨U, ?_, by rw [q5 17 (by decide)]⟩
      unfold eB
      rw [if_pos zz, if_neg y59, if_pos y41, gb_eq q1, if_pos (by omega)]
    · obtain ⟨N1, N2, N3, N4, N5⟩ := hN
      have a1 := N1 (by decide)
      have a2 := N2 (by decide)
      have a4 := N4 (by decide)
      have a5 := N5 (by decide)
      by_cases y : T 18 0 = 60 ∨ T 18 0 = 61
      · obtain ⟨j, j0, j1, j2, j3⟩ := N3 (by decide) y
        obtain ⟨sg, hsg⟩ : ∃ sg, sg = f_X9_signOf T := ⟨_, rfl⟩
        have xg : sg = 14 ∨ sg = 15 := by
          rw [hsg]; unfold f_X9_signOf
          rcases y with z | z
          · rw [z]; decide
          · rw [z]; decide
        have xr : f_X9_rank sg = 4 := by
          rcases xg with z | z <;> rw [z] <;> decide
        obtain ⟨U, q1, q2, q3, q4, q5, -, -⟩ := unw_l 5 (j + 1) (by omega) 201 (T 22 0 - (j + 1)).toNat T (by omega) (by omega) (fun i i0 i1 => j3 i (by omega) (by omega)) (Or.inr (by
          have z : j + 1 - 1 = j := by omega
          rw [z, j2]; decide))
        have eU : f_X9_unwinds 5 T = (0, U) := by unfold f_X9_unwinds; rw [q1, gl_v]
        have eb : f_X9_between sg T = (0, U) := by
          have z : j + 1 - 1 = j := by omega
          unfold f_X9_between
          rw [xr, if_pos rfl, gl_v, gb_eq eU, gj_v, if_pos rfl, q2, if_pos (by omega), z, q5 21 (by decide), j2, if_pos rfl]
        refine ⟨U, ?_, by rw [q5 17 (by decide)]⟩
        unfold eB
        rw [if_pos zz, if_neg y59, if_neg y41, ← hsg, if_neg (by omega), gb_eq eb, if_pos zz]
      · refine ⟨T, ?_, rfl⟩
        have es : f_X9_signOf T = -1 := by
          unfold f_X9_signOf
          rw [if_neg a5, if_neg a4, if_neg (fun z => y (Or.inl z)), if_neg (fun z => y (Or.inr z)), if_neg a2.1, if_neg a2.2, if_neg a1]
        unfold eB
        rw [if_pos zz, if_neg y59, if_neg y41, if_pos es]
theorem want_F {s : gMem} {x : Int} (h : FAILD s) (hx : ¬ x = 1) : ∃ s', f_X3_want x s = (0, s') ∧ FAILD s' ∧ s' 58 0 = s 58 0 := by
  obtain ⟨s', e, e1, e2⟩ := fail_F h
  have := h.1
  unfold f_X3_want
  rw [if_neg (by omega), gb_eq e]
  exact ⟨s', rfl, e1, e2⟩
theorem want_B {s T : gMem} {h d x : Int} (t : TOK s T) (c : CR s T h d) (hx : ¬ s 55 0 = x) : ∃ s', f_X3_want x s = (0, s') ∧ FAILD s' ∧ s' 58 0 = T 17 0 := by
  obtain ⟨s', e, e1, e2⟩ := fail_B t c
  unfold f_X3_want
  rw [if_neg hx, gb_eq e]
  exact ⟨s', rfl, e1, e2⟩
theorem ONE {F br G O : gMem → gRes} {d : Int} (hd : d ≤ 5) (hF : ∀ s, F s = (if (s 55 0) = 2 then gb (f_X3_emit (s 57 0) s) (fun _ s6 => gb (f_X3_next s6) (fun _ s11 => (0, s11))) else (if (s 55 0) < 262 then (gj (fun j17c => (if d < 5 then (gj (fun j26c => (if (s 55 0) = 45 then j26c else (if (s 55 0) = 40 then j26c else j17c))) (br s)) else j17c)) (gb (f_X3_fail s) (fun _ s20 => (0, s20)))) else gb (f_X3_emit ((-1) - ((s 55 0) - 262)) s) (fun _ s32 => gb (f_X3_next s32) (fun _ s37 => (0, s37)))))) (hbr : d < 5 → (∀ s, br s = (if (s 55 0) = 45 then gb (f_X3_next s) (fun _ s31 => gb (G s31) (fun _ s36 => gb (f_X3_emit (-15) s36) (fun _ s41 => (0, s41)))) else gb (f_X3_next s) (fun _ s46 => gb (O s46) (fun _ s51 => gb (f_X3_want 41 s51) (fun _ s56 => (0, s56)))))) ∧ SIM1 G (d + 1) ∧ SIM O 1 1 (d + 1)) : SIM1 F d := by
  constructor
  · intro s hs
    obtain ⟨s', e, e1, e2⟩ := fail_F hs
    rw [hF, hs.1, if_neg (by decide), if_pos (by decide), gj_v, gj_v, gb_eq e]
    refine ⟨s', ?_, e1, e2⟩
    by_cases y : d < 5
    · rw [if_pos y, if_neg (by decide), if_neg (by decide)]
    · rw [if_neg y]
  · intro s T n w h k hE hk
    obtain ⟨t, c, a1, a2, a3, a4, a5, a6⟩ := id hE
    have t17 := tok_17 t
    have kt := t.2.2.2
    have c5 := c.2.2.1
    by_cases y2 : s 55 0 = 2
    · have t1 : T 18 0 = 1 := by omega
      obtain ⟨s', n', w', T', r1, r2, r3⟩ := opd (v := 100000 + T 19 0) (c0 := s 57 0) hE hk (by rw [mcd_k (by omega)]; omega) (by omega)
      rw [hF, if_pos y2, r1]
      refine ⟨s', rfl, Or.inr ⟨n', w', T', ?_, r3⟩⟩
      unfold eB
      rw [if_neg (by decide), gj_v, if_pos t1, if_pos t1, gl_v]
      exact r2
    · by_cases y262 : s 55 0 < 262
      · have n1 : ¬ T 18 0 = 1 := by omega
        have n2 : ¬ T 18 0 = 2 := by omega
        have e45 := tok_i t 45 (by decide)
        have e40 := tok_i t 40 (by decide)
        have eT0 : eB n 1 w T = (if (T 18 0) = 45 then gb (f_X9_opensOne 19 T) (fun r195 s196 => (if r195 = 0 then (0, s196) else (t_X9_eRead_14 n 1 0 s196))) else (if (T 18 0) = 40 then gb (f_X9_opensOne 0 T) (fun r211 s212 => (if r211 = 0 then (0, s212) else (t_X9_eRead_14 n 1 1 s212))) else (0, T))) := by
          unfold eB
          rw [if_neg (by decide), gj_v, if_neg n1, if_neg n2, gj_v]
          by_cases y6 : T 18 0 = 6
          · have hw : w = 0 := by unfold UC at a5; omega
            rw [if_pos y6, if_pos hw]
          · rw [if_neg y6]
        rw [hF, if_neg y2, if_pos y262, gj_v, gj_v]
        by_cases yb : d < 5 ∧ (s 55 0 = 45 ∨ s 55 0 = 40)
        · obtain ⟨hd5, yb⟩ := yb
          obtain ⟨hb1, hG, hO⟩ := hbr hd5
          have ebr : (if d < 5 then (if (s 55 0) = 45 then br s else (if (s 55 0) = 40 then br s else gb (f_X3_fail s) (fun _ s20 => ((0, s20) : gRes)))) else gb (f_X3_fail s) (fun _ s20 => (0, s20))) = br s := by
            rw [if_pos hd5]
            by_cases y : s 55 0 = 45
            · rw [if_pos y]
            · rw [if_neg y, if_pos (by omega)]
          rw [ebr, hb1]
          have fl0 : T 4 0 - T 16 0 < (n : Int) := by
            rcases a3 with z | z
            · omega
            · exact z
          have adv : T 17 0 < T 16 0 := by
            rcases a6 with z | z
            · omega
            · exact z
          by_cases y45 : s 55 0 = 45
          · rw [if_pos y45]
            obtain ⟨V, b1, b2, b3, b4, b5, b7⟩ := opens_v (sg := 19) c a1 hd5
            have V4 : V 4 0 = T 4 0 := by rw [b7 4 (by decide)]
            have V16 : V 16 0 = T 16 0 := by rw [b7 16 (by decide)]
            have V24 : V 24 0 = T 24 0 := by rw [b7 24 (by decide)]
            obtain ⟨m, s1, T1, m1, m2, m3, m4, m5, m6, m7, m8⟩ := nx (n := n) (TPR_fr t.1 (fun _ _ => rfl) (frK b7 (by decide))) b2.2.2.2.2 (by rw [V4, V16]; exact fl0)
            have eT : eB n 1 w T = eB m 1 0 T1 := by rw [eT0, if_pos (e45.mp y45), gb_eq b1, if_neg (by decide), m2]
            have C1 : CR s1 T1 (h + 1) (d + 1) := CR_fr b2 (frK m4 (by decide)) (frK m5 (by decide))
            have T1h : ∀ j, T1 21 j = V 21 j := fun j => by rw [m5 21 (by decide)]
            obtain ⟨k0, k1, k2, k3⟩ := hk
            have hk1 : K19 T1 (h + 1) (k + 1) := by
              refine ⟨by omega, by omega, fun j j0 j1 => ?_, ?_⟩
              · rw [T1h]
                by_cases y : j = h
                · rw [y]; exact b4
                · rw [b5 j (by omega)]; exact k2 j (by omega) (by omega)
              · by_cases y : h - k = 0
                · exact Or.inl (by omega)
                · refine Or.inr ?_
                  have e : h + 1 - (k + 1) - 1 = h - k - 1 := by omega
                  rw [e, T1h, b5 _ (by omega)]
                  rcases k3 with z | z
                  · exact absurd z y
                  · exact z
            obtain ⟨s2, g1, g2⟩ := hG.2 s1 T1 m 0 (h + 1) (k + 1) ⟨m3, C1, by rw [m5 22 (by decide), b3], by rw [m5 24 (by decide), m5 22 (by decide), b3, V24]; omega, m6, Or.inr (by
              have z : h + 1 - 1 = h := by omega
              rw [z, T1h, b4]; decide), Or.inr ⟨by decide, Or.inl rfl⟩, m7⟩ hk1
            rw [gb_eq m1, gb_eq g1]
            rcases g2 with ⟨g2, g3⟩ | ⟨n', w', T2, g2, ⟨e1, e2, e3, e4, e5, e6, e7, e8, e9, e10, e11, e12, e13, e14⟩⟩
            · obtain ⟨s3, r1, r2, r3⟩ := emit_F (-15) g2
              rw [gb_eq r1]
              refine ⟨s3, rfl, Or.inl ⟨r2, ?_⟩⟩
              rw [eT, r3]; exact g3
            · have t2 := tok_17 e1
              obtain ⟨s3, hs3⟩ : ∃ s3, s3 = mset (mset s2 34 (s2 53 0) (-15)) 53 0 (s2 53 0 + 1) := ⟨_, rfl⟩
              have r1 : f_X3_emit (-15) s2 = (0, s3) := by rw [emit_v _ (by omega), hs3]
              rw [gb_eq r1]
              have f3 : fr [34, 53] s2 s3 := by rw [hs3]; exact ((fr.rf _ _).set (by decide)).set (by decide)
              have s53 : s3 53 0 = s2 53 0 + 1 := by rw [hs3, mset_eq]
              have s34 : ∀ i, s3 34 i = if i = s2 53 0 then -15 else s2 34 i := fun i => by rw [hs3, mset_ne _ _ _ _ _ (by decide), mset_at]
              refine ⟨s3, rfl, Or.inr ⟨n', w', T2, by rw [eT, g2], TOK_fr e1 (frK f3 (by decide)) (fun _ _ => rfl), by omega, by omega, by rw [f3 58 (by decide)]; exact e4, by omega, by omega, fun i i0 i1 => ?_, fun j j0 j1 => ?_, e9, e10, e11, e12, by omega, fun j hj => ?_⟩⟩
              · rw [s34]
                by_cases y : i = s2 53 0
                · have z := e8 0 (by omega) (by omega)
                  have ez : s2 53 0 + 0 = s2 53 0 := by omega
                  rw [ez] at z
                  rw [if_pos y, y, z]; decide
                · rw [if_neg y]; exact e7 i i0 (by omega)
              · have z := e8 (j + 1) (by omega) (by omega)
                have ez : s2 53 0 + (j + 1) = s3 53 0 + j := by omega
                rw [ez] at z
                exact z
              · rw [e14 j (by omega), T1h]; exact b5 j (by omega)
          · rw [if_neg y45]
            have y40 : s 55 0 = 40 := by omega
            obtain ⟨V, b1, b2, b3, b4, b5, b7⟩ := opens_v (sg := 0) c a1 hd5
            have V4 : V 4 0 = T 4 0 := by rw [b7 4 (by decide)]
            have V16 : V 16 0 = T 16 0 := by rw [b7 16 (by decide)]
            have V24 : V 24 0 = T 24 0 := by rw [b7 24 (by decide)]
            obtain ⟨m, s1, T1, m1, m2, m3, m4, m5, m6, m7, m8⟩ := nx (n := n) (TPR_fr t.1 (fun _ _ => rfl) (frK b7 (by decide))) b2.2.2.2.2 (by rw [V4, V16]; exact fl0)
            have eT : eB n 1 w T = eB m 1 1 T1 := by rw [eT0, if_neg (fun z => y45 (e45.mpr z)), if_pos (e40.mp y40), gb_eq b1, if_neg (by decide), m2]
            have C1 : CR s1 T1 (h + 1) (d + 1) := CR_fr b2 (frK m4 (by decide)) (frK m5 (by decide))
            have T1h : ∀ j, T1 21 j = V 21 j := fun j => by rw [m5 21 (by decide)]
            obtain ⟨s2, g1, g2⟩ := hO.2 s1 T1 m 1 (h + 1) ⟨m3, C1, by rw [m5 22 (by decide), b3], by rw [m5 24 (by decide), m5 22 (by decide), b3, V24]; omega, m6, Or.inr (by
              have z : h + 1 - 1 = h := by omega
              rw [z, T1h, b4]; decide), Or.inl ⟨by decide, by decide⟩, m7⟩
            rw [gb_eq m1, gb_eq g1]
            rcases g2 with ⟨g2, g3⟩ | ⟨n', w', T2, g2, E2, g4⟩
            · obtain ⟨s3, r1, r2, r3⟩ := want_F (x := 41) g2 (by decide)
              rw [gb_eq r1]
              refine ⟨s3, rfl, Or.inl ⟨r2, ?_⟩⟩
              rw [eT, r3]; exact g3
            · obtain ⟨e1, e2, e3, e4, e5, e6, e7, e8⟩ := id E2
              have t2 := tok_17 e1
              have c52 := e2.2.2.1
              have i41 := tok_i e1 41 (by decide)
              have T2h : T2 21 h = 0 := by rw [e8 h (by omega), T1h, b4]
              have st : h + 1 = 0 ∨ f_X9_rank (T2 21 (h + 1 - 1)) < 1 := Or.inr (by
                have z : h + 1 - 1 = h := by omega
                rw [z, T2h]; decide)
              by_cases y41 : s2 55 0 = 41
              · have z41 := i41.mp y41
                obtain ⟨U, q1, q2, q3, q4, q5⟩ := CR_unw e2 (by omega) e3 st
                obtain ⟨z23, z53⟩ := CR_h q2 q3
                obtain ⟨W, hW⟩ : ∃ W, W = mset (mset U 22 0 ((U 22 0) - 1)) 23 0 ((mset U 22 0 ((U 22 0) - 1)) 23 0 - 1) := ⟨_, rfl⟩
                have fW : fr [22, 23] U W := by rw [hW]; exact ((fr.rf _ _).set (by decide)).set (by decide)
                have W22 : W 22 0 = h := by rw [hW, mset_ne _ _ _ _ _ (by decide), mset_eq]; omega
                have W23 : W 23 0 = d := by rw [hW, mset_eq, mset_ne _ _ _ _ _ (by decide)]; omega
                have W24 : W 24 0 = U 24 0 := by rw [fW 24 (by decide)]
                have W21 : ∀ j, W 21 j = T2 21 j := fun j => by rw [fW 21 (by decide), q5 21 (by decide)]
                have W16 : W 16 0 = T2 16 0 := by rw [fW 16 (by decide), q5 16 (by decide)]
                have W4 : W 4 0 = T2 4 0 := by rw [fW 4 (by decide), q5 4 (by decide)]
                obtain ⟨⟨x1, x2, x3⟩, x4, x5, x6, x7⟩ := id q2
                have CW : CR s2 W h d := by
                  refine ⟨⟨by omega, fun i i0 i1 => ?_, fun j j0 j1 => by omega⟩, x4, by omega, ?_, IV_fr x7 (frK fW (by decide))⟩
                  · rw [fW 5 (by decide), fW 7 (by decide)]; exact x2 i i0 (by omega)
                  · rw [W22, W23]
                    have z : (h - h).toNat = 0 := by omega
                    rw [z]
                    show d = d + (0 : Int)
                    omega
                have T2T : ∀ j, j < h → T2 21 j = T 21 j := fun j hj => by rw [e8 j (by omega), T1h]; exact b5 j hj
                obtain ⟨k0, k1, k2, k3⟩ := hk
                have hkW : K19 W h k := by
                  refine ⟨k0, k1, fun j j0 j1 => by rw [W21, T2T j j1]; exact k2 j j0 j1, ?_⟩
                  rcases k3 with z | z
                  · exact Or.inl z
                  · refine Or.inr ?_
                    rw [W21, T2T _ (by omega)]; exact z
                obtain ⟨m', s3, T3, r1, r2, r3⟩ := one_end (n := n') (k := k) (TPR_fr (TPR_fr e1.1 (fun _ _ => rfl) (frK q5 (by decide))) (fun _ _ => rfl) (frK fW (by decide))) CW W22 (by omega) hkW (by
                  rcases e5 with z | z
                  · omega
                  · omega)
                have ew : f_X3_want 41 s2 = (0, s3) := by
                  unfold f_X3_want
                  rw [if_pos y41, gb_eq r1]
                rw [gb_eq ew]
                refine ⟨s3, rfl, Or.inr ⟨m', w', T3, ?_, ?_⟩⟩
                · rw [eT, g2, ← r2 w']
                  unfold eB
                  rw [if_pos zz, if_neg (by omega), if_pos z41, gb_eq q1, if_neg (by omega), gl_v, gl_v, ← hW]
                · obtain ⟨y1, y2, y3, y4, y5, y6, y7, y8, y9, y10, y11, y12, y13, y14⟩ := r3 (T 17 0) (by omega)
                  exact ⟨y1, y2, y3, y4, y5, y6, y7, y8, y9, y10, y11, y12, y13, fun j hj => by rw [y14 j hj, W21, T2T j (by omega)]⟩
              · obtain ⟨s3, r1, r2, r3⟩ := want_B e1 e2 y41
                rw [gb_eq r1]
                obtain ⟨T3, u1, u2⟩ := BADX w' E2 g4 st (fun _ => by omega) (fun z => absurd (i41.mpr z) y41)
                refine ⟨s3, rfl, Or.inl ⟨r2, T3, by rw [eT, g2, u1], by rw [u2, r3]⟩⟩
        · obtain ⟨s', f1, f2, f3⟩ := fail_B t c
          have ebr : (if d < 5 then (if (s 55 0) = 45 then br s else (if (s 55 0) = 40 then br s else gb (f_X3_fail s) (fun _ s20 => ((0, s20) : gRes)))) else gb (f_X3_fail s) (fun _ s20 => (0, s20))) = gb (f_X3_fail s) (fun _ s20 => ((0, s20) : gRes)) := by
            by_cases y : d < 5
            · rw [if_pos y, if_neg (fun z => yb ⟨y, Or.inl z⟩), if_neg (fun z => yb ⟨y, Or.inr z⟩)]
            · rw [if_neg y]
          rw [ebr, gb_eq f1]
          refine ⟨s', rfl, Or.inl ⟨f2, T, ?_, f3.symm⟩⟩
          rw [eT0]
          by_cases z45 : T 18 0 = 45
          · rw [if_pos z45, gb_eq (opens_5 c a1 (by omega)), if_pos zz]
          · rw [if_neg z45]
            by_cases z40 : T 18 0 = 40
            · rw [if_pos z40, gb_eq (opens_5 c a1 (by omega)), if_pos zz]
            · rw [if_neg z40]
      · have t1 : T 18 0 = 2 := by omega
        obtain ⟨s', n', w', T', r1, r2, r3⟩ := opd (v := T 19 0) (c0 := (-1) - ((s 55 0) - 262)) hE hk (by rw [mcd_n (by omega)]; omega) (by omega)
        rw [hF, if_neg y2, if_neg y262, r1]
        refine ⟨s', rfl, Or.inr ⟨n', w', T', ?_, r3⟩⟩
        unfold eB
        rw [if_neg (by decide), gj_v, if_neg (by omega), if_pos t1, if_neg (by omega), gl_v]
        exact r2
theorem ONE_0 {F : gMem → gRes} {d : Int} (h : SIM1 F d) : SIM F 7 7 d := by
  refine ⟨h.1, fun s T n w hh hE => ?_⟩
  obtain ⟨t, c, a1, a2, a3, a4, a5, a6⟩ := id hE
  have c5 := c.2.2.1
  have zk : hh - 0 = hh := by omega
  obtain ⟨s', g1, g2⟩ := h.2 s T n w hh 0 ⟨t, c, a1, a2, a3, by omega, a5, a6⟩ ⟨by omega, by omega, fun j j0 j1 => by omega, by rw [zk]; exact a4⟩
  refine ⟨s', g1, ?_⟩
  rcases g2 with g2 | ⟨n', w', T', g2, y1, y2, y3, y4, y5, y6, y7, y8, y9, y10, y11, y12, y13, y14⟩
  · exact Or.inl g2
  · refine Or.inr ⟨n', w', T', g2, ⟨y1, ⟨⟨by omega, fun i i0 i1 => y7 i i0 (by omega), fun j j0 j1 => by omega⟩, y4, by omega, ?_, y9⟩, fun j j0 j1 => by omega, y10, y11, y12, y13, fun j hj => y14 j (by omega)⟩, fun z => absurd z (by decide), fun z => absurd z (by decide), fun z => absurd z (by decide), fun z => absurd z (by decide), fun z => absurd z (by decide)⟩
    have z : (T' 22 0 - hh).toNat = 0 := by omega
    rw [z, y3]
    show d - 0 = d + (0 : Int)
    omega
