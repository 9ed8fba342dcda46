/-! reading an E: compared, not, one -/
theorem tok_i {s T : gMem} (h : TOK s T) (k : Int) (hk : 40 ≤ k ∧ k ≤ 61) : s 55 0 = k ↔ T 18 0 = k := by
  have := h.2.2.2
  constructor <;> intro e <;> omega
theorem between4_v {s T : gMem} {h d sg : Int} (c : CR s T h d) (hb : T 22 0 ≤ 160) (hr : ∀ j, h ≤ j → j < T 22 0 → 5 ≤ f_X9_rank (T 21 j)) (st : h = 0 ∨ f_X9_rank (T 21 (h - 1)) < 4) (hsg : f_X9_rank sg = 4) : ∃ V, f_X9_between sg T = (1, V) ∧ CR s V (h + 1) d ∧ V 22 0 = h + 1 ∧ V 21 h = sg ∧ (∀ j, j < h → V 21 j = T 21 j) ∧ V 24 0 + h = T 24 0 + T 22 0 ∧ fr [5, 21, 22, 23, 24] T V := by
  obtain ⟨U, q1, q2, q3, q4, q5⟩ := CR_unw c (by omega) hr (by omega)
  obtain ⟨V, hV⟩ : ∃ V, V = mset (mset U 21 (U 22 0) sg) 22 0 (U 22 0 + 1) := ⟨_, rfl⟩
  have fV : fr [21, 22] U V := by rw [hV]; exact ((fr.rf _ _).set (by decide)).set (by decide)
  have eh : f_X9_holds sg U = (0, V) := by
    unfold f_X9_holds
    rw [gl_v, gl_v, hV, mset_ne _ _ _ _ _ (by decide)]
  have e21 : ∀ j, V 21 j = if j = h then sg else U 21 j := fun j => by rw [hV, mset_ne _ _ _ _ _ (by decide), mset_at, q3]
  have e22 : V 22 0 = h + 1 := by rw [hV, mset_eq, q3]
  have u21 : U 21 = T 21 := by rw [q5 21 (by decide)]
  refine ⟨V, ?_, CR_hold q2 q3 (fV.mono (by decide)) e22 (by rw [fV 23 (by decide)]; exact (CR_h q2 q3).1) e21, e22, by rw [e21, if_pos rfl], fun j hj => by rw [e21, if_neg (by omega), u21], by rw [fV 24 (by decide)]; exact q4, (q5.mono (by decide)).call (by decide) fV⟩
  unfold f_X9_between
  rw [hsg, if_pos rfl, gl_v, gb_eq q1, gj_v, if_pos rfl, q3, gb_eq eh]
  by_cases z : 0 < h
  · rw [if_pos z, u21, if_neg (by omega)]
  · rw [if_neg z]
theorem COMP {F S : gMem → gRes} {d : Int} (hF : ∀ s, F s = gb (S s) (fun _ s3 => (gj (fun j8c => (if (s3 55 0) = 60 then j8c else (if (s3 55 0) = 61 then j8c else (0, s3)))) ((gl ((if (s3 55 0) = 60 then (-9) else (-10))) (fun v12 => gb (f_X3_next s3) (fun _ s15 => gb (S s15) (fun _ s20 => gb (f_X3_emit v12 s20) (fun _ s25 => (0, s25)))))))))) (hS : SIM S 5 5 d) : SIM F 4 4 d := by
  constructor
  · intro s hs
    obtain ⟨s', e, e1, e2⟩ := hS.1 s hs
    rw [hF, gb_eq e, gj_v, e1.1, if_neg (by decide), if_neg (by decide)]
    exact ⟨s', rfl, e1, e2⟩
  · intro s T n w h hE
    obtain ⟨k, c, a1, a2, a3, a4, a5, a6⟩ := hE
    have t17 := tok_17 k
    obtain ⟨s1, g1, g2⟩ := hS.2 s T n w h ⟨k, c, a1, a2, a3, by omega, by unfold UC at *; omega, a6⟩
    rw [hF, gb_eq g1, gj_v]
    rcases g2 with ⟨g2, g3⟩ | ⟨n2, w2, T2, g2, ⟨e1, e2, e3, e4, e5, e6, e7, e8⟩, g4⟩
    · rw [g2.1, if_neg (by decide), if_neg (by decide)]
      exact ⟨s1, rfl, Or.inl ⟨g2, g3⟩⟩
    · have t2 := tok_17 e1
      have i60 := tok_i e1 60 (by decide)
      have i61 := tok_i e1 61 (by decide)
      have c5 := e2.2.2.1
      by_cases y : s1 55 0 = 60 ∨ s1 55 0 = 61
      · obtain ⟨sg, hsg⟩ : ∃ sg, sg = f_X9_signOf T2 := ⟨_, rfl⟩
        have xg : (T2 18 0 = 60 ∧ sg = 14) ∨ (T2 18 0 = 61 ∧ sg = 15) := by
          rcases y with y | y
          · have z := i60.mp y
            refine Or.inl ⟨z, ?_⟩
            rw [hsg]; unfold f_X9_signOf
            rw [z]; decide
          · have z := i61.mp y
            refine Or.inr ⟨z, ?_⟩
            rw [hsg]; unfold f_X9_signOf
            rw [z]; decide
        have xr : f_X9_rank sg = 4 := by
          rcases xg with ⟨-, z⟩ | ⟨-, z⟩ <;> rw [z] <;> decide
        have xm : mcd sg = if s1 55 0 = 60 then (-9) else (-10) := by
          rcases xg with ⟨z0, z⟩ | ⟨z0, z⟩
          · rw [if_pos (by omega), z]; decide
          · rw [if_neg (by omega), z]; decide
        obtain ⟨V, b1, b2, b3, b4, b5, b6, b7⟩ := between4_v e2 (by omega) e3 (by
          by_cases y : h = 0
          · exact Or.inl y
          · refine Or.inr ?_
            rw [e8 (h - 1) (by omega)]; omega) xr
        have V4 : V 4 0 = T2 4 0 := by rw [b7 4 (by decide)]
        have V16 : V 16 0 = T2 16 0 := by rw [b7 16 (by decide)]
        have fl : V 4 0 - V 16 0 < (n2 : Int) := by
          rw [V4, V16]
          rcases e5 with z | z
          · omega
          · exact z
        have adv : T2 17 0 < T2 16 0 := by
          rcases e6 with z | z
          · omega
          · exact z
        obtain ⟨m, s3, T3, n1, n2', n3, n4, n5, n6, n7, n8⟩ := nx (TPR_fr e1.1 (fun _ _ => rfl) (frK b7 (by decide))) b2.2.2.2.2 fl
        have eT : eB n2 0 w2 T2 = eB m 1 0 T3 := by
          rw [← n2']
          unfold eB
          rw [if_pos zz, if_neg (by omega), if_neg (by omega), ← hsg, if_neg (by omega), gb_eq b1, if_neg (by decide), gl_v, if_pos (by omega)]
        have C1 : CR s3 T3 (h + 1) d := CR_fr b2 (frK n4 (by decide)) (frK n5 (by decide))
        obtain ⟨s4, g1', g2'⟩ := hS.2 s3 T3 m 0 (h + 1) ⟨n3, C1, by rw [n5 22 (by decide), b3], by rw [n5 24 (by decide), n5 22 (by decide), b3]; omega, n6, Or.inr (by
          have z : h + 1 - 1 = h := by omega
          rw [z, n5 21 (by decide), b4, xr]; decide), Or.inr ⟨by decide, Or.inl rfl⟩, n7⟩
        have jj : (if (s1 55 0) = 60 then ((gl ((if (s1 55 0) = 60 then (-9) else (-10))) (fun v12 => gb (f_X3_next s1) (fun _ s15 => gb (S s15) (fun _ s20 => gb (f_X3_emit v12 s20) (fun _ s25 => ((0, s25) : gRes))))))) else (if (s1 55 0) = 61 then ((gl ((if (s1 55 0) = 60 then (-9) else (-10))) (fun v12 => gb (f_X3_next s1) (fun _ s15 => gb (S s15) (fun _ s20 => gb (f_X3_emit v12 s20) (fun _ s25 => ((0, s25) : gRes))))))) else (0, s1))) = gb (f_X3_emit (if (s1 55 0) = 60 then (-9) else (-10)) s4) (fun _ s25 => ((0, s25) : gRes)) := by
          by_cases y0 : s1 55 0 = 60
          · rw [if_pos y0, gl_v, gb_eq n1, gb_eq g1']
          · rw [if_neg y0, if_pos (by omega), gl_v, gb_eq n1, gb_eq g1']
        rw [jj]
        rcases g2' with ⟨g2', g3'⟩ | ⟨n4', w4, T4, g2', ⟨o1, o2, o3, o4, o5, o6, o7, o8⟩, g4'⟩
        · obtain ⟨s5, r1, r2, r3⟩ := emit_F (if (s1 55 0) = 60 then (-9) else (-10)) g2'
          rw [gb_eq r1]
          refine ⟨s5, rfl, Or.inl ⟨r2, ?_⟩⟩
          rw [g2, eT, r3]; exact g3'
        · have t4 := tok_17 o1
          have e53 := o2.1.1
          have o52 := o2.2.2.1
          have T4h : T4 21 h = sg := by rw [o8 h (by omega), n5 21 (by decide), b4]
          obtain ⟨s5, hs5⟩ : ∃ s5, s5 = mset (mset s4 34 (s4 53 0) (mcd (T4 21 h))) 53 0 (s4 53 0 + 1) := ⟨_, rfl⟩
          have r1 : f_X3_emit (if (s1 55 0) = 60 then (-9) else (-10)) s4 = (0, s5) := by rw [emit_v _ (by omega), hs5, T4h, xm]
          rw [gb_eq r1]
          have f3 : fr [34, 53] s4 s5 := by rw [hs5]; exact ((fr.rf _ _).set (by decide)).set (by decide)
          refine ⟨s5, rfl, Or.inr ⟨n4', w4, T4, by rw [g2, eT, g2'], ⟨TOK_fr o1 (frK f3 (by decide)) (fun _ _ => rfl), CR_emit o2 c5.1 hs5 (by rw [T4h, if_neg (by omega), if_neg (by omega)]; omega), fun j j0 j1 => ?_, o4, o5, o6, by omega, fun j hj => ?_⟩, ?_⟩⟩
          · by_cases y : j = h
            · rw [y, T4h, xr]; decide
            · have := o3 j (by omega) j1; omega
          · rw [o8 j (by omega), n5 21 (by decide), b5 j hj]; exact e8 j hj
          · refine ⟨fun _ => g4'.1 (by decide), fun _ => g4'.2.1 (by decide), fun _ _ => ⟨h, by omega, by omega, by rw [T4h]; exact xr, fun i i0 i1 => o3 i (by omega) i1⟩, fun z => absurd z (by decide), fun z => absurd z (by decide)⟩
      · rw [if_neg (fun z => y (Or.inl z)), if_neg (fun z => y (Or.inr z))]
        refine ⟨s1, rfl, Or.inr ⟨n2, w2, T2, g2, ⟨e1, e2, fun j j0 j1 => by have := e3 j j0 j1; omega, e4, e5, e6, e7, e8⟩, fun _ => g4.1 (by decide), fun _ => g4.2.1 (by decide), fun _ z => ?_, fun z => absurd z (by decide), fun z => absurd z (by decide)⟩⟩
        exact absurd (by omega) y
/-- one more is opened -/
theorem opens_v {s T : gMem} {h d sg : Int} (c : CR s T h d) (e : T 22 0 = h) (hd : d < 5) : ∃ V, f_X9_opensOne sg T = (1, V) ∧ CR s V (h + 1) (d + 1) ∧ V 22 0 = h + 1 ∧ V 21 h = sg ∧ (∀ j, j < h → V 21 j = T 21 j) ∧ fr [21, 22, 23] T V := by
  obtain ⟨z23, -⟩ := CR_h c e
  obtain ⟨U, hU⟩ : ∃ U, U = mset T 23 0 (T 23 0 + 1) := ⟨_, rfl⟩
  have fU : fr [23] T U := by rw [hU]; exact (fr.rf _ _).set (by decide)
  obtain ⟨V, hV⟩ : ∃ V, V = mset (mset U 21 (U 22 0) sg) 22 0 (U 22 0 + 1) := ⟨_, rfl⟩
  have fV : fr [21, 22] U V := by rw [hV]; exact ((fr.rf _ _).set (by decide)).set (by decide)
  have u22 : U 22 0 = h := by rw [fU 22 (by decide)]; exact e
  have eh : f_X9_holds sg U = (0, V) := by
    unfold f_X9_holds
    rw [gl_v, gl_v, hV, mset_ne _ _ _ _ _ (by decide)]
  have e21 : ∀ j, V 21 j = if j = h then sg else T 21 j := fun j => by rw [hV, mset_ne _ _ _ _ _ (by decide), mset_at, u22, fU 21 (by decide)]
  have e22 : V 22 0 = h + 1 := by rw [hV, mset_eq, u22]
  have f : fr [21, 22, 23] T V := (fU.mono (by decide)).call (by decide) fV
  refine ⟨V, ?_, CR_hold c e f e22 ?_ e21, e22, by rw [e21, if_pos rfl], fun j hj => by rw [e21, if_neg (by omega)], f⟩
  · unfold f_X9_opensOne
    rw [if_neg (by omega), gl_v, ← hU, gb_eq eh]
  · rw [fV 23 (by decide), hU, mset_eq, z23]
theorem opens_5 {s T : gMem} {h d sg : Int} (c : CR s T h d) (e : T 22 0 = h) (hd : d = 5) : f_X9_opensOne sg T = (0, T) := by
  obtain ⟨z23, -⟩ := CR_h c e
  unfold f_X9_opensOne
  rw [if_pos (by omega)]
theorem NOT {F C br G : gMem → gRes} {d : Int} (hd : d ≤ 5) (hF : ∀ s, F s = (if (s 55 0) = 261 then (if d < 5 then br s else gb (f_X3_fail s) (fun _ s21 => (0, s21))) else gb (C s) (fun _ s27 => (0, s27)))) (hbr : d < 5 → (∀ s, br s = gb (f_X3_next s) (fun _ s6 => gb (G s6) (fun _ s11 => gb (f_X3_emit (-14) s11) (fun _ s16 => (0, s16))))) ∧ SIM G 4 3 (d + 1)) (hC : SIM C 4 4 d) : SIM F 4 3 d := by
  constructor
  · intro s hs
    obtain ⟨s', e, e1, e2⟩ := hC.1 s hs
    rw [hF, hs.1, if_neg (by decide), gb_eq e]
    exact ⟨s', rfl, e1, e2⟩
  · intro s T n w h hE
    obtain ⟨k, c, a1, a2, a3, a4, a5, a6⟩ := hE
    have t17 := tok_17 k
    have kt := k.2.2.2
    have hw : ¬ w = 0 := by unfold UC at a5; omega
    by_cases y : s 55 0 = 261
    · have t18 : T 18 0 = 6 := by omega
      have eT0 : eB n 1 w T = gb (f_X9_opensOne 13 T) (fun r226 s227 => (if r226 = 0 then (0, s227) else (t_X9_eRead_14 n 1 w s227))) := by
        unfold eB
        rw [if_neg (by decide), gj_v, if_neg (by omega), if_neg (by omega), gj_v, if_pos t18, if_neg hw]
      by_cases hd5 : d < 5
      · obtain ⟨hb1, hG⟩ := hbr hd5
        rw [hF, if_pos y, if_pos hd5, hb1]
        obtain ⟨V, b1, b2, b3, b4, b5, b7⟩ := opens_v (sg := 13) c a1 hd5
        have V4 : V 4 0 = T 4 0 := by rw [b7 4 (by decide)]
        have V16 : V 16 0 = T 16 0 := by rw [b7 16 (by decide)]
        have V24 : V 24 0 = T 24 0 := by rw [b7 24 (by decide)]
        have fl : V 4 0 - V 16 0 < (n : Int) := by
          rw [V4, V16]
          rcases a3 with z | z
          · omega
          · exact z
        have adv : T 17 0 < T 16 0 := by
          rcases a6 with z | z
          · omega
          · exact z
        obtain ⟨m, s1, T1, n1, n2, n3, n4, n5, n6, n7, n8⟩ := nx (TPR_fr k.1 (fun _ _ => rfl) (frK b7 (by decide))) b2.2.2.2.2 fl
        have eT : eB n 1 w T = eB m 1 w T1 := by rw [eT0, gb_eq b1, if_neg (by decide), n2]
        have C1 : CR s1 T1 (h + 1) (d + 1) := CR_fr b2 (frK n4 (by decide)) (frK n5 (by decide))
        obtain ⟨s2, g1, g2⟩ := hG.2 s1 T1 m w (h + 1) ⟨n3, C1, by rw [n5 22 (by decide), b3], by rw [n5 24 (by decide), n5 22 (by decide), b3, V24]; omega, n6, Or.inr (by
          have z : h + 1 - 1 = h := by omega
          rw [z, n5 21 (by decide), b4]; decide), Or.inl ⟨by decide, hw⟩, n7⟩
        rw [gb_eq n1, gb_eq g1]
        have c5 := c.2.2.1
        rcases g2 with ⟨g2, g3⟩ | ⟨n', w', T2, g2, ⟨e1, e2, e3, e4, e5, e6, e7, e8⟩, g4⟩
        · obtain ⟨s3, r1, r2, r3⟩ := emit_F (-14) g2
          rw [gb_eq r1]
          refine ⟨s3, rfl, Or.inl ⟨r2, ?_⟩⟩
          rw [eT, r3]; exact g3
        · have t2 := tok_17 e1
          have e53 := e2.1.1
          have c52 := e2.2.2.1
          have T2h : T2 21 h = 13 := by rw [e8 h (by omega), n5 21 (by decide), b4]
          obtain ⟨s3, hs3⟩ : ∃ s3, s3 = mset (mset s2 34 (s2 53 0) (mcd (T2 21 h))) 53 0 (s2 53 0 + 1) := ⟨_, rfl⟩
          have m13 : mcd 13 = -14 := by decide
          have r1 : f_X3_emit (-14) s2 = (0, s3) := by rw [emit_v _ (by omega), hs3, T2h, m13]
          rw [gb_eq r1]
          have f3 : fr [34, 53] s2 s3 := by rw [hs3]; exact ((fr.rf _ _).set (by decide)).set (by decide)
          refine ⟨s3, rfl, Or.inr ⟨n', w', T2, by rw [eT, g2], ⟨TOK_fr e1 (frK f3 (by decide)) (fun _ _ => rfl), CR_emit e2 c5.1 hs3 (by rw [T2h, if_pos rfl]), fun j j0 j1 => ?_, e4, e5, e6, by omega, fun j hj => ?_⟩, NXT_h g4 (by omega)⟩⟩
          · by_cases y : j = h
            · rw [y, T2h]; decide
            · exact e3 j (by omega) j1
          · rw [e8 j (by omega), n5 21 (by decide)]; exact b5 j hj
      · rw [hF, if_pos y, if_neg hd5]
        obtain ⟨s', f1, f2, f3⟩ := fail_B k c
        rw [gb_eq f1]
        refine ⟨s', rfl, Or.inl ⟨f2, T, ?_, f3.symm⟩⟩
        rw [eT0, gb_eq (opens_5 c a1 (by omega)), if_pos zz]
    · obtain ⟨s1, g1, g2⟩ := hC.2 s T n w h ⟨k, c, a1, a2, a3, a4, Or.inr ⟨by decide, Or.inr (by omega)⟩, a6⟩
      rw [hF, if_neg y, gb_eq g1]
      rcases g2 with ⟨g2, g3⟩ | ⟨n2, w2, T2, g2, ⟨e1, e2, e3, e4, e5, e6, e7, e8⟩, g4⟩
      · exact ⟨s1, rfl, Or.inl ⟨g2, g3⟩⟩
      · exact ⟨s1, rfl, Or.inr ⟨n2, w2, T2, g2, ⟨e1, e2, fun j j0 j1 => by have := e3 j j0 j1; omega, e4, e5, e6, e7, e8⟩, fun _ => g4.1 (by decide), fun _ => g4.2.1 (by decide), fun _ => g4.2.2.1 (by decide), fun z => absurd z (by decide), fun z => absurd z (by decide)⟩⟩
