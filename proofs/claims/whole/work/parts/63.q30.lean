/-! reading an E: a level -/
def NXT (lv h : Int) (T : gMem) : Prop := (lv ≤ 6 → ¬ T 18 0 = 42) ∧ (lv ≤ 5 → ¬ T 18 0 = 43 ∧ ¬ T 18 0 = 45) ∧ (lv ≤ 4 → T 18 0 = 60 ∨ T 18 0 = 61 → ∃ j, h ≤ j ∧ j < T 22 0 ∧ f_X9_rank (T 21 j) = 4 ∧ ∀ i, j < i → i < T 22 0 → 5 ≤ f_X9_rank (T 21 i)) ∧ (lv ≤ 2 → ¬ T 18 0 = 5) ∧ (lv ≤ 1 → ¬ T 18 0 = 4)
theorem NXT_h {lv h h' : Int} {T : gMem} (z : NXT lv h T) (e : h' ≤ h) : NXT lv h' T := ⟨z.1, z.2.1, fun a b => by
  obtain ⟨j, j0, j1⟩ := z.2.2.1 a b
  exact ⟨j, by omega, j1⟩, z.2.2.2⟩
def UC (lv w : Int) (T : gMem) : Prop := (lv ≤ 3 ∧ ¬ w = 0) ∨ (3 < lv ∧ (w = 0 ∨ ¬ T 18 0 = 6))
def ENT (sb lv h d : Int) (n : Nat) (w : Int) (s T : gMem) : Prop := TOK s T ∧ CR s T h d ∧ T 22 0 = h ∧ T 24 0 + T 22 0 ≤ T 17 0 ∧ FU n T ∧ (h = 0 ∨ f_X9_rank (T 21 (h - 1)) < sb) ∧ UC lv w T ∧ ADV T
def EX0 (lv h d b : Int) (f : Int → Int) (n : Nat) (s T : gMem) : Prop := TOK s T ∧ CR s T h d ∧ (∀ j, h ≤ j → j < T 22 0 → lv ≤ f_X9_rank (T 21 j)) ∧ T 24 0 + T 22 0 ≤ T 17 0 ∧ FU n T ∧ ADV T ∧ b < T 17 0 ∧ ∀ j, j < h → T 21 j = f j
def FAILD (s : gMem) : Prop := s 55 0 = 1 ∧ 0 ≤ s 58 0
def FLB (x : gRes) (s' : gMem) : Prop := FAILD s' ∧ ∃ T', x = (0, T') ∧ T' 17 0 = s' 58 0
def SIM (F : gMem → gRes) (sb lv d : Int) : Prop := (∀ s, FAILD s → ∃ s', F s = (0, s') ∧ FAILD s' ∧ s' 58 0 = s 58 0) ∧ ∀ s T n w h, ENT sb lv h d n w s T → ∃ s', F s = (0, s') ∧ (FLB (eB n 1 w T) s' ∨ ∃ n' w' T', eB n 1 w T = eB n' 0 w' T' ∧ EX0 lv h d (T 17 0) (T 21) n' s' T' ∧ NXT lv h T')
theorem tok_17 {s T : gMem} (h : TOK s T) : 0 ≤ T 17 0 ∧ T 17 0 ≤ T 16 0 ∧ T 16 0 ≤ T 4 0 ∧ T 4 0 ≤ 160 := ⟨h.2.2.1.1, h.2.2.1.2, h.1.2.2.1.2.1, h.1.2.2.1.2.2⟩
theorem emit_v {s : gMem} (x : Int) (h : s 53 0 < 160) : f_X3_emit x s = (0, mset (mset s 34 (s 53 0) x) 53 0 (s 53 0 + 1)) := by
  unfold f_X3_emit
  rw [if_pos h, gl_v, gl_v, mset_ne _ _ _ _ _ (by decide)]
theorem emit_f (x : Int) (s : gMem) : ∃ s', f_X3_emit x s = (0, s') ∧ fr [34, 53] s s' := by
  unfold f_X3_emit
  by_cases h : s 53 0 < 160
  · rw [if_pos h, gl_v, gl_v]; exact ⟨_, rfl, ((fr.rf _ _).set (by decide)).set (by decide)⟩
  · rw [if_neg h]; exact ⟨_, rfl, fr.rf _ _⟩
theorem emit_F (x : Int) {s : gMem} (h : FAILD s) : ∃ s', f_X3_emit x s = (0, s') ∧ FAILD s' ∧ s' 58 0 = s 58 0 := by
  obtain ⟨s', e, f⟩ := emit_f x s
  have e58 : s' 58 0 = s 58 0 := by rw [f 58 (by decide)]
  exact ⟨s', e, ⟨by rw [f 55 (by decide)]; exact h.1, by rw [e58]; exact h.2⟩, e58⟩
theorem fail_v (s : gMem) : ∃ s', f_X3_fail s = (0, s') ∧ s' 55 0 = 1 ∧ s' 58 0 = if s 58 0 < 0 then s 56 0 else s 58 0 := by
  unfold f_X3_fail
  rw [gl_v, gl_v]
  refine ⟨_, rfl, mset_eq _ _ _ _, ?_⟩
  rw [mset_ne _ _ _ _ _ (by decide)]
  by_cases c : s 58 0 < 0
  · rw [if_pos c, if_pos c, gl_v, mset_eq]
  · rw [if_neg c, if_neg c]
theorem fail_F {s : gMem} (h : FAILD s) : ∃ s', f_X3_fail s = (0, s') ∧ FAILD s' ∧ s' 58 0 = s 58 0 := by
  obtain ⟨s', e, e1, e2⟩ := fail_v s
  have := h.2
  rw [if_neg (by omega)] at e2
  exact ⟨s', e, ⟨e1, by omega⟩, e2⟩
/-- a fault of both at the token in hand -/
theorem fail_B {s T : gMem} {h d : Int} (k : TOK s T) (c : CR s T h d) : ∃ s', f_X3_fail s = (0, s') ∧ FAILD s' ∧ s' 58 0 = T 17 0 := by
  obtain ⟨s', e, e1, e2⟩ := fail_v s
  rw [if_pos c.2.1, k.2.1] at e2
  have := tok_17 k
  exact ⟨s', e, ⟨e1, by omega⟩, e2⟩
theorem CR_h {s T : gMem} {h d : Int} (c : CR s T h d) (e : T 22 0 = h) : T 23 0 = d ∧ s 53 0 = T 24 0 := by
  obtain ⟨⟨c1, -, -⟩, -, -, c6, -⟩ := c
  rw [e] at c6 c1
  have z : (h - h).toNat = 0 := by omega
  rw [z] at c6
  exact ⟨by rw [c6]; show d + (0 : Int) = d; omega, by omega⟩
/-- a sign is held, the next level begins -/
theorem CR_hold {s U V : gMem} {h d d' sg : Int} (c : CR s U h d) (e : U 22 0 = h) (f : fr [21, 22, 23] U V) (h22 : V 22 0 = h + 1) (h23 : V 23 0 = d') (h21 : ∀ j, V 21 j = if j = h then sg else U 21 j) : CR s V (h + 1) d' := by
  obtain ⟨⟨c1, c2, c3⟩, c4, c5, c6, c7⟩ := c
  have e24 : V 24 0 = U 24 0 := by rw [f 24 (by decide)]
  refine ⟨⟨by rw [c1, e24, h22]; omega, fun i i0 i1 => ?_, fun j j0 j1 => by omega⟩, c4, by omega, ?_, IV_fr c7 (frK f (by decide))⟩
  · rw [f 5 (by decide), f 7 (by decide)]; exact c2 i i0 (by omega)
  · rw [h22]
    have z : (h + 1 - (h + 1)).toNat = 0 := by omega
    rw [z, h23]
    show _ = d' + (0 : Int)
    omega
/-- the class puts out the sign that is held -/
theorem CR_emit {s s' T : gMem} {h d d' : Int} (c : CR s T (h + 1) d') (h0 : 0 ≤ h) (hs : s' = mset (mset s 34 (s 53 0) (mcd (T 21 h))) 53 0 (s 53 0 + 1)) (hd : d' = d + (if T 21 h = 13 then 1 else if T 21 h = 19 then 1 else 0)) : CR s' T h d := by
  obtain ⟨⟨c1, c2, c3⟩, c4, c5, c6, c7⟩ := c
  have e34 : ∀ i, s' 34 i = if i = s 53 0 then mcd (T 21 h) else s 34 i := fun i => by rw [hs, mset_ne _ _ _ _ _ (by decide), mset_at]
  have e53 : s' 53 0 = s 53 0 + 1 := by rw [hs, mset_eq]
  refine ⟨⟨by omega, fun i i0 i1 => ?_, fun j j0 j1 => ?_⟩, ?_, by omega, ?_, c7⟩
  · rw [e34, if_neg (by omega)]; exact c2 i i0 i1
  · rw [e34]
    by_cases z : j = h
    · rw [if_pos (by omega), z]
    · rw [if_neg (by omega)]; exact c3 j (by omega) j1
  · rw [hs, mset_ne _ _ _ _ _ (by decide), mset_ne _ _ _ _ _ (by decide)]; exact c4
  · have z : (T 22 0 - h).toNat = (T 22 0 - (h + 1)).toNat + 1 := by omega
    rw [c6, z, cnt_l, hd]; omega
/-- a sign between two, of another rank than < and = -/
theorem between_v {s T : gMem} {h d lv sg : Int} (c : CR s T h d) (hb : T 22 0 ≤ 160) (hr : ∀ j, h ≤ j → j < T 22 0 → lv ≤ f_X9_rank (T 21 j)) (st : h = 0 ∨ f_X9_rank (T 21 (h - 1)) < lv) (hsg : f_X9_rank sg = lv) (h4 : ¬ lv = 4) : ∃ V, f_X9_between sg T = (1, V) ∧ CR s V (h + 1) d ∧ V 22 0 = h + 1 ∧ V 21 h = sg ∧ (∀ j, j < h → V 21 j = T 21 j) ∧ V 24 0 + h = T 24 0 + T 22 0 ∧ fr [5, 21, 22, 23, 24] T V := by
  obtain ⟨U, q1, q2, q3, q4, q5⟩ := CR_unw c (by omega) hr st
  obtain ⟨V, hV⟩ : ∃ V, V = mset (mset U 21 (U 22 0) sg) 22 0 (U 22 0 + 1) := ⟨_, rfl⟩
  have fV : fr [21, 22] U V := by rw [hV]; exact ((fr.rf _ _).set (by decide)).set (by decide)
  have eh : f_X9_holds sg U = (0, V) := by
    unfold f_X9_holds
    rw [gl_v, gl_v, hV, mset_ne _ _ _ _ _ (by decide)]
  have e21 : ∀ j, V 21 j = if j = h then sg else U 21 j := fun j => by rw [hV, mset_ne _ _ _ _ _ (by decide), mset_at, q3]
  have e22 : V 22 0 = h + 1 := by rw [hV, mset_eq, q3]
  have u21 : U 21 = T 21 := by rw [q5 21 (by decide)]
  refine ⟨V, ?_, CR_hold q2 q3 (fV.mono (by decide)) e22 (by rw [fV 23 (by decide)]; exact (CR_h q2 q3).1) e21, e22, by rw [e21, if_pos rfl], fun j hj => by rw [e21, if_neg (by omega), u21], by rw [fV 24 (by decide)]; exact q4, (q5.mono (by decide)).call (by decide) fV⟩
  unfold f_X9_between
  rw [hsg, if_neg h4, gl_v, gb_eq q1, gj_v, if_neg h4, gb_eq eh]
def SGN (op : Int → Int) (lv : Int) : Prop := ∀ s T, TOK s T → ¬ op (s 55 0) = 0 → ¬ T 18 0 = 59 ∧ ¬ T 18 0 = 41 ∧ ¬ T 18 0 = 0 ∧ ¬ f_X9_signOf T = -1 ∧ f_X9_rank (f_X9_signOf T) = lv ∧ mcd (f_X9_signOf T) = op (s 55 0) ∧ ¬ f_X9_signOf T = 13 ∧ ¬ f_X9_signOf T = 19 ∧ (lv ≤ 3 ↔ ¬ 12 < f_X9_signOf T)
theorem LOOP {G : gMem → gRes} {W : Nat → Int → gMem → Int × gMem} {op : Int → Int} {sbG lvG lv d : Int} (hW : ∀ n v s, W (n + 1) v s = if v < 160 then (if op (s 55 0) = 0 then (v, s) else gb (f_X3_next s) (fun _ a => gb (G a) (fun _ b => gb (f_X3_emit (op (s 55 0)) b) (fun _ c => W n (v + 1) c)))) else (v, s)) (hop : op 1 = 0) (hS : SGN op lv) (hG : SIM G sbG lvG d) (h1 : lv < lvG) (h2 : lv < sbG) (h4 : ¬ lv = 4) (h3 : lv ≤ 3 ↔ lvG ≤ 3) (hN : ∀ s T h, TOK s T → op (s 55 0) = 0 → NXT lvG h T → NXT lv h T) : ∀ (fu : Nat) (v : Int) (s T : gMem) (n : Nat) (w h b : Int) (f : Int → Int), EX0 lv h d b f n s T → NXT lvG h T → (h = 0 ∨ f_X9_rank (f (h - 1)) < lv) → v < T 17 0 → 160 - v < fu → ∃ v' s', W fu v s = (v', s') ∧ (FLB (eB n 0 w T) s' ∨ ∃ n' w' T', eB n 0 w T = eB n' 0 w' T' ∧ EX0 lv h d b f n' s' T' ∧ NXT lv h T') := by
  intro fu
  induction fu with
  | zero => intro v s T n w h b f hE _ _ hv hf; have := tok_17 hE.1; omega
  | succ fu ih =>
    intro v s T n w h b f hE hX hst hv hf
    obtain ⟨k, c, hr, hb, hfu, ha, hbb, hf21⟩ := id hE
    have t17 := tok_17 k
    have c5 := c.2.2.1
    rw [hW, if_pos (by omega)]
    by_cases ho : op (s 55 0) = 0
    · rw [if_pos ho]
      exact ⟨v, s, rfl, Or.inr ⟨n, w, T, rfl, hE, hN s T h k ho hX⟩⟩
    · rw [if_neg ho]
      obtain ⟨x59, x41, x0, xs, xr, xm, x13, x19, x12⟩ := hS s T k ho
      obtain ⟨sg, hsg⟩ : ∃ sg, sg = f_X9_signOf T := ⟨_, rfl⟩
      rw [← hsg] at xs xr xm x13 x19 x12
      obtain ⟨V, b1, b2, b3, b4, b5, b6, b7⟩ := between_v c (by omega) hr (by
        rcases hst with z | z
        · exact Or.inl z
        · by_cases y : h = 0
          · exact Or.inl y
          · refine Or.inr ?_
            rw [hf21 (h - 1) (by omega)]; exact z) xr h4
      have V4 : V 4 0 = T 4 0 := by rw [b7 4 (by decide)]
      have V16 : V 16 0 = T 16 0 := by rw [b7 16 (by decide)]
      have fl : V 4 0 - V 16 0 < (n : Int) := by
        rw [V4, V16]
        rcases hfu with z | z
        · exact absurd z x0
        · exact z
      have adv : T 17 0 < T 16 0 := by
        rcases ha with z | z
        · exact absurd z x0
        · exact z
      obtain ⟨m, s1, T1, n1, n2, n3, n4, n5, n6, n7, n8⟩ := nx (TPR_fr k.1 (fun _ _ => rfl) (frK b7 (by decide))) b2.2.2.2.2 fl
      have eT : eB n 0 w T = eB m 1 (if 12 < sg then 0 else 1) T1 := by
        rw [← n2]
        unfold eB
        rw [if_pos zz, if_neg x59, if_neg x41, ← hsg, if_neg xs, gb_eq b1, if_neg (by decide), gl_v]
      have C1 : CR s1 T1 (h + 1) d := CR_fr b2 (frK n4 (by decide)) (frK n5 (by decide))
      have E1 : ENT sbG lvG (h + 1) d m (if 12 < sg then 0 else 1) s1 T1 := by
        refine ⟨n3, C1, by rw [n5 22 (by decide), b3], ?_, n6, Or.inr ?_, ?_, n7⟩
        · rw [n5 24 (by decide), n5 22 (by decide), b3]; omega
        · have z : h + 1 - 1 = h := by omega
          rw [z, n5 21 (by decide), b4, xr]; exact h2
        · by_cases y : 12 < sg
          · rw [if_pos y]; exact Or.inr ⟨by omega, Or.inl rfl⟩
          · rw [if_neg y]; exact Or.inl ⟨by omega, by decide⟩
      obtain ⟨s2, g1, g2⟩ := hG.2 s1 T1 m (if 12 < sg then 0 else 1) (h + 1) E1
      rw [gb_eq n1, gb_eq g1]
      rcases g2 with ⟨g2, g3⟩ | ⟨n', w', T2, g2, ⟨e1, e2, e3, e4, e5, e6, e7, e8⟩, g4⟩
      · obtain ⟨s3, r1, r2, r3⟩ := emit_F (op (s 55 0)) g2
        rw [gb_eq r1]
        have stop : W fu (v + 1) s3 = (v + 1, s3) := by
          cases fu with
          | zero => omega
          | succ fu =>
            rw [hW, r2.1, hop, if_pos zz]
            by_cases y : v + 1 < 160
            · rw [if_pos y]
            · rw [if_neg y]
        refine ⟨v + 1, s3, stop, Or.inl ⟨r2, ?_⟩⟩
        rw [eT, r3]; exact g3
      · have t2 := tok_17 e1
        have e53 := e2.1.1
        have c52 := e2.2.2.1
        have T2h : T2 21 h = sg := by rw [e8 h (by omega), n5 21 (by decide), b4]
        obtain ⟨s3, hs3⟩ : ∃ s3, s3 = mset (mset s2 34 (s2 53 0) (mcd (T2 21 h))) 53 0 (s2 53 0 + 1) := ⟨_, rfl⟩
        have r1 : f_X3_emit (op (s 55 0)) s2 = (0, s3) := by rw [emit_v _ (by omega), hs3, T2h, xm]
        rw [gb_eq r1]
        have f3 : fr [34, 53] s2 s3 := by rw [hs3]; exact ((fr.rf _ _).set (by decide)).set (by decide)
        have E3 : EX0 lv h d b f n' s3 T2 := by
          refine ⟨TOK_fr e1 (frK f3 (by decide)) (fun _ _ => rfl), CR_emit e2 c5.1 hs3 (by rw [T2h, if_neg x13, if_neg x19]; omega), fun j j0 j1 => ?_, e4, e5, e6, by omega, fun j hj => ?_⟩
          · by_cases y : j = h
            · rw [y, T2h, xr]; omega
            · have := e3 j (by omega) j1; omega
          · rw [e8 j (by omega), n5 21 (by decide), b5 j hj]; exact hf21 j hj
        obtain ⟨v', s', u1, u2⟩ := ih (v + 1) s3 T2 n' w' h b f E3 (NXT_h g4 (by omega)) hst (by omega) (by omega)
        refine ⟨v', s', u1, ?_⟩
        rw [eT, g2]; exact u2
theorem LEVEL {F G : gMem → gRes} {W : Nat → Int → gMem → Int × gMem} {op : Int → Int} {sbG lvG lv d : Int} (hF : ∀ s, F s = gb (G s) (fun _ a => gl2 (W 161 0 a) (fun _ b => (0, b)))) (hW : ∀ n v s, W (n + 1) v s = if v < 160 then (if op (s 55 0) = 0 then (v, s) else gb (f_X3_next s) (fun _ a => gb (G a) (fun _ b => gb (f_X3_emit (op (s 55 0)) b) (fun _ c => W n (v + 1) c)))) else (v, s)) (hop : op 1 = 0) (hS : SGN op lv) (hG : SIM G sbG lvG d) (h1 : lv < lvG) (h2 : lv < sbG) (h4 : ¬ lv = 4) (h3 : lv ≤ 3 ↔ lvG ≤ 3) (hN : ∀ s T h, TOK s T → op (s 55 0) = 0 → NXT lvG h T → NXT lv h T) : SIM F lv lv d := by
  constructor
  · intro s hs
    obtain ⟨s', e, e1, e2⟩ := hG.1 s hs
    rw [hF, gb_eq e, gl2_v, hW, e1.1, hop, if_pos zz, if_pos (by decide)]
    exact ⟨s', rfl, e1, e2⟩
  · intro s T n w h ⟨k, c, a1, a2, a3, a4, a5, a6⟩
    have t17 := tok_17 k
    obtain ⟨s1, g1, g2⟩ := hG.2 s T n w h ⟨k, c, a1, a2, a3, by omega, by unfold UC at *; omega, a6⟩
    rw [hF, gb_eq g1, gl2_v]
    rcases g2 with ⟨g2, g3⟩ | ⟨n', w', T2, g2, ⟨e1, e2, e3, e4, e5, e6, e7, e8⟩, g4⟩
    · rw [hW, g2.1, hop, if_pos zz, if_pos (by decide)]
      exact ⟨s1, rfl, Or.inl ⟨g2, g3⟩⟩
    · obtain ⟨v', s', u1, u2⟩ := LOOP hW hop hS hG h1 h2 h4 h3 hN 161 0 s1 T2 n' w' h (T 17 0) (T 21) ⟨e1, e2, fun j j0 j1 => by have := e3 j j0 j1; omega, e4, e5, e6, e7, e8⟩ g4 a4 (by omega) (by omega)
      rw [u1, g2]
      exact ⟨s', rfl, u2⟩
