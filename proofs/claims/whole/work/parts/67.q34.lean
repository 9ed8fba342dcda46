/-! reading a text -/
def XR (s : gMem) : Prop := gMR lgX s ∧ RCO s ∧ RBE s ∧ TK s
def MR (t : gMem) : Prop := gMR lgM t ∧ (0 ≤ t 4 0 ∧ t 4 0 ≤ 160) ∧ (0 ≤ t 16 0 ∧ t 16 0 ≤ t 4 0) ∧ (0 ≤ t 7 0 ∧ t 7 0 ≤ 5) ∧ (0 ≤ t 24 0 ∧ t 24 0 ≤ t 16 0)
def KEEP (t t' : gMem) : Prop := fr [5, 6, 16, 17, 18, 19, 21, 22, 23, 24] t t' ∧ (∀ i, i < 200 * t 7 0 → t' 5 i = t 5 i) ∧ ∀ i, i < 4 * t 7 0 → t' 6 i = t 6 i
theorem KEEP_tr {a b c : gMem} (h : KEEP a b) (g : KEEP b c) : KEEP a c := by
  obtain ⟨h1, h2, h3⟩ := h
  obtain ⟨g1, g2, g3⟩ := g
  have e : b 7 0 = a 7 0 := by rw [h1 7 (by decide)]
  rw [e] at g2 g3
  exact ⟨h1.call (fun _ z => z) g1, fun i hi => by rw [g2 i hi, h2 i hi], fun i hi => by rw [g3 i hi, h3 i hi]⟩
def TX (s T : gMem) (p : Int) : Prop := TOK s T ∧ s 53 0 = T 24 0 ∧ (∀ i, 0 ≤ i → i < T 24 0 → s 34 i = mcd (T 5 (200 * T 7 0 + i))) ∧ s 58 0 < 0 ∧ IV T ∧ (0 ≤ T 24 0 ∧ T 24 0 ≤ T 17 0) ∧ ∀ i, 0 ≤ i → i < p → s 35 i = T 6 (4 * T 7 0 + i)
theorem want_B2 {s T : gMem} {x : Int} (t : TOK s T) (c : s 58 0 < 0) (hx : ¬ s 55 0 = x) : ∃ s', f_X3_want x s = (0, s') ∧ FAILD s' ∧ s' 58 0 = T 17 0 := by
  obtain ⟨s', e, e1, e2⟩ := fail_v s
  rw [if_pos c, t.2.1] at e2
  have := tok_17 t
  unfold f_X3_want
  rw [if_neg hx, gb_eq e]
  exact ⟨s', rfl, ⟨e1, by omega⟩, e2⟩
theorem TXF : ∀ (n : Nat) (p : Int) (s : gMem), 0 ≤ p → FAILD s → ∃ v s', w_X3_readText_21 n p s = (v, s') ∧ FAILD s' ∧ s' 58 0 = s 58 0 := by
  intro n
  induction n with
  | zero => intro p s _ h; exact ⟨p, s, rfl, h, rfl⟩
  | succ n ih =>
    intro p s p0 h
    rw [w_X3_readText_21_s]
    by_cases c : p < 3
    · rw [if_pos c, gl_v]
      have f0 : fr [35] s (mset s 35 p (s 53 0)) := (fr.rf _ _).set (by decide)
      have h0 : FAILD (mset s 35 p (s 53 0)) := by unfold FAILD; rw [f0 55 (by decide), f0 58 (by decide)]; exact h
      have e0 : (mset s 35 p (s 53 0)) 58 0 = s 58 0 := by rw [f0 58 (by decide)]
      obtain ⟨s1, a1, a2, a3⟩ := want_F (x := 256 + p) h0 (by omega)
      obtain ⟨s2, b1, b2, b3⟩ := (RA_5 0 rfl).2.2.1 s1 a2
      obtain ⟨s3, c1, c2, c3⟩ := want_F (x := 59) b2 (by decide)
      obtain ⟨v, s', d1, d2, d3⟩ := ih (p + 1) s3 (by omega) c2
      rw [gb_eq a1, gb_eq b1, gb_eq c1]
      exact ⟨v, s', d1, d2, by omega⟩
    · rw [if_neg c]; exact ⟨p, s, rfl, h, rfl⟩
theorem w26_0 (n : Nat) (q : Int) (t : gMem) : w_X9_text_26 n 0 q t = (0, q, t) := by
  cases n with
  | zero => rfl
  | succ n =>
    rw [w_X9_text_26_s]
    by_cases c : q < 3
    · rw [if_pos c, if_pos zz]
    · rw [if_neg c]
theorem IV_g {T : gMem} (h : gMR lgM T) (hW : IW T) : IV T := ⟨hW, fun i => (h 3 i).1 rfl, fun i => (h 20 i).1 rfl⟩
theorem TXL : ∀ (n : Nat) (p : Int) (s t T : gMem), 0 ≤ p → p ≤ 3 → 3 - p < (n : Int) → XR s → MR t → f_X9_next t = (0, T) → fr [16, 17, 18, 19] t T → TX s T p → ∃ vx s' g q t', w_X3_readText_21 n p s = (vx, s') ∧ w_X9_text_26 n 1 p t = (g, q, t') ∧ KEEP t t' ∧ ((g = 0 ∧ FAILD s' ∧ t' 17 0 = s' 58 0) ∨ (g = 1 ∧ ∃ T', f_X9_next t' = (0, T') ∧ fr [16, 17, 18, 19] t' T' ∧ TX s' T' 3)) := by
  intro n
  induction n with
  | zero => intro p s t T p0 p3 hn; omega
  | succ n ih =>
    intro p s t T p0 p3 hn hX hM hN fN hT
    rw [w_X3_readText_21_s, w_X9_text_26_s]
    by_cases c : p < 3
    · rw [if_pos c, if_pos c, if_neg (by decide), gl_v, gb_eq hN, gj_v]
      obtain ⟨hX1, hX2, hX3, hX4⟩ := id hX
      obtain ⟨hM1, hM2, hM3, hM4, hM5⟩ := id hM
      obtain ⟨tk, x53, x34, x58, xI, x24, x35⟩ := id hT
      have t17 := tok_17 tk
      have kt := tk.2.2.2
      obtain ⟨-, gT, -, w4, w5, -, -⟩ := f_X9_next_p t hM1 hM2 hM3 0 T hN
      have T7 : T 7 0 = t 7 0 := by rw [fN 7 (by decide)]
      have T4 : T 4 0 = t 4 0 := by rw [fN 4 (by decide)]
      obtain ⟨S, hS⟩ : ∃ S, S = mset s 35 p (s 53 0) := ⟨_, rfl⟩
      rw [← hS]
      have fS : fr [35] s S := by rw [hS]; exact (fr.rf _ _).set (by decide)
      have S35 : ∀ i, S 35 i = if i = p then s 53 0 else s 35 i := fun i => by rw [hS, mset_at]
      have tS : TOK S T := TOK_fr tk (frK fS (by decide)) (fun _ _ => rfl)
      have S58 : S 58 0 < 0 := by rw [fS 58 (by decide)]; exact x58
      have hk4 := hX4.2.2.2.2.1
      have gS : gMR lgX S := by rw [hS]; exact hX1.set32 rfl ⟨by omega, by omega⟩
      have kS : TK S := TK_fr hX4 (frK fS (by decide))
      have cS : RCO S := RCO_fr hX2 (frK fS (by decide))
      have bS : RBE S := fun j => by
        rw [S35]
        by_cases z : j = p
        · rw [if_pos z]; exact hk4
        · rw [if_neg z]; exact hX3 j
      obtain ⟨Z, hZ⟩ : ∃ Z, Z = mset T 6 ((4 * (T 7 0)) + p) (T 24 0) := ⟨_, rfl⟩
      have fZ : fr [6] T Z := by rw [hZ]; exact (fr.rf _ _).set (by decide)
      have Z6 : ∀ i, Z 6 i = if i = 4 * T 7 0 + p then T 24 0 else T 6 i := fun i => by rw [hZ, mset_at]
      have kZ : KEEP t Z := ⟨(fN.mono (by decide)).call (by decide) fZ, fun i _ => by rw [fZ 5 (by decide), fN 5 (by decide)], fun i hi => by rw [Z6, if_neg (by omega), fN 6 (by decide)]⟩
      by_cases y : s 55 0 = 256 + p
      · have t18 : T 18 0 = 3 := by omega
        have t19 : T 19 0 = p := by omega
        rw [if_pos t18, if_pos t19, gl_v, ← hZ, gj_v, if_neg (by decide)]
        obtain ⟨Y, hY⟩ : ∃ Y, Y = mset (mset Z 22 0 0) 23 0 0 := ⟨_, rfl⟩
        have fY : fr [22, 23] Z Y := by rw [hY]; exact ((fr.rf _ _).set (by decide)).set (by decide)
        have Y22 : Y 22 0 = 0 := by rw [hY, mset_ne _ _ _ _ _ (by decide), mset_eq]
        have Y23 : Y 23 0 = 0 := by rw [hY, mset_eq]
        have eY : f_X9_eRead Z = t_X9_eRead_14 161 1 1 Y := by unfold f_X9_eRead; rw [gl_v, gl_v, ← hY]
        have fTY : fr [6, 22, 23] T Y := (fZ.mono (by decide)).call (by decide) fY
        have Y4 : Y 4 0 = T 4 0 := by rw [fTY 4 (by decide)]
        have Y16 : Y 16 0 = T 16 0 := by rw [fTY 16 (by decide)]
        have Y24 : Y 24 0 = T 24 0 := by rw [fTY 24 (by decide)]
        have Y7 : Y 7 0 = T 7 0 := by rw [fTY 7 (by decide)]
        have iY : IV Y := IV_fr xI (frK fTY (by decide))
        obtain ⟨m, s1, T1, m1, m2, m3, m4, m5, m6, m7, m8⟩ := nx (n := 161) (TPR_fr tS.1 (fun _ _ => rfl) (frK fTY (by decide))) iY (by rw [Y4, Y16]; omega)
        have ew : f_X3_want (256 + p) S = (0, s1) := by
          unfold f_X3_want
          rw [fS 55 (by decide), if_pos y, gb_eq m1]
        have C1 : CR s1 T1 0 0 := by
          refine ⟨⟨?_, fun i i0 i1 => ?_, fun j j0 j1 => ?_⟩, ?_, ?_, ?_, IV_fr iY (frK m5 (by decide))⟩
          · rw [m4 53 (by decide), fS 53 (by decide), m5 24 (by decide), m5 22 (by decide), Y22, Y24]; omega
          · rw [m5 24 (by decide), Y24] at i1
            rw [m4 34 (by decide), fS 34 (by decide), m5 5 (by decide), m5 7 (by decide), fTY 5 (by decide), Y7]
            exact x34 i i0 i1
          · rw [m5 22 (by decide), Y22] at j1; omega
          · rw [m4 58 (by decide)]; exact S58
          · rw [m5 22 (by decide), m5 24 (by decide), Y22, Y24]; omega
          · rw [m5 22 (by decide), m5 23 (by decide), Y22, Y23]; rfl
        obtain ⟨s2, g1, g2⟩ := (RA_5 0 rfl).2.2.2 s1 T1 m 1 0 ⟨m3, C1, by rw [m5 22 (by decide), Y22], by rw [m5 24 (by decide), m5 22 (by decide), Y22, Y24]; omega, m6, Or.inl rfl, Or.inl ⟨by decide, by decide⟩, m7⟩
        obtain ⟨o1, o2, -, o3⟩ := f_X3_want_p (256 + p) S ⟨by omega, by omega⟩ gS kS 0 s1 ew
        obtain ⟨u1, u2, -, u3, u4⟩ := f_X3_readOr_5_p 0 s1 ⟨by decide, by decide⟩ o2 o3 (RCO_fr cS (frK o1 (by decide))) rfl 0 s2 g1
        have gZ : gMR lgM Z := by rw [hZ]; exact gT.set32 rfl ⟨by omega, by omega⟩
        have Z4 : Z 4 0 = T 4 0 := by rw [fZ 4 (by decide)]
        have Z16 : Z 16 0 = T 16 0 := by rw [fZ 16 (by decide)]
        have Z24 : Z 24 0 = T 24 0 := by rw [fZ 24 (by decide)]
        have Z7 : Z 7 0 = T 7 0 := by rw [fZ 7 (by decide)]
        have er : ∀ r U, f_X9_eRead Z = (r, U) → KEEP t U ∧ gMR lgM U ∧ (0 ≤ U 24 0 ∧ U 24 0 ≤ U 16 0) ∧ fr [5, 16, 17, 18, 19, 21, 22, 23, 24] Z U := fun r U e => by
          obtain ⟨v1, v2, -, v3, v4, v5, -⟩ := f_X9_eRead_p Z gZ (by omega) (by omega) (by omega) (by omega) r U e
          refine ⟨KEEP_tr kZ ⟨v1.mono (by decide), fun i hi => v4 i (by omega), fun i hi => by rw [v1 6 (by decide)]⟩, v2, by omega, v1⟩
        rw [gb_eq ew, gb_eq g1]
        have bad : ∀ s3, f_X3_want 59 s2 = (0, s3) → FAILD s3 → ∀ U, eB m 1 1 T1 = (0, U) → U 17 0 = s3 58 0 → ∃ vx s' g q t', gb (f_X3_want 59 s2) (fun r60 s61 => w_X3_readText_21 n (p + 1) s61) = (vx, s') ∧ gb (f_X9_eRead Z) (fun r95 s96 => (if r95 = 0 then (w_X9_text_26 n 0 (p + 1) s96) else (w_X9_text_26 n 1 (p + 1) s96))) = (g, q, t') ∧ KEEP t t' ∧ ((g = 0 ∧ FAILD s' ∧ t' 17 0 = s' 58 0) ∨ (g = 1 ∧ ∃ T', f_X9_next t' = (0, T') ∧ fr [16, 17, 18, 19] t' T' ∧ TX s' T' 3)) := fun s3 r1 r2 U e1 e2 => by
          have eU : f_X9_eRead Z = (0, U) := by rw [eY, m2, e1]
          obtain ⟨v, s', d1, d2, d3⟩ := TXF n (p + 1) s3 (by omega) r2
          rw [gb_eq r1, gb_eq eU, if_pos zz, w26_0]
          exact ⟨v, s', 0, p + 1, U, d1, rfl, (er 0 U eU).1, Or.inl ⟨rfl, d2, by rw [d3]; exact e2⟩⟩
        rcases g2 with ⟨g2, U, g3, g4⟩ | ⟨n2, w2, T2, g2, E2, g4⟩
        · obtain ⟨s3, r1, r2, r3⟩ := want_F (x := 59) g2 (by decide)
          exact bad s3 r1 r2 U g3 (by rw [r3]; exact g4)
        · obtain ⟨e1, e2, e3, e4, e5, e6, e7, e8⟩ := id E2
          have t2 := tok_17 e1
          have i59 := tok_i e1 59 (by decide)
          have c52 := e2.2.2.1
          by_cases y59 : s2 55 0 = 59
          · have z59 := i59.mp y59
            obtain ⟨U, q1, q2, q3, q4, q5⟩ := CR_unw e2 (by omega) e3 (Or.inl rfl)
            obtain ⟨z23, z53⟩ := CR_h q2 q3
            have eU : f_X9_eRead Z = (1, U) := by
              rw [eY, m2, g2]
              unfold eB
              rw [if_pos zz, if_pos z59, gb_eq q1, if_pos q3]
            obtain ⟨k1, k2, k3, k4⟩ := er 1 U eU
            have U16 : U 16 0 = T2 16 0 := by rw [q5 16 (by decide)]
            have U4 : U 4 0 = T2 4 0 := by rw [q5 4 (by decide)]
            have U7 : U 7 0 = T 7 0 := by rw [k4 7 (by decide), Z7]
            obtain ⟨⟨x1, x2, x3⟩, x4, x5, x6, x7⟩ := id q2
            obtain ⟨s3, T3, r1, r2, r3, r4, r5, r6, r7⟩ := nx0 (TPR_fr e1.1 (fun _ _ => rfl) (frK q5 (by decide))) x7
            have ew2 : f_X3_want 59 s2 = (0, s3) := by
              unfold f_X3_want
              rw [if_pos y59, gb_eq r1]
            obtain ⟨h1, h2, -, h3⟩ := f_X3_want_p 59 s2 ⟨by decide, by decide⟩ u2 u3 0 s3 ew2
            have c34 : RCO s3 := RCO_fr u4 (frK h1 (by decide))
            have c35 : RBE s3 := RBE_fr (RBE_fr (RBE_fr bS (frK o1 (by decide))) (frK u1 (by decide))) (frK h1 (by decide))
            have V4 : T2 4 0 = T 4 0 := by rw [← U4, k4 4 (by decide), Z4]
            obtain ⟨vx, s', g, q, t', w1, w2', w3, w4'⟩ := ih (p + 1) s3 U T3 (by omega) (by omega) (by omega) ⟨h2, c34, c35, h3⟩ ⟨k2, by omega, by omega, by omega, by omega⟩ r2 r5 ⟨r3, by rw [r4 53 (by decide), r5 24 (by decide)]; exact z53, fun i i0 i1 => by
                rw [r5 24 (by decide)] at i1
                rw [r4 34 (by decide), r5 5 (by decide), r5 7 (by decide)]; exact x2 i i0 i1, by rw [r4 58 (by decide)]; exact x4, IV_fr x7 (frK r5 (by decide)), by rw [r5 24 (by decide)]; omega, fun i i0 i1 => by
                rw [r4 35 (by decide), u1 35 (by decide), o1 35 (by decide), S35, r5 6 (by decide), r5 7 (by decide), k4 6 (by decide), Z6, U7]
                by_cases z : i = p
                · rw [if_pos z, if_pos (by omega)]; exact x53
                · rw [if_neg z, if_neg (by omega)]; exact x35 i i0 (by omega)⟩
            rw [gb_eq ew2, gb_eq eU, if_neg (by decide)]
            exact ⟨vx, s', g, q, t', w1, w2', KEEP_tr k1 w3, w4'⟩
          · obtain ⟨s3, r1, r2, r3⟩ := want_B e1 e2 y59
            obtain ⟨U, u1', u2'⟩ := BADX w2 E2 g4 (Or.inl rfl) (fun z => absurd (i59.mpr z) y59) (fun _ => rfl)
            exact bad s3 r1 r2 U (by rw [g2, u1']) (by rw [u2', r3])
      · obtain ⟨s1, a1, a2, a3⟩ := want_B2 (x := 256 + p) tS S58 (by rw [fS 55 (by decide)]; exact y)
        obtain ⟨s2, b1, b2, b3⟩ := (RA_5 0 rfl).2.2.1 s1 a2
        obtain ⟨s3, c1, c2, c3⟩ := want_F (x := 59) b2 (by decide)
        obtain ⟨v, s', d1, d2, d3⟩ := TXF n (p + 1) s3 (by omega) c2
        have ej : ∀ {α : Type} (A B : α), (if T 18 0 = 3 then (if T 19 0 = p then A else B) else B) = B := fun A B => by
          by_cases z : T 18 0 = 3
          · rw [if_pos z, if_neg (by omega)]
          · rw [if_neg z]
        rw [gb_eq a1, gb_eq b1, gb_eq c1, ej, gl_v, ← hZ, gj_v, if_pos zz]
        exact ⟨v, s', 0, p + 1, Z, d1, w26_0 _ _ _, kZ, Or.inl ⟨rfl, d2, by rw [fZ 17 (by decide)]; omega⟩⟩
    · have e3 : p = 3 := by omega
      rw [if_neg c, if_neg c]
      exact ⟨p, s, 1, p, t, rfl, rfl, ⟨fr.rf _ _, fun _ _ => rfl, fun _ _ => rfl⟩, Or.inr ⟨rfl, T, hN, fN, by rw [← e3]; exact hT⟩⟩
/-- what both keep of the texts, the rule's caches too -/
theorem INV_text {s t s' t' : gMem} {L L' : List Nat} (h : INV s t) (hs : fr L s s') (hL : ∀ k ∈ L, k ∈ [19, 20, 21, 22, 23, 24, 26, 27, 28, 29, 30, 31, 34, 35, 51, 52, 53, 54, 55, 56, 57, 58]) (ht : fr L' t t') (hL' : ∀ k ∈ L', k ∈ [4, 5, 6, 7, 16, 17, 18, 19, 21, 22, 23, 24]) (hno : s' 51 0 = t' 7 0) (h52 : s' 52 0 = 0) (h4 : t' 4 0 = 0) (ho : ∀ k : Nat, (k : Int) < t 7 0 → s' (19 + k) = s (19 + k) ∧ s' (26 + k) = s (26 + k)) (hR : RLtx s' t') (hX : XI s') (hM : MI t') : INV s' t' := by
  have fs : fr [19, 20, 21, 22, 23, 24, 26, 27, 28, 29, 30, 31, 34, 35, 51, 52, 53, 54, 55, 56, 57, 58] s s' := hs.mono hL
  have ft : fr [4, 5, 6, 7, 16, 17, 18, 19, 21, 22, 23, 24] t t' := ht.mono hL'
  obtain ⟨r1, r2, r3, r4, r5, r6, r7⟩ := h.1
  have hVS := h.2.2.1.1.2.1
  have e8 : t' 8 0 = t 8 0 := by rw [ft 8 (by decide)]
  have e63 : s' 63 0 = s 63 0 := by rw [fs 63 (by decide)]
  have hr : RLa s' t' := ⟨RLpl_fr r1 (frK fs (by decide)) (frK ft (by decide)), RLto_fr r2 (frK fs (by decide)) (frK ft (by decide)), ⟨by rw [e63, e8]; exact r3.1, hno⟩, ⟨by omega, fun i i0 i1 => by omega⟩, hR, RLim_fr r6 (frK fs (by decide)) (frK ft (by decide)), RLsh_fr r7 (frK fs (by decide)) (frK ft (by decide))⟩
  obtain ⟨v1, v2, v3, v4, -⟩ := hVS
  have r31 := r3.1
  obtain ⟨o1, o2⟩ := ho (s 63 0).toNat (by omega)
  obtain ⟨c1, c2, c3⟩ := CF_x (INV_XT h) hr hX.1.2.2.1 hX.1.2.2.2.2.2.2.1 hM.1 (ft 0 (by decide)) (ft 1 (by decide)) (frK fs (by decide)) o2 o1
  exact ⟨hr, hX, hM, c1, c2, c3⟩
theorem RLtx_old {s t s' t' : gMem} (h : INV s t) (hk : KEEP t t') {k : Nat} (hk6 : k < 6) (hk7 : (k : Int) < t 7 0) (o : s' (19 + k) = s (19 + k) ∧ s' (26 + k) = s (26 + k)) : (∀ j : Int, 0 ≤ j → j ≤ 3 → s' (26 + k) j = t' 6 (4 * k + j)) ∧ ∀ i : Int, 0 ≤ i → i < t' 6 (4 * k + 3) → s' (19 + k) i = mcd (t' 5 (200 * k + i)) := by
  obtain ⟨a1, a2⟩ := h.1.2.2.2.2.1 k hk6 hk7
  obtain ⟨b1, b2, b3⟩ := hk
  have bg := (h.2.1.1.2.2.1 k hk6 3).2
  rw [a1 3 (by decide) (by decide)] at bg
  rw [o.1, o.2]
  constructor
  · intro j j0 j1
    rw [b3 _ (by omega)]; exact a1 j j0 j1
  · intro i i0 i1
    rw [b3 _ (by omega)] at i1
    rw [b2 _ (by omega)]; exact a2 i i0 i1
theorem EQ_text {s t : gMem} (h : INV s t) (hW : IW t) : (f_X8_text s).1 = (f_X9_text t).1 ∧ INV (f_X8_text s).2 (f_X9_text t).2 := by
  have hVS := h.2.2.1.1.2.1
  have hTP := h.2.2.1.2.2.2.2.2.2.2.2.2
  have hIG : IG t := h.2.2.1.2.2.2.2.2.2.2.2.1
  have hTK : TKW s := h.2.1.2.2.2.2.2.2.2.2.2.2.2.2.2.2.2.2.2.2.2.2.2
  have hRCO : RCO s := h.2.1.2.2.2.2.2.2.2.2.2.2.2.2.2.2.2.2.2.2.2.1
  have hRBE : RBE s := h.2.1.2.2.2.2.2.2.2.2.2.2.2.2.2.2.2.2.2.2.2.2.1
  have hg : gMR lgX s := h.2.1.1.1
  have hgM := INV_gM h
  obtain ⟨p1, p2⟩ := h.1.2.2.2.1
  have n51 := h.1.2.2.1.2
  obtain ⟨v1, v2, v3, v4, -⟩ := id hVS
  have XIt := XI_text h.2.1
  have fin : ∀ (r : Int) (s' t' : gMem) (L : List Nat), f_X8_text s = (r, s') → f_X9_text t = (r, t') → (fr L s s' → (∀ k ∈ L, k ∈ [19, 20, 21, 22, 23, 24, 26, 27, 28, 29, 30, 31, 34, 35, 51, 52, 53, 54, 55, 56, 57, 58]) → fr [4, 5, 6, 7, 16, 17, 18, 19, 21, 22, 23, 24] t t' → True) → s' 51 0 = t' 7 0 → s' 52 0 = 0 → t' 4 0 = 0 → t 7 0 ≤ t' 7 0 → (∀ k : Nat, (k : Int) < t 7 0 → s' (19 + k) = s (19 + k) ∧ s' (26 + k) = s (26 + k)) → RLtx s' t' → fr [4, 5, 6, 7, 16, 17, 18, 19, 21, 22, 23, 24] t t' → (f_X8_text s).1 = (f_X9_text t).1 ∧ INV (f_X8_text s).2 (f_X9_text t).2 := fun r s' t' L eX eM _ h51 h52 h4 h7 ho hR ft => by
    have MIt := MI_text h.2.2.1 (by
      rw [eM]
      show IG t'
      unfold IG at hIG ⊢
      rw [ft 9 (by decide), ft 10 (by decide)]
      omega)
    rw [eX] at XIt
    rw [eM] at MIt
    rw [eX, eM]
    exact ⟨rfl, INV_text h XIt.1 (fun _ z => z) MIt.1 (fun _ z => z) h51 h52 h4 ho hR XIt.2 MIt.2⟩
  by_cases c6 : t 7 0 = 6
  · have eX : f_X8_text s = (-4, s) := by unfold f_X8_text; rw [if_neg (by omega)]
    have eM : f_X9_text t = (-4, t) := by unfold f_X9_text; rw [if_pos c6]
    rw [eX, eM]
    exact ⟨rfl, h⟩
  · obtain ⟨s0, hs0⟩ : ∃ s0, s0 = mset (mset (mset s 54 0 0) 53 0 0) 58 0 (-1) := ⟨_, rfl⟩
    have f0 : fr [53, 54, 58] s s0 := by rw [hs0]; exact (((fr.rf _ _).set (by decide)).set (by decide)).set (by decide)
    have a54 : s0 54 0 = 0 := by rw [hs0, mset_ne _ _ _ _ _ (by decide), mset_ne _ _ _ _ _ (by decide), mset_eq]
    have a53 : s0 53 0 = 0 := by rw [hs0, mset_ne _ _ _ _ _ (by decide), mset_eq]
    have a58 : s0 58 0 = -1 := by rw [hs0, mset_eq]
    obtain ⟨t0, ht0⟩ : ∃ t0, t0 = mset (mset t 16 0 0) 24 0 0 := ⟨_, rfl⟩
    have g0 : fr [16, 24] t t0 := by rw [ht0]; exact ((fr.rf _ _).set (by decide)).set (by decide)
    have b16 : t0 16 0 = 0 := by rw [ht0, mset_ne _ _ _ _ _ (by decide), mset_eq]
    have b24 : t0 24 0 = 0 := by rw [ht0, mset_eq]
    have b4 : t0 4 0 = t 4 0 := by rw [g0 4 (by decide)]
    have b7 : t0 7 0 = t 7 0 := by rw [g0 7 (by decide)]
    have gs0 : gMR lgX s0 := by
      rw [hs0]
      exact ((hg.set32 (k := 54) rfl ⟨by decide, by decide⟩).set32 (k := 53) rfl ⟨by decide, by decide⟩).set32 (k := 58) rfl ⟨by decide, by decide⟩
    have gt0 : gMR lgM t0 := by
      rw [ht0]
      exact (hgM.set32 (k := 16) rfl ⟨by decide, by decide⟩).set32 (k := 24) rfl ⟨by decide, by decide⟩
    have iv0 : IV t0 := IV_fr (IV_g hgM hW) (frK g0 (by decide))
    have P0 : TPR s0 t0 := by
      refine ⟨by omega, ?_, by omega, fun i i0 i1 => ?_⟩
      · rw [f0 52 (by decide), b4]; exact p1
      · rw [f0 33 (by decide), g0 3 (by decide)]; exact p2 i i0 (by omega)
    obtain ⟨k1, k2, k3, k4⟩ := hTK
    have kT0 : TK s0 := by
      have e55 : s0 55 0 = s 55 0 := by rw [f0 55 (by decide)]
      have e57 : s0 57 0 = s 57 0 := by rw [f0 57 (by decide)]
      have e52 : s0 52 0 = s 52 0 := by rw [f0 52 (by decide)]
      have e56 : s0 56 0 = s 56 0 := by rw [f0 56 (by decide)]
      unfold TK
      rw [e55, e57, e52, e56, a54, a53, a58]
      exact ⟨k1, k2, k3, ⟨by decide, k3.1⟩, ⟨by decide, by decide⟩, k4, ⟨by decide, by decide⟩⟩
    obtain ⟨s1, T1, n1, n2, n3, n4, n5, n6, n7⟩ := nx0 P0 iv0
    obtain ⟨w1, w2, -, w4⟩ := f_X3_next_p s0 gs0 kT0 0 s1 n1
    have fs1 : fr [53, 54, 55, 56, 57, 58] s s1 := (f0.mono (by decide)).call (by decide) n4
    have t17 := tok_17 n3
    have TX1 : TX s1 T1 0 := by
      refine ⟨n3, by rw [n4 53 (by decide), n5 24 (by decide), a53, b24], fun i i0 i1 => ?_, by rw [n4 58 (by decide), a58]; decide, IV_fr iv0 (frK n5 (by decide)), by rw [n5 24 (by decide), b24]; omega, fun i i0 i1 => by omega⟩
      rw [n5 24 (by decide), b24] at i1; omega
    obtain ⟨vx, s2, g, q, t2, x1, x2, x3, x4⟩ := TXL 5 0 s1 t0 T1 (by decide) (by decide) (by decide) ⟨w2, RCO_fr hRCO (frK fs1 (by decide)), RBE_fr hRBE (frK fs1 (by decide)), w4⟩ ⟨gt0, by omega, by omega, by omega, by omega⟩ n2 n5 TX1
    obtain ⟨s3, hs3⟩ : ∃ s3, s3 = mset s2 35 3 (s2 53 0) := ⟨_, rfl⟩
    have f3 : fr [35] s2 s3 := by rw [hs3]; exact (fr.rf _ _).set (by decide)
    have KT : KEEP t t2 := by
      refine ⟨?_, fun i hi => ?_, fun i hi => ?_⟩
      · exact (g0.mono (by decide)).call (fun _ z => z) x3.1
      · rw [x3.2.1 i (by omega), g0 5 (by decide)]
      · rw [x3.2.2 i (by omega), g0 6 (by decide)]
    have t27 : t2 7 0 = t 7 0 := by rw [KT.1 7 (by decide)]
    -- the class up to its last token
    have cX : ∀ s4, f_X3_want 0 s3 = (0, s4) → f_X3_readText s = (s4 58 0, s4) := fun s4 e => by
      unfold f_X3_readText
      rw [gl_v, gl_v, gl_v, ← hs0, gb_eq n1, x1, gl2_v, gl_v, ← hs3, gb_eq e]
    have cR : ∀ s4, f_X3_want 0 s3 = (0, s4) → fr [34, 35, 53, 54, 55, 56, 57, 58] s s4 := fun s4 e => (f_X3_readText_p s hg hRCO hRBE ⟨k1, k2, k3, k4⟩ (s4 58 0) s4 (cX s4 e)).1
    have cM : f_X9_text t = gl2 ((if g = 0 then (g, t2) else gb (f_X9_next t2) (fun r285 s286 => (gl ((if (s286 18 0) = 0 then 1 else 0)) (fun v299 => (v299, s286)))))) (fun v239 s240 => gl (mset s240 6 ((4 * (s240 7 0)) + 3) (s240 24 0)) (fun s243 => gl (mset s243 4 0 0) (fun s251 => (if v239 = 0 then (((-100) - (s251 17 0)), s251) else gl (mset s251 7 0 ((s251 7 0) + 1)) (fun s262 => (((s262 7 0) - 1), s262)))))) := by
      unfold f_X9_text
      rw [if_neg c6, gl_v, gl_v, ← ht0, x2]
      rfl
    -- a fault
    have flt : ∀ s4 t3, f_X3_want 0 s3 = (0, s4) → FAILD s4 → (if g = 0 then (g, t2) else gb (f_X9_next t2) (fun r285 s286 => (gl ((if (s286 18 0) = 0 then 1 else 0)) (fun v299 => (v299, s286))))) = ((0 : Int), t3) → KEEP t t3 → t3 17 0 = s4 58 0 → (f_X8_text s).1 = (f_X9_text t).1 ∧ INV (f_X8_text s).2 (f_X9_text t).2 := fun s4 t3 e1 e2 e3 e4 e5 => by
      have fr4 := cR s4 e1
      obtain ⟨s5, hs5⟩ : ∃ s5, s5 = mset s4 52 0 0 := ⟨_, rfl⟩
      have f5 : fr [52] s4 s5 := by rw [hs5]; exact (fr.rf _ _).set (by decide)
      have eX : f_X8_text s = ((-100) - s4 58 0, s5) := by
        have := e2.2
        unfold f_X8_text
        rw [if_pos (by omega), gb_eq (cX s4 e1), gl_v, ← hs5, if_neg (by omega)]
      obtain ⟨t4, ht4⟩ : ∃ t4, t4 = mset t3 6 ((4 * (t3 7 0)) + 3) (t3 24 0) := ⟨_, rfl⟩
      obtain ⟨t5, ht5⟩ : ∃ t5, t5 = mset t4 4 0 0 := ⟨_, rfl⟩
      have f4 : fr [6] t3 t4 := by rw [ht4]; exact (fr.rf _ _).set (by decide)
      have f6 : fr [4] t4 t5 := by rw [ht5]; exact (fr.rf _ _).set (by decide)
      have t57 : t5 17 0 = s4 58 0 := by rw [f6 17 (by decide), f4 17 (by decide)]; exact e5
      have eM : f_X9_text t = ((-100) - s4 58 0, t5) := by
        rw [cM, e3, gl2_v, gl_v, gl_v, ← ht4, ← ht5, if_pos zz, t57]
      have t37 : t3 7 0 = t 7 0 := by rw [e4.1 7 (by decide)]
      have t577 : t5 7 0 = t 7 0 := by rw [f6 7 (by decide), f4 7 (by decide)]; exact t37
      have ft5 : fr [4, 5, 6, 7, 16, 17, 18, 19, 21, 22, 23, 24] t t5 := ((e4.1.mono (by decide)).call (by decide) f4).call (by decide) f6
      have ho : ∀ k : Nat, (k : Int) < t 7 0 → s5 (19 + k) = s (19 + k) ∧ s5 (26 + k) = s (26 + k) := fun k hk => by
        have hk6 : k < 6 := by omega
        have fs5 : fr [34, 35, 52, 53, 54, 55, 56, 57, 58] s s5 := (fr4.mono (by decide)).call (by decide) f5
        exact ⟨fs5 _ (by simp; omega), fs5 _ (by simp; omega)⟩
      refine fin _ s5 t5 [] eX eM (fun _ _ _ => trivial) ?_ (by rw [hs5, mset_eq]) (by rw [ht5, mset_eq]) (by omega) ho (fun k hk6 hk => ?_) ft5
      · rw [f5 51 (by decide), fr4 51 (by decide), t577]; exact n51
      · rw [t577] at hk
        have z4 : ∀ i, t4 6 i = if i = 4 * t3 7 0 + 3 then t3 24 0 else t3 6 i := fun i => by rw [ht4, mset_at]
        have k5 : KEEP t t4 := ⟨e4.1.call (by decide) f4, fun i hi => by rw [f4 5 (by decide)]; exact e4.2.1 i hi, fun i hi => by rw [z4, if_neg (by omega)]; exact e4.2.2 i hi⟩
        have z := RLtx_old h k5 hk6 hk (ho k hk)
        rw [← f6 5 (by decide), ← f6 6 (by decide)] at z
        exact z
    rcases x4 with ⟨y1, y2, y3⟩ | ⟨y1, T', y2, y3, y4⟩
    · have h3 : FAILD s3 := by unfold FAILD; rw [f3 55 (by decide), f3 58 (by decide)]; exact y2
      obtain ⟨s4, r1, r2, r3⟩ := want_F (x := 0) h3 (by decide)
      exact flt s4 t2 r1 r2 (by rw [if_pos y1, y1]) KT (by rw [r3, f3 58 (by decide)]; exact y3)
    · obtain ⟨z1, z2, z3, z4, z5, z6, z7⟩ := y4
      have tS : TOK s3 T' := TOK_fr z1 (frK f3 (by decide)) (fun _ _ => rfl)
      have kt := tS.2.2.2
      have KT' : KEEP t T' := ⟨KT.1.call (by decide) y3, fun i hi => by rw [y3 5 (by decide)]; exact KT.2.1 i hi, fun i hi => by rw [y3 6 (by decide)]; exact KT.2.2 i hi⟩
      by_cases y0 : s3 55 0 = 0
      · have t18 : T' 18 0 = 0 := by omega
        obtain ⟨s4, T4, q1, q2, q3, q4, q5, q6, q7⟩ := nx0 tS.1 z5
        have ew : f_X3_want 0 s3 = (0, s4) := by
          unfold f_X3_want
          rw [if_pos y0, gb_eq q1]
        have fr4 := cR s4 ew
        have s458 : s4 58 0 < 0 := by rw [q4 58 (by decide), f3 58 (by decide)]; exact z4
        obtain ⟨s5, hs5⟩ : ∃ s5, s5 = mset s4 52 0 0 := ⟨_, rfl⟩
        have f5 : fr [52] s4 s5 := by rw [hs5]; exact (fr.rf _ _).set (by decide)
        have fs5 : fr [34, 35, 52, 53, 54, 55, 56, 57, 58] s s5 := (fr4.mono (by decide)).call (by decide) f5
        have s551 : s5 51 0 = t 7 0 := by rw [fs5 51 (by decide)]; exact n51
        obtain ⟨K, hK⟩ : ∃ K : Nat, (K : Int) = t 7 0 := ⟨(t 7 0).toNat, by omega⟩
        have hK6 : K < 6 := by omega
        obtain ⟨s6, hs6⟩ : ∃ s6, s6 = mcpy s5 34 0 (19 + K) 0 160 := ⟨_, rfl⟩
        obtain ⟨s7, hs7⟩ : ∃ s7, s7 = mcpy s6 35 0 (26 + K) 0 4 := ⟨_, rfl⟩
        obtain ⟨s8, hs8⟩ : ∃ s8, s8 = mset s7 51 0 ((s7 51 0) + 1) := ⟨_, rfl⟩
        have f6 : fr [19 + K] s5 s6 := by rw [hs6]; exact (fr.rf _ _).cpy (by simp)
        have f7 : fr [26 + K] s6 s7 := by rw [hs7]; exact (fr.rf _ _).cpy (by simp)
        have f8 : fr [51] s7 s8 := by rw [hs8]; exact (fr.rf _ _).set (by decide)
        have tn : (s5 51 0).toNat = K := by omega
        have s651 : s6 51 0 = t 7 0 := by rw [f6 51 (by simp; omega)]; exact s551
        have tn6 : (s6 51 0).toNat = K := by omega
        have s751 : s7 51 0 = t 7 0 := by rw [f7 51 (by simp; omega)]; exact s651
        have s851 : s8 51 0 = t 7 0 + 1 := by rw [hs8, mset_eq, s751]
        have eA : f_X7_add s5 = (t 7 0, s8) := by
          unfold f_X7_add
          rw [gl_v, gl_v, gl_v, tn, ← hs6, tn6, ← hs7, ← hs8, s851]
          congr 1
          omega
        have eX : f_X8_text s = (t 7 0, s8) := by
          unfold f_X8_text
          rw [if_pos (by omega), gb_eq (cX s4 ew), gl_v, ← hs5, if_pos s458, gb_eq eA]
        obtain ⟨t4, ht4⟩ : ∃ t4, t4 = mset T' 6 ((4 * (T' 7 0)) + 3) (T' 24 0) := ⟨_, rfl⟩
        obtain ⟨t5, ht5⟩ : ∃ t5, t5 = mset t4 4 0 0 := ⟨_, rfl⟩
        obtain ⟨t6, ht6⟩ : ∃ t6, t6 = mset t5 7 0 (t5 7 0 + 1) := ⟨_, rfl⟩
        have g4 : fr [6] T' t4 := by rw [ht4]; exact (fr.rf _ _).set (by decide)
        have g5 : fr [4] t4 t5 := by rw [ht5]; exact (fr.rf _ _).set (by decide)
        have g6 : fr [7] t5 t6 := by rw [ht6]; exact (fr.rf _ _).set (by decide)
        have T'7 : T' 7 0 = t 7 0 := by rw [KT'.1 7 (by decide)]
        have t57 : t5 7 0 = t 7 0 := by rw [g5 7 (by decide), g4 7 (by decide)]; exact T'7
        have t67 : t6 7 0 = t 7 0 + 1 := by rw [ht6, mset_eq, t57]
        have eM : f_X9_text t = (t 7 0, t6) := by
          rw [cM, if_neg (by omega), gb_eq y2, gl_v, if_pos t18, gl2_v, gl_v, gl_v, ← ht4, ← ht5, if_neg (show ¬ ((1 : Int), T').1 = 0 from (by decide : ¬ (1 : Int) = 0)), gl_v, ← ht6, t67]
          congr 1
          omega
        have ft6 : fr [4, 5, 6, 7, 16, 17, 18, 19, 21, 22, 23, 24] t t6 := (((KT'.1.mono (by decide)).call (by decide) g4).call (by decide) g5).call (by decide) g6
        have ho : ∀ k : Nat, (k : Int) < t 7 0 → s8 (19 + k) = s (19 + k) ∧ s8 (26 + k) = s (26 + k) := fun k hk => by
          have hk6 : k < K := by omega
          refine ⟨?_, ?_⟩
          · rw [f8 _ (by simp; omega), f7 _ (by simp; omega), f6 _ (by simp; omega), fs5 _ (by simp; omega)]
          · rw [f8 _ (by simp; omega), f7 _ (by simp; omega), f6 _ (by simp; omega), fs5 _ (by simp; omega)]
        have z46 : ∀ i, t4 6 i = if i = 4 * t 7 0 + 3 then T' 24 0 else T' 6 i := fun i => by rw [ht4, mset_at, T'7]
        refine fin _ s8 t6 [] eX eM (fun _ _ _ => trivial) (by omega) ?_ ?_ (by omega) ho (fun k hk6 hk => ?_) ft6
        · rw [f8 52 (by decide), f7 52 (by simp; omega), f6 52 (by simp; omega), hs5, mset_eq]
        · rw [g6 4 (by decide), ht5, mset_eq]
        · rw [t67] at hk
          by_cases hkk : k = K
          · rw [hkk]
            have e6 : t6 6 = t4 6 := by rw [g6 6 (by decide), g5 6 (by decide)]
            have e5 : t6 5 = T' 5 := by rw [g6 5 (by decide), g5 5 (by decide), g4 5 (by decide)]
            have tt := tok_17 z1
            rw [e6, e5]
            refine ⟨fun j j0 j1 => ?_, fun i i0 i1 => ?_⟩
            · rw [f8 (26 + K) (by simp; omega), hs7, mcpy_at, if_pos (by omega), f6 35 (by simp; omega), f5 35 (by decide), q4 35 (by decide), z46]
              have ej : (0 : Int) + (j - 0) = j := by omega
              rw [ej, hs3, mset_at]
              by_cases j3 : j = 3
              · rw [if_pos j3, if_pos (by omega)]; exact z2
              · rw [if_neg j3, if_neg (by omega), hK, z7 j j0 (by omega), T'7]
            · rw [z46, if_pos (by omega)] at i1
              rw [f8 (19 + K) (by simp; omega), f7 (19 + K) (by simp <;> omega), hs6, mcpy_at, if_pos (by omega), f5 34 (by decide), q4 34 (by decide), f3 34 (by decide)]
              have ej : (0 : Int) + (i - 0) = i := by omega
              rw [ej, z3 i i0 i1, T'7, hK]
          · have hk' : (k : Int) < t 7 0 := by omega
            have k5 : KEEP t t4 := ⟨KT'.1.call (by decide) g4, fun i hi => by rw [g4 5 (by decide)]; exact KT'.2.1 i hi, fun i hi => by rw [z46, if_neg (by omega)]; exact KT'.2.2 i hi⟩
            have z := RLtx_old h k5 hk6 hk' (ho k hk')
            rw [← g5 5 (by decide), ← g5 6 (by decide), ← g6 5 (by decide), ← g6 6 (by decide)] at z
            exact z
      · obtain ⟨s4, r1, r2, r3⟩ := want_B2 (x := 0) tS (by rw [f3 58 (by decide)]; exact z4) y0
        refine flt s4 T' r1 r2 ?_ KT' r3.symm
        rw [if_neg (by omega), gb_eq y2, gl_v, if_neg (by omega)]
