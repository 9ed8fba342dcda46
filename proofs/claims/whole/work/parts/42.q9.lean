/-! both sides' answers: which, dear; a place becomes another; stop -/
theorem which_loop {s0 t0 : gMem} {c1 c2 : Int} (hB : XT s0 t0) (hK0 : KM s0) (hY0 : WY s0) (hQ0 : MQ4 t0) : ∀ (n n' : Nat) (k b l : Int) (s t : gMem), XT s t0 → KM s → WY s → LEA s → MT t0 t → MQ4 t → PK s b l → 0 ≤ k → k ≤ 3 → 3 - k < n → 3 - k < n' → (k = 0 ∨ s 68 0 = 1) → ∃ (s' t' : gMem) (b' l' : Int), w_X8_which_21 c1 n k s = (3, s') ∧ w_X9_which_20 c2 n' b l k t = (b', l', 3, t') ∧ XT s' t0 ∧ PK s' b' l' ∧ (k = 3 ∨ s' 68 0 = 1) ∧ (k = 0 ∨ s' 68 0 = 1) := by
  intro n
  induction n with
  | zero => intro n' k b l s t _ _ _ _ _ _ _ h1 h2 h3; exfalso; omega
  | succ n ih =>
    intro n' k b l s t hX hK hY hL hM hQ hP h1 h2 h3 h3' h4
    obtain ⟨n', rfl⟩ : ∃ j, n' = j + 1 := ⟨n' - 1, by omega⟩
    rw [w_X8_which_21_s, w_X9_which_20_s]
    by_cases c : k < 3
    · rw [if_pos c, if_pos c]
      have hg := hB.2.2.1.2.2.2.2 0
      have hgr : in32 (t0 2 0) := by omega
      obtain ⟨s0', e0, f0, X0⟩ := X_from hX hK hY (w := k) (by omega)
      obtain ⟨s1, e1, X1, f1⟩ := X_mean X0 hQ0 hgr (by omega)
      obtain ⟨t1, e2, M1, Q1, f2⟩ := M_mean hB hK0 hY0 hM hQ0 hQ hgr (w := k) (by omega)
      have eg : t 2 0 = t0 2 0 := by rw [hM.1 2 (by decide)]
      have es : s0' 59 0 = t0 2 0 := by rw [f0 59 (by decide)]; exact hX.1.2.1.1
      rw [e0]
      simp only [gb]
      rw [es, e1, eg, e2]
      simp only [gj, gl]
      have f01 : fr [32, 36, 37, 38, 39, 42, 64] s s1 := (f0.mono (by decide)).call (by decide) f1
      have hP1 : PK s1 b l := by
        unfold PK
        rw [f01 68 (by decide), f01 69 (by decide), f01 70 (by decide)]
        exact hP
      obtain ⟨s2, e3, X2, L2, f3, P2⟩ := X_cons X1 (LEA_fr hL (frK f01 (by decide))) (k := k) (v := MV t0 k (t0 2 0)) (by omega) (MV_rg hB.2.2.1 hQ0 hgr (by omega)) hP1 (by omega)
      rw [e3]
      simp only
      have s68 : s2 68 0 = 1 := by
        rcases P2 with ⟨-, q, -⟩ | ⟨q, -⟩
        · exfalso
          by_cases z : b = -1
          · rw [if_pos z] at q; omega
          · rw [if_neg z] at q
            by_cases z2 : MV t0 k (t0 2 0) < l
            · rw [if_pos z2] at q; omega
            · rw [if_neg z2] at q; exact z q
        · exact q
      simp only [if_neg (show ¬ ((1 : Int) = 0) by decide), if_pos (show ((0 : Int) = 0) from rfl)]
      obtain ⟨s', t', b', l', q1, q2, q3, q4, q5, q6⟩ := ih n' (k + 1) _ _ s2 t1 X2.1 X2.2.1 X2.2.2.1 L2 M1 Q1 P2 (by omega) (by omega) (by omega) (by omega) (Or.inr s68)
      have s68' : s' 68 0 = 1 := q6.resolve_left (by omega)
      refine ⟨s', t', b', l', q1, ?_, q3, q4, Or.inr s68', Or.inr s68'⟩
      by_cases z : b = -1
      · rw [if_pos z, if_pos z] at q2
        rw [if_pos z]; exact q2
      · rw [if_neg z, if_neg z] at q2
        rw [if_neg z]
        by_cases z2 : MV t0 k (t0 2 0) < l
        · rw [if_pos z2, if_pos z2] at q2
          rw [if_pos z2]; exact q2
        · rw [if_neg z2, if_neg z2] at q2
          rw [if_neg z2]; exact q2
    · have e : k = 3 := by omega
      subst e
      rw [if_neg c, if_neg c]
      exact ⟨s, t, b, l, rfl, rfl, hX, hP, Or.inl rfl, h4⟩
theorem X_pbeg0 {s t0 : gMem} (h : XT s t0) (hL : LEA s) : ∃ s', f_X1_begin s = (0, s') ∧ XT s' t0 ∧ LEA s' ∧ fr [68, 69, 70] s s' ∧ s' 68 0 = 0 ∧ s' 69 0 = -1 ∧ s' 70 0 = -1 := by
  have hq := f_X1_begin_p s h.2.1.1 hL (f_X1_begin s).1 (f_X1_begin s).2 rfl
  refine ⟨(f_X1_begin s).2, rfl, XT_68 h hq.1 hq.2.1, hq.2.2.2, hq.1, ?_, ?_, ?_⟩
  · show mset (mset (mset s 68 0 0) 69 0 (-1)) 70 0 (-1) 68 0 = 0
    simp [mset]
  · show mset (mset (mset s 68 0 0) 69 0 (-1)) 70 0 (-1) 69 0 = -1
    simp [mset]
  · show mset (mset (mset s 68 0 0) 69 0 (-1)) 70 0 (-1) 70 0 = -1
    simp [mset]
theorem EQ_which {s t : gMem} (h : INV s t) {x0 : Int} (hx0 : in32 x0) : (f_X8_which x0 s).1 = (f_X9_which x0 t).1 ∧ INV (f_X8_which x0 s).2 (f_X9_which x0 t).2 := by
  obtain ⟨fx, hX'⟩ := XI_which h.2.1 hx0
  obtain ⟨fm, hM'⟩ := MI_which h.2.2.1 hx0
  have key : (f_X8_which x0 s).1 = (f_X9_which x0 t).1 ∧ XT (f_X8_which x0 s).2 t := by
    unfold f_X8_which f_X9_which
    rw [if_out, if_in]
    by_cases a : 0 ≤ x0 ∧ x0 < 2
    · rw [if_pos a, if_pos (show 0 ≤ x0 ∧ x0 ≤ 1 by omega)]
      obtain ⟨s2, e2, X2, L2, f2, z1, z2, z3⟩ := X_pbeg0 (INV_XT h) (INV_LEA h)
      obtain ⟨s', t', b', l', q1, q2, q3, q4, q5, q6⟩ := which_loop (c1 := x0) (c2 := x0) (INV_XT h) (INV_KM h) (INV_WY h) (INV_MQ h) 5 4 0 (-1) 0 s2 t X2 (KM_fr (INV_KM h) (frK f2 (by decide))) (WY_fr (INV_WY h) (frK f2 (by decide))) L2 (MT.rf (INV_gM h)) (INV_MQ h) (Or.inl ⟨z1, rfl, z2⟩) (by omega) (by omega) (by omega) (by omega) (Or.inl rfl)
      rw [e2]
      simp only [gb, gl2, gl4]
      rw [q1, q2]
      have s68 : s' 68 0 = 1 := q5.resolve_left (by omega)
      rcases q4 with ⟨z, -⟩ | ⟨-, -, z2, z3⟩
      · exfalso; omega
      · refine ⟨?_, q3⟩
        unfold f_X1_answer
        simp only
        by_cases e : x0 = 0
        · rw [if_pos e, if_pos e]; exact z2
        · rw [if_neg e, if_neg e]; exact z3
    · rw [if_neg a, if_neg (show ¬ (0 ≤ x0 ∧ x0 ≤ 1) by omega)]; exact ⟨rfl, INV_XT h⟩
  exact ⟨key.1, INV_scr h fx fm (by decide) (by decide) hX' hM' key.2⟩
theorem dear_loop {s0 t0 : gMem} {w c1 c2 g : Int} (hB : XT s0 t0) (hK0 : KM s0) (hY0 : WY s0) (hQ0 : MQ4 t0) (hw : w = t0 2 2) (hg : g = t0 2 0) : ∀ (n : Nat) (k b l : Int) (s t : gMem), XM s t0 w → LEA s → MT t0 t → MQ4 t → PK s b l → (s 68 0 = 0 → s 70 0 = l) → 0 ≤ k → k ≤ 16 → 16 - k < n → ∃ (s' t' : gMem) (b' l' : Int), w_X8_dear_57 c1 g n k s = (16, s') ∧ w_X9_dear_22 c2 n b l k t = (b', l', 16, t') ∧ XT s' t0 ∧ PK s' b' l' ∧ (s' 68 0 = 0 → s' 70 0 = l') ∧ ((∀ q, k ≤ q → q < 16 → ¬ bitS g q) → b' = b ∧ l' = l) := by
  intro n
  induction n with
  | zero => intro k b l s t _ _ _ _ _ _ h1 h2 h3; exfalso; omega
  | succ n ih =>
    intro k b l s t hX hL hM hQ hP h70 h1 h2 h3
    rw [w_X8_dear_57_s, w_X9_dear_22_s]
    have eg : t 2 0 = g := by rw [hM.1 2 (by decide)]; exact hg.symm
    have ew : t 2 2 = w := by rw [hM.1 2 (by decide)]; exact hw.symm
    by_cases c : k < 16
    · rw [if_pos c, if_pos c, eg, ew]
      by_cases d : f_X8_has g k = 0
      · rw [if_pos d, if_pos (show f_X9_isIn g k = 0 from d)]
        simp only [gl, gl3]
        obtain ⟨s', t', b', l', q1, q2, q3, q4, q5, q6⟩ := ih (k + 1) b l s t hX hL hM hQ hP h70 (by omega) (by omega) (by omega)
        exact ⟨s', t', b', l', q1, q2, q3, q4, q5, fun z => q6 (fun q q0 q1 => z q (by omega) q1)⟩
      · rw [if_neg d, if_neg (show ¬ f_X9_isIn g k = 0 from d)]
        have hb : bitS g k := Classical.byContradiction fun q => d ((has0 _ _).mpr q)
        have hwr := hB.2.2.1.2.2.2.2 2
        have hgr0 : in32 (iand g (ixor (ishl 1 k) (-1))) := iand_rg _ _
        generalize iand g (ixor (ishl 1 k) (-1)) = gk at hgr0 ⊢
        have hgr : in32 gk := hgr0
        obtain ⟨s1, e1, X1, f1⟩ := X_mean hX hQ0 hgr (by omega)
        obtain ⟨t1, e2, M1, Q1, f2⟩ := M_mean hB hK0 hY0 hM hQ0 hQ hgr (w := w) (by omega)
        rw [e1, e2]
        simp only [gb, gj, gl, gl3]
        have hP1 : PK s1 b l := by
          unfold PK
          rw [f1 68 (by decide), f1 69 (by decide), f1 70 (by decide)]
          exact hP
        obtain ⟨s2, e3, X2, L2, f3, P2⟩ := X_cons X1 (LEA_fr hL (frK f1 (by decide))) (k := k) (v := MV t0 w gk) (by omega) (MV_rg hB.2.2.1 hQ0 hgr (by omega)) hP1 (by omega)
        rw [e3]
        simp only
        have s68 : s2 68 0 = 1 := by
          rcases P2 with ⟨-, q, -⟩ | ⟨q, -⟩
          · exfalso
            by_cases z : b = -1
            · rw [if_pos z] at q; omega
            · rw [if_neg z] at q
              by_cases z2 : MV t0 w gk < l
              · rw [if_pos z2] at q; omega
              · rw [if_neg z2] at q; exact z q
          · exact q
        simp only [if_neg (show ¬ ((1 : Int) = 0) by decide), if_pos (show ((0 : Int) = 0) from rfl)]
        obtain ⟨s', t', b', l', q1, q2, q3, q4, q5, q6⟩ := ih (k + 1) _ _ s2 t1 X2 L2 M1 Q1 P2 (fun z => by omega) (by omega) (by omega) (by omega)
        refine ⟨s', t', b', l', q1, ?_, q3, q4, q5, fun z => absurd hb (z k (by omega) c)⟩
        by_cases z : b = -1
        · rw [if_pos z, if_pos z] at q2
          rw [if_pos z]; exact q2
        · rw [if_neg z, if_neg z] at q2
          rw [if_neg z]
          by_cases z2 : MV t0 w gk < l
          · rw [if_pos z2, if_pos z2] at q2
            rw [if_pos z2]; exact q2
          · rw [if_neg z2, if_neg z2] at q2
            rw [if_neg z2]; exact q2
    · have e : k = 16 := by omega
      subst e
      rw [if_neg c, if_neg c]
      exact ⟨s, t, b, l, rfl, rfl, hX.1, hP, h70, fun _ => ⟨rfl, rfl⟩⟩
theorem bit0 {q : Int} (h0 : 0 ≤ q) (h1 : q < 16) : ¬ bitS 0 q := by
  have h : ∀ n : Fin 16, ¬ (iand (ishr 0 (n.val : Int)) 1 = 1) := by decide +kernel
  have h2 := h ⟨q.toNat, by omega⟩
  have e : ((q.toNat : Nat) : Int) = q := by omega
  simp only [e] at h2
  exact h2
theorem EQ_dear {s t : gMem} (h : INV s t) {x0 : Int} (hx0 : in32 x0) : (f_X8_dear x0 s).1 = (f_X9_dear x0 t).1 ∧ INV (f_X8_dear x0 s).2 (f_X9_dear x0 t).2 := by
  obtain ⟨fx, hX'⟩ := XI_dear h.2.1 hx0
  obtain ⟨fm, hM'⟩ := MI_dear h.2.2.1 hx0
  have key : (f_X8_dear x0 s).1 = (f_X9_dear x0 t).1 ∧ XT (f_X8_dear x0 s).2 t := by
    unfold f_X8_dear f_X9_dear
    rw [if_out, if_in]
    by_cases a : 0 ≤ x0 ∧ x0 < 2
    · rw [if_pos a, if_pos (show 0 ≤ x0 ∧ x0 ≤ 1 by omega)]
      have e61 := h.1.2.1.2.2.1
      have e59 := h.1.2.1.1
      have hwr := h.2.2.1.1.2.2.2.2 2
      obtain ⟨s1, e1, f1, X1⟩ := INV_from h (w := t 2 2) (by omega)
      obtain ⟨s2, e2, X2, L2, f2, z1, z2, z3⟩ := X_pbeg X1 (LEA_fr (INV_LEA h) (frK f1 (by decide)))
      obtain ⟨s', t', b', l', q1, q2, q3, q4, q5, q6⟩ := dear_loop (c1 := x0) (c2 := x0) (INV_XT h) (INV_KM h) (INV_WY h) (INV_MQ h) rfl rfl 17 0 (-1) (-1) s2 t X2 L2 (MT.rf (INV_gM h)) (INV_MQ h) (Or.inl ⟨z1, rfl, z2⟩) (fun _ => z3) (by omega) (by omega) (by omega)
      rw [e61, e59]
      simp only [gl4]
      rw [q2]
      by_cases g0 : t 2 0 = 0
      · rw [if_pos g0]
        obtain ⟨r1, r2⟩ := q6 (fun q q0 q1 => by rw [g0]; exact bit0 q0 q1)
        refine ⟨?_, INV_XT h⟩
        simp only
        rw [r1, r2]
        split <;> rfl
      · rw [if_neg g0, e1]
        simp only [gb]
        rw [e2]
        simp only [gl2]
        rw [q1]
        refine ⟨?_, q3⟩
        unfold f_X1_answer
        simp only
        rcases q4 with ⟨y1, y2, y3⟩ | ⟨y1, y2, y3, y4⟩
        · by_cases e : x0 = 0
          · rw [if_pos e, if_pos e, y3, y2]
          · rw [if_neg e, if_neg e]; exact q5 y1
        · by_cases e : x0 = 0
          · rw [if_pos e, if_pos e]; exact y3
          · rw [if_neg e, if_neg e]; exact y4
    · rw [if_neg a, if_neg (show ¬ (0 ≤ x0 ∧ x0 ≤ 1) by omega)]; exact ⟨rfl, INV_XT h⟩
  exact ⟨key.1, INV_scr h fx fm (by decide) (by decide) hX' hM' key.2⟩
/-- a place becomes of another kind -/
theorem forget_s (s : gMem) : f_X4_forget s = (0, mfill (mfill (mfill s 37 272 (-1)) 38 272 (-1)) 39 16 (-1)) := rfl
theorem forgot {s t : gMem} : CFf (mfill (mfill (mfill s 37 272 (-1)) 38 272 (-1)) 39 16 (-1)) t ∧ CFc (mfill (mfill (mfill s 37 272 (-1)) 38 272 (-1)) 39 16 (-1)) t ∧ CFt (mfill (mfill (mfill s 37 272 (-1)) 38 272 (-1)) 39 16 (-1)) t := by
  refine ⟨fun p b p0 p1 b0 b1 => Or.inl ?_, fun p b p0 p1 b0 b1 => Or.inl ?_, fun p p0 p1 => Or.inl ?_⟩
  · rw [mfill_ne _ _ _ _ _ (by decide), mfill_ne _ _ _ _ _ (by decide), mfill_at, if_pos (by omega)]; omega
  · rw [mfill_ne _ _ _ _ _ (by decide), mfill_at, if_pos (by omega)]; omega
  · rw [mfill_at, if_pos (by omega)]; omega
theorem X_become {s t0 t1 : gMem} (h : XT s t0) {p k m : Int} (hp : 0 ≤ p ∧ p ≤ 15) (hk : 0 ≤ k ∧ k ≤ 5) (hm : 0 ≤ m ∧ m ≤ 9) (h0 : ∀ q, t1 0 q = if q = p then k else t0 0 q) (h1 : ∀ q, t1 1 q = if q = p then m else t0 1 q) (hr : ∀ c ∈ KMl, c ≠ 0 → c ≠ 1 → t1 c = t0 c) (hI : IM t1) : ∃ s', f_X4_become p k m s = (0, s') ∧ fr [37, 38, 39, 40, 41] s s' ∧ XT s' t1 := by
  obtain ⟨hR, ⟨i1, i2, i3, i4, i5, i6, i7, i8, i9, i10, i11, i12, i13⟩, hM, c1, c2, c3⟩ := id h
  have hq := f_X4_become_p p k m s (by omega) (by omega) (by omega) i1 i5 i6 i11 i12 i13 hp hk hm (f_X4_become p k m s).1 (f_X4_become p k m s).2 rfl
  obtain ⟨S, hS⟩ : ∃ S, S = mfill (mfill (mfill (mset (mset s 40 p k) 41 p m) 37 272 (-1)) 38 272 (-1)) 39 16 (-1) := ⟨_, rfl⟩
  have e0 : f_X4_become p k m s = (0, S) := by rw [hS]; rfl
  rw [e0] at hq
  have fo := forgot (s := mset (mset s 40 p k) 41 p m) (t := t1)
  rw [← hS] at fo
  have s40 : ∀ q, S 40 q = if q = p then k else s 40 q := fun q => by
    rw [hS, mfill_ne _ _ _ _ _ (by decide), mfill_ne _ _ _ _ _ (by decide), mfill_ne _ _ _ _ _ (by decide), mset_ne _ _ _ _ _ (by decide), mset_at]
  have s41 : ∀ q, S 41 q = if q = p then m else s 41 q := fun q => by
    rw [hS, mfill_ne _ _ _ _ _ (by decide), mfill_ne _ _ _ _ _ (by decide), mfill_ne _ _ _ _ _ (by decide), mset_at, mset_ne _ _ _ _ _ (by decide)]
  have hr2 : ∀ c ∈ [2, 3, 4, 5, 6, 7, 8, 9, 10, 11, 12, 13, 14], t1 c = t0 c := fun c hc => hr c (by revert c; decide) (by revert c; decide) (by revert c; decide)
  refine ⟨S, e0, hq.1, ⟨fun q q0 q1 => ?_, RLto_fr hR.2.1 (frK hq.1 (by decide)) (sbl hr2 (by decide)), RLno_fr hR.2.2.1 (frK hq.1 (by decide)) (sbl hr2 (by decide)), RLtp_fr hR.2.2.2.1 (frK hq.1 (by decide)) (sbl hr2 (by decide)), RLtx_fr hR.2.2.2.2.1 (frK hq.1 (by decide)) (sbl hr2 (by decide)), RLim_fr hR.2.2.2.2.2.1 (frK hq.1 (by decide)) (sbl hr2 (by decide)), RLsh_fr hR.2.2.2.2.2.2 (frK hq.1 (by decide)) (sbl hr2 (by decide))⟩, ⟨hq.2.1, CD_fr i2 (frK hq.1 (by decide)), BG_fr i3 (frK hq.1 (by decide)), LA_fr i4 (frK hq.1 (by decide)), hq.2.2.2.1, hq.2.2.2.2.1, GP_fr i7 (frK hq.1 (by decide)), ST_fr i8 (frK hq.1 (by decide)), EN_fr i9 (frK hq.1 (by decide)), RE_fr i10 (frK hq.1 (by decide)), hq.2.2.2.2.2.1, hq.2.2.2.2.2.2.1, hq.2.2.2.2.2.2.2⟩, hI, fo.1, fo.2.1, fo.2.2⟩
  obtain ⟨r1, r2⟩ := hR.1 q q0 q1
  rw [s40, s41, h0, h1, r1, r2]
  exact ⟨rfl, rfl⟩
