/-! set, taken, and the sheets written: sheet, cell, copy -/
theorem INV_fgt {s t s1 t1 : gMem} (hR : RLa (f_X4_forget s1).2 t1) (hX : XI (f_X4_forget s1).2) (hM : MI t1) : INV (f_X4_forget s1).2 t1 := by
  have fo := forgot (s := s1) (t := t1)
  rw [forget_s] at hR hX ⊢
  exact ⟨hR, hX, hM, fo.1, fo.2.1, fo.2.2⟩
theorem set_c {s t s1 t1 : gMem} (h : INV s t) (hs : fr [59, 60, 61, 62] s s1) (ht : fr [2] t t1) (hto : RLto s1 t1) (hX : XI (f_X4_forget s1).2) (hM : MI t1) : INV (f_X4_forget s1).2 t1 := by
  have f2 : fr [37, 38, 39] s1 (f_X4_forget s1).2 := by
    rw [forget_s]
    intro k hk
    funext i
    have h1 : k ≠ 37 := fun e => hk (by rw [e]; decide)
    have h2 : k ≠ 38 := fun e => hk (by rw [e]; decide)
    have h3 : k ≠ 39 := fun e => hk (by rw [e]; decide)
    show mfill (mfill (mfill s1 37 272 (-1)) 38 272 (-1)) 39 16 (-1) k i = s1 k i
    rw [mfill_ne _ _ _ _ _ h3, mfill_ne _ _ _ _ _ h2, mfill_ne _ _ _ _ _ h1]
  have f3 : fr [37, 38, 39, 59, 60, 61, 62] s (f_X4_forget s1).2 := (hs.mono (by decide)).call (by decide) f2
  have hR0 := h.1
  refine INV_fgt (s := s) (t := t) ⟨RLpl_fr hR0.1 (frK f3 (by decide)) (frK ht (by decide)), RLto_fr hto (frK f2 (by decide)) (fun _ _ => rfl), RLno_fr hR0.2.2.1 (frK f3 (by decide)) (frK ht (by decide)), RLtp_fr hR0.2.2.2.1 (frK f3 (by decide)) (frK ht (by decide)), RLtx_fr hR0.2.2.2.2.1 (frK f3 (by decide)) (frK ht (by decide)), RLim_fr hR0.2.2.2.2.2.1 (frK f3 (by decide)) (frK ht (by decide)), RLsh_fr hR0.2.2.2.2.2.2 (frK f3 (by decide)) (frK ht (by decide))⟩ hX hM
theorem EQ_set {s t : gMem} (h : INV s t) {x0 x1 : Int} (hx0 : in32 x0) (hx1 : in32 x1) : (f_X8_set x0 x1 s).1 = (f_X9_set x0 x1 t).1 ∧ INV (f_X8_set x0 x1 s).2 (f_X9_set x0 x1 t).2 := by
  obtain ⟨fx, hX'⟩ := XI_set h.2.1 hx0 hx1
  obtain ⟨a1, a2, a3, a4⟩ := RLto_t (INV_XT h)
  have hTD := h.2.2.1.1.2.2.2.2
  by_cases a : 0 ≤ x0 ∧ x0 < 4
  · have a' : 0 ≤ x0 ∧ x0 ≤ 3 := by omega
    by_cases b : 0 ≤ x1 ∧ x1 < if x0 < 2 then 65536 else 3
    · have b' : 0 ≤ x1 ∧ x1 ≤ if x0 < 2 then 65535 else 2 := by
        by_cases d : x0 < 2
        · rw [if_pos d] at b ⊢; omega
        · rw [if_neg d] at b ⊢; omega
      have eM : f_X9_set x0 x1 t = (t 2 x0, mset t 2 x0 x1) := by
        unfold f_X9_set
        simp only [gl]
        rw [if_in, if_in, if_pos a', if_pos b']
      obtain ⟨fm, hM'⟩ := MI_set h.2.2.1 hx0 hx1 (by rw [eM]; exact TD_set hTD ⟨b'.1, fun d => by rw [if_pos d] at b'; exact b'.2, fun d => by rw [if_neg (by omega)] at b'; exact b'.2⟩)
      obtain ⟨s1, hs1⟩ : ∃ s1, s1 = (if x0 = 0 then mset s 59 0 x1 else (if x0 = 1 then mset s 60 0 x1 else (if x0 = 2 then mset s 61 0 x1 else mset s 62 0 x1))) := ⟨_, rfl⟩
      have eX : f_X8_set x0 x1 s = (f_X8_count x0 s, (f_X4_forget s1).2) := by
        unfold f_X8_set
        simp only [gl]
        rw [if_out, if_out, if_pos a, if_pos b, ← hs1]
        rfl
      rw [eX] at hX' ⊢
      rw [eM] at hM' ⊢
      have ht : fr [2] t (mset t 2 x0 x1) := (fr.rf _ _).set (by decide)
      have key : f_X8_count x0 s = t 2 x0 ∧ fr [59, 60, 61, 62] s s1 ∧ RLto s1 (mset t 2 x0 x1) := by
        unfold f_X8_count RLto
        by_cases c0 : x0 = 0
        · subst c0
          rw [if_pos rfl] at hs1 ⊢
          refine ⟨a1, by rw [hs1]; exact (fr.rf _ _).set (by decide), ?_⟩
          rw [hs1]; simp [mset, a1, a2, a3, a4]
        · rw [if_neg c0] at hs1 ⊢
          by_cases c1 : x0 = 1
          · subst c1
            rw [if_pos rfl] at hs1 ⊢
            refine ⟨a2, by rw [hs1]; exact (fr.rf _ _).set (by decide), ?_⟩
            rw [hs1]; simp [mset, a1, a2, a3, a4]
          · rw [if_neg c1] at hs1 ⊢
            by_cases c2 : x0 = 2
            · subst c2
              rw [if_pos rfl] at hs1 ⊢
              refine ⟨a3, by rw [hs1]; exact (fr.rf _ _).set (by decide), ?_⟩
              rw [hs1]; simp [mset, a1, a2, a3, a4]
            · rw [if_neg c2] at hs1 ⊢
              have c3 : x0 = 3 := by omega
              subst c3
              rw [if_pos rfl]
              refine ⟨a4, by rw [hs1]; exact (fr.rf _ _).set (by decide), ?_⟩
              rw [hs1]; simp [mset, a1, a2, a3, a4]
      exact ⟨key.1, set_c h key.2.1 ht key.2.2 hX' hM'⟩
    · have b' : ¬ (0 ≤ x1 ∧ x1 ≤ if x0 < 2 then 65535 else 2) := by
        by_cases d : x0 < 2
        · rw [if_pos d] at b ⊢; omega
        · rw [if_neg d] at b ⊢; omega
      have eM : f_X9_set x0 x1 t = (-7, t) := by
        unfold f_X9_set
        simp only [gl]
        rw [if_in, if_in, if_pos a', if_neg b']
      have eX : f_X8_set x0 x1 s = (-7, s) := by
        unfold f_X8_set
        simp only [gl]
        rw [if_out, if_out, if_pos a, if_neg b]
      rw [eX, eM]
      exact ⟨rfl, h⟩
  · have eM : f_X9_set x0 x1 t = (-5, t) := by
      unfold f_X9_set
      simp only [gl]
      rw [if_in, if_neg (by omega)]
    have eX : f_X8_set x0 x1 s = (-5, s) := by
      unfold f_X8_set
      simp only [gl]
      rw [if_out, if_neg a]
    rw [eX, eM]
    exact ⟨rfl, h⟩
theorem isU_fin : ∀ a : Fin 6, ∀ b : Fin 6, f_X8_isOf (a.val : Int) (b.val : Int) = f_X9_isUnder (a.val : Int) (b.val : Int) := by decide +kernel
theorem shl_fin : ∀ a : Fin 16, ishl 2 (a.val : Int) = ishl 1 ((a.val : Int) + 1) := by decide +kernel
theorem isU_two {a b : Int} (ha : 0 ≤ a ∧ a ≤ 5) (hb : 0 ≤ b ∧ b ≤ 5) : f_X8_isOf a b = f_X9_isUnder a b := by
  have z := isU_fin ⟨a.toNat, by omega⟩ ⟨b.toNat, by omega⟩
  have e1 : ((a.toNat : Nat) : Int) = a := by omega
  have e2 : ((b.toNat : Nat) : Int) = b := by omega
  simp only [e1, e2] at z
  exact z
theorem shl_two {a : Int} (ha : 0 ≤ a ∧ a ≤ 15) : ishl 2 a = ishl 1 (a + 1) := by
  have z := shl_fin ⟨a.toNat, by omega⟩
  have e1 : ((a.toNat : Nat) : Int) = a := by omega
  simp only [e1] at z
  exact z
theorem gl_v {α β : Type} (x : α) (k : α → β) : gl x k = k x := rfl
theorem gj_v {α β : Type} (k : α → β) (r : α) : gj k r = k r := rfl
theorem zz : (0 : Int) = 0 := rfl
theorem tk_lo (s : gMem) {x0 x1 : Int} (h0 : 0 ≤ x0 ∧ x0 < 32) (h1 : 0 ≤ x1 ∧ x1 < 7) (c : x0 < 16) : f_X8_taken x0 x1 s = if x1 = 6 then -13 else if f_X8_isOf (s 40 x0) x1 = 0 then -13 else x0 := by
  unfold f_X8_taken
  rw [if_out, if_out, if_pos h0, if_pos h1, if_pos c, gl_v, if_pos zz, gl_v, gj_v, if_pos zz]
  by_cases d : x1 = 6
  · rw [if_pos d, if_pos d, gl_v, if_neg (by decide)]
  · rw [if_neg d, if_neg d, gl_v, if_pos zz, gj_v, if_pos zz, if_pos zz]
theorem tk_hi (s : gMem) {x0 x1 : Int} (h0 : 0 ≤ x0 ∧ x0 < 32) (h1 : 0 ≤ x1 ∧ x1 < 7) (c : ¬ x0 < 16) : f_X8_taken x0 x1 s = if f_X8_has (s 60 0) (x0 - 16) = 0 then -11 else if x1 = 6 then f_J6_bitCount_0f7a4 (iand (s 60 0) ((ishl 2 (x0 - 16)) - 1)) else -13 := by
  have o0 : ¬ (1 : Int) = 0 := by decide
  unfold f_X8_taken
  rw [if_out, if_out, if_pos h0, if_pos h1, if_neg c, gl_v, if_neg o0, gl_v, gj_v, if_neg o0]
  by_cases f : f_X8_has (s 60 0) (x0 - 16) = 0
  · rw [if_pos f, if_pos f]
  · rw [if_neg f, if_neg f]
    by_cases d : x1 = 6
    · rw [if_pos d, if_pos d, gl_v, if_pos (show (1 : Int) = 1 from rfl), gj_v, if_neg o0, if_neg o0, gl_v]
    · rw [if_neg d, if_neg d, gl_v, if_neg o0]
theorem EQ_taken {s t : gMem} (h : INV s t) (x0 x1 : Int) : f_X8_taken x0 x1 s = f_X9_taken x0 x1 t := by
  have e60 := h.1.2.1.2.1
  have td1 := h.2.2.1.1.2.2.2.2 1
  by_cases a : 0 ≤ x1 ∧ x1 < 7
  · by_cases b : 0 ≤ x0 ∧ x0 < 32
    · by_cases c : x0 < 16
      · rw [tk_lo s b a c]
        unfold f_X9_taken
        rw [if_in, if_in, if_pos (show 0 ≤ x1 ∧ x1 ≤ 6 by omega), if_pos (show 0 ≤ x0 ∧ x0 ≤ 31 by omega), if_pos c]
        by_cases d : x1 = 6
        · rw [if_pos d, if_neg (show ¬ x1 < 6 by omega)]
        · rw [if_neg d, if_pos (show x1 < 6 by omega)]
          obtain ⟨r1, r2⟩ := h.1.1 x0 b.1 c
          have k0 := h.2.2.1.1.2.2.1 x0
          rw [r1, isU_two k0 (by omega)]
      · rw [tk_hi s b a c, e60, has_in]
        unfold f_X9_taken
        have r := andn_rg (x := t 2 1) (y := ishl 1 (x0 - 16 + 1) - 1) (by omega)
        rw [if_in, if_in, if_pos (show 0 ≤ x1 ∧ x1 ≤ 6 by omega), if_pos (show 0 ≤ x0 ∧ x0 ≤ 31 by omega), if_neg c]
        rw [shl_two (by omega), bc_ones r.1 r.2]
    · unfold f_X8_taken f_X9_taken
      rw [if_out, if_out, if_in, if_in, if_pos a, if_pos (show 0 ≤ x1 ∧ x1 ≤ 6 by omega), if_neg b, if_neg (show ¬ (0 ≤ x0 ∧ x0 ≤ 31) by omega)]
  · unfold f_X8_taken f_X9_taken
    rw [if_out, if_in, if_neg a, if_neg (show ¬ (0 ≤ x1 ∧ x1 ≤ 6) by omega)]
theorem INV_sh {s t s' t' : gMem} (h : INV s t) (hs : fr [14, 15, 16, 17, 90, 91, 92, 93, 94, 95, 96, 97] s s') (ht : fr [12, 13, 14] t t') (hsh : RLsh s' t') (hX : XI s') (hM : MI t') : INV s' t' := by
  have hR0 := h.1
  have hR : RLa s' t' := ⟨RLpl_fr hR0.1 (frK hs (by decide)) (frK ht (by decide)), RLto_fr hR0.2.1 (frK hs (by decide)) (frK ht (by decide)), RLno_fr hR0.2.2.1 (frK hs (by decide)) (frK ht (by decide)), RLtp_fr hR0.2.2.2.1 (frK hs (by decide)) (frK ht (by decide)), RLtx_fr hR0.2.2.2.2.1 (frK hs (by decide)) (frK ht (by decide)), RLim_fr hR0.2.2.2.2.2.1 (frK hs (by decide)) (frK ht (by decide)), hsh⟩
  have l := h.2.1.1.2.2.2.1 0
  obtain ⟨c1, c2, c3⟩ := CF_x (INV_XT h) hR hX.1.2.2.1 hX.1.2.2.2.2.2.2.1 hM.1 (ht 0 (by decide)) (ht 1 (by decide)) (frK hs (by decide)) (by rw [hs _ (by simp; omega)]) (by rw [hs _ (by simp; omega)])
  exact ⟨hR, hX, hM, c1, c2, c3⟩
theorem z70 (c : Int) : ∀ (n : Nat) (v : Int) (t : gMem), 40 - v < n → fr [14] t (w_X9_sheet_70 c n v t).2 ∧ ∀ j, (w_X9_sheet_70 c n v t).2 14 j = if 40 * c + v ≤ j ∧ j < 40 * c + 40 then 0 else t 14 j := by
  intro n
  induction n with
  | zero => intro v t h; refine ⟨fr.rf _ _, fun j => ?_⟩; rw [if_neg (by omega)]; rfl
  | succ n ih =>
    intro v t h
    rw [w_X9_sheet_70_s]
    by_cases c1 : v < 40
    · rw [if_pos c1]
      simp only [gl]
      obtain ⟨i1, i2⟩ := ih (v + 1) (mset t 14 (40 * c + v) 0) (by omega)
      have f1 : fr [14] t (mset t 14 (40 * c + v) 0) := (fr.rf _ _).set (by decide)
      refine ⟨f1.call (by decide) i1, fun j => ?_⟩
      rw [i2, mset_at]
      by_cases d : j = 40 * c + v
      · rw [if_pos d, ite_self, if_pos (by omega)]
      · rw [if_neg d]
        by_cases e : 40 * c + (v + 1) ≤ j ∧ j < 40 * c + 40
        · rw [if_pos e, if_pos (by omega)]
        · rw [if_neg e, if_neg (by omega)]
    · rw [if_neg c1]
      refine ⟨fr.rf _ _, fun j => ?_⟩
      rw [if_neg (by omega)]
theorem renew_sh {s t : gMem} (h : RLsh s t) {x0 a b : Int} (h0 : 0 ≤ x0 ∧ x0 ≤ 3) {t' : gMem} (h12 : ∀ j, t' 12 j = if j = x0 then a else t 12 j) (h13 : ∀ j, t' 13 j = if j = x0 then b else t 13 j) (h14 : ∀ j, t' 14 j = if 40 * x0 ≤ j ∧ j < 40 * x0 + 40 then 0 else t 14 j) : RLsh (f_X5_renew a b x0.toNat s).2 t' := fun k hk => by
  obtain ⟨r1, r2, r3⟩ := h k hk
  have e : (f_X5_renew a b x0.toNat s).2 = mset (mset (mfill s (14 + x0.toNat) 40 0) (90 + x0.toNat) 0 a) (94 + x0.toNat) 0 b := rfl
  rw [e]
  refine ⟨?_, ?_, fun i i0 i1 => ?_⟩
  · rw [mset_ne _ _ _ _ _ (by omega), h12]
    by_cases c : (k : Int) = x0
    · have ck : 90 + k = 90 + x0.toNat := by omega
      rw [if_pos c, ck, mset_eq]
    · rw [if_neg c, mset_ne _ _ _ _ _ (by omega), mfill_ne _ _ _ _ _ (by omega)]; exact r1
  · rw [h13]
    by_cases c : (k : Int) = x0
    · have ck : 94 + k = 94 + x0.toNat := by omega
      rw [if_pos c, ck, mset_eq]
    · rw [if_neg c, mset_ne _ _ _ _ _ (by omega), mset_ne _ _ _ _ _ (by omega), mfill_ne _ _ _ _ _ (by omega)]; exact r2
  · rw [mset_ne _ _ _ _ _ (by omega), mset_ne _ _ _ _ _ (by omega), h14]
    by_cases c : (k : Int) = x0
    · have ck : 14 + k = 14 + x0.toNat := by omega
      rw [if_pos (by omega), ck, mfill_at, if_pos (by omega)]
    · rw [if_neg (by omega), mfill_ne _ _ _ _ _ (by omega)]; exact r3 i i0 i1
theorem EQ_sheet {s t : gMem} (h : INV s t) {x0 x1 x2 : Int} (hx0 : in32 x0) (hx1 : in32 x1) (hx2 : in32 x2) : (f_X8_sheet x0 x1 x2 s).1 = (f_X9_sheet x0 x1 x2 t).1 ∧ INV (f_X8_sheet x0 x1 x2 s).2 (f_X9_sheet x0 x1 x2 t).2 := by
  obtain ⟨fx, hX'⟩ := XI_sheet h.2.1 hx0 hx1 hx2
  obtain ⟨fm, hM'⟩ := MI_sheet h.2.2.1 hx0 hx1 hx2
  have ref : ∀ r : Int, f_X8_sheet x0 x1 x2 s = (r, s) → f_X9_sheet x0 x1 x2 t = (r, t) → (f_X8_sheet x0 x1 x2 s).1 = (f_X9_sheet x0 x1 x2 t).1 ∧ INV (f_X8_sheet x0 x1 x2 s).2 (f_X9_sheet x0 x1 x2 t).2 := fun r e1 e2 => by rw [e1, e2]; exact ⟨rfl, h⟩
  have mk : ∀ (n : Int), (0 ≤ x0 ∧ x0 ≤ 3) → (f_X8_sheet x0 x1 x2 s).1 = 1 → (f_X8_sheet x0 x1 x2 s).2 = (f_X5_renew x1 n x0.toNat s).2 → (f_X9_sheet x0 x1 x2 t).1 = 1 → (f_X9_sheet x0 x1 x2 t).2 = (w_X9_sheet_70 x0 41 0 (mset (mset t 12 x0 x1) 13 x0 n)).2 → (f_X8_sheet x0 x1 x2 s).1 = (f_X9_sheet x0 x1 x2 t).1 ∧ INV (f_X8_sheet x0 x1 x2 s).2 (f_X9_sheet x0 x1 x2 t).2 := fun n h0 e1 e2 e3 e4 => by
    refine ⟨by rw [e1, e3], INV_sh h fx fm ?_ hX' hM'⟩
    rw [e2, e4]
    obtain ⟨i1, i2⟩ := z70 x0 41 0 (mset (mset t 12 x0 x1) 13 x0 n) (by omega)
    refine renew_sh h.1.2.2.2.2.2.2 h0 (fun j => ?_) (fun j => ?_) (fun j => ?_)
    · rw [i1 12 (by decide), mset_ne _ _ _ _ _ (by decide), mset_at]
    · rw [i1 13 (by decide), mset_at, mset_ne _ _ _ _ _ (by decide)]
    · rw [i2, mset_ne _ _ _ _ _ (by decide), mset_ne _ _ _ _ _ (by decide), Int.add_zero]
  by_cases a : 0 ≤ x0 ∧ x0 < 4
  · have a' : 0 ≤ x0 ∧ x0 ≤ 3 := by omega
    by_cases b : -1 ≤ x1 ∧ x1 ≤ 2
    · by_cases c : x1 = -1
      · have eX : f_X8_sheet x0 x1 x2 s = (1, (f_X5_renew x1 0 x0.toNat s).2) := by
          unfold f_X8_sheet
          rw [if_out, if_pos a, if_neg (show ¬ x1 < -1 by omega), if_pos (show x1 < 3 by omega), if_pos c, c]
          rfl
        have eM : f_X9_sheet x0 x1 x2 t = (1, (w_X9_sheet_70 x0 41 0 (mset (mset t 12 x0 x1) 13 x0 0)).2) := by
          unfold f_X9_sheet
          simp only [gj, gl, gl2]
          rw [if_in, if_in, if_pos a', if_pos b, if_pos c, if_pos c, if_pos c]
        exact mk 0 a' (by rw [eX]) (by rw [eX]) (by rw [eM]) (by rw [eM])
      · by_cases d : 40 < x2
        · refine ref (-2) ?_ ?_
          · unfold f_X8_sheet
            rw [if_out, if_pos a, if_neg (show ¬ x1 < -1 by omega), if_pos (show x1 < 3 by omega), if_neg c, if_pos d]
          · unfold f_X9_sheet
            simp only [gj, gl, gl2]
            rw [if_in, if_in, if_pos a', if_pos b, if_neg c, if_pos d]
        · by_cases f : x2 < 0
          · refine ref (-14) ?_ ?_
            · unfold f_X8_sheet
              rw [if_out, if_pos a, if_neg (show ¬ x1 < -1 by omega), if_pos (show x1 < 3 by omega), if_neg c, if_neg d, if_pos f]
            · unfold f_X9_sheet
              simp only [gj, gl, gl2]
              rw [if_in, if_in, if_pos a', if_pos b, if_neg c, if_neg d, if_neg c, if_pos f]
          · have eX : f_X8_sheet x0 x1 x2 s = (1, (f_X5_renew x1 x2 x0.toNat s).2) := by
              unfold f_X8_sheet
              rw [if_out, if_pos a, if_neg (show ¬ x1 < -1 by omega), if_pos (show x1 < 3 by omega), if_neg c, if_neg d, if_neg f]
              rfl
            have eM : f_X9_sheet x0 x1 x2 t = (1, (w_X9_sheet_70 x0 41 0 (mset (mset t 12 x0 x1) 13 x0 x2)).2) := by
              unfold f_X9_sheet
              simp only [gj, gl, gl2]
              rw [if_in, if_in, if_pos a', if_pos b, if_neg c, if_neg d, if_neg c, if_neg f, if_neg c]
            exact mk x2 a' (by rw [eX]) (by rw [eX]) (by rw [eM]) (by rw [eM])
    · refine ref (-2) ?_ ?_
      · unfold f_X8_sheet
        rw [if_out, if_pos a]
        by_cases c : x1 < -1
        · rw [if_pos c]
        · rw [if_neg c, if_neg (show ¬ x1 < 3 by omega)]
      · unfold f_X9_sheet
        rw [if_in, if_in, if_pos a', if_neg b]
  · refine ref (-2) ?_ ?_
    · unfold f_X8_sheet
      rw [if_out, if_neg a]
    · unfold f_X9_sheet
      rw [if_in, if_neg (by omega)]
theorem cell_sh {s t : gMem} (h : RLsh s t) {x0 i v : Int} (h0 : 0 ≤ x0 ∧ x0 ≤ 3) (hi : 0 ≤ i ∧ i < 40) : RLsh (mset s (14 + x0.toNat) i v) (mset t 14 (40 * x0 + i) v) := fun k hk => by
  obtain ⟨r1, r2, r3⟩ := h k hk
  refine ⟨?_, ?_, fun j j0 j1 => ?_⟩
  · rw [mset_ne _ _ _ _ _ (by omega), mset_ne _ _ _ _ _ (by decide)]; exact r1
  · rw [mset_ne _ _ _ _ _ (by omega), mset_ne _ _ _ _ _ (by decide)]; exact r2
  · rw [mset_at]
    by_cases c : (k : Int) = x0
    · have ck : 14 + k = 14 + x0.toNat := by omega
      rw [ck, mset_at, ← ck]
      by_cases d : j = i
      · rw [if_pos d, if_pos (by omega)]
      · rw [if_neg d, if_neg (by omega)]; exact r3 j j0 j1
    · rw [mset_ne _ _ _ _ _ (by omega), if_neg (by omega)]; exact r3 j j0 j1
theorem EQ_cell {s t : gMem} (h : INV s t) {x0 x1 x2 : Int} (hx0 : in32 x0) (hx1 : in32 x1) (hx2 : in32 x2) : (f_X8_cell x0 x1 x2 s).1 = (f_X9_cell x0 x1 x2 t).1 ∧ INV (f_X8_cell x0 x1 x2 s).2 (f_X9_cell x0 x1 x2 t).2 := by
  obtain ⟨fx, hX'⟩ := XI_cell h.2.1 hx0 hx1 hx2
  obtain ⟨fm, hM'⟩ := MI_cell h.2.2.1 hx0 hx1 hx2
  have ref : ∀ r : Int, f_X8_cell x0 x1 x2 s = (r, s) → f_X9_cell x0 x1 x2 t = (r, t) → (f_X8_cell x0 x1 x2 s).1 = (f_X9_cell x0 x1 x2 t).1 ∧ INV (f_X8_cell x0 x1 x2 s).2 (f_X9_cell x0 x1 x2 t).2 := fun r e1 e2 => by rw [e1, e2]; exact ⟨rfl, h⟩
  by_cases a : 0 ≤ x0 ∧ x0 < 4
  · have a' : 0 ≤ x0 ∧ x0 ≤ 3 := by omega
    obtain ⟨k1, k2, k3⟩ := sh_k h.1 a'
    have hz := (INV_SOz h).2 x0
    have eX : f_X8_cell x0 x1 x2 s = if t 12 x0 = -1 then (-11, s) else (if 0 ≤ x1 ∧ x1 < t 13 x0 then (1, mset s (14 + x0.toNat) x1 (if t 12 x0 = 0 then ((Int32.ofInt x2).toInt8.toInt) else (if t 12 x0 = 1 then ((Int32.ofInt x2).toInt16.toInt) else x2))) else (-12, s)) := by
      unfold f_X8_cell f_X5_write
      rw [if_out, if_pos a, miss_eq h.1 (INV_SOz h).1 a', k1, k2, if_out]
      rfl
    have eM : f_X9_cell x0 x1 x2 t = if t 12 x0 = -1 then (-11, t) else (if 0 ≤ x1 ∧ x1 ≤ t 13 x0 - 1 then (1, mset t 14 (40 * x0 + x1) (if t 12 x0 = 0 then ((Int32.ofInt x2).toInt8.toInt) else (if t 12 x0 = 1 then ((Int32.ofInt x2).toInt16.toInt) else x2))) else (-12, t)) := by
      unfold f_X9_cell
      rw [if_in, if_pos a', if_in]
      rfl
    by_cases b : t 12 x0 = -1
    · exact ref (-11) (by rw [eX, if_pos b]) (by rw [eM, if_pos b])
    · rw [if_neg b] at eX eM
      by_cases c : 0 ≤ x1 ∧ x1 < t 13 x0
      · rw [if_pos c] at eX
        rw [if_pos (show 0 ≤ x1 ∧ x1 ≤ t 13 x0 - 1 by omega)] at eM
        refine ⟨by rw [eX, eM], INV_sh h (fx.mono (by decide)) (fm.mono (by decide)) ?_ hX' hM'⟩
        rw [eX, eM]
        exact cell_sh h.1.2.2.2.2.2.2 a' (by omega)
      · exact ref (-12) (by rw [eX, if_neg c]) (by rw [eM, if_neg (by omega)])
  · refine ref (-2) ?_ ?_
    · unfold f_X8_cell
      rw [if_out, if_neg a]
    · unfold f_X9_cell
      rw [if_in, if_neg (by omega)]
theorem cp_loop {t : gMem} {c5 c6 c7 : Int} : ∀ (n : Nat) (v : Int) (T : gMem), 0 ≤ v → v ≤ c5 → c5 - v < n → fr [14] t T → (∀ j, (c6 < c7 → T 14 j = if c7 + c5 - v ≤ j ∧ j < c7 + c5 then t 14 (c6 + (j - c7)) else t 14 j) ∧ (¬ c6 < c7 → T 14 j = if c7 ≤ j ∧ j < c7 + v then t 14 (c6 + (j - c7)) else t 14 j)) → fr [14] t (w_X9_copy_147 c5 c6 c7 n v T).2 ∧ ∀ j, (w_X9_copy_147 c5 c6 c7 n v T).2 14 j = if c7 ≤ j ∧ j < c7 + c5 then t 14 (c6 + (j - c7)) else t 14 j := by
  intro n
  induction n with
  | zero => intro v T _ _ h; exfalso; omega
  | succ n ih =>
    intro v T v0 v1 h hf hT
    rw [w_X9_copy_147_s]
    by_cases c : v < c5
    · rw [if_pos c]
      simp only [gl]
      by_cases d : c6 < c7
      · rw [if_pos d]
        refine ih (v + 1) _ (by omega) (by omega) (by omega) (hf.set (by decide)) (fun j => ⟨fun _ => ?_, fun z => absurd d z⟩)
        have h1 := (hT j).1 d
        have h2 := (hT (c6 + (c5 - 1 - v))).1 d
        rw [if_neg (by omega)] at h2
        rw [mset_at, h2, h1]
        by_cases e : j = c7 + (c5 - 1 - v)
        · rw [if_pos e, if_pos (show c7 + c5 - (v + 1) ≤ j ∧ j < c7 + c5 by omega)]
          congr 1
          omega
        · rw [if_neg e]
          by_cases f : c7 + c5 - v ≤ j ∧ j < c7 + c5
          · rw [if_pos f, if_pos (by omega)]
          · rw [if_neg f, if_neg (by omega)]
      · rw [if_neg d]
        refine ih (v + 1) _ (by omega) (by omega) (by omega) (hf.set (by decide)) (fun j => ⟨fun z => absurd z d, fun _ => ?_⟩)
        have h1 := (hT j).2 d
        have h2 := (hT (c6 + v)).2 d
        rw [if_neg (by omega)] at h2
        rw [mset_at, h2, h1]
        by_cases e : j = c7 + v
        · rw [if_pos e, if_pos (show c7 ≤ j ∧ j < c7 + (v + 1) by omega)]
          congr 1
          omega
        · rw [if_neg e]
          by_cases f : c7 ≤ j ∧ j < c7 + v
          · rw [if_pos f, if_pos (by omega)]
          · rw [if_neg f, if_neg (by omega)]
    · rw [if_neg c]
      have : v = c5 := by omega
      subst this
      refine ⟨hf, fun j => ?_⟩
      show T 14 j = _
      by_cases d : c6 < c7
      · rw [(hT j).1 d]
        by_cases f : c7 ≤ j ∧ j < c7 + v
        · rw [if_pos f, if_pos (by omega)]
        · rw [if_neg f, if_neg (by omega)]
      · exact (hT j).2 d
theorem EQ_copy {s t : gMem} (h : INV s t) {x0 x1 x2 x3 x4 : Int} (hx0 : in32 x0) (hx1 : in32 x1) (hx2 : in32 x2) (hx3 : in32 x3) (hx4 : in32 x4) : (f_X8_copy x0 x1 x2 x3 x4 s).1 = (f_X9_copy x0 x1 x2 x3 x4 t).1 ∧ INV (f_X8_copy x0 x1 x2 x3 x4 s).2 (f_X9_copy x0 x1 x2 x3 x4 t).2 := by
  obtain ⟨fx, hX'⟩ := XI_copy h.2.1 hx0 hx1 hx2 hx3 hx4
  obtain ⟨fm, hM'⟩ := MI_copy h.2.2.1 hx0 hx1 hx2 hx3 hx4
  have ref : ∀ r : Int, f_X8_copy x0 x1 x2 x3 x4 s = (r, s) → f_X9_copy x0 x1 x2 x3 x4 t = (r, t) → (f_X8_copy x0 x1 x2 x3 x4 s).1 = (f_X9_copy x0 x1 x2 x3 x4 t).1 ∧ INV (f_X8_copy x0 x1 x2 x3 x4 s).2 (f_X9_copy x0 x1 x2 x3 x4 t).2 := fun r e1 e2 => by rw [e1, e2]; exact ⟨rfl, h⟩
  by_cases a : 0 ≤ x0 ∧ x0 < 4
  · have a' : 0 ≤ x0 ∧ x0 ≤ 3 := by omega
    by_cases b : 0 ≤ x2 ∧ x2 < 4
    · have b' : 0 ≤ x2 ∧ x2 ≤ 3 := by omega
      obtain ⟨k1, k2, k3⟩ := sh_k h.1 a'
      obtain ⟨l1, l2, l3⟩ := sh_k h.1 b'
      have hz := (INV_SOz h).2 x0
      have hz2 := (INV_SOz h).2 x2
      have eX : f_X8_copy x0 x1 x2 x3 x4 s = if t 12 x0 = -1 then (-11, s) else (if t 12 x2 = -1 then (-11, s) else (if t 12 x0 = t 12 x2 then (if 0 ≤ x1 ∧ 0 ≤ x4 ∧ x1 ≤ t 13 x0 ∧ x4 ≤ t 13 x0 - x1 then (if 0 ≤ x3 ∧ 0 ≤ x4 ∧ x3 ≤ t 13 x2 ∧ x4 ≤ t 13 x2 - x3 then (x4, mcpy s (14 + x0.toNat) x1 (14 + x2.toNat) x3 x4) else (-12, s)) else (-12, s)) else (-13, s))) := by
        unfold f_X8_copy
        rw [if_out, if_out, if_pos a, if_pos b, miss_eq h.1 (INV_SOz h).1 a', miss_eq h.1 (INV_SOz h).1 b', k1, l1, holds_if h.1 a', holds_if h.1 b']
        rfl
      have eM : f_X9_copy x0 x1 x2 x3 x4 t = if t 12 x0 = -1 then (-11, t) else (if t 12 x2 = -1 then (-11, t) else (if t 12 x0 = t 12 x2 then (if x4 < 0 then (-12, t) else (if x1 < 0 then (-12, t) else (if x3 < 0 then (-12, t) else (if t 13 x0 < x1 then (-12, t) else (if t 13 x2 < x3 then (-12, t) else (if t 13 x0 - x1 < x4 then (-12, t) else (if t 13 x2 - x3 < x4 then (-12, t) else (x4, (w_X9_copy_147 x4 (40 * x0 + x1) (40 * x2 + x3) 41 0 t).2)))))))) else (-13, t))) := by
        unfold f_X9_copy
        rw [if_in, if_in, if_pos a', if_pos b']
        rfl
      by_cases c : t 12 x0 = -1
      · exact ref (-11) (by rw [eX, if_pos c]) (by rw [eM, if_pos c])
      · rw [if_neg c] at eX eM
        by_cases d : t 12 x2 = -1
        · exact ref (-11) (by rw [eX, if_pos d]) (by rw [eM, if_pos d])
        · rw [if_neg d] at eX eM
          by_cases f : t 12 x0 = t 12 x2
          · rw [if_pos f] at eX eM
            by_cases g : (0 ≤ x1 ∧ 0 ≤ x4 ∧ x1 ≤ t 13 x0 ∧ x4 ≤ t 13 x0 - x1) ∧ (0 ≤ x3 ∧ 0 ≤ x4 ∧ x3 ≤ t 13 x2 ∧ x4 ≤ t 13 x2 - x3)
            · rw [if_pos g.1, if_pos g.2] at eX
              rw [if_neg (by omega), if_neg (by omega), if_neg (by omega), if_neg (by omega), if_neg (by omega), if_neg (by omega), if_neg (by omega)] at eM
              refine ⟨by rw [eX, eM], INV_sh h (fx.mono (by decide)) (fm.mono (by decide)) ?_ hX' hM'⟩
              rw [eX, eM]
              show RLsh (mcpy s (14 + x0.toNat) x1 (14 + x2.toNat) x3 x4) (w_X9_copy_147 x4 (40 * x0 + x1) (40 * x2 + x3) 41 0 t).2
              obtain ⟨q1, q2⟩ := cp_loop (t := t) (c5 := x4) (c6 := 40 * x0 + x1) (c7 := 40 * x2 + x3) 41 0 t (by omega) (by omega) (by omega) (fr.rf _ _) (fun j => ⟨fun _ => by rw [if_neg (by omega)], fun _ => by rw [if_neg (by omega)]⟩)
              intro k hk
              obtain ⟨r1, r2, r3⟩ := h.1.2.2.2.2.2.2 k hk
              refine ⟨?_, ?_, fun j j0 j1 => ?_⟩
              · rw [mcpy_ne _ _ _ _ _ _ _ (by omega), q1 12 (by decide)]; exact r1
              · rw [mcpy_ne _ _ _ _ _ _ _ (by omega), q1 13 (by decide)]; exact r2
              · rw [q2]
                by_cases y : (k : Int) = x2
                · have ck : 14 + k = 14 + x2.toNat := by omega
                  rw [ck, mcpy_at, ← ck]
                  by_cases z : x3 ≤ j ∧ j < x3 + x4
                  · rw [if_pos z, if_pos (by omega), k3 _ (by omega) (by omega)]
                    congr 1
                    omega
                  · rw [if_neg z, if_neg (by omega)]; exact r3 j j0 j1
                · rw [mcpy_ne _ _ _ _ _ _ _ (by omega), if_neg (by omega)]; exact r3 j j0 j1
            · refine ref (-12) ?_ ?_
              · rw [eX]
                by_cases y : 0 ≤ x1 ∧ 0 ≤ x4 ∧ x1 ≤ t 13 x0 ∧ x4 ≤ t 13 x0 - x1
                · rw [if_pos y, if_neg (fun z => g ⟨y, z⟩)]
                · rw [if_neg y]
              · rw [eM]
                repeat' (split; · rfl)
                exact absurd (by omega) g
          · exact ref (-13) (by rw [eX, if_neg f]) (by rw [eM, if_neg f])
    · refine ref (-2) ?_ ?_
      · unfold f_X8_copy
        rw [if_out, if_out, if_pos a, if_neg b]
      · unfold f_X9_copy
        rw [if_in, if_in, if_pos a', if_neg (by omega)]
  · refine ref (-2) ?_ ?_
    · unfold f_X8_copy
      rw [if_out, if_neg a]
    · unfold f_X9_copy
      rw [if_in, if_neg (by omega)]
