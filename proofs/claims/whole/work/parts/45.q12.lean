/-! both sides' answers: push, far, tip, put -/
theorem says_loop_cg (c1 c2 : Int) : ∀ (n : Nat) (v3 v4 : Int) (S S' : gMem), S' (26 + c1.toNat) = S (26 + c1.toNat) → S' (19 + c1.toNat) = S (19 + c1.toNat) → S' 32 = S 32 → S' 36 = S 36 → c1.toNat < 6 → (t_X7_reckon_13 c1 c2 n v3 v4 S').1 = (t_X7_reckon_13 c1 c2 n v3 v4 S).1 := by
  intro n
  induction n with
  | zero => intro v3 v4 S S' _ _ _ _ _; rfl
  | succ n ih =>
    intro v3 v4 S S' e26 e19 e32 e36 hk
    rw [t_X7_reckon_13_s, t_X7_reckon_13_s, e26, e19, e32, e36]
    by_cases a : v4 < S (26 + c1.toNat) (c2 + 1)
    · rw [if_pos a, if_pos a]
      obtain ⟨V, hV⟩ : ∃ V, V = (if (-7) < (S (19 + c1.toNat) v4) then (v3 + 1) else (if (S (19 + c1.toNat) v4) = (-14) then v3 else (if (S (19 + c1.toNat) v4) = (-15) then v3 else (v3 + (-1))))) := ⟨_, rfl⟩
      rw [← hV]
      simp only [gl]
      by_cases b : V < 1
      · rw [if_pos b, if_pos b]
      · rw [if_neg b, if_neg b]
        by_cases c : V < 161
        · rw [if_pos c, if_pos c]
          refine ih V (v4 + 1) _ _ ?_ ?_ ?_ ?_ hk
          · rw [mset_nf (by omega), mset_nf (by omega)]; exact e26
          · rw [mset_nf (by omega), mset_nf (by omega)]; exact e19
          · funext j
            rw [mset_at, mset_at, e32]
          · rw [mset_nf (by decide), mset_nf (by decide)]; exact e36
        · rw [if_neg c, if_neg c]
    · rw [if_neg a, if_neg a]
theorem says_cg {s s' : gMem} {k p b : Int} (h : ∀ c ∈ [32, 36, 41, 59, 61, 62, 63], s' c = s c) (h26 : s' (26 + (s 63 0).toNat) = s (26 + (s 63 0).toNat)) (h19 : s' (19 + (s 63 0).toNat) = s (19 + (s 63 0).toNat)) (hk : (s 63 0).toNat < 6) : (f_X4_says k p b s').1 = (f_X4_says k p b s).1 := by
  obtain ⟨S, hS, eX⟩ := says_X k p b s
  obtain ⟨S', hS', eX'⟩ := says_X k p b s'
  rw [eX, eX']
  have fS : fr [36] s S := by
    rw [hS]
    exact ((((((fr.rf [36] s).set (by decide)).set (by decide)).set (by decide)).set (by decide)).set (by decide)).set (by decide)
  have fS' : fr [36] s' S' := by
    rw [hS']
    exact ((((((fr.rf [36] s').set (by decide)).set (by decide)).set (by decide)).set (by decide)).set (by decide)).set (by decide)
  have e36 : S' 36 = S 36 := by
    rw [hS, hS']
    funext j
    simp only [mset, if_true]
    simp only [show ∀ x : Nat, (x = x) = True from fun x => eq_self x, if_true, show ((41 : Nat) = 36) = False from by simp, show ((59 : Nat) = 36) = False from by simp, show ((61 : Nat) = 36) = False from by simp, show ((62 : Nat) = 36) = False from by simp, if_false, h 36 (by decide), h 41 (by decide), h 59 (by decide), h 61 (by decide), h 62 (by decide)]
  have S63 : S 63 0 = s 63 0 := by rw [fS 63 (by decide)]
  have S63' : S' 63 0 = s 63 0 := by rw [fS' 63 (by decide), h 63 (by decide)]
  have e26 : S' (26 + (s 63 0).toNat) = S (26 + (s 63 0).toNat) := by rw [fS _ (by simp; omega), fS' _ (by simp; omega)]; exact h26
  have e19 : S' (19 + (s 63 0).toNat) = S (19 + (s 63 0).toNat) := by rw [fS _ (by simp; omega), fS' _ (by simp; omega)]; exact h19
  rw [S63, S63', e26]
  rw [says_loop_cg (s 63 0) k 161 0 _ S S' e26 e19 (by rw [fS 32 (by decide), fS' 32 (by decide)]; exact h 32 (by decide)) e36 hk]
theorem A_x {s s' t t' : gMem} (h : XT s t) (hR : RLa s' t') (hBG : BG s') (hGP : GP s') (hV : VS t') (hc : ∀ c ∈ [32, 36, 41, 59, 61, 62, 63], s' c = s c) (h26 : s' (26 + (s 63 0).toNat) = s (26 + (s 63 0).toNat)) (h19 : s' (19 + (s 63 0).toNat) = s (19 + (s 63 0).toNat)) {k p b : Int} (hk : 0 ≤ k ∧ k ≤ 2) (hp : 0 ≤ p ∧ p ≤ 15) : (f_X9_asksOf k p b t').1 = (f_X9_asksOf k p b t).1 := by
  have hl := h.2.1.2.2.2.1 0
  rw [← A_eq hR hBG hGP hV hk hp, ← A_eq h.1 h.2.1.2.2.1 h.2.1.2.2.2.2.2.2.1 h.2.2.1.2.1 hk hp]
  exact says_cg hc h26 h19 (by omega)
/-- what was reckoned stays, where nothing has changed by which it was -/
theorem CF_x {s s' t t' : gMem} (h : XT s t) (hR : RLa s' t') (hBG : BG s') (hGP : GP s') (hI : IM t') (h0 : t' 0 = t 0) (h1 : t' 1 = t 1) (hc : ∀ c ∈ [32, 36, 37, 38, 39, 41, 59, 61, 62, 63], s' c = s c) (h26 : s' (26 + (s 63 0).toNat) = s (26 + (s 63 0).toNat)) (h19 : s' (19 + (s 63 0).toNat) = s (19 + (s 63 0).toNat)) : CFf s' t' ∧ CFc s' t' ∧ CFt s' t' := by
  have hc2 : ∀ c ∈ [32, 36, 41, 59, 61, 62, 63], s' c = s c := sbl hc (by decide)
  obtain ⟨-, -, hM, c1, c2, c3⟩ := id h
  refine ⟨fun p b p0 p1 b0 b1 => ?_, fun p b p0 p1 b0 b1 => ?_, fun p p0 p1 => ?_⟩
  · rw [hc 37 (by decide), FA_e hI ⟨p0, p1⟩ ⟨b0, b1⟩, h0, h1, A_x h hR hBG hGP hI.2.1 hc2 h26 h19 (by omega) ⟨p0, p1⟩, ← FA_e hM ⟨p0, p1⟩ ⟨b0, b1⟩]
    exact c1 p b p0 p1 b0 b1
  · rw [hc 38 (by decide)]
    have e : CA t' p b = CA t p b := A_x h hR hBG hGP hI.2.1 hc2 h26 h19 (by omega) ⟨p0, p1⟩
    rw [e]
    exact c2 p b p0 p1 b0 b1
  · rw [hc 39 (by decide), TA_e hI ⟨p0, p1⟩, h0, h1, A_x h hR hBG hGP hI.2.1 hc2 h26 h19 (by omega) ⟨p0, p1⟩, ← TA_e hM ⟨p0, p1⟩]
    exact c3 p p0 p1
theorem P_eq {s t : gMem} (h : INV s t) {p sd : Int} (hp : 0 ≤ p ∧ p ≤ 15) (hsd : 0 ≤ sd ∧ sd ≤ 2) : f_X4_pushed p sd (s 62 0) s = f_X9_pushed p sd t ∧ 0 ≤ f_X9_pushed p sd t ∧ f_X9_pushed p sd t ≤ 65535 := by
  obtain ⟨a1, a2, a3, a4⟩ := h.1.2.1
  have d1 := h.2.2.1.1.2.2.2.2 1
  have d3 := h.2.2.1.1.2.2.2.2 3
  rw [a4]
  exact pushed_eq h.1.1 rfl a2 (by omega) hp (by omega) hsd
theorem EQ_push {s t : gMem} (h : INV s t) (x0 x1 : Int) : f_X8_push x0 x1 s = f_X9_push x0 x1 t := by
  unfold f_X8_push f_X9_push
  rw [if_out, if_out, if_pl, if_sd]
  by_cases a : 0 ≤ x0 ∧ x0 < 16
  · rw [if_pos a, if_pos (show 0 ≤ x0 ∧ x0 ≤ 15 by omega)]
    by_cases b : 0 ≤ x1 ∧ x1 < 3
    · rw [if_pos b, if_pos (show 0 ≤ x1 ∧ x1 ≤ 2 by omega)]
      exact (P_eq h (by omega) (by omega)).1
    · rw [if_neg b, if_neg (show ¬ (0 ≤ x1 ∧ x1 ≤ 2) by omega)]
  · rw [if_neg a, if_neg (show ¬ (0 ≤ x0 ∧ x0 ≤ 15) by omega)]
theorem far_loop {s t : gMem} (h : INV s t) (x : Int) : ∀ (n : Nat) (a b p : Int), 0 ≤ p → w_X8_far_18 x s n a b p = w_X9_far_19 x t n a b p := by
  intro n
  induction n with
  | zero => intro a b p _; rfl
  | succ n ih =>
    intro a b p hp
    rw [w_X8_far_18_s, w_X9_far_19_s]
    by_cases c : p < 16
    · rw [if_pos c, if_pos c, h.1.2.1.2.1]
      obtain ⟨e1, e2, e3⟩ := P_eq h (p := p) (sd := 1) (by omega) (by omega)
      rw [e1, bc_ones e2 e3, has_in]
      simp only [gl, gl2]
      by_cases d : f_X9_isIn (t 2 1) p = 0
      · rw [if_pos d, if_pos d]
        exact ih _ _ _ (by omega)
      · rw [if_neg d, if_neg d]
        by_cases e : b < f_X9_ones (f_X9_pushed p 1 t)
        · rw [if_pos e, if_pos e, if_pos e]; exact ih _ _ _ (by omega)
        · rw [if_neg e, if_neg e, if_neg e]; exact ih _ _ _ (by omega)
    · rw [if_neg c, if_neg c]
theorem EQ_far {s t : gMem} (h : INV s t) (x0 : Int) : f_X8_far x0 s = f_X9_far x0 t := by
  unfold f_X8_far f_X9_far
  rw [if_out, if_in]
  by_cases a : 0 ≤ x0 ∧ x0 < 2
  · rw [if_pos a, if_pos (show 0 ≤ x0 ∧ x0 ≤ 1 by omega), far_loop h x0 17 (-1) (-1) 0 (by omega)]
  · rw [if_neg a, if_neg (show ¬ (0 ≤ x0 ∧ x0 ≤ 1) by omega)]
/-- what stands becomes v on both sides -/
theorem INV_st {s t s' t' : gMem} {v : Int} (h : INV s t) (hs : s' = mset s 60 0 v) (ht : t' = mset t 2 1 v) (hX : XI s') (hM : MI t') : INV s' t' := by
  have f1 : fr [60] s s' := by rw [hs]; exact (fr.rf _ _).set (by decide)
  have f2 : fr [2] t t' := by rw [ht]; exact (fr.rf _ _).set (by decide)
  obtain ⟨a1, a2, a3, a4⟩ := h.1.2.1
  have hR : RLa s' t' := by
    refine ⟨RLpl_fr h.1.1 (frK f1 (by decide)) (frK f2 (by decide)), ?_, RLno_fr h.1.2.2.1 (frK f1 (by decide)) (frK f2 (by decide)), RLtp_fr h.1.2.2.2.1 (frK f1 (by decide)) (frK f2 (by decide)), RLtx_fr h.1.2.2.2.2.1 (frK f1 (by decide)) (frK f2 (by decide)), RLim_fr h.1.2.2.2.2.2.1 (frK f1 (by decide)) (frK f2 (by decide)), RLsh_fr h.1.2.2.2.2.2.2 (frK f1 (by decide)) (frK f2 (by decide))⟩
    unfold RLto
    rw [f1 59 (by decide), f1 61 (by decide), f1 62 (by decide), a1, a3, a4, hs, ht]
    simp [mset]
  obtain ⟨c1, c2, c3⟩ := CF_x (INV_XT h) hR hX.1.2.2.1 hX.1.2.2.2.2.2.2.1 hM.1 (f2 0 (by decide)) (f2 1 (by decide)) (frK f1 (by decide)) (by rw [f1 _ (by have := h.2.1.1.2.2.2.1 0; simp; omega)]) (by rw [f1 _ (by have := h.2.1.1.2.2.2.1 0; simp; omega)])
  exact ⟨hR, hX, hM, c1, c2, c3⟩
theorem EQ_tip {s t : gMem} (h : INV s t) {x0 x1 : Int} (hx0 : in32 x0) (hx1 : in32 x1) : (f_X8_tip x0 x1 s).1 = (f_X9_tip x0 x1 t).1 ∧ INV (f_X8_tip x0 x1 s).2 (f_X9_tip x0 x1 t).2 := by
  obtain ⟨fx, hX'⟩ := XI_tip h.2.1 hx0 hx1
  obtain ⟨fm, hM'⟩ := MI_tip h.2.2.1 hx0 hx1
  have ep := EQ_push h x0 x1
  have hpu : f_X9_push x0 x1 t = if 0 ≤ x0 ∧ x0 ≤ 15 then (if 0 ≤ x1 ∧ x1 ≤ 2 then f_X9_pushed x0 x1 t else -7) else -5 := by
    unfold f_X9_push
    rw [if_pl, if_sd]
  have eM : f_X9_tip x0 x1 t = if 0 ≤ x0 ∧ x0 ≤ 15 then (if 0 ≤ x1 ∧ x1 ≤ 2 then (f_X9_ones (f_X9_pushed x0 x1 t), mset t 2 1 (iand (t 2 1) (ixor (f_X9_pushed x0 x1 t) (-1)))) else (-7, t)) else (-5, t) := by
    unfold f_X9_tip
    rw [if_pl, if_sd]
    rfl
  have eX : f_X8_tip x0 x1 s = if f_X9_push x0 x1 t < 0 then (f_X9_push x0 x1 t, s) else (f_J6_bitCount_0f7a4 (f_X9_push x0 x1 t), mset s 60 0 (iand (s 60 0) (ixor (f_X9_push x0 x1 t) (-1)))) := by
    unfold f_X8_tip
    rw [ep]
    rfl
  rw [eX] at hX' ⊢
  rw [eM] at hM' ⊢
  rw [hpu] at hX' ⊢
  by_cases a : 0 ≤ x0 ∧ x0 ≤ 15
  · rw [if_pos a] at hX' hM' ⊢
    rw [if_pos a]
    by_cases b : 0 ≤ x1 ∧ x1 ≤ 2
    · rw [if_pos b] at hX' hM' ⊢
      rw [if_pos b]
      obtain ⟨e1, e2, e3⟩ := P_eq h a b
      rw [if_neg (by omega)] at hX' ⊢
      refine ⟨bc_ones e2 e3, INV_st h rfl ?_ hX' hM'⟩
      rw [h.1.2.1.2.1]
    · rw [if_neg b] at hX' hM' ⊢
      rw [if_neg b]
      rw [if_pos (by omega)]
      exact ⟨rfl, h⟩
  · rw [if_neg a] at hX' hM' ⊢
    rw [if_neg a]
    rw [if_pos (by omega)]
    exact ⟨rfl, h⟩
