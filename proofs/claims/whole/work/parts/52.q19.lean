/-! the copy kept and taken back, the tape fed -/
theorem fr_cpy {W : List Nat} {s s' : gMem} {k k0 : Nat} {i j n : Int} (h : fr W s s') (hk : k ∈ W) : fr W s (mcpy s' k0 i k j n) := fun q hq => by
  funext l
  have ne : q ≠ k := fun e => hq (by rw [e]; exact hk)
  rw [mcpy_ne _ _ _ _ _ _ _ ne, h q hq]
theorem INV_cf {s t s' t' : gMem} {W W' : List Nat} (h : INV s t) (hs : fr W s s') (ht : fr W' t t') (d : ∀ c ∈ [19, 20, 21, 22, 23, 24, 26, 27, 28, 29, 30, 31, 32, 36, 37, 38, 39, 41, 59, 61, 62, 63], c ∉ W) (d' : ∀ c ∈ [0, 1], c ∉ W') (hR : RLa s' t') (hX : XI s') (hM : MI t') : INV s' t' := by
  have l := h.2.1.1.2.2.2.1 0
  have e := frK hs d
  obtain ⟨c1, c2, c3⟩ := CF_x (INV_XT h) hR hX.1.2.2.1 hX.1.2.2.2.2.2.2.1 hM.1 (ht 0 (d' 0 (by decide))) (ht 1 (d' 1 (by decide))) (sbl e (by decide)) (e _ (by simp; omega)) (e _ (by simp; omega))
  exact ⟨hR, hX, hM, c1, c2, c3⟩
theorem im15 : ∀ (n : Nat) (v : Int) (T : gMem), 0 ≤ v → 16 - v < n → fr [11] T (w_X9_image_15 n v T).2 ∧ ∀ j, (w_X9_image_15 n v T).2 11 j = if v ≤ j ∧ j < 16 then T 0 j else if 16 + v ≤ j ∧ j < 32 then T 1 (j - 16) else T 11 j := by
  intro n
  induction n with
  | zero => intro v T v0 h; refine ⟨fr.rf _ _, fun j => ?_⟩; rw [if_neg (by omega), if_neg (by omega)]; rfl
  | succ n ih =>
    intro v T v0 h
    rw [w_X9_image_15_s]
    by_cases c : v < 16
    · rw [if_pos c]
      simp only [gl]
      obtain ⟨U, hU⟩ : ∃ U, U = mset (mset T 11 v (T 0 v)) 11 (16 + v) ((mset T 11 v (T 0 v)) 1 v) := ⟨_, rfl⟩
      rw [← hU]
      have fU : fr [11] T U := by rw [hU]; exact ((fr.rf _ T).set (by decide)).set (by decide)
      have U11 : ∀ j, U 11 j = if j = 16 + v then T 1 v else if j = v then T 0 v else T 11 j := fun j => by
        rw [hU, mset_at, mset_at, mset_ne _ _ _ _ _ (by decide)]
      obtain ⟨i1, i2⟩ := ih (v + 1) U (by omega) (by omega)
      refine ⟨fU.call (by decide) i1, fun j => ?_⟩
      rw [i2, fU 0 (by decide), fU 1 (by decide), U11]
      by_cases e1 : j = 16 + v
      · rw [if_neg (show ¬ (v + 1 ≤ j ∧ j < 16) by omega), if_neg (show ¬ (16 + (v + 1) ≤ j ∧ j < 32) by omega), if_pos e1, if_neg (show ¬ (v ≤ j ∧ j < 16) by omega), if_pos (show 16 + v ≤ j ∧ j < 32 by omega), e1]
        congr 1
        omega
      · rw [if_neg e1]
        by_cases e2 : j = v
        · rw [if_neg (show ¬ (v + 1 ≤ j ∧ j < 16) by omega), if_neg (show ¬ (16 + (v + 1) ≤ j ∧ j < 32) by omega), if_pos e2, if_pos (show v ≤ j ∧ j < 16 by omega), e2]
        · rw [if_neg e2]
          by_cases a : v + 1 ≤ j ∧ j < 16
          · rw [if_pos a, if_pos (show v ≤ j ∧ j < 16 by omega)]
          · rw [if_neg a, if_neg (show ¬ (v ≤ j ∧ j < 16) by omega)]
            by_cases b : 16 + (v + 1) ≤ j ∧ j < 32
            · rw [if_pos b, if_pos (show 16 + v ≤ j ∧ j < 32 by omega)]
            · rw [if_neg b, if_neg (show ¬ (16 + v ≤ j ∧ j < 32) by omega)]
    · rw [if_neg c]
      refine ⟨fr.rf _ _, fun j => ?_⟩
      rw [if_neg (by omega), if_neg (by omega)]
theorem im56 : ∀ (n : Nat) (v : Int) (T : gMem), 0 ≤ v → 4 - v < n → fr [11] T (w_X9_image_56 n v T).2 ∧ ∀ j, (w_X9_image_56 n v T).2 11 j = if 32 + v ≤ j ∧ j < 36 then T 2 (j - 32) else T 11 j := by
  intro n
  induction n with
  | zero => intro v T v0 h; refine ⟨fr.rf _ _, fun j => ?_⟩; rw [if_neg (by omega)]; rfl
  | succ n ih =>
    intro v T v0 h
    rw [w_X9_image_56_s]
    by_cases c : v < 4
    · rw [if_pos c]
      simp only [gl]
      have fU : fr [11] T (mset T 11 (32 + v) (T 2 v)) := (fr.rf _ T).set (by decide)
      obtain ⟨i1, i2⟩ := ih (v + 1) (mset T 11 (32 + v) (T 2 v)) (by omega) (by omega)
      refine ⟨fU.call (by decide) i1, fun j => ?_⟩
      rw [i2, fU 2 (by decide), mset_at]
      by_cases e1 : j = 32 + v
      · rw [if_neg (show ¬ (32 + (v + 1) ≤ j ∧ j < 36) by omega), if_pos e1, if_pos (show 32 + v ≤ j ∧ j < 36 by omega), e1]
        congr 1
        omega
      · rw [if_neg e1]
        by_cases a : 32 + (v + 1) ≤ j ∧ j < 36
        · rw [if_pos a, if_pos (show 32 + v ≤ j ∧ j < 36 by omega)]
        · rw [if_neg a, if_neg (show ¬ (32 + v ≤ j ∧ j < 36) by omega)]
    · rw [if_neg c]
      refine ⟨fr.rf _ _, fun j => ?_⟩
      rw [if_neg (by omega)]
theorem bk20 : ∀ (n : Nat) (v : Int) (T : gMem), 0 ≤ v → 16 - v < n → fr [0, 1] T (w_X9_back_20 n v T).2 ∧ ∀ j, (w_X9_back_20 n v T).2 0 j = (if v ≤ j ∧ j < 16 then T 11 j else T 0 j) ∧ (w_X9_back_20 n v T).2 1 j = (if v ≤ j ∧ j < 16 then T 11 (16 + j) else T 1 j) := by
  intro n
  induction n with
  | zero => intro v T v0 h; refine ⟨fr.rf _ _, fun j => ?_⟩; rw [if_neg (by omega), if_neg (by omega)]; exact ⟨rfl, rfl⟩
  | succ n ih =>
    intro v T v0 h
    rw [w_X9_back_20_s]
    by_cases c : v < 16
    · rw [if_pos c]
      simp only [gl]
      obtain ⟨U, hU⟩ : ∃ U, U = mset (mset T 0 v (T 11 v)) 1 v ((mset T 0 v (T 11 v)) 11 (16 + v)) := ⟨_, rfl⟩
      rw [← hU]
      have fU : fr [0, 1] T U := by rw [hU]; exact ((fr.rf _ T).set (by decide)).set (by decide)
      have U0 : ∀ j, U 0 j = if j = v then T 11 v else T 0 j := fun j => by
        rw [hU, mset_ne _ _ _ _ _ (by decide), mset_at]
      have U1 : ∀ j, U 1 j = if j = v then T 11 (16 + v) else T 1 j := fun j => by
        rw [hU, mset_at, mset_ne _ _ _ _ _ (by decide), mset_ne _ _ _ _ _ (by decide)]
      obtain ⟨i1, i2⟩ := ih (v + 1) U (by omega) (by omega)
      refine ⟨fU.call (by decide) i1, fun j => ?_⟩
      rw [(i2 j).1, (i2 j).2, fU 11 (by decide), U0, U1]
      by_cases e2 : j = v
      · rw [if_neg (show ¬ (v + 1 ≤ j ∧ j < 16) by omega), if_neg (show ¬ (v + 1 ≤ j ∧ j < 16) by omega), if_pos e2, if_pos e2, if_pos (show v ≤ j ∧ j < 16 by omega), if_pos (show v ≤ j ∧ j < 16 by omega), e2]
        exact ⟨rfl, rfl⟩
      · rw [if_neg e2, if_neg e2]
        by_cases a : v + 1 ≤ j ∧ j < 16
        · rw [if_pos a, if_pos a, if_pos (show v ≤ j ∧ j < 16 by omega), if_pos (show v ≤ j ∧ j < 16 by omega)]
          exact ⟨rfl, rfl⟩
        · rw [if_neg a, if_neg a, if_neg (show ¬ (v ≤ j ∧ j < 16) by omega), if_neg (show ¬ (v ≤ j ∧ j < 16) by omega)]
          exact ⟨rfl, rfl⟩
    · rw [if_neg c]
      refine ⟨fr.rf _ _, fun j => ?_⟩
      rw [if_neg (by omega), if_neg (by omega)]
      exact ⟨rfl, rfl⟩
theorem bk61 : ∀ (n : Nat) (v : Int) (T : gMem), 0 ≤ v → 4 - v < n → fr [2] T (w_X9_back_61 n v T).2 ∧ ∀ j, (w_X9_back_61 n v T).2 2 j = if v ≤ j ∧ j < 4 then T 11 (32 + j) else T 2 j := by
  intro n
  induction n with
  | zero => intro v T v0 h; refine ⟨fr.rf _ _, fun j => ?_⟩; rw [if_neg (by omega)]; rfl
  | succ n ih =>
    intro v T v0 h
    rw [w_X9_back_61_s]
    by_cases c : v < 4
    · rw [if_pos c]
      simp only [gl]
      have fU : fr [2] T (mset T 2 v (T 11 (32 + v))) := (fr.rf _ T).set (by decide)
      obtain ⟨i1, i2⟩ := ih (v + 1) (mset T 2 v (T 11 (32 + v))) (by omega) (by omega)
      refine ⟨fU.call (by decide) i1, fun j => ?_⟩
      rw [i2, fU 11 (by decide), mset_at]
      by_cases e1 : j = v
      · rw [if_neg (show ¬ (v + 1 ≤ j ∧ j < 4) by omega), if_pos e1, if_pos (show v ≤ j ∧ j < 4 by omega), e1]
      · rw [if_neg e1]
        by_cases a : v + 1 ≤ j ∧ j < 4
        · rw [if_pos a, if_pos (show v ≤ j ∧ j < 4 by omega)]
        · rw [if_neg a, if_neg (show ¬ (v ≤ j ∧ j < 4) by omega)]
    · rw [if_neg c]
      refine ⟨fr.rf _ _, fun j => ?_⟩
      rw [if_neg (by omega)]
def keptS (s : gMem) : gMem := mset (mset (mset (mset (mset (mcpy (mcpy s 40 0 45 0 16) 41 0 46 0 16) 75 0 (s 59 0)) 76 0 (s 60 0)) 77 0 (s 61 0)) 78 0 (s 62 0)) 79 0 (s 63 0)
theorem kept_e (s : gMem) : f_X6_become_kept s = (0, keptS s) := by
  unfold f_X6_become_kept keptS
  simp only [gl]
  simp [mset_ne, mcpy_ne]
theorem kept_f (s : gMem) : fr [45, 46, 75, 76, 77, 78, 79] s (keptS s) := by
  unfold keptS
  exact (((((fr_cpy (fr_cpy (fr.rf _ s) (by decide)) (by decide)).set (by decide)).set (by decide)).set (by decide)).set (by decide)).set (by decide)
def nowS (s : gMem) : gMem := mset (mset (mset (mset (mset (mcpy (mcpy s 45 0 40 0 16) 46 0 41 0 16) 59 0 (s 75 0)) 60 0 (s 76 0)) 61 0 (s 77 0)) 62 0 (s 78 0)) 63 0 (s 79 0)
theorem now_e (s : gMem) : f_X6_become_now s = (0, nowS s) := by
  unfold f_X6_become_now nowS
  simp only [gl]
  simp [mset_ne, mcpy_ne]
theorem now_f (s : gMem) : fr [40, 41, 59, 60, 61, 62, 63] s (nowS s) := by
  unfold nowS
  exact (((((fr_cpy (fr_cpy (fr.rf _ s) (by decide)) (by decide)).set (by decide)).set (by decide)).set (by decide)).set (by decide)).set (by decide)
theorem EQ_image {s t : gMem} (h : INV s t) : (f_X8_image s).1 = (f_X9_image t).1 ∧ INV (f_X8_image s).2 (f_X9_image t).2 := by
  obtain ⟨fx, hX'⟩ := XI_image h.2.1
  obtain ⟨n1, n2⟩ := h.1.2.2.1
  obtain ⟨b1, b2, b3, b4⟩ := h.1.2.1
  have td1 := h.2.2.1.1.2.2.2.2 1
  have hV := h.2.2.1.1.2.1
  have eX : f_X8_image s = (f_J6_bitCount_0f7a4 (s 60 0), mset (keptS s) 50 0 1) := by
    unfold f_X8_image
    rw [kept_e]
    simp only [gb, gl]
    rw [mset_ne _ _ _ _ _ (by decide), kept_f s 60 (by decide)]
  obtain ⟨T0, hT0⟩ : ∃ T0, T0 = mset (mset t 9 0 1) 10 0 (t 8 0) := ⟨_, rfl⟩
  have f0 : fr [9, 10] t T0 := by rw [hT0]; exact ((fr.rf _ _).set (by decide)).set (by decide)
  obtain ⟨g1, g2⟩ := im15 17 0 T0 (by omega) (by omega)
  obtain ⟨T1, hT1⟩ : ∃ T1, T1 = (w_X9_image_15 17 0 T0).2 := ⟨_, rfl⟩
  obtain ⟨k1, k2⟩ := im56 5 0 T1 (by omega) (by omega)
  obtain ⟨T2, hT2⟩ : ∃ T2, T2 = (w_X9_image_56 5 0 T1).2 := ⟨_, rfl⟩
  rw [← hT1] at g1 g2
  rw [← hT2] at k1 k2
  have fT : fr [9, 10, 11] t T2 := ((f0.mono (by decide)).call (by decide) g1).call (by decide) k1
  have eM : f_X9_image t = (f_X9_ones (t 2 1), T2) := by
    unfold f_X9_image
    simp only [gl]
    rw [mset_ne _ _ _ _ _ (by decide), ← hT0]
    simp only [gl2]
    rw [← hT1, ← hT2, fT 2 (by decide)]
  have T29 : T2 9 0 = 1 := by rw [k1 9 (by decide), g1 9 (by decide), hT0, mset_ne _ _ _ _ _ (by decide), mset_eq]
  have T210 : T2 10 0 = t 8 0 := by rw [k1 10 (by decide), g1 10 (by decide), hT0, mset_eq]
  have T211 : ∀ j, T2 11 j = if 32 ≤ j ∧ j < 36 then t 2 (j - 32) else if 0 ≤ j ∧ j < 16 then t 0 j else if 16 ≤ j ∧ j < 32 then t 1 (j - 16) else t 11 j := fun j => by
    rw [k2, g2, g1 2 (by decide), f0 2 (by decide), f0 0 (by decide), f0 1 (by decide), f0 11 (by decide)]
    rfl
  obtain ⟨fm, hM'⟩ := MI_image h.2.2.1 (by
    rw [eM]
    refine Or.inr ?_
    show 0 ≤ T2 10 0 ∧ T2 10 0 < T2 7 0
    rw [T210, fT 7 (by decide)]
    exact ⟨hV.2.2.1, hV.2.2.2.1⟩)
  rw [eX] at hX' ⊢
  rw [eM] at hM' ⊢
  show _ = _ ∧ INV (mset (keptS s) 50 0 1) T2
  refine ⟨?_, ?_⟩
  · show f_J6_bitCount_0f7a4 (s 60 0) = f_X9_ones (t 2 1)
    rw [b2, bc_ones td1.1 (td1.2.1 (by decide))]
  · have fS : fr [45, 46, 50, 75, 76, 77, 78, 79] s (mset (keptS s) 50 0 1) := ((kept_f s).mono (by decide)).set (by decide)
    have hR0 := h.1
    refine INV_cf h fS fT (by decide) (by decide) ⟨RLpl_fr hR0.1 (frK fS (by decide)) (frK fT (by decide)), RLto_fr hR0.2.1 (frK fS (by decide)) (frK fT (by decide)), RLno_fr hR0.2.2.1 (frK fS (by decide)) (frK fT (by decide)), RLtp_fr hR0.2.2.2.1 (frK fS (by decide)) (frK fT (by decide)), RLtx_fr hR0.2.2.2.2.1 (frK fS (by decide)) (frK fT (by decide)), ?_, RLsh_fr hR0.2.2.2.2.2.2 (frK fS (by decide)) (frK fT (by decide))⟩ hX' hM'
    refine ⟨by rw [mset_eq, T29], ?_, fun p p0 p1 => ⟨?_, ?_⟩, ?_, ?_, ?_, ?_⟩
    · rw [T210, ← n1]; simp [keptS, mset]
    · rw [T211, if_neg (by omega), if_pos (by omega), ← (h.1.1 p p0 p1).1]
      simp [keptS, mset, mcpy, p0, p1]
    · rw [T211, if_neg (by omega), if_neg (by omega), if_pos (by omega), show 16 + p - 16 = p by omega, ← (h.1.1 p p0 p1).2]
      simp [keptS, mset, mcpy, p0, p1]
    · rw [T211, if_pos (by omega), show (32 : Int) - 32 = 0 by decide, ← b1]; simp [keptS, mset]
    · rw [T211, if_pos (by omega), show (33 : Int) - 32 = 1 by decide, ← b2]; simp [keptS, mset]
    · rw [T211, if_pos (by omega), show (34 : Int) - 32 = 2 by decide, ← b3]; simp [keptS, mset]
    · rw [T211, if_pos (by omega), show (35 : Int) - 32 = 3 by decide, ← b4]; simp [keptS, mset]
theorem forget_f (s : gMem) : fr [37, 38, 39] s (f_X4_forget s).2 := by
  intro k hk
  funext i
  have h1 : k ≠ 37 := fun e => hk (by rw [e]; decide)
  have h2 : k ≠ 38 := fun e => hk (by rw [e]; decide)
  have h3 : k ≠ 39 := fun e => hk (by rw [e]; decide)
  show mfill (mfill (mfill s 37 272 (-1)) 38 272 (-1)) 39 16 (-1) k i = s k i
  rw [mfill_ne _ _ _ _ _ h3, mfill_ne _ _ _ _ _ h2, mfill_ne _ _ _ _ _ h1]
theorem now_60 (s : gMem) : (nowS s) 60 0 = s 76 0 := by simp [nowS, mset]
theorem forget_r (s : gMem) : f_X4_forget s = (0, (f_X4_forget s).2) := rfl
theorem back_eX {s : gMem} (c : ¬ s 50 0 = 0) : f_X8_back s = (f_J6_bitCount_0f7a4 (s 76 0), (f_X4_forget (nowS s)).2) := by
  unfold f_X8_back
  rw [if_neg c, gb_eq (now_e s), gb_eq (forget_r (nowS s)), gl_v, forget_f (nowS s) 60 (by decide), now_60]
theorem gl2_v {α β γ : Type} (x : α × β) (k : α → β → γ) : gl2 x k = k x.1 x.2 := rfl
theorem back_eM {t : gMem} (c : ¬ t 9 0 = 0) : f_X9_back t = (f_X9_ones ((w_X9_back_61 5 0 (w_X9_back_20 17 0 (mset t 8 0 (t 10 0))).2).2 2 1), (w_X9_back_61 5 0 (w_X9_back_20 17 0 (mset t 8 0 (t 10 0))).2).2) := by
  unfold f_X9_back
  rw [if_neg c, gl_v, gl2_v, gl2_v]
theorem EQ_back {s t : gMem} (h : INV s t) : (f_X8_back s).1 = (f_X9_back t).1 ∧ INV (f_X8_back s).2 (f_X9_back t).2 := by
  obtain ⟨fx, hX'⟩ := XI_back h.2.1
  obtain ⟨m1, m2, m3, m4, m5, m6, m7⟩ := h.1.2.2.2.2.2.1
  have hV := h.2.2.1.1.2.1
  have hIG : IG t := h.2.2.1.2.2.2.2.2.2.2.2.1
  have hIR : IR t := h.2.2.1.2.2.2.2.2.2.2.1
  by_cases c : t 9 0 = 0
  · have eX : f_X8_back s = (-3, s) := by unfold f_X8_back; rw [m1, if_pos c]
    have eM : f_X9_back t = (-3, t) := by unfold f_X9_back; rw [if_pos c]
    rw [eX, eM]; exact ⟨rfl, h⟩
  · have hig : 0 ≤ t 10 0 ∧ t 10 0 < t 7 0 := by
      rcases hIG with z | z
      · exact absurd z c
      · exact z
    have i33 := hIR 33
    obtain ⟨T0, hT0⟩ : ∃ T0, T0 = mset t 8 0 (t 10 0) := ⟨_, rfl⟩
    have f0 : fr [8] t T0 := by rw [hT0]; exact (fr.rf _ _).set (by decide)
    obtain ⟨g1, g2⟩ := bk20 17 0 T0 (by omega) (by omega)
    obtain ⟨T1, hT1⟩ : ∃ T1, T1 = (w_X9_back_20 17 0 T0).2 := ⟨_, rfl⟩
    obtain ⟨k1, k2⟩ := bk61 5 0 T1 (by omega) (by omega)
    obtain ⟨T2, hT2⟩ : ∃ T2, T2 = (w_X9_back_61 5 0 T1).2 := ⟨_, rfl⟩
    rw [← hT1] at g1 g2
    rw [← hT2] at k1 k2
    have fT : fr [0, 1, 2, 8] t T2 := ((f0.mono (by decide)).call (by decide) g1).call (by decide) k1
    have T22 : ∀ j, 0 ≤ j → j < 4 → T2 2 j = t 11 (32 + j) := fun j j0 j1 => by
      rw [k2, if_pos ⟨j0, j1⟩, g1 11 (by decide), f0 11 (by decide)]
    have T20 : ∀ j, 0 ≤ j → j < 16 → T2 0 j = t 11 j ∧ T2 1 j = t 11 (16 + j) := fun j j0 j1 => by
      rw [k1 0 (by decide), k1 1 (by decide), (g2 j).1, (g2 j).2, if_pos ⟨j0, j1⟩, if_pos ⟨j0, j1⟩, f0 11 (by decide)]
      exact ⟨rfl, rfl⟩
    have T28 : T2 8 0 = t 10 0 := by rw [k1 8 (by decide), g1 8 (by decide), hT0, mset_eq]
    have eM := back_eM c
    rw [← hT0, ← hT1, ← hT2] at eM
    have ff := forget_f (nowS s)
    have eX := back_eX (s := s) (by rw [m1]; exact c)
    obtain ⟨S, hS⟩ : ∃ S, S = (f_X4_forget (nowS s)).2 := ⟨_, rfl⟩
    rw [← hS] at eX
    obtain ⟨fm, hM'⟩ := MI_back h.2.2.1 (by
      rw [eM]
      show VS T2
      exact VS_of hV (fT 5 (by decide)) (fT 6 (by decide)) (fT 7 (by decide)) (by rw [T28]; exact hig.1) (by rw [T28]; exact hig.2))
    rw [eX] at hX' ⊢
    rw [eM] at hM' ⊢
    have hXS : XI S := hX'
    have hMS : MI T2 := hM'
    show _ = _ ∧ INV S T2
    refine ⟨?_, ?_⟩
    · show f_J6_bitCount_0f7a4 (s 76 0) = f_X9_ones (T2 2 1)
      have z : f_J6_bitCount_0f7a4 (t 11 33) = f_X9_ones (t 11 33) := bc_ones i33.1 (i33.2.2.2.1 (by decide) (by decide))
      rw [T22 1 (by decide) (by decide), m5, show (32 : Int) + 1 = 33 by decide]
      exact z
    · rw [hS] at hXS ⊢
      have fS : fr [37, 38, 39, 40, 41, 59, 60, 61, 62, 63] s (f_X4_forget (nowS s)).2 := ((now_f s).mono (by decide)).call (by decide) ff
      have hR0 := h.1
      refine INV_fgt (s := s) (t := t) ⟨fun p p0 p1 => ?_, ⟨?_, ?_, ?_, ?_⟩, ⟨?_, ?_⟩, RLtp_fr hR0.2.2.2.1 (frK fS (by decide)) (frK fT (by decide)), RLtx_fr hR0.2.2.2.2.1 (frK fS (by decide)) (frK fT (by decide)), RLim_fr hR0.2.2.2.2.2.1 (frK fS (by decide)) (frK fT (by decide)), RLsh_fr hR0.2.2.2.2.2.2 (frK fS (by decide)) (frK fT (by decide))⟩ hXS hMS
      · rw [ff 40 (by decide), ff 41 (by decide), (T20 p p0 p1).1, (T20 p p0 p1).2, ← (m3 p p0 p1).1, ← (m3 p p0 p1).2]
        simp [nowS, mset, mcpy, p0, p1]
      · rw [ff 59 (by decide), T22 0 (by decide) (by decide), show (32 : Int) + 0 = 32 by decide, ← m4]; simp [nowS, mset]
      · rw [ff 60 (by decide), T22 1 (by decide) (by decide), show (32 : Int) + 1 = 33 by decide, ← m5]; simp [nowS, mset]
      · rw [ff 61 (by decide), T22 2 (by decide) (by decide), show (32 : Int) + 2 = 34 by decide, ← m6]; simp [nowS, mset]
      · rw [ff 62 (by decide), T22 3 (by decide) (by decide), show (32 : Int) + 3 = 35 by decide, ← m7]; simp [nowS, mset]
      · rw [ff 63 (by decide), T28, ← m2]; simp [nowS, mset]
      · rw [fS 51 (by decide), fT 7 (by decide)]; exact hR0.2.2.1.2
def FD (s t : gMem) : Prop := s 52 0 = t 4 0 ∧ 0 ≤ t 4 0 ∧ ∀ i, 0 ≤ i → i < t 4 0 → s 33 i = t 3 i
def apM (T : gMem) (b : Int) : gMem := mset (mset T 3 (T 4 0) b) 4 0 (T 4 0 + 1)
theorem app_two {s T : gMem} (h : FD s T) (hr : T 4 0 < 160) (b : Int) : ∃ s', f_X3_append b s = (0, s') ∧ FD s' (apM T b) ∧ (apM T b) 4 0 = T 4 0 + 1 ∧ fr [33, 52] s s' ∧ fr [3, 4] T (apM T b) := by
  obtain ⟨h1, h2, h3⟩ := h
  have e40 : (apM T b) 4 0 = T 4 0 + 1 := by unfold apM; rw [mset_eq]
  refine ⟨mset (mset s 33 (s 52 0) b) 52 0 ((mset s 33 (s 52 0) b) 52 0 + 1), ?_, ⟨?_, by omega, fun i i0 i1 => ?_⟩, e40, ((fr.rf _ _).set (by decide)).set (by decide), by unfold apM; exact ((fr.rf _ _).set (by decide)).set (by decide)⟩
  · unfold f_X3_append
    rw [if_pos (by omega)]
    rfl
  · rw [e40, mset_eq, mset_ne _ _ _ _ _ (by decide), h1]
  · rw [e40] at i1
    unfold apM
    rw [mset_ne _ _ _ _ _ (by decide), mset_at, mset_ne _ _ _ _ _ (by decide), mset_at, h1]
    by_cases e : i = T 4 0
    · rw [if_pos e, if_pos e]
    · rw [if_neg e, if_neg e]; exact h3 i i0 (by omega)
def FJ (x0 x1 x2 x3 x4 x5 : Int) (s0 t0 : gMem) (F : Int × gMem) (v : Int) (n : Nat) (s T : gMem) : Prop := FD s T ∧ fr [33, 52] s0 s ∧ fr [3, 4] t0 T ∧ (v ≤ x0 → T 4 0 = t0 4 0 + v ∧ F = w_X9_feed_68 x0 x1 x2 x3 x4 x5 n v T) ∧ (x0 < v → F.2 = T ∧ T 4 0 = t0 4 0 + x0)
theorem FJ_step {x0 x1 x2 x3 x4 x5 v b : Int} {s0 t0 s T : gMem} {F : Int × gMem} {n : Nat} (h : FJ x0 x1 x2 x3 x4 x5 s0 t0 F v (n + 1) s T) (hb : (if v = 0 then x1 else (if v = 1 then x2 else (if v = 2 then x3 else (if v = 3 then x4 else x5)))) = b) (hr : t0 4 0 + x0 ≤ 160) : ∃ s' T', (if v < x0 then gb (f_X3_append b s) (fun r s' => s') else s) = s' ∧ FJ x0 x1 x2 x3 x4 x5 s0 t0 F (v + 1) n s' T' := by
  obtain ⟨h1, h2, h3, h4, h5⟩ := h
  by_cases c : v < x0
  · obtain ⟨e1, e2⟩ := h4 (by omega)
    obtain ⟨s', q1, q2, q3, q4, q5⟩ := app_two h1 (by omega) b
    rw [if_pos c]
    refine ⟨s', apM T b, by rw [q1]; rfl, q2, h2.call (by decide) q4, h3.call (by decide) q5, fun _ => ⟨by rw [q3, e1]; omega, ?_⟩, fun z => by omega⟩
    rw [e2, w_X9_feed_68_s, if_pos c]
    simp only [gl]
    rw [hb, mset_ne _ _ _ _ _ (by decide)]
    rfl
  · rw [if_neg c]
    refine ⟨s, T, rfl, h1, h2, h3, fun z => by omega, fun _ => ?_⟩
    by_cases d : v = x0
    · refine ⟨?_, by rw [(h4 (by omega)).1, d]⟩
      rw [(h4 (by omega)).2, w_X9_feed_68_s, if_neg c]
    · exact h5 (by omega)
theorem EQ_feed {s t : gMem} (h : INV s t) {x0 x1 x2 x3 x4 x5 : Int} (hx0 : in32 x0) (hx1 : in32 x1) (hx2 : in32 x2) (hx3 : in32 x3) (hx4 : in32 x4) (hx5 : in32 x5) : (f_X8_feed x0 x1 x2 x3 x4 x5 s).1 = (f_X9_feed x0 x1 x2 x3 x4 x5 t).1 ∧ INV (f_X8_feed x0 x1 x2 x3 x4 x5 s).2 (f_X9_feed x0 x1 x2 x3 x4 x5 t).2 := by
  have ref : ∀ r : Int, f_X8_feed x0 x1 x2 x3 x4 x5 s = (r, s) → f_X9_feed x0 x1 x2 x3 x4 x5 t = (r, t) → (f_X8_feed x0 x1 x2 x3 x4 x5 s).1 = (f_X9_feed x0 x1 x2 x3 x4 x5 t).1 ∧ INV (f_X8_feed x0 x1 x2 x3 x4 x5 s).2 (f_X9_feed x0 x1 x2 x3 x4 x5 t).2 := fun r e1 e2 => by rw [e1, e2]; exact ⟨rfl, h⟩
  obtain ⟨p1, p2⟩ := h.1.2.2.2.1
  have hTP := h.2.2.1.2.2.2.2.2.2.2.2.2
  have hTK : TKW s := h.2.1.2.2.2.2.2.2.2.2.2.2.2.2.2.2.2.2.2.2.2.2.2
  have eb : ∀ {α : Type} (x : Int) (A B : α), (if f_X9_isByte x = 0 then A else B) = if 0 ≤ x ∧ x < 256 then B else A := fun x A B => by
    unfold f_X9_isByte
    rw [if_in]
    by_cases z : 0 ≤ x ∧ x < 256
    · rw [if_pos z, if_pos (by omega)]
    · rw [if_neg z, if_neg (by omega)]
  have ex : ∀ {α : Type} (x : Int) (A B : α), (if f_X8_noByte x = 0 then A else B) = if 0 ≤ x ∧ x < 256 then A else B := fun x A B => by
    unfold f_X8_noByte
    rw [if_out]
  by_cases a : 1 ≤ x0 ∧ x0 ≤ 5
  · by_cases b : (0 ≤ x1 ∧ x1 < 256) ∧ (0 ≤ x2 ∧ x2 < 256) ∧ (0 ≤ x3 ∧ x3 < 256) ∧ (0 ≤ x4 ∧ x4 < 256) ∧ (0 ≤ x5 ∧ x5 < 256)
    · obtain ⟨c1, c2, c3, c4, c5⟩ := b
      by_cases d : 160 < t 4 0 + x0
      · refine ref (-4) ?_ ?_
        · unfold f_X8_feed
          rw [if_neg (by omega), if_neg (by omega), ex, ex, ex, ex, ex, if_pos c1, if_pos c2, if_pos c3, if_pos c4, if_pos c5, p1, if_pos d]
        · unfold f_X9_feed
          rw [if_in, if_pos a, eb, eb, eb, eb, eb, if_pos c1, if_pos c2, if_pos c3, if_pos c4, if_pos c5, if_pos d]
      · have J0 : FJ x0 x1 x2 x3 x4 x5 s t (w_X9_feed_68 x0 x1 x2 x3 x4 x5 6 0 t) 0 6 s t := ⟨⟨p1, hTP.1, p2⟩, fr.rf _ _, fr.rf _ _, fun _ => ⟨by omega, rfl⟩, fun z => by omega⟩
        obtain ⟨s1, T1, r1, J1⟩ := FJ_step J0 (b := x1) (by simp) (by omega)
        obtain ⟨s2, T2, r2, J2⟩ := FJ_step J1 (b := x2) (by simp) (by omega)
        obtain ⟨s3, T3, r3, J3⟩ := FJ_step J2 (b := x3) (by simp) (by omega)
        obtain ⟨s4, T4, r4, J4⟩ := FJ_step J3 (b := x4) (by simp) (by omega)
        obtain ⟨s5, T5, r5, J5⟩ := FJ_step J4 (b := x5) (by simp) (by omega)
        rw [if_pos (by omega)] at r1
        have r2' : (if 1 < x0 then gb (f_X3_append x2 s1) (fun r s' => s') else s1) = s2 := r2
        have r3' : (if 2 < x0 then gb (f_X3_append x3 s2) (fun r s' => s') else s2) = s3 := r3
        have r4' : (if 3 < x0 then gb (f_X3_append x4 s3) (fun r s' => s') else s3) = s4 := r4
        have r5' : (if 4 < x0 then gb (f_X3_append x5 s4) (fun r s' => s') else s4) = s5 := r5
        have eX : f_X8_feed x0 x1 x2 x3 x4 x5 s = (s5 52 0, s5) := by
          unfold f_X8_feed
          rw [if_neg (by omega), if_neg (by omega), ex, ex, ex, ex, ex, if_pos c1, if_pos c2, if_pos c3, if_pos c4, if_pos c5, p1, if_neg d]
          have e1 : f_X3_append x1 s = ((f_X3_append x1 s).1, s1) := by rw [← r1]; rfl
          rw [e1]
          simp only [gb, gl] at r2' r3' r4' r5' ⊢
          rw [r2', r3', r4', r5']
        obtain ⟨j1, j2, j3, j4, j5⟩ := J5
        have eF : (w_X9_feed_68 x0 x1 x2 x3 x4 x5 6 0 t).2 = T5 := by
          by_cases z : x0 < 5
          · exact (j5 (by omega)).1
          · have := (j4 (by omega)).2
            rw [this, w_X9_feed_68_s, if_neg (by omega)]
        have eM : f_X9_feed x0 x1 x2 x3 x4 x5 t = (T5 4 0, T5) := by
          unfold f_X9_feed
          rw [if_in, if_pos a, eb, eb, eb, eb, eb, if_pos c1, if_pos c2, if_pos c3, if_pos c4, if_pos c5, if_neg d]
          simp only [gl2]
          rw [eF]
        have h54 : 0 ≤ T5 4 0 ∧ T5 4 0 ≤ 160 := by
          refine ⟨j1.2.1, ?_⟩
          by_cases z : x0 < 5
          · have := (j5 (by omega)).2
            omega
          · have := (j4 (by omega)).1
            omega
        obtain ⟨fm, hM'⟩ := MI_feed h.2.2.1 hx0 hx1 hx2 hx3 hx4 hx5 (by rw [eM]; exact h54)
        obtain ⟨fx, hX'⟩ := XI_feed h.2.1 hx0 hx1 hx2 hx3 hx4 hx5 (by
          rw [eX]
          obtain ⟨k1, k2, k3, k4⟩ := hTK
          refine ⟨?_, ?_, ?_, ?_⟩
          · show 0 ≤ s5 55 0 ∧ s5 55 0 ≤ 267
            rw [j2 55 (by decide)]; exact k1
          · show s5 55 0 = 2 → 0 ≤ s5 57 0 ∧ s5 57 0 ≤ 9999
            rw [j2 55 (by decide), j2 57 (by decide)]; exact k2
          · show 0 ≤ s5 52 0 ∧ s5 52 0 ≤ 160
            rw [j1.1]; exact h54
          · show 0 ≤ s5 56 0 ∧ s5 56 0 ≤ 160
            rw [j2 56 (by decide)]; exact k4)
        rw [eX] at hX' ⊢
        rw [eM] at hM' ⊢
        show _ = _ ∧ INV s5 T5
        have hR0 := h.1
        exact ⟨j1.1, INV_cf h j2 j3 (by decide) (by decide) ⟨RLpl_fr hR0.1 (frK j2 (by decide)) (frK j3 (by decide)), RLto_fr hR0.2.1 (frK j2 (by decide)) (frK j3 (by decide)), RLno_fr hR0.2.2.1 (frK j2 (by decide)) (frK j3 (by decide)), ⟨j1.1, j1.2.2⟩, RLtx_fr hR0.2.2.2.2.1 (frK j2 (by decide)) (frK j3 (by decide)), RLim_fr hR0.2.2.2.2.2.1 (frK j2 (by decide)) (frK j3 (by decide)), RLsh_fr hR0.2.2.2.2.2.2 (frK j2 (by decide)) (frK j3 (by decide))⟩ hX' hM'⟩
    · refine ref (-2) ?_ ?_
      · unfold f_X8_feed
        rw [if_neg (by omega), if_neg (by omega), ex, ex, ex, ex, ex]
        by_cases z1 : 0 ≤ x1 ∧ x1 < 256
        · rw [if_pos z1]
          by_cases z2 : 0 ≤ x2 ∧ x2 < 256
          · rw [if_pos z2]
            by_cases z3 : 0 ≤ x3 ∧ x3 < 256
            · rw [if_pos z3]
              by_cases z4 : 0 ≤ x4 ∧ x4 < 256
              · rw [if_pos z4, if_neg (fun z5 => b ⟨z1, z2, z3, z4, z5⟩)]
              · rw [if_neg z4]
            · rw [if_neg z3]
          · rw [if_neg z2]
        · rw [if_neg z1]
      · unfold f_X9_feed
        rw [if_in, if_pos a, eb, eb, eb, eb, eb]
        by_cases z1 : 0 ≤ x1 ∧ x1 < 256
        · rw [if_pos z1]
          by_cases z2 : 0 ≤ x2 ∧ x2 < 256
          · rw [if_pos z2]
            by_cases z3 : 0 ≤ x3 ∧ x3 < 256
            · rw [if_pos z3]
              by_cases z4 : 0 ≤ x4 ∧ x4 < 256
              · rw [if_pos z4, if_neg (fun z5 => b ⟨z1, z2, z3, z4, z5⟩)]
              · rw [if_neg z4]
            · rw [if_neg z3]
          · rw [if_neg z2]
        · rw [if_neg z1]
  · refine ref (-2) ?_ ?_
    · unfold f_X8_feed
      by_cases z : x0 < 1
      · rw [if_pos z]
      · rw [if_neg z, if_pos (by omega)]
    · unfold f_X9_feed
      rw [if_in, if_neg a]
