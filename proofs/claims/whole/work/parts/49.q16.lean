/-! sheets read: judge, origin, how, check, amiss -/
theorem INV_SOz {s t : gMem} (h : INV s t) : SO t ∧ SZ t := ⟨h.2.2.1.2.2.2.2.2.1, h.2.2.1.2.2.2.2.2.2.1⟩
theorem sh_k {s t : gMem} (hR : RLa s t) {x0 : Int} (h0 : 0 ≤ x0 ∧ x0 ≤ 3) : s (90 + x0.toNat) 0 = t 12 x0 ∧ s (94 + x0.toNat) 0 = t 13 x0 ∧ ∀ i : Int, 0 ≤ i → i < 40 → s (14 + x0.toNat) i = t 14 (40 * x0 + i) := by
  have h := hR.2.2.2.2.2.2 x0.toNat (by omega)
  have e : ((x0.toNat : Nat) : Int) = x0 := by omega
  rw [e] at h
  exact h
theorem miss_eq {s t : gMem} (hR : RLa s t) (hO : SO t) {x0 : Int} (h0 : 0 ≤ x0 ∧ x0 ≤ 3) {α : Type} (A B : α) : (if f_X5_isMissing x0.toNat s = 0 then A else B) = if t 12 x0 = -1 then B else A := by
  have e := (sh_k hR h0).1
  have o := hO x0
  unfold f_X5_isMissing
  rw [e]
  by_cases c : t 12 x0 = -1
  · rw [if_pos c, if_pos (show t 12 x0 < 0 by omega), if_neg (by decide)]
  · rw [if_neg c, if_neg (show ¬ t 12 x0 < 0 by omega), if_pos rfl]
theorem ref_eq {s t : gMem} (hR : RLa s t) (hO : SO t) (x0 : Int) : f_X8_refusedAsTold x0 s = f_X9_sheetWrong x0 t ∧ (f_X9_sheetWrong x0 t = 0 → (0 ≤ x0 ∧ x0 ≤ 3) ∧ ¬ t 12 x0 = -1 ∧ t 13 x0 = 16) := by
  unfold f_X8_refusedAsTold f_X9_sheetWrong
  rw [if_out, if_in]
  by_cases a : 0 ≤ x0 ∧ x0 < 4
  · rw [if_pos a, if_pos (show 0 ≤ x0 ∧ x0 ≤ 3 by omega), miss_eq hR hO (by omega), (sh_k hR (show 0 ≤ x0 ∧ x0 ≤ 3 by omega)).2.1]
    refine ⟨rfl, fun z => ⟨by omega, ?_⟩⟩
    by_cases c : t 12 x0 = -1
    · rw [if_pos c] at z; omega
    · rw [if_neg c] at z
      by_cases d : t 13 x0 = 16
      · exact ⟨c, d⟩
      · rw [if_neg d] at z; omega
  · rw [if_neg a, if_neg (show ¬ (0 ≤ x0 ∧ x0 ≤ 3) by omega)]
    exact ⟨rfl, fun z => absurd z (by decide)⟩
theorem bit_isIn (x p : Int) : (if f_X9_isIn x p = 0 then (0 : Int) else 1) = iand (ishr x p) 1 := by
  have h := iand1 (ishr x p)
  by_cases c : f_X9_isIn x p = 0
  · rw [if_pos c]
    have d : ¬ iand (ishr x p) 1 = 1 := (in0 x p).mp c
    omega
  · rw [if_neg c]
    have d : iand (ishr x p) 1 = 1 := Classical.byContradiction fun z => c ((in0 x p).mpr z)
    omega
theorem unl_two {s t : gMem} {x0 v : Int} {k : Nat} (H : ∀ i : Int, 0 ≤ i → i < 16 → s (14 + k) i = t 14 (40 * x0 + i)) : ∀ (n : Nat) (p : Int), 0 ≤ p → t_X5_firstUnlike_2 k v s n p = t_X9_unlike_2 x0 v t n p ∧ (t_X9_unlike_2 x0 v t n p = -1 ∨ 0 ≤ t_X9_unlike_2 x0 v t n p) := by
  intro n
  induction n with
  | zero => intro p _; exact ⟨rfl, Or.inr (by show (0 : Int) ≤ 0; omega)⟩
  | succ n ih =>
    intro p p0
    rw [t_X5_firstUnlike_2_s, t_X9_unlike_2_s]
    by_cases c : p < 16
    · rw [if_pos c, if_pos c]
      simp only [gl]
      rw [bit_isIn, H p p0 c]
      by_cases d : t 14 (40 * x0 + p) = iand (ishr v p) 1
      · rw [if_pos d, if_pos d]
        exact ih (p + 1) (by omega)
      · rw [if_neg d, if_neg d]
        exact ⟨rfl, Or.inr p0⟩
    · rw [if_neg c, if_neg c]
      exact ⟨rfl, Or.inl rfl⟩
theorem unl_eq {s t : gMem} {x0 : Int} (v : Int) (H : ∀ i : Int, 0 ≤ i → i < 16 → s (14 + x0.toNat) i = t 14 (40 * x0 + i)) : f_X5_firstUnlike v x0.toNat s = f_X9_unlike x0 v t ∧ (f_X9_unlike x0 v t < 0 ↔ f_X9_unlike x0 v t = -1) := by
  obtain ⟨h1, h2⟩ := unl_two (v := v) H 17 0 (by omega)
  refine ⟨h1, ?_⟩
  have h3 : f_X9_unlike x0 v t = -1 ∨ 0 ≤ f_X9_unlike x0 v t := h2
  omega
theorem EQ_judge {s t : gMem} (h : INV s t) (x0 x1 x2 : Int) : f_X8_judge x0 x1 x2 s = f_X9_judge x0 x1 x2 t := by
  obtain ⟨e, g⟩ := ref_eq h.1 (INV_SOz h).1 x0
  unfold f_X8_judge f_X9_judge
  simp only [gl]
  rw [e]
  by_cases a : f_X9_sheetWrong x0 t = 0
  · rw [if_pos a, if_pos a, if_out, if_out, if_pl, if_sd]
    obtain ⟨g1, g2, g3⟩ := g a
    by_cases b : 0 ≤ x1 ∧ x1 < 16
    · rw [if_pos b, if_pos (show 0 ≤ x1 ∧ x1 ≤ 15 by omega)]
      by_cases c : 0 ≤ x2 ∧ x2 < 3
      · rw [if_pos c, if_pos (show 0 ≤ x2 ∧ x2 ≤ 2 by omega), (P_eq h (p := x1) (sd := x2) (by omega) (by omega)).1]
        exact (unl_eq _ (fun i i0 i1 => (sh_k h.1 g1).2.2 i i0 (by omega))).1
      · rw [if_neg c, if_neg (show ¬ (0 ≤ x2 ∧ x2 ≤ 2) by omega)]
    · rw [if_neg b, if_neg (show ¬ (0 ≤ x1 ∧ x1 ≤ 15) by omega)]
  · rw [if_neg a, if_neg a]
theorem ior0 {x : Int} (h : 0 ≤ x ∧ x ≤ 65535) : ior x 0 = x := by
  have h1 := ior_N (a := x.toNat) (b := 0) (by omega) (by omega)
  have e : ((x.toNat : Nat) : Int) = x := by omega
  rw [e] at h1
  have e2 : x.toNat ||| 0 = x.toNat := Nat.or_zero _
  rw [e2, e] at h1
  exact h1
theorem org_loop {s t : gMem} (h : INV s t) {x0 sd : Int} (H : ∀ i : Int, 0 ≤ i → i < 16 → s (14 + x0.toNat) i = t 14 (40 * x0 + i)) (hsd : 0 ≤ sd ∧ sd ≤ 2) : ∀ (n : Nat) (v p : Int), 0 ≤ p → (0 ≤ v ∧ v ≤ 65535) → w_X8_origin_29 x0 sd s n v p = w_X9_origin_28 x0 sd t n v p := by
  intro n
  induction n with
  | zero => intro v p _ _; rfl
  | succ n ih =>
    intro v p p0 hv
    rw [w_X8_origin_29_s, w_X9_origin_28_s]
    by_cases c : p < 16
    · rw [if_pos c, if_pos c]
      simp only [gl, gj]
      have e60 := h.1.2.1.2.1
      have sp := shl_rg (p := p) (by omega)
      have io := ior_16 hv.1 hv.2 sp.1 sp.2
      rw [e60, has_in, (P_eq h (p := p) (sd := sd) (by omega) hsd).1]
      obtain ⟨u1, u2⟩ := unl_eq (s := s) (t := t) (x0 := x0) (f_X9_pushed p sd t) H
      rw [u1]
      by_cases d : f_X9_isIn (t 2 1) p = 0
      · rw [if_pos d, if_pos d, if_pos trivial, ior0 hv]
        exact ih v (p + 1) (by omega) hv
      · rw [if_neg d, if_neg d]
        by_cases f : f_X9_unlike x0 (f_X9_pushed p sd t) t = -1
        · rw [if_pos (u2.mpr f), if_pos f, if_neg (by decide)]
          exact ih _ (p + 1) (by omega) io
        · rw [if_neg (fun z => f (u2.mp z)), if_neg f, if_pos trivial, ior0 hv]
          exact ih v (p + 1) (by omega) hv
    · rw [if_neg c, if_neg c]
theorem EQ_origin {s t : gMem} (h : INV s t) (x0 x1 : Int) : f_X8_origin x0 x1 s = f_X9_origin x0 x1 t := by
  obtain ⟨e, g⟩ := ref_eq h.1 (INV_SOz h).1 x0
  unfold f_X8_origin f_X9_origin
  simp only [gl]
  rw [e]
  by_cases a : f_X9_sheetWrong x0 t = 0
  · rw [if_pos a, if_pos a, if_out, if_sd]
    obtain ⟨g1, g2, g3⟩ := g a
    by_cases c : 0 ≤ x1 ∧ x1 < 3
    · rw [if_pos c, if_pos (show 0 ≤ x1 ∧ x1 ≤ 2 by omega), org_loop h (fun i i0 i1 => (sh_k h.1 g1).2.2 i i0 (by omega)) (by omega) 17 0 0 (by omega) (by omega)]
    · rw [if_neg c, if_neg (show ¬ (0 ≤ x1 ∧ x1 ≤ 2) by omega)]
  · rw [if_neg a, if_neg a]
def off23 (t T : gMem) : Prop := ∀ k i, ¬ (k = 2 ∧ i = 3) → T k i = t k i
theorem off23_k {t T : gMem} (h : off23 t T) {k : Nat} (hk : ¬ k = 2) : T k = t k := funext fun i => h k i (fun z => hk z.1)
theorem how_loop {s t : gMem} (h : INV s t) {x0 pl c : Int} (H : ∀ i : Int, 0 ≤ i → i < 16 → s (14 + x0.toNat) i = t 14 (40 * x0 + i)) (hp : 0 ≤ pl ∧ pl ≤ 15) (hc : 0 ≤ c ∧ (c < 10 ∨ c % 10 ≤ 2)) : ∀ (n : Nat) (v p : Int) (T : gMem), 0 ≤ p → (0 ≤ v ∧ v ≤ 65535) → off23 t T → ∃ u u' T', w_X8_how_56 x0 pl c s n v p = (u, u') ∧ w_X9_how_60 x0 pl c (t 2 3) n v p T = (u, u', T') ∧ off23 t T' := by
  intro n
  induction n with
  | zero => intro v p T _ _ hT; exact ⟨v, p, T, rfl, rfl, hT⟩
  | succ n ih =>
    intro v p T p0 hv hT
    rw [w_X8_how_56_s, w_X9_how_60_s]
    by_cases d : p < 3
    · rw [if_pos d, if_pos d]
      simp only [gl]
      have e60 := h.1.2.1.2.1
      have e62 : s 62 0 = t 2 3 := h.1.2.1.2.2.2
      have td1 := h.2.2.1.1.2.2.2.2 1
      have td3 := h.2.2.1.1.2.2.2.2 3
      obtain ⟨S, hS⟩ : ∃ S, S = mset T 2 3 (if c < 10 then t 2 3 else p) := ⟨_, rfl⟩
      rw [← hS]
      have oS : off23 t S := fun k i hk => by
        rw [hS, ← hT k i hk]
        simp only [mset]
        by_cases y : k = 2
        · subst y
          have : ¬ i = 3 := fun z => hk ⟨rfl, z⟩
          simp only [if_true, if_neg this]
        · simp only [if_neg y]
      have S23 : S 2 3 = (if c < 10 then t 2 3 else p) := by rw [hS, mset_eq]
      have S21 : S 2 1 = t 2 1 := oS 2 1 (by decide)
      have rS : 0 ≤ S 2 3 := by rw [S23]; split <;> omega
      have hsd : 0 ≤ (if c < 10 then p else c % 10) ∧ (if c < 10 then p else c % 10) ≤ 2 := by split <;> omega
      have hpl : RLpl s S := fun q q0 q1 => by
        rw [off23_k oS (by decide), off23_k oS (by decide)]
        exact h.1.1 q q0 q1
      obtain ⟨m1, m2, m3⟩ := pushed_eq (x := S 2 1) hpl rfl (by rw [S21]; exact e60) (by rw [S21]; omega) hp rS hsd
      have ex : (if c < 10 then f_X4_pushed pl p (s 62 0) s else f_X4_pushed pl (c % 10) p s) = f_X9_pushed pl (if c < 10 then p else c % 10) S := by
        rw [← m1, S23, e62]
        by_cases y : c < 10
        · simp only [if_pos y]
        · simp only [if_neg y]
      rw [ex]
      obtain ⟨u1, u2⟩ := unl_eq (s := s) (t := S) (x0 := x0) (f_X9_pushed pl (if c < 10 then p else c % 10) S) (fun i i0 i1 => by
        rw [off23_k oS (by decide)]; exact H i i0 i1)
      rw [u1]
      have sp := shl_rg (p := p) (by omega)
      have io := ior_16 hv.1 hv.2 sp.1 sp.2
      by_cases f : f_X9_unlike x0 (f_X9_pushed pl (if c < 10 then p else c % 10) S) S = -1
      · rw [if_pos (u2.mpr f), if_pos f]
        exact ih _ (p + 1) S (by omega) io oS
      · rw [if_neg (fun z => f (u2.mp z)), if_neg f, ior0 hv]
        exact ih v (p + 1) S (by omega) hv oS
    · rw [if_neg d, if_neg d]
      exact ⟨v, p, T, rfl, rfl, hT⟩
theorem EQ_how {s t : gMem} (h : INV s t) {x0 x1 x2 : Int} (hx2 : in32 x2) : f_X8_how x0 x1 x2 s = (f_X9_how x0 x1 x2 t).1 ∧ INV s (f_X9_how x0 x1 x2 t).2 := by
  obtain ⟨e, g⟩ := ref_eq h.1 (INV_SOz h).1 x0
  unfold f_X8_how f_X9_how
  simp only [gl]
  rw [e]
  by_cases a : f_X9_sheetWrong x0 t = 0
  · rw [if_pos a, if_pos a, if_out, if_pl, if_in]
    obtain ⟨g1, g2, g3⟩ := g a
    by_cases b : 0 ≤ x1 ∧ x1 < 16
    · rw [if_pos b, if_pos (show 0 ≤ x1 ∧ x1 ≤ 15 by omega)]
      by_cases c0 : x2 < 0
      · rw [if_pos c0, if_neg (show ¬ (0 ≤ x2 ∧ x2 ≤ 12) by omega)]; exact ⟨rfl, h⟩
      · rw [if_neg c0]
        by_cases c1 : 1 < x2 / 10
        · rw [if_pos c1, if_neg (show ¬ (0 ≤ x2 ∧ x2 ≤ 12) by omega)]; exact ⟨rfl, h⟩
        · rw [if_neg c1]
          by_cases c2 : x2 % 10 < 3
          · rw [if_pos c2, if_pos (show 0 ≤ x2 ∧ x2 ≤ 12 by omega), if_neg (show ¬ 2 < x2 % 10 by omega)]
            obtain ⟨u, u', T', q1, q2, q3⟩ := how_loop h (c := x2) (fun i i0 i1 => (sh_k h.1 g1).2.2 i i0 (by omega)) (pl := x1) (by omega) (by omega) 4 0 0 t (by omega) (by omega) (fun _ _ _ => rfl)
            rw [q1, q2]
            simp only [gl2, gl3]
            refine ⟨trivial, ?_⟩
            have eT : mset T' 2 3 (t 2 3) = t := by
              funext k i
              simp only [mset]
              by_cases y : k = 2
              · subst y
                by_cases z : i = 3
                · subst z; simp
                · simp only [if_true, if_neg z]; exact q3 2 i (fun w => z w.2)
              · simp only [if_neg y]; exact q3 k i (fun w => y w.1)
            rw [eT]; exact h
          · rw [if_neg c2]
            by_cases c3 : 0 ≤ x2 ∧ x2 ≤ 12
            · rw [if_pos c3, if_pos (show 2 < x2 % 10 by omega)]; exact ⟨rfl, h⟩
            · rw [if_neg c3]; exact ⟨rfl, h⟩
    · rw [if_neg b, if_neg (show ¬ (0 ≤ x1 ∧ x1 ≤ 15) by omega)]; exact ⟨rfl, h⟩
  · rw [if_neg a, if_neg a]; exact ⟨rfl, h⟩
theorem oth_two {t0 : gMem} {x0 : Int} (hx : 0 ≤ x0 ∧ x0 ≤ 3) : ∀ (n : Nat) (p : Int) (s t : gMem), XT s t0 → MT t0 t → 0 ≤ p → ∃ (r : Int) (s' t' : gMem), t_X8_firstOtherChance_2 x0 n p s = (r, s') ∧ t_X9_otherwise_2 x0 n p t = (r, t') ∧ XT s' t0 ∧ MT t0 t' ∧ (r = -1 ∨ 0 ≤ r) ∧ fr [32, 36, 37] s s' := by
  intro n
  induction n with
  | zero => intro p s t hX hM _; exact ⟨0, s, t, rfl, rfl, hX, hM, Or.inr (by omega), fr.rf _ _⟩
  | succ n ih =>
    intro p s t hX hM p0
    rw [t_X8_firstOtherChance_2_s, t_X9_otherwise_2_s]
    by_cases c : p < 16
    · rw [if_pos c, if_pos c]
      obtain ⟨s1, e1, f1, X1⟩ := X_falls hX (p := p) (b := 0) (by omega) (by omega)
      obtain ⟨t1, m1, g1, M1⟩ := M_falls hX hM (p := p) (b := 0) (by omega) (by omega)
      rw [e1, m1]
      simp only [gb]
      rw [(sh_k (hM.RLa hX.1) hx).2.2 p p0 (by omega)]
      by_cases d : t 14 (40 * x0 + p) = FA t0 p 0
      · rw [if_pos d, if_pos d]
        obtain ⟨r, s', t', q1, q2, q3, q4, q5, q6⟩ := ih (p + 1) s1 t1 X1 M1 (by omega)
        exact ⟨r, s', t', q1, q2, q3, q4, q5, f1.call (fun _ hk => hk) q6⟩
      · rw [if_neg d, if_neg d]
        exact ⟨p, s1, t1, rfl, rfl, X1, M1, Or.inr p0, f1⟩
    · rw [if_neg c, if_neg c]
      exact ⟨-1, s, t, rfl, rfl, hX, hM, Or.inl rfl, fr.rf _ _⟩
theorem EQ_check {s t : gMem} (h : INV s t) {x0 : Int} (hx0 : in32 x0) : (f_X8_check x0 s).1 = (f_X9_check x0 t).1 ∧ INV (f_X8_check x0 s).2 (f_X9_check x0 t).2 := by
  obtain ⟨fx, hX'⟩ := XI_check h.2.1 hx0
  obtain ⟨fm, hM'⟩ := MI_check h.2.2.1 hx0
  obtain ⟨e, g⟩ := ref_eq h.1 (INV_SOz h).1 x0
  have key : (f_X8_check x0 s).1 = (f_X9_check x0 t).1 ∧ XT (f_X8_check x0 s).2 t := by
    unfold f_X8_check f_X9_check
    simp only [gl]
    rw [e]
    by_cases a : f_X9_sheetWrong x0 t = 0
    · rw [if_pos a, if_pos a]
      obtain ⟨r, s', t', q1, q2, q3, q4, q5, q6⟩ := oth_two (g a).1 17 0 s t (INV_XT h) (MT.rf (INV_gM h)) (by omega)
      unfold f_X8_firstOtherChance f_X9_otherwise
      rw [q1, q2]
      exact ⟨rfl, q3⟩
    · rw [if_neg a, if_neg a]; exact ⟨rfl, INV_XT h⟩
  exact ⟨key.1, INV_scr h fx fm (by decide) (by decide) hX' hM' key.2⟩
theorem abs_two (z : Int) : labs z = if z < 0 then -z else z := by
  unfold labs
  by_cases a : 0 < z
  · rw [if_pos a, if_neg (show ¬ z < 0 by omega)]
  · rw [if_neg a]
    by_cases b : z < 0
    · rw [if_pos b]
    · rw [if_neg b]; omega
theorem ams_two {t0 : gMem} {x0 : Int} (hx : 0 ≤ x0 ∧ x0 ≤ 3) : ∀ (n : Nat) (v p : Int) (s t : gMem), XT s t0 → MT t0 t → 0 ≤ p → ∃ (r u u' : Int) (s' t' : gMem), w_X8_amiss_17 x0 n v p s = (r, u, s') ∧ w_X9_amiss_17 x0 n v p t = (r, u', t') ∧ XT s' t0 := by
  intro n
  induction n with
  | zero => intro v p s t hX hM _; exact ⟨v, p, p, s, t, rfl, rfl, hX⟩
  | succ n ih =>
    intro v p s t hX hM p0
    rw [w_X8_amiss_17_s, w_X9_amiss_17_s]
    by_cases c : p < 16
    · rw [if_pos c, if_pos c]
      obtain ⟨s1, e1, f1, X1⟩ := X_falls hX (p := p) (b := 0) (by omega) (by omega)
      obtain ⟨t1, m1, g1, M1⟩ := M_falls hX hM (p := p) (b := 0) (by omega) (by omega)
      rw [e1, m1]
      simp only [gb, gl]
      rw [(sh_k (hM.RLa hX.1) hx).2.2 p p0 (by omega), abs_two]
      exact ih _ (p + 1) s1 t1 X1 M1 (by omega)
    · rw [if_neg c, if_neg c]
      exact ⟨v, p, p, s, t, rfl, rfl, hX⟩
theorem EQ_amiss {s t : gMem} (h : INV s t) {x0 : Int} (hx0 : in32 x0) : (f_X8_amiss x0 s).1 = (f_X9_amiss x0 t).1 ∧ INV (f_X8_amiss x0 s).2 (f_X9_amiss x0 t).2 := by
  obtain ⟨fx, hX'⟩ := XI_amiss h.2.1 hx0
  obtain ⟨fm, hM'⟩ := MI_amiss h.2.2.1 hx0
  obtain ⟨e, g⟩ := ref_eq h.1 (INV_SOz h).1 x0
  have key : (f_X8_amiss x0 s).1 = (f_X9_amiss x0 t).1 ∧ XT (f_X8_amiss x0 s).2 t := by
    unfold f_X8_amiss f_X9_amiss
    rw [e]
    by_cases a : f_X9_sheetWrong x0 t = 0
    · rw [if_pos a, if_pos a]
      obtain ⟨r, u, u', s', t', q1, q2, q3⟩ := ams_two (g a).1 17 0 0 s t (INV_XT h) (MT.rf (INV_gM h)) (by omega)
      rw [q1, q2]
      exact ⟨rfl, q3⟩
    · rw [if_neg a, if_neg a]; exact ⟨rfl, INV_XT h⟩
  exact ⟨key.1, INV_scr h fx fm (by decide) (by decide) hX' hM' key.2⟩
