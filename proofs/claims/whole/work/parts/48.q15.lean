/-! rows of lots: drawn, odds -/
theorem M_gaps_r (x c1 c2 : Int) : ∀ (n : Nat) (p : Int) (t : gMem), gMR lgM t → 0 ≤ p → p ≤ 16 → 0 ≤ t 30 0 → t 30 0 ≤ p + 16 → gMR lgM (w_X9_rowOf_24 c1 c2 n p t).2 := by
  intro n
  induction n with
  | zero => intro p t h _ _ _ _; exact h
  | succ n ih =>
    intro p t h p0 p1 m0 m1
    rw [w_X9_rowOf_24_s]
    by_cases c : p < 16
    · rw [if_pos c]
      simp only [gl]
      by_cases d : f_X9_isIn (t 2 0) p = 0
      · rw [if_pos d]
        exact ih (p + 1) t h (by omega) (by omega) m0 (by omega)
      · rw [if_neg d]
        simp only [gb, f_X9_puts_, gl]
        obtain ⟨T, hT⟩ : ∃ T, T = mset (mset (mset t 27 (t 30 0) p) 28 ((mset t 27 (t 30 0) p) 30 0) 0) 30 0 ((mset (mset t 27 (t 30 0) p) 28 ((mset t 27 (t 30 0) p) 30 0) 0) 30 0 + 1) := ⟨_, rfl⟩
        rw [← hT]
        have T30 : T 30 0 = t 30 0 + 1 := by rw [hT]; simp [mset]
        have e30 : (mset (mset t 27 (t 30 0) p) 28 ((mset t 27 (t 30 0) p) 30 0) 0) 30 0 = t 30 0 := by simp [mset]
        have gT : gMR lgM T := by
          rw [hT, e30]
          exact ((h.set32 rfl (by omega)).set32 rfl (by omega)).set32 rfl (by omega)
        exact ih (p + 1) T gT (by omega) (by omega) (by omega) (by omega)
    · rw [if_neg c]; exact h
def OBF (t : gMem) : Prop := OR t ∧ BE t ∧ FI t
theorem RLto_t {s t0 : gMem} (h : XT s t0) : RLto s t0 := h.1.2.1
set_option maxHeartbeats 4000000 in
theorem row_two {sb t0 : gMem} {f g : Int → Int} (hB : XT sb t0) (hA : AF f g (t0 2 2) (t0 2 0) (stl (t0 0) (t0 2 0) 17 0)) (hf : ∀ i, 0 ≤ i → i < 16 → 0 ≤ f i ∧ f i ≤ 15) (ha : ALLC f) {s t : gMem} (hX : XT s t0) (hM : MT t0 t) (h43 : ∀ i, 0 ≤ i → i < 16 → s 43 i = f i) (hO : OBF t) {x0 x1 : Int} (hx0 : 0 ≤ x0 ∧ x0 ≤ 100100) (hx1 : 0 ≤ x1 ∧ x1 ≤ 400) : ∃ s' t', f_X0_drawRow x0 x1 s = (0, s') ∧ f_X9_rowOf x0 x1 t = (0, t') ∧ XT s' t0 ∧ MT t0 t' ∧ s' 72 0 = t' 35 0 ∧ s' 73 0 = t' 36 0 ∧ s' 74 0 = t' 37 0 ∧ fr [32, 36, 37, 71, 72, 73, 74] s s' ∧ OBF t' := by
  have td0 := hB.2.2.1.2.2.2.2 0
  have td1 := hB.2.2.1.2.2.2.2 1
  have td2 := hB.2.2.1.2.2.2.2 2
  have e2 : ∀ i, t 2 i = t0 2 i := fun i => by rw [hM.1 2 (by decide)]
  have e0 : t 0 = t0 0 := hM.1 0 (by decide)
  obtain ⟨i1, i2, i3, i4, i5⟩ := hM.IM hB.2.2.1
  have hq := f_X9_rowOf_p x0 x1 t (by omega) (by omega) i1 i2 i3 i4 i5 hO.1 hO.2.1 hO.2.2 hx0 hx1 (f_X9_rowOf x0 x1 t).1 (f_X9_rowOf x0 x1 t).2 rfl
  obtain ⟨-, -, -, hq1, hq2, hq3, -⟩ := hq
  obtain ⟨T1, m1, g1, o1, -⟩ := orders_M (t 2 0) (t 2 2) t
  have hqo := f_X9_orders_p (t 2 0) (t 2 2) t (by rw [e2]; omega) (by rw [e2]; omega) i1 hO.1 hO.2.1 hO.2.2 (by rw [e2]; omega) 0 T1 m1
  have M1 : MT t0 T1 := hM.fr g1 hqo.2.1 (by decide)
  rw [e0, e2, e2] at o1
  have hl := stl_lok (t0 0) (t0 2 0) 17 (p := 0) (by omega)
  have ht := tot_nn hl
  have hgc := stl_gc (t0 0) (t0 2 0) 17 0 (by omega) (by omega) (by omega)
  have g0 : gc (t0 2 0) 0 = 0 := rfl
  have gn := gc_nn (t0 2 0) 16
  obtain ⟨b1, b2, b3⟩ := M_gaps (t0 2 0) x1 (x0 + 1) 17 0 T1 (by rw [M1.1 2 (by decide)]) (by omega) (by omega) (by omega) (by rw [o1.1]; omega)
  have b4 := M_gaps_r (t0 2 0) x1 (x0 + 1) 17 0 T1 M1.2 (by omega) (by omega) (by rw [o1.1]; omega) (by rw [o1.1]; omega)
  obtain ⟨T2, hT2⟩ : ∃ T2, T2 = (w_X9_rowOf_24 x1 (x0 + 1) 17 0 T1).2 := ⟨_, rfl⟩
  obtain ⟨v2, hv2⟩ : ∃ v2, w_X9_rowOf_24 x1 (x0 + 1) 17 0 T1 = (v2, T2) := ⟨(w_X9_rowOf_24 x1 (x0 + 1) 17 0 T1).1, by rw [hT2]⟩
  rw [← hT2] at b1 b2 b3 b4
  have M2 : MT t0 T2 := M1.fr b1 b4 (by decide)
  have A2 : ∀ k, 0 ≤ k → k < 16 → T2 27 k = f k := fun k k0 k1 => by
    by_cases c : k < tot (stl (t0 0) (t0 2 0) 17 0)
    · rw [b2 k (by rw [o1.1]; exact c), (o1.2.2.2 k k0 c).1, (hA.1 k k0 c).1]
    · obtain ⟨q, q0, q1, q2, q3⟩ := gc_surj (t0 2 0) 16 (k - tot (stl (t0 0) (t0 2 0) 17 0)) (by omega) (by show _ < gc (t0 2 0) 16; omega)
      have z := b3 q q0 (by omega) q2
      rw [o1.1, q3, g0] at z
      have z2 := (hA.2 q q0 (by omega) q2).1
      rw [q3] at z2
      have e : tot (stl (t0 0) (t0 2 0) 17 0) + (k - tot (stl (t0 0) (t0 2 0) 17 0)) = k := by omega
      have e' : tot (stl (t0 0) (t0 2 0) 17 0) + (k - tot (stl (t0 0) (t0 2 0) 17 0)) - 0 = k := by omega
      rw [e'] at z
      rw [e] at z2
      rw [z, z2]
  obtain ⟨T5, hT5⟩ : ∃ T5, T5 = mset (mset (mset T2 35 0 (T2 2 1)) 36 0 0) 37 0 0 := ⟨_, rfl⟩
  have f5 : fr [35, 36, 37] T2 T5 := by rw [hT5]; exact (((fr.rf _ T2).set (by decide)).set (by decide)).set (by decide)
  have e21 : T2 2 1 = t0 2 1 := by rw [M2.1 2 (by decide)]
  have M5 : MT t0 T5 := M2.fr f5 (by
    rw [hT5, e21]
    exact ((M2.2.set32 rfl (by omega)).set32 rfl (by omega)).set32 rfl (by omega)) (by decide)
  have T535 : T5 35 0 = t0 2 1 := by rw [hT5, e21]; simp [mset]
  have T536 : T5 36 0 = 0 := by rw [hT5]; simp [mset]
  have T537 : T5 37 0 = 0 := by rw [hT5]; simp [mset]
  obtain ⟨s1, e1, f1, X1, l71, l72, l73, l74⟩ := X_lbeg hX hx0
  obtain ⟨u, L', s', t', r1, r2, r3, r4, r5, r6, r7, r8, r9⟩ := draw_loop (sb := sb) hx1 hf ha 401 0 (x0 + 1) (t0 2 1) s1 T5 X1 M5 (by rw [l72]; exact (RLto_t hX).2.1) T535 (by omega) l71 (by omega) l73 T536 (by omega) (by omega) (by rw [l74, T537]) (by omega) (fun k k0 k1 => by
    rw [f1 43 (by decide), f5 27 (by decide)]
    exact ⟨h43 k k0 k1, A2 k k0 k1⟩) (by omega)
  have eM : f_X9_rowOf x0 x1 t = (0, t') := by
    unfold f_X9_rowOf
    rw [m1]
    simp only [gb]
    rw [hv2]
    simp only [gl2, gl]
    rw [← hT5, r2]
  rw [eM] at hq1 hq2 hq3
  refine ⟨s', t', ?_, eM, r3, r4, r5, r6, r7, (f1.mono (by decide)).call (by decide) r8, hq1, hq2, hq3⟩
  unfold f_X0_drawRow
  rw [e1]
  simp only [gb]
  rw [r1]
  rfl
/-- what both sides start a row from -/
theorem row_pre {s t : gMem} (h : INV s t) : ∃ s1 s2 f g, f_X2_from (s 61 0) s = (0, s1) ∧ f_X2_arrange (s1 59 0) s1 = (0, s2) ∧ XT s2 t ∧ AF f g (t 2 2) (t 2 0) (stl (t 0) (t 2 0) 17 0) ∧ (∀ i, 0 ≤ i → i < 16 → 0 ≤ f i ∧ f i ≤ 15) ∧ ALLC f ∧ (∀ i, s2 43 i = f i) ∧ OBF t := by
  have td0 := h.2.2.1.1.2.2.2.2 0
  have td2 := h.2.2.1.1.2.2.2.2 2
  obtain ⟨a1, a2, a3, a4⟩ := RLto_t (INV_XT h)
  obtain ⟨s1, s2, e1, e2, X2, O2, B2, f2, f1, hA⟩ := X_order h (w := t 2 2) (x := t 2 0) (by omega) (by omega)
  have hq := f_X9_orders_p_q (t 2 0) (t 2 2) t (by omega) (by omega) (INV_gM h) (INV_MQ h).1 (INV_MQ h).2.1 (INV_MQ h).2.2.1 (by omega) (f_X9_orders (t 2 0) (t 2 2) t).1 (f_X9_orders (t 2 0) (t 2 2) t).2 rfl
  obtain ⟨T1, m1, g1, o1, -⟩ := orders_M (t 2 0) (t 2 2) t
  have hc := hq.2.2.2.2.2.2.2.2.2.1
  rw [m1] at hc
  have e59 : s1 59 0 = t 2 0 := by rw [f1 59 (by decide)]; exact a1
  refine ⟨s1, s2, s2 43, s2 44, by rw [a3]; exact e1, by rw [e59]; exact e2, X2, hA, fun i _ _ => O2 i, AF_all hA (fun q q0 q1 hb => ?_), fun _ => rfl, (INV_MQ h).1, (INV_MQ h).2.1, (INV_MQ h).2.2.1⟩
  obtain ⟨i, i0, i1, i2⟩ := hc q q0 (by omega) hb
  have i3 : i < T1 30 0 := i1
  have i4 : T1 27 i = q := i2
  rw [o1.1] at i3
  exact ⟨i, i0, i3, by rw [← (o1.2.2.2 i i0 i3).1]; exact i4⟩
theorem EQ_drawn {s t : gMem} (h : INV s t) {x0 x1 x2 : Int} (hx0 : in32 x0) (hx1 : in32 x1) (hx2 : in32 x2) : (f_X8_drawn x0 x1 x2 s).1 = (f_X9_drawn x0 x1 x2 t).1 ∧ INV (f_X8_drawn x0 x1 x2 s).2 (f_X9_drawn x0 x1 x2 t).2 := by
  obtain ⟨fx, hX'⟩ := XI_drawn h.2.1 hx0 hx1 hx2
  obtain ⟨fm, hM'⟩ := MI_drawn h.2.2.1 hx0 hx1 hx2
  have key : (f_X8_drawn x0 x1 x2 s).1 = (f_X9_drawn x0 x1 x2 t).1 ∧ XT (f_X8_drawn x0 x1 x2 s).2 t := by
    unfold f_X8_drawn f_X9_drawn
    rw [if_out, if_out, if_out, if_in, if_in, if_in]
    by_cases a : 0 ≤ x0 ∧ x0 < 100000
    · rw [if_pos a, if_pos (show 0 ≤ x0 ∧ x0 ≤ 99999 by omega)]
      by_cases b : 0 ≤ x1 ∧ x1 < 401
      · rw [if_pos b, if_pos (show 0 ≤ x1 ∧ x1 ≤ 400 by omega)]
        by_cases c : 0 ≤ x2 ∧ x2 < 3
        · rw [if_pos c, if_pos (show 0 ≤ x2 ∧ x2 ≤ 2 by omega)]
          obtain ⟨s1, s2, f, g, e1, e2, X2, hA, hf, ha, h43, hO⟩ := row_pre h
          obtain ⟨s', t', d1, d2, d3, d4, d5, d6, d7, d8, d9⟩ := row_two (INV_XT h) hA hf ha X2 (MT.rf (INV_gM h)) (fun i _ _ => h43 i) hO (x0 := x0) (x1 := x1) (by omega) (by omega)
          rw [e1]
          simp only [gb]
          rw [e2]
          simp only
          rw [d1, d2]
          simp only
          by_cases y0 : x2 = 0
          · rw [if_pos y0, if_pos y0]; exact ⟨d6, d3⟩
          · rw [if_neg y0, if_neg y0]
            by_cases y1 : x2 = 1
            · rw [if_pos y1, if_pos y1]; exact ⟨d5, d3⟩
            · rw [if_neg y1, if_neg y1]; exact ⟨d7, d3⟩
        · rw [if_neg c, if_neg (show ¬ (0 ≤ x2 ∧ x2 ≤ 2) by omega)]; exact ⟨rfl, INV_XT h⟩
      · rw [if_neg b, if_neg (show ¬ (0 ≤ x1 ∧ x1 ≤ 400) by omega)]; exact ⟨rfl, INV_XT h⟩
    · rw [if_neg a, if_neg (show ¬ (0 ≤ x0 ∧ x0 ≤ 99999) by omega)]; exact ⟨rfl, INV_XT h⟩
  exact ⟨key.1, INV_scr h fx fm (by decide) (by decide) hX' hM' key.2⟩
theorem low_fin : ∀ a : Fin 21, ∀ b : Fin 20, (a.val : Int) / f_X8_commonDivisor (a.val : Int) ((b.val : Int) + 1) = f_X9_lowest (a.val : Int) ((b.val : Int) + 1) 0 ∧ ((b.val : Int) + 1) / f_X8_commonDivisor (a.val : Int) ((b.val : Int) + 1) = f_X9_lowest (a.val : Int) ((b.val : Int) + 1) 1 := by
  decide +kernel
theorem low_two {a b p : Int} (ha : 0 ≤ a ∧ a ≤ 20) (hb : 1 ≤ b ∧ b ≤ 20) (hp : 0 ≤ p ∧ p ≤ 1) : (if p = 0 then a else b) / f_X8_commonDivisor a b = f_X9_lowest a b p := by
  obtain ⟨h1, h2⟩ := low_fin ⟨a.toNat, by omega⟩ ⟨(b - 1).toNat, by omega⟩
  have e1 : ((a.toNat : Nat) : Int) = a := by omega
  have e2 : (((b - 1).toNat : Nat) : Int) + 1 = b := by omega
  simp only [e1, e2] at h1 h2
  by_cases c : p = 0
  · subst c; rw [if_pos rfl]; exact h1
  · have : p = 1 := by omega
    subst this; rw [if_neg (by decide)]; exact h2
theorem odds_loop {sb t0 : gMem} {f g : Int → Int} (hB : XT sb t0) (hA : AF f g (t0 2 2) (t0 2 0) (stl (t0 0) (t0 2 0) 17 0)) (hf : ∀ i, 0 ≤ i → i < 16 → 0 ≤ f i ∧ f i ≤ 15) (ha : ALLC f) {c0 c1 c2 c3 : Int} (h0 : 0 ≤ c0 ∧ c0 ≤ 100000) (h1 : 1 ≤ c1 ∧ c1 ≤ 20) (h2 : 0 ≤ c2 ∧ c2 ≤ 400) : ∀ (n : Nat) (v i : Int) (s t : gMem), XT s t0 → MT t0 t → (∀ i, 0 ≤ i → i < 16 → s 43 i = f i) → OBF t → 0 ≤ i → i ≤ c1 → 0 ≤ v → v ≤ i → c1 - i < n → ∃ (v' u u' : Int) (s' t' : gMem), w_X8_odds_83 c0 c1 c2 c3 n v i s = (v', u, s') ∧ w_X9_odds_52 c0 c1 c2 c3 n v i t = (v', u', t') ∧ XT s' t0 ∧ 0 ≤ v' ∧ v' ≤ c1 := by
  intro n
  induction n with
  | zero => intro v i s t _ _ _ _ _ _ _ _ h; exfalso; omega
  | succ n ih =>
    intro v i s t hX hM h43 hO i0 i1 v0 v1 hn
    rw [w_X8_odds_83_s, w_X9_odds_52_s]
    by_cases c : i < c1
    · rw [if_pos c, if_pos c]
      obtain ⟨s', t', d1, d2, d3, d4, d5, d6, d7, d8, d9⟩ := row_two hB hA hf ha hX hM h43 hO (x0 := c0 + i) (x1 := c2) (by omega) h2
      rw [d1, d2]
      simp only [gb, gl]
      have e : (if s' 72 0 = 65535 then v + 1 else v) = v + (if t' 35 0 = 65535 then (1 : Int) else 0) := by
        by_cases z : t' 35 0 = 65535
        · rw [if_pos z, if_pos (d5.trans z)]
        · rw [if_neg z, if_neg (fun q => z (d5.symm.trans q)), Int.add_zero]
      rw [e]
      exact ih _ (i + 1) s' t' d3 d4 (fun k k0 k1 => by rw [d8 43 (by decide)]; exact h43 k k0 k1) d9 (by omega) (by omega) (by split <;> omega) (by split <;> omega) (by omega)
    · rw [if_neg c, if_neg c]
      exact ⟨v, i, i, s, t, rfl, rfl, hX, v0, by omega⟩
theorem EQ_odds {s t : gMem} (h : INV s t) {x0 x1 x2 x3 : Int} (hx0 : in32 x0) (hx1 : in32 x1) (hx2 : in32 x2) (hx3 : in32 x3) : (f_X8_odds x0 x1 x2 x3 s).1 = (f_X9_odds x0 x1 x2 x3 t).1 ∧ INV (f_X8_odds x0 x1 x2 x3 s).2 (f_X9_odds x0 x1 x2 x3 t).2 := by
  obtain ⟨fx, hX'⟩ := XI_odds h.2.1 hx0 hx1 hx2 hx3
  obtain ⟨fm, hM'⟩ := MI_odds h.2.2.1 hx0 hx1 hx2 hx3
  have key : (f_X8_odds x0 x1 x2 x3 s).1 = (f_X9_odds x0 x1 x2 x3 t).1 ∧ XT (f_X8_odds x0 x1 x2 x3 s).2 t := by
    unfold f_X8_odds f_X9_odds
    rw [if_out, if_out, if_out, if_in, if_in, if_in, if_in]
    by_cases a : 0 ≤ x0 ∧ x0 < 100000
    · rw [if_pos a, if_pos (show 0 ≤ x0 ∧ x0 ≤ 99999 by omega)]
      by_cases b : 1 ≤ x1 ∧ x1 ≤ 20
      · rw [if_neg (show ¬ x1 < 1 by omega), if_neg (show ¬ 20 < x1 by omega), if_pos b]
        by_cases c : 0 ≤ x2 ∧ x2 < 401
        · rw [if_pos c, if_pos (show 0 ≤ x2 ∧ x2 ≤ 400 by omega)]
          by_cases d : 0 ≤ x3 ∧ x3 < 2
          · rw [if_pos d, if_pos (show 0 ≤ x3 ∧ x3 ≤ 1 by omega)]
            obtain ⟨s1, s2, f, g, e1, e2, X2, hA, hf, ha, h43, hO⟩ := row_pre h
            obtain ⟨v', u, u', s', t', d1, d2, d3, d4, d5⟩ := odds_loop (INV_XT h) hA hf ha (c0 := x0) (c1 := x1) (c2 := x2) (c3 := x3) (by omega) b (by omega) 21 0 0 s2 t X2 (MT.rf (INV_gM h)) (fun i _ _ => h43 i) hO (by omega) (by omega) (by omega) (by omega) (by omega)
            rw [e1]
            simp only [gb]
            rw [e2]
            simp only
            rw [d1, d2]
            simp only [gl3, gl]
            exact ⟨low_two (by omega) b (by omega), d3⟩
          · rw [if_neg d, if_neg (show ¬ (0 ≤ x3 ∧ x3 ≤ 1) by omega)]; exact ⟨rfl, INV_XT h⟩
        · rw [if_neg c, if_neg (show ¬ (0 ≤ x2 ∧ x2 ≤ 400) by omega)]; exact ⟨rfl, INV_XT h⟩
      · rw [if_neg b]
        by_cases c : x1 < 1
        · rw [if_pos c]; exact ⟨rfl, INV_XT h⟩
        · rw [if_neg c, if_pos (show 20 < x1 by omega)]; exact ⟨rfl, INV_XT h⟩
    · rw [if_neg a, if_neg (show ¬ (0 ≤ x0 ∧ x0 ≤ 99999) by omega)]; exact ⟨rfl, INV_XT h⟩
  exact ⟨key.1, INV_scr h fx fm (by decide) (by decide) hX' hM' key.2⟩
