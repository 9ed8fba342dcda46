/-! best: the reference walks all sets -/
theorem gl4_v {A B C F β : Type} (x : A × B × C × F) (k : A → B → C → F → β) : gl4 x k = k x.1 x.2.1 x.2.2.1 x.2.2.2 := rfl
theorem ones_w (x : Int) : ∀ (n : Nat) (v p : Int), 0 ≤ p → p ≤ 16 → 16 - p < n → (w_X9_ones_4 x n v p).1 = v + gc x 16 - gc x p := by
  intro n
  induction n with
  | zero => intro v p _ _ h; exfalso; omega
  | succ n ih =>
    intro v p p0 p1 h
    rw [w_X9_ones_4_s]
    by_cases c : p < 16
    · rw [if_pos c, gl_v, ih _ (p + 1) (by omega) (by omega) (by omega)]
      have h1 := iand1 (ishr x p)
      have h2 := gc_s x (p := p) p0
      by_cases d : iand (ishr x p) 1 = 1
      · rw [if_pos d] at h2; omega
      · rw [if_neg d] at h2; omega
    · rw [if_neg c]
      have e : p = 16 := by omega
      subst e
      show v = v + gc x 16 - gc x 16
      omega
theorem ones_gc (x : Int) : f_X9_ones x = gc x 16 := by
  have h := ones_w x 17 0 0 (by omega) (by omega) (by omega)
  have g0 : gc x 0 = 0 := rfl
  have e : f_X9_ones x = (w_X9_ones_4 x 17 0 0).1 := rfl
  rw [e, h, g0]
  omega
theorem MV_rb {s0 t0 : gMem} (hB : XT s0 t0) (hQ : MQ4 t0) {w x : Int} (hx : in32 x) (hw : 0 ≤ w ∧ w ≤ 2) : in64 (MV t0 w x) := by
  obtain ⟨i1, i2, i3, i4, i5⟩ := hB.2.2.1
  exact (f_X9_meanOf_p x w t0 hx (by omega) i1 i2 i3 i4 hQ.1 hQ.2.1 hQ.2.2.1 hQ.2.2.2 hw (f_X9_meanOf x w t0).1 (f_X9_meanOf x w t0).2 rfl).2.2.1
theorem best_M {s0 t0 : gMem} (hB : XT s0 t0) (hK : KM s0) (hY : WY s0) (hQ0 : MQ4 t0) {w c1 c2 : Int} (hw2 : t0 2 2 = w) (hw : 0 ≤ w ∧ w ≤ 2) : ∀ (n : Nat) (v b : Int) (T : gMem), MT t0 T → MQ4 T → 1 ≤ v → v ≤ 65536 → BEST (MV t0 w) (fun y => 0 ≤ y ∧ y < v ∧ gc y 16 ≤ c1) b → 65536 - v < n → ∃ (B o u : Int) (T' : gMem), w_X9_best_43 c1 c2 n b (f_X9_ones b) (MV t0 w b) v T = (B, o, MV t0 w B, u, T') ∧ BEST (MV t0 w) (fun y => 0 ≤ y ∧ y < 65536 ∧ gc y 16 ≤ c1) B ∧ MT t0 T' := by
  have o0 : ¬ (1 : Int) = 0 := by decide
  intro n
  induction n with
  | zero => intro v b T _ _ _ _ _ h; exfalso; omega
  | succ n ih =>
    intro v b T hM hQ v0 v1 hb hn
    rw [w_X9_best_43_s]
    by_cases c : 65535 < v
    · rw [if_pos c]
      have e : v = 65536 := by omega
      subst e
      exact ⟨b, _, _, T, rfl, hb, hM⟩
    · rw [if_neg c]
      by_cases d : c1 < f_X9_ones v
      · rw [if_pos d, gl4_v]
        refine ih (v + 1) b T hM hQ (by omega) (by omega) ⟨⟨hb.1.1, by have := hb.1.2.1; omega, hb.1.2.2⟩, fun y hy hne => hb.2 y ⟨hy.1, ?_, hy.2.2⟩ hne⟩ (by omega)
        have h1 := hy.2.1
        have h2 := hy.2.2
        rw [ones_gc] at d
        by_cases e : y = v
        · rw [e] at h2; omega
        · omega
      · have e22 : T 2 2 = w := by rw [hM.1 2 (by decide)]; exact hw2
        obtain ⟨T1, m1, M1, Q1, g1⟩ := M_mean (w := w) (x := v) hB hK hY hM hQ0 hQ (by omega) hw
        have hv : gc v 16 ≤ c1 := by rw [ones_gc] at d; omega
        have hPQ : ∀ y, (0 ≤ y ∧ y < v + 1 ∧ gc y 16 ≤ c1) ↔ (0 ≤ y ∧ y < v ∧ gc y 16 ≤ c1) ∨ y = v := fun y => by
          constructor
          · intro z
            by_cases e : y = v
            · exact Or.inr e
            · exact Or.inl ⟨z.1, by have := z.2.1; omega, z.2.2⟩
          · intro z
            rcases z with z | z
            · exact ⟨z.1, by have := z.2.1; omega, z.2.2⟩
            · rw [z]; exact ⟨by omega, by omega, hv⟩
        have hb1 := hb.1.1
        have hb2 := hb.1.2.1
        have new : BTR (MV t0 w) v b → BEST (MV t0 w) (fun y => 0 ≤ y ∧ y < v + 1 ∧ gc y 16 ≤ c1) v := fun z => BEST_new hb hPQ z
        have old : BTR (MV t0 w) b v → BEST (MV t0 w) (fun y => 0 ≤ y ∧ y < v + 1 ∧ gc y 16 ≤ c1) b := fun z => BEST_in hb hPQ z
        obtain ⟨a1, a2⟩ := ahead_L (x := v) (y := b) (by omega) (by omega) (by omega)
        rw [if_neg d, e22, gb_eq m1, gj_v, gj_v]
        have goN := ih (v + 1) v T1 M1 Q1 (by omega) (by omega)
        have goO := ih (v + 1) b T1 M1 Q1 (by omega) (by omega)
        by_cases f : MV t0 w v < MV t0 w b
        · rw [if_pos f, gl_v, gl_v, gl_v, if_neg o0, if_neg o0, if_neg o0, gl4_v]
          exact goN (new (Or.inl f)) (by omega)
        · rw [if_neg f]
          by_cases g : MV t0 w v = MV t0 w b
          · rw [if_pos g]
            by_cases i : f_X9_ones v < f_X9_ones b
            · rw [if_pos i, gl_v, gl_v, gl_v, if_neg o0, if_neg o0, if_neg o0, gl4_v]
              rw [ones_gc v, ones_gc b] at i
              exact goN (new (Or.inr ⟨g, Or.inl i⟩)) (by omega)
            · rw [if_neg i]
              by_cases j : f_X9_ones v = f_X9_ones b
              · rw [if_pos j]
                have j2 : gc v 16 = gc b 16 := by rw [ones_gc, ones_gc] at j; exact j
                by_cases k : f_X9_isAhead v b = 0
                · rw [if_pos k, gl_v, gl_v, gl_v, if_pos zz, if_pos zz, if_pos zz, gl4_v]
                  exact goO (old (Or.inr ⟨g.symm, Or.inr ⟨j2.symm, a2 k⟩⟩)) (by omega)
                · rw [if_neg k, gl_v, gl_v, gl_v, if_neg o0, if_neg o0, if_neg o0, gl4_v]
                  exact goN (new (Or.inr ⟨g, Or.inr ⟨j2, a1 k⟩⟩)) (by omega)
              · rw [if_neg j, gl_v, gl_v, gl_v, if_pos zz, if_pos zz, if_pos zz, gl4_v]
                have i2 : gc b 16 < gc v 16 := by rw [ones_gc, ones_gc] at i j; omega
                exact goO (old (Or.inr ⟨g.symm, Or.inl i2⟩)) (by omega)
          · rw [if_neg g, gl_v, gl_v, gl_v, if_pos zz, if_pos zz, if_pos zz, gl4_v]
            exact goO (old (Or.inl (by omega))) (by omega)
