/-! best: the class walks them by size -/
def BSX (V : Int → Int) (P : Int → Prop) (s : gMem) : Prop := (s 68 0 = 0 ∧ ∀ y, ¬ P y) ∨ (s 68 0 = 1 ∧ BEST V P (s 69 0) ∧ s 70 0 = V (s 69 0))
theorem BSX_cg {V : Int → Int} {P Q : Int → Prop} {s : gMem} (h : BSX V P s) (hPQ : ∀ y, Q y ↔ P y) : BSX V Q s := by
  rcases h with ⟨h1, h2⟩ | ⟨h1, h2, h3⟩
  · exact Or.inl ⟨h1, fun y z => h2 y ((hPQ y).mp z)⟩
  · exact Or.inr ⟨h1, ⟨(hPQ _).mpr h2.1, fun y z hne => h2.2 y ((hPQ y).mp z) hne⟩, h3⟩
theorem BSX_fr {V : Int → Int} {P : Int → Prop} {s s' : gMem} (h : BSX V P s) (e : ∀ k ∈ [68, 69, 70], s' k = s k) : BSX V P s' := by
  unfold BSX
  rw [e 68 (by decide), e 69 (by decide), e 70 (by decide)]
  exact h
theorem con_X {V : Int → Int} {P Q : Int → Prop} {s : gMem} {x : Int} (h : BSX V P s) (hP : ∀ y, P y → BFR y x) (hQ : ∀ y, Q y ↔ P y ∨ y = x) : ∃ s', f_X1_consider x (V x) s = (0, s') ∧ fr [68, 69, 70] s s' ∧ BSX V Q s' ∧ (gMR lgX s → in64 x → in64 (V x) → gMR lgX s') := by
  obtain ⟨S, hS⟩ : ∃ S, S = mset (mset (mset s 68 0 1) 69 0 x) 70 0 (V x) := ⟨_, rfl⟩
  have fS : fr [68, 69, 70] s S := by rw [hS]; exact (((fr.rf _ s).set (by decide)).set (by decide)).set (by decide)
  have gS : gMR lgX s → in64 x → in64 (V x) → gMR lgX S := fun g1 g2 g3 => by
    rw [hS]; exact ((g1.set32 rfl (by omega)).set64 rfl g2).set64 rfl g3
  have S68 : S 68 0 = 1 := by rw [hS]; simp [mset]
  have S69 : S 69 0 = x := by rw [hS]; simp [mset]
  have S70 : S 70 0 = V x := by rw [hS]; simp [mset]
  have eS : (gl (mset s 68 0 1) (fun s4 => gl (mset s4 69 0 x) (fun s5 => gl (mset s5 70 0 (V x)) (fun s6 => (((0 : Int), s6) : gRes))))) = (0, S) := by rw [hS]; rfl
  have mk : BEST V Q x → BSX V Q S := fun z => Or.inr ⟨S68, by rw [S69]; exact z, by rw [S70, S69]⟩
  unfold f_X1_consider
  rw [eS, gj_v]
  rcases h with ⟨h1, h2⟩ | ⟨h1, h2, h3⟩
  · rw [if_pos h1]
    refine ⟨S, rfl, fS, mk ⟨(hQ x).mpr (Or.inr rfl), fun y hy hne => ?_⟩, gS⟩
    rcases (hQ y).mp hy with z | z
    · exact absurd z (h2 y)
    · exact absurd z hne
  · rw [if_neg (by omega), h3]
    by_cases c : V x < V (s 69 0)
    · rw [if_pos c]
      exact ⟨S, rfl, fS, mk (BEST_new h2 hQ (Or.inl c)), gS⟩
    · rw [if_neg c]
      refine ⟨s, rfl, fr.rf _ _, Or.inr ⟨h1, BEST_in h2 hQ ?_, h3⟩, fun g _ _ => g⟩
      have hb := hP _ h2.1
      by_cases d : V (s 69 0) < V x
      · exact Or.inl d
      · exact Or.inr ⟨by omega, hb⟩
theorem gc_eq {x y : Int} : ∀ (n : Nat), (∀ j : Int, 0 ≤ j → j < n → (bitS x j ↔ bitS y j)) → gc x (n : Int) = gc y (n : Int) := by
  intro n
  induction n with
  | zero => intro _; rfl
  | succ n ih =>
    intro h
    have e : ((n + 1 : Nat) : Int) = (n : Int) + 1 := by omega
    have h1 := ih (fun j j0 j1 => h j j0 (by omega))
    rw [e]
    by_cases c : bitS x n
    · rw [gc_g (by omega) c, gc_g (by omega) ((h n (by omega) (by omega)).mp c), h1]
    · rw [gc_n (by omega) c, gc_n (by omega) (fun z => c ((h n (by omega) (by omega)).mpr z)), h1]
theorem gc_eqi {x y n : Int} (n0 : 0 ≤ n) (h : ∀ j : Int, 0 ≤ j → j < n → (bitS x j ↔ bitS y j)) : gc x n = gc y n := by
  have e : ((n.toNat : Nat) : Int) = n := by omega
  have := gc_eq (x := x) (y := y) n.toNat (fun j j0 j1 => h j j0 (by omega))
  rw [e] at this
  exact this
def RQ (x f l y : Int) : Prop := (0 ≤ y ∧ y ≤ 65535) ∧ (∀ j, 0 ≤ j → j < f → (bitS y j ↔ bitS x j)) ∧ gc y 16 = gc x f + l
theorem RQ_0 {x f y : Int} (hx : 0 ≤ x ∧ x ≤ 65535) (hf : 0 ≤ f ∧ f ≤ 16) (hn : ∀ j, f ≤ j → j < 16 → ¬ bitS x j) : RQ x f 0 y ↔ y = x := by
  constructor
  · rintro ⟨h1, h2, h3⟩
    have e := gc_eqi hf.1 h2
    refine ext16 h1 hx (fun j j0 j1 => ?_)
    by_cases c : j < f
    · exact h2 j j0 c
    · constructor
      · intro z
        have g1 := gc_g j0 z
        have g2 := gc_mono y (p := j + 1) (q := 16) (by omega) (by omega)
        have g3 := gc_mono y (p := f) (q := j) (by omega) (by omega)
        omega
      · intro z
        exact absurd z (hn j (by omega) j1)
  · intro e
    subst e
    refine ⟨hx, fun _ _ _ => Iff.rfl, ?_⟩
    have main : ∀ n : Nat, f + n ≤ 16 → gc y (f + n) = gc y f := by
      intro n
      induction n with
      | zero => intro _; rw [show f + ((0 : Nat) : Int) = f by omega]
      | succ n ih =>
        intro h
        have e : f + ((n + 1 : Nat) : Int) = (f + n) + 1 := by omega
        rw [e, gc_n (by omega) (hn (f + n) (by omega) (by omega))]
        exact ih (by omega)
    have := main (16 - f).toNat (by omega)
    rw [show f + (((16 - f).toNat : Nat) : Int) = 16 by omega] at this
    omega
theorem bit_add {x v j : Int} (hx : 0 ≤ x ∧ x ≤ 65535) (hv : 0 ≤ v ∧ v ≤ 15) (hj : 0 ≤ j ∧ j ≤ 15) : bitS (ior x (ishl 1 v)) j ↔ bitS x j ∨ j = v := by
  rw [bit_or hx (shl_rg hv) hj, bit_shl hv hj]
theorem RQ_s {x v l y : Int} (hx : 0 ≤ x ∧ x ≤ 65535) (hv : 0 ≤ v ∧ v ≤ 15) (hn : ∀ j, v ≤ j → j < 16 → ¬ bitS x j) : RQ x v l y ↔ RQ (ior x (ishl 1 v)) (v + 1) (l - 1) y ∨ RQ x (v + 1) l y := by
  have hxv := hn v (by omega) (by omega)
  have e1 : gc x (v + 1) = gc x v := gc_n hv.1 hxv
  have e3 : gc (ior x (ishl 1 v)) v = gc x v := gc_eqi hv.1 (fun j j0 j1 => by
    rw [bit_add hx hv (by omega)]
    exact ⟨fun z => z.resolve_right (by omega), Or.inl⟩)
  have e2 : gc (ior x (ishl 1 v)) (v + 1) = gc x v + 1 := by
    rw [gc_g hv.1 ((bit_add hx hv hv).mpr (Or.inr rfl)), e3]
  constructor
  · rintro ⟨h1, h2, h3⟩
    by_cases c : bitS y v
    · refine Or.inl ⟨h1, fun j j0 j1 => ?_, by rw [e2]; omega⟩
      rw [bit_add hx hv (by omega)]
      by_cases d : j = v
      · rw [d]; exact ⟨fun _ => Or.inr rfl, fun _ => c⟩
      · rw [h2 j j0 (by omega)]
        exact ⟨Or.inl, fun z => z.resolve_right d⟩
    · refine Or.inr ⟨h1, fun j j0 j1 => ?_, by rw [e1]; exact h3⟩
      by_cases d : j = v
      · rw [d]; exact ⟨fun z => absurd z c, fun z => absurd z hxv⟩
      · exact h2 j j0 (by omega)
  · rintro (⟨h1, h2, h3⟩ | ⟨h1, h2, h3⟩)
    · refine ⟨h1, fun j j0 j1 => ?_, by rw [e2] at h3; omega⟩
      rw [h2 j j0 (by omega), bit_add hx hv (by omega)]
      exact ⟨fun z => z.resolve_right (by omega), Or.inl⟩
    · exact ⟨h1, fun j j0 j1 => h2 j j0 (by omega), by rw [e1] at h3; exact h3⟩
theorem RQ_or {x v l y z : Int} (hx : 0 ≤ x ∧ x ≤ 65535) (hv : 0 ≤ v ∧ v ≤ 15) (hn : ∀ j, v ≤ j → j < 16 → ¬ bitS x j) (hy : RQ (ior x (ishl 1 v)) (v + 1) (l - 1) y) (hz : RQ x (v + 1) l z) : BFR y z := by
  have a := (RQ_s hx hv hn).mpr (Or.inl hy)
  have b := (RQ_s hx hv hn).mpr (Or.inr hz)
  refine Or.inr ⟨by have := a.2.2; have := b.2.2; omega, v, hv.1, hv.2, ?_, ?_, fun j j0 j1 => (a.2.1 j j0 j1).trans (b.2.1 j j0 j1).symm⟩
  · rw [hy.2.1 v hv.1 (by omega), bit_add hx hv hv]; exact Or.inr rfl
  · rw [hz.2.1 v hv.1 (by omega)]; exact hn v (by omega) (by omega)
theorem RQ_e {x l y : Int} (hl : 0 < l) : ¬ RQ x 16 l y := fun h => by
  have := gc_eqi (x := y) (y := x) (n := 16) (by omega) h.2.1
  have := h.2.2
  omega
def SPX (t0 : gMem) (w k : Int) (F : Int → Int → Int → gMem → gRes) : Prop := ∀ (x f l : Int) (s : gMem) (P Q : Int → Prop), XM s t0 w → BSX (MV t0 w) P s → (0 ≤ x ∧ x ≤ 65535) → (0 ≤ f ∧ f ≤ 16) → (∀ j, f ≤ j → j < 16 → ¬ bitS x j) → 0 ≤ l → l ≤ k → (∀ y z, P y → RQ x f l z → BFR y z) → (∀ y, Q y ↔ P y ∨ RQ x f l y) → ∃ s', F x f l s = (0, s') ∧ XM s' t0 w ∧ BSX (MV t0 w) Q s'
theorem SPX_0 {t0 : gMem} {w : Int} (hQ0 : MQ4 t0) (hw : 0 ≤ w ∧ w ≤ 2) {x f : Int} {s : gMem} {P Q : Int → Prop} (hX : XM s t0 w) (hB : BSX (MV t0 w) P s) (hx : 0 ≤ x ∧ x ≤ 65535) (hf : 0 ≤ f ∧ f ≤ 16) (hn : ∀ j, f ≤ j → j < 16 → ¬ bitS x j) (hP : ∀ y z, P y → RQ x f 0 z → BFR y z) (hQ : ∀ y, Q y ↔ P y ∨ RQ x f 0 y) : ∃ s', gb (f_X2_meanBy x s) (fun r3 s4 => gb (f_X1_consider x r3 s4) (fun r9 s10 => (((0 : Int), s10) : gRes))) = (0, s') ∧ XM s' t0 w ∧ BSX (MV t0 w) Q s' := by
  obtain ⟨s1, e1, X1, f1⟩ := X_mean hX hQ0 (x := x) (by omega) hw
  obtain ⟨s2, e2, f2, B2, g2⟩ := con_X (x := x) (Q := Q) (BSX_fr hB (frK f1 (by decide))) (fun y hy => hP y x hy ((RQ_0 hx hf hn).mpr rfl)) (fun y => by rw [hQ, RQ_0 hx hf hn])
  rw [gb_eq e1, gb_eq e2]
  have vr := MV_rg hX.1.2.2.1 hQ0 (w := w) (x := x) (by omega) hw
  have gx := g2 X1.1.2.1.1 (by omega) (by omega)
  obtain ⟨hR, ⟨i1, i2, i3, i4, i5, i6, i7, i8, i9, i10, i11, i12, i13⟩, hM, c1, c2, c3⟩ := id X1.1
  have X2 : XT s2 t0 := XT_fr X1.1 f2 (by decide) gx (KF_fr i11 (frK f2 (by decide))) (KC_fr i12 (frK f2 (by decide))) (KT_fr i13 (frK f2 (by decide))) (CFf_fr c1 (f2 37 (by decide))) (CFc_fr c2 (f2 38 (by decide))) (CFt_fr c3 (f2 39 (by decide)))
  exact ⟨s2, rfl, XM_fr X1 X2 f2 (by decide), B2⟩
theorem SPX_w {t0 : gMem} {w k : Int} {F : Int → Int → Int → gMem → gRes} {W : Int → Int → Nat → Int → gMem → Int × gMem} (hF : SPX t0 w k F) (hW : ∀ c1 c3 n v s, W c1 c3 (n + 1) v s = (if v < 16 then gb (F (ior c1 (ishl 1 v)) (v + 1) (c3 - 1) s) (fun r10 s11 => (W c1 c3 n (v + 1) s11)) else (v, s))) {x l : Int} (hx : 0 ≤ x ∧ x ≤ 65535) (hl : 0 < l ∧ l ≤ k + 1) {Q : Int → Prop} : ∀ (n : Nat) (v : Int) (s : gMem) (P : Int → Prop), XM s t0 w → BSX (MV t0 w) P s → (0 ≤ v ∧ v ≤ 16) → (∀ j, v ≤ j → j < 16 → ¬ bitS x j) → (∀ y z, P y → RQ x v l z → BFR y z) → (∀ y, Q y ↔ P y ∨ RQ x v l y) → 16 - v < n → ∃ u s', W x l n v s = (u, s') ∧ XM s' t0 w ∧ BSX (MV t0 w) Q s' := by
  intro n
  induction n with
  | zero => intro v s P _ _ _ _ _ _ h; exfalso; omega
  | succ n ih =>
    intro v s P hX hB hv hn hP hQ h
    rw [hW]
    by_cases c : v < 16
    · rw [if_pos c]
      have hv2 : 0 ≤ v ∧ v ≤ 15 := by omega
      have sp := shl_rg hv2
      have ir := ior_16 hx.1 hx.2 sp.1 sp.2
      obtain ⟨s1, e1, X1, B1⟩ := hF (ior x (ishl 1 v)) (v + 1) (l - 1) s P (fun y => P y ∨ RQ (ior x (ishl 1 v)) (v + 1) (l - 1) y) hX hB ir (by omega) (fun j j0 j1 => by
        rw [bit_add hx hv2 (by omega)]
        rintro (z | z)
        · exact hn j (by omega) j1 z
        · omega) (by omega) (by omega) (fun y z hy hz => hP y z hy ((RQ_s hx hv2 hn).mpr (Or.inl hz))) (fun y => Iff.rfl)
      rw [gb_eq e1]
      refine ih (v + 1) s1 _ X1 B1 (by omega) (fun j j0 j1 => hn j (by omega) j1) (fun y z hy hz => ?_) (fun y => ?_) (by omega)
      · rcases hy with hy | hy
        · exact hP y z hy ((RQ_s hx hv2 hn).mpr (Or.inr hz))
        · exact RQ_or hx hv2 hn hy hz
      · rw [hQ, RQ_s hx hv2 hn]
        constructor
        · rintro (z | z | z)
          · exact Or.inl (Or.inl z)
          · exact Or.inl (Or.inr z)
          · exact Or.inr z
        · rintro ((z | z) | z)
          · exact Or.inl z
          · exact Or.inr (Or.inl z)
          · exact Or.inr (Or.inr z)
    · rw [if_neg c]
      have e : v = 16 := by omega
      subst e
      refine ⟨_, s, rfl, hX, BSX_cg hB (fun y => ?_)⟩
      rw [hQ]
      exact ⟨fun z => z.resolve_right (RQ_e hl.1), Or.inl⟩
theorem SPX_F {t0 : gMem} {w k : Int} (hQ0 : MQ4 t0) (hw : 0 ≤ w ∧ w ≤ 2) {F G : Int → Int → Int → gMem → gRes} {W : Int → Int → Nat → Int → gMem → Int × gMem} (hF : SPX t0 w k F) (hW : ∀ c1 c3 n v s, W c1 c3 (n + 1) v s = (if v < 16 then gb (F (ior c1 (ishl 1 v)) (v + 1) (c3 - 1) s) (fun r10 s11 => (W c1 c3 n (v + 1) s11)) else (v, s))) (hG : ∀ x0 x1 x2 s0, G x0 x1 x2 s0 = (if 0 < x2 then (gl2 (W x0 x2 17 x1 s0) (fun v33 s34 => (0, s34))) else gb (f_X2_meanBy x0 s0) (fun r38 s39 => gb (f_X1_consider x0 r38 s39) (fun r44 s45 => (0, s45))))) : SPX t0 w (k + 1) G := by
  intro x f l s P Q hX hB hx hf hn l0 l1 hP hQ
  rw [hG]
  by_cases c : 0 < l
  · rw [if_pos c]
    obtain ⟨u, s', e, X1, B1⟩ := SPX_w hF hW hx ⟨c, l1⟩ (Q := Q) 17 f s P hX hB hf hn hP hQ (by omega)
    rw [e]
    exact ⟨s', rfl, X1, B1⟩
  · rw [if_neg c]
    have e : l = 0 := by omega
    subst e
    exact SPX_0 hQ0 hw hX hB hx hf hn hP hQ
theorem SPX_4 {t0 : gMem} {w : Int} (hQ0 : MQ4 t0) (hw : 0 ≤ w ∧ w ≤ 2) : SPX t0 w 4 f_X1_trySets_4 := by
  have h0 : SPX t0 w 0 f_X1_trySets_0 := fun x f l s P Q hX hB hx hf hn l0 l1 hP hQ => by
    have e : l = 0 := by omega
    subst e
    have e2 : f_X1_trySets_0 x f 0 s = gb (f_X2_meanBy x s) (fun r3 s4 => gb (f_X1_consider x r3 s4) (fun r9 s10 => (((0 : Int), s10) : gRes))) := by
      unfold f_X1_trySets_0
      rw [if_neg (by decide)]
    rw [e2]
    exact SPX_0 hQ0 hw hX hB hx hf hn hP hQ
  have h1 : SPX t0 w (0 + 1) f_X1_trySets_1 := SPX_F hQ0 hw h0 (W := w_X1_trySets_1_23) (fun _ _ _ _ _ => rfl) (fun _ _ _ _ => rfl)
  have h2 : SPX t0 w (0 + 1 + 1) f_X1_trySets_2 := SPX_F hQ0 hw h1 (W := w_X1_trySets_2_23) (fun _ _ _ _ _ => rfl) (fun _ _ _ _ => rfl)
  have h3 : SPX t0 w (0 + 1 + 1 + 1) f_X1_trySets_3 := SPX_F hQ0 hw h2 (W := w_X1_trySets_3_23) (fun _ _ _ _ _ => rfl) (fun _ _ _ _ => rfl)
  have h4 : SPX t0 w (0 + 1 + 1 + 1 + 1) f_X1_trySets_4 := SPX_F hQ0 hw h3 (W := w_X1_trySets_4_23) (fun _ _ _ _ _ => rfl) (fun _ _ _ _ => rfl)
  exact h4
theorem siz_X {t0 : gMem} {w c : Int} (hQ0 : MQ4 t0) (hw : 0 ≤ w ∧ w ≤ 2) (hc : 0 ≤ c ∧ c ≤ 4) : ∀ (n : Nat) (v : Int) (s : gMem), XM s t0 w → BSX (MV t0 w) (fun y => (0 ≤ y ∧ y ≤ 65535) ∧ gc y 16 < v) s → 0 ≤ v → v ≤ c + 1 → c + 1 - v < n → ∃ u s', w_X1_trySizes_2 c n v s = (u, s') ∧ XM s' t0 w ∧ BSX (MV t0 w) (fun y => (0 ≤ y ∧ y ≤ 65535) ∧ gc y 16 < c + 1) s' := by
  intro n
  induction n with
  | zero => intro v s _ _ _ _ h; exfalso; omega
  | succ n ih =>
    intro v s hX hB v0 v1 h
    rw [w_X1_trySizes_2_s]
    by_cases d : c < v
    · rw [if_pos d]
      have e : v = c + 1 := by omega
      subst e
      exact ⟨_, s, rfl, hX, hB⟩
    · rw [if_neg d]
      have g0 : gc 0 0 = 0 := rfl
      obtain ⟨s1, e1, X1, B1⟩ := SPX_4 hQ0 hw 0 0 v s _ (fun y => (0 ≤ y ∧ y ≤ 65535) ∧ gc y 16 < v + 1) hX hB (by omega) (by omega) (fun j j0 j1 => zer j j0 (by omega)) v0 (by omega) (fun y z hy hz => Or.inl (by
        have h1 := hy.2
        have h2 := hz.2.2
        omega)) (fun y => by
        constructor
        · intro z
          by_cases e : gc y 16 < v
          · exact Or.inl ⟨z.1, e⟩
          · exact Or.inr ⟨z.1, fun j j0 j1 => by omega, by have := z.2; omega⟩
        · rintro (z | z)
          · exact ⟨z.1, by have := z.2; omega⟩
          · exact ⟨z.1, by have := z.2.2; omega⟩)
      rw [gb_eq e1]
      exact ih (v + 1) s1 X1 B1 (by omega) (by omega) (by omega)
