/-! tokens of a text: next -/
theorem MWX_fr {s s' : gMem} {i : Int} (e : ∀ k ∈ [33, 54, 56], s' k = s k) : MWX s' i ↔ MWX s i := by
  unfold MWX
  rw [e 33 (by decide), e 54 (by decide), e 56 (by decide)]
theorem MWX_fin : ∀ i j : Fin 12, i ≠ j → xlen (i.val : Int) = xlen (j.val : Int) → ∃ k : Fin 6, (k.val : Int) < xlen (i.val : Int) ∧ ¬ xch (i.val : Int) (k.val : Int) = xch (j.val : Int) (k.val : Int) := by decide +kernel
theorem MWX_u {s : gMem} {i j : Int} (hi : 0 ≤ i ∧ i < 12) (hj : 0 ≤ j ∧ j < 12) (h1 : MWX s i) (h2 : MWX s j) : i = j := Classical.byContradiction fun hne => by
  obtain ⟨a, rfl⟩ : ∃ n : Nat, i = n := ⟨i.toNat, by omega⟩
  obtain ⟨b, rfl⟩ : ∃ n : Nat, j = n := ⟨j.toNat, by omega⟩
  obtain ⟨k, k1, k2⟩ := MWX_fin ⟨a, by omega⟩ ⟨b, by omega⟩ (fun e => hne (by have := Fin.mk.inj e; omega)) (by rw [h1.1, h2.1])
  have q1 := h1.2 (k.val : Int) (by omega) k1
  have q2 := h2.2 (k.val : Int) (by omega) (by rw [h2.1, ← h1.1]; exact k1)
  exact k2 (q1.symm.trans q2)
theorem nw_X : ∀ (n : Nat) (v : Int) (s : gMem), 0 ≤ v → v ≤ 12 → 12 - v < n → ∃ u s', w_X3_nextWord_46 n v s = (u, s') ∧ fr [55] s s' ∧ ((∃ i, v ≤ i ∧ i < 12 ∧ MWX s i ∧ s' 55 0 = 256 + i) ∨ ((∀ i, v ≤ i → i < 12 → ¬ MWX s i) ∧ s' 55 0 = s 55 0)) := by
  intro n
  induction n with
  | zero => intro v s _ _ h; exfalso; omega
  | succ n ih =>
    intro v s v0 v1 h
    rw [w_X3_nextWord_46_s]
    by_cases c : v < 12
    · rw [if_pos c, gl_v, gl_v, word_id ⟨v0, c⟩]
      have hs := stands_p (s := s) (i := v) ⟨v0, c⟩
      by_cases d : f_X3_stands v s = 0
      · rw [if_pos d]
        have nm := hs.mp d
        obtain ⟨u, s', q1, q2, q3⟩ := ih (v + 1) s (by omega) (by omega) (by omega)
        refine ⟨u, s', q1, q2, ?_⟩
        rcases q3 with ⟨i, i0, i1, i2, i3⟩ | ⟨i1, i2⟩
        · exact Or.inl ⟨i, by omega, i1, i2, i3⟩
        · refine Or.inr ⟨fun i i0 i3 => ?_, i2⟩
          by_cases e : i = v
          · rw [e]; exact nm
          · exact i1 i (by omega) i3
      · rw [if_neg d]
        have mv : MWX s v := Classical.byContradiction fun q => d (hs.mpr q)
        have f1 : fr [55] s (mset s 55 0 (256 + v)) := (fr.rf _ s).set (by decide)
        obtain ⟨u, s', q1, q2, q3⟩ := ih (v + 1) (mset s 55 0 (256 + v)) (by omega) (by omega) (by omega)
        refine ⟨u, s', q1, f1.call (by decide) q2, Or.inl ?_⟩
        rcases q3 with ⟨i, i0, i1, i2, i3⟩ | ⟨i1, i2⟩
        · exact ⟨i, by omega, i1, (MWX_fr (frK f1 (by decide))).mp i2, i3⟩
        · exact ⟨v, by omega, c, mv, by rw [i2, mset_eq]⟩
    · rw [if_neg c]
      exact ⟨v, s, rfl, fr.rf _ _, Or.inr ⟨fun i i0 i1 => by omega, rfl⟩⟩
def TOK (s t : gMem) : Prop := TPR s t ∧ s 56 0 = t 17 0 ∧ (0 ≤ t 17 0 ∧ t 17 0 ≤ t 16 0) ∧ ((s 55 0 = 0 ∧ t 18 0 = 0) ∨ (s 55 0 = 1 ∧ t 18 0 = -1) ∨ (s 55 0 = 2 ∧ t 18 0 = 1 ∧ s 57 0 = t 19 0 ∧ 0 ≤ t 19 0 ∧ t 19 0 ≤ 9999) ∨ (40 ≤ s 55 0 ∧ s 55 0 ≤ 61 ∧ t 18 0 = s 55 0) ∨ (256 ≤ s 55 0 ∧ s 55 0 ≤ 258 ∧ t 18 0 = 3 ∧ t 19 0 = s 55 0 - 256) ∨ (259 ≤ s 55 0 ∧ s 55 0 ≤ 261 ∧ t 18 0 = s 55 0 - 255) ∨ (262 ≤ s 55 0 ∧ s 55 0 ≤ 267 ∧ t 18 0 = 2 ∧ t 19 0 = s 55 0 - 262))
/-- the word's token -/
theorem word_two {s t : gMem} (h : TPR s t) (hW : IW t) (h56 : s 56 0 = t 17 0) (h17 : t 17 0 = t 16 0) : ∃ s' t', f_X3_nextWord s = (0, s') ∧ (gl (w_X9_next_103 161 t) (fun  s297 => gl (f_X9_wordFrom (s297 17 0) (s297 16 0) s297) (fun v310 => (gl ((if v310 < 3 then 3 else (if v310 < 9 then 2 else (if v310 = 12 then (-1) else ((4 + v310) - 9))))) (fun v313 => gl (mset s297 18 0 v313) (fun s314 => (gl ((if v310 < 3 then v310 else (v310 - 3))) (fun v322 => gl (mset s314 19 0 v322) (fun s323 => (((0 : Int), s323) : gRes)))))))))) = (0, t') ∧ TOK s' t' ∧ fr [54, 55] s s' ∧ fr [16, 18, 19] t t' := by
  obtain ⟨s1, t1, e1, e2, P1, f1, g1, r1, r2⟩ := letter_two 161 s t h (by have := h.2.2.1; omega)
  have f2 : fr [55] s1 (mset s1 55 0 1) := (fr.rf _ s1).set (by decide)
  obtain ⟨u, s2, q1, q2, q3⟩ := nw_X 13 0 (mset s1 55 0 1) (by omega) (by omega) (by omega)
  have fs : fr [54, 55] s s2 := ((f1.mono (by decide)).call (by decide) f2).call (by decide) q2
  have eX : f_X3_nextWord s = (0, s2) := by
    unfold f_X3_nextWord
    rw [e1, gl_v, gl_v, q1, gl2_v]
  obtain ⟨m, hm⟩ : ∃ m, m = f_X9_wordFrom (t1 17 0) (t1 16 0) t1 := ⟨_, rfl⟩
  obtain ⟨a, ha⟩ : ∃ a : Int, a = (if m < 3 then 3 else (if m < 9 then 2 else (if m = 12 then (-1) else ((4 + m) - 9)))) := ⟨_, rfl⟩
  obtain ⟨b, hb⟩ : ∃ b : Int, b = (if m < 3 then m else (m - 3)) := ⟨_, rfl⟩
  obtain ⟨T, hT⟩ : ∃ T, T = mset (mset t1 18 0 a) 19 0 b := ⟨_, rfl⟩
  have fT : fr [18, 19] t1 T := by rw [hT]; exact ((fr.rf _ t1).set (by decide)).set (by decide)
  have T18 : T 18 0 = a := by rw [hT, mset_ne _ _ _ _ _ (by decide), mset_eq]
  have T19 : T 19 0 = b := by rw [hT, mset_eq]
  have g17 : t1 17 = t 17 := g1 17 (by decide)
  have k56 : s1 56 = s 56 := f1 56 (by decide)
  have g3 : t1 3 = t 3 := g1 3 (by decide)
  have g20 : t1 20 = t 20 := g1 20 (by decide)
  have hW1 : IW t1 := by unfold IW; rw [g20]; exact hW
  have ht0 := h.2.2.1
  have P2 : TPR s2 T := TPR_fr P1 (fun k hk => by rw [q2 k (by revert k; decide), f2 k (by revert k; decide)]) (frK fT (by decide))
  refine ⟨s2, T, eX, ?_, ⟨P2, ?_, ?_, ?_⟩, fs, (g1.mono (by decide)).call (by decide) fT⟩
  · rw [e2, gl_v, gl_v, ← hm, gl_v, gl_v, gl_v, gl_v, ← ha, ← hb, ← hT]
  · rw [fs 56 (by decide), fT 17 (by decide), g17]; exact h56
  · rw [fT 17 (by decide), fT 16 (by decide), g17]; omega
  · have two : ∀ i, 0 ≤ i ∧ i < 12 → (MWM t1 (t1 17 0) (t1 16 0) i ↔ MWX s1 (ordW i)) := fun i hi => mw_two P1 hW1 (by rw [k56, g17]; exact h56) (by rw [g17]; omega) (fun j j0 j1 => by rw [g3]; rw [g17] at j0; exact r2 j (by omega) j1) hi
    have mx : ∀ i, MWX (mset s1 55 0 1) i ↔ MWX s1 i := fun i => MWX_fr (frK f2 (by decide))
    rw [T18, T19]
    rcases wf_p (t1 17 0) (t1 16 0) t1 13 0 (by omega) (by omega) (by omega) with ⟨z1, z2⟩ | ⟨z1, z2, z3⟩
    · have em : m = 12 := by rw [hm]; exact z1
      rw [if_neg (by omega), if_neg (by omega), if_pos em] at ha
      have none : ∀ i, 0 ≤ i → i < 12 → ¬ MWX s1 i := fun i i0 i1 z => by
        obtain ⟨j, j0, j1, j2⟩ : ∃ j, 0 ≤ j ∧ j < 12 ∧ ordW j = i := by
          by_cases c1 : i < 3
          · exact ⟨i, i0, i1, by unfold ordW; rw [if_pos c1]⟩
          · by_cases c2 : i < 6
            · exact ⟨i + 6, by omega, by omega, by unfold ordW; rw [if_neg (by omega), if_neg (by omega)]; omega⟩
            · exact ⟨i - 3, by omega, by omega, by unfold ordW; rw [if_neg (by omega), if_pos (by omega)]; omega⟩
        exact z2 j j0 j1 ((two j ⟨j0, j1⟩).mpr (by rw [j2]; exact z))
      rcases q3 with ⟨i, i0, i1, i2, i3⟩ | ⟨i1, i2⟩
      · exact absurd ((mx i).mp i2) (none i i0 i1)
      · exact Or.inr (Or.inl ⟨by rw [i2, mset_eq], ha⟩)
    · have hm2 : m = t_X9_wordFrom_2 (t1 17 0) (t1 16 0) t1 13 0 := hm
      rw [← hm2] at z1 z2 z3
      have w := (two m ⟨z1, z2⟩).mp z3
      rcases q3 with ⟨i, i0, i1, i2, i3⟩ | ⟨i1, i2⟩
      · have ei : i = ordW m := MWX_u ⟨i0, i1⟩ (ordW_rg ⟨z1, z2⟩) ((mx i).mp i2) w
        rw [ei] at i3
        unfold ordW at i3
        by_cases c1 : m < 3
        · rw [if_pos c1] at i3 ha hb
          exact Or.inr (Or.inr (Or.inr (Or.inr (Or.inl ⟨by omega, by omega, ha, by omega⟩))))
        · rw [if_neg c1] at i3 ha hb
          by_cases c2 : m < 9
          · rw [if_pos c2] at i3 ha
            exact Or.inr (Or.inr (Or.inr (Or.inr (Or.inr (Or.inr ⟨by omega, by omega, ha, by omega⟩)))))
          · rw [if_neg c2] at i3 ha
            rw [if_neg (by omega)] at ha
            exact Or.inr (Or.inr (Or.inr (Or.inr (Or.inr (Or.inl ⟨by omega, by omega, by omega⟩)))))
      · exact absurd ((mx _).mpr w) (i1 _ (ordW_rg ⟨z1, z2⟩).1 (ordW_rg ⟨z1, z2⟩).2)
