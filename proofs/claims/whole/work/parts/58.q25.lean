/-! tokens of a text: the loops -/
def TPR (s t : gMem) : Prop := s 54 0 = t 16 0 ∧ s 52 0 = t 4 0 ∧ (0 ≤ t 16 0 ∧ t 16 0 ≤ t 4 0 ∧ t 4 0 ≤ 160) ∧ ∀ i, 0 ≤ i → i < t 4 0 → s 33 i = t 3 i
theorem TPR_fr {s t s' t' : gMem} (h : TPR s t) (hx : ∀ k ∈ [33, 52, 54], s' k = s k) (hm : ∀ k ∈ [3, 4, 16], t' k = t k) : TPR s' t' := by
  unfold TPR
  rw [hx 33 (by decide), hx 52 (by decide), hx 54 (by decide), hm 3 (by decide), hm 4 (by decide), hm 16 (by decide)]
  exact h
theorem TPR_st {s t : gMem} (h : TPR s t) (hlt : t 16 0 < t 4 0) : TPR (mset s 54 0 (s 54 0 + 1)) (mset t 16 0 (t 16 0 + 1)) := by
  obtain ⟨h1, h2, h3, h4⟩ := h
  refine ⟨?_, ?_, ?_, fun i i0 i1 => ?_⟩
  · rw [mset_eq, mset_eq, h1]
  · rw [mset_ne _ _ _ _ _ (by decide), mset_ne _ _ _ _ _ (by decide), h2]
  · rw [mset_eq, mset_ne _ _ _ _ _ (by decide)]; omega
  · rw [mset_ne _ _ _ _ _ (by decide)] at i1
    rw [mset_ne _ _ _ _ _ (by decide), mset_ne _ _ _ _ _ (by decide)]; exact h4 i i0 i1
theorem blank_two : ∀ (n : Nat) (s t : gMem), TPR s t → t 4 0 - t 16 0 < n → ∃ s' t', w_X3_next_0 n s = s' ∧ w_X9_next_0 n t = t' ∧ TPR s' t' ∧ fr [54] s s' ∧ fr [16] t t' := by
  intro n
  induction n with
  | zero => intro s t h hn; exfalso; have := h.2.2.1; omega
  | succ n ih =>
    intro s t h hn
    obtain ⟨h1, h2, h3, h4⟩ := id h
    rw [w_X3_next_0_s, w_X9_next_0_s, h1, h2]
    by_cases c : t 16 0 < t 4 0
    · rw [if_pos c, if_pos c, gj_v, gj_v, h4 _ h3.1 c, gl_v, gl_v]
      obtain ⟨s', t', q1, q2, q3, q4, q5⟩ := ih _ _ (TPR_st h c) (by rw [mset_eq, mset_ne _ _ _ _ _ (by decide)]; omega)
      rw [h1] at q1
      have go : ∃ s' t', w_X3_next_0 n (mset s 54 0 (t 16 0 + 1)) = s' ∧ w_X9_next_0 n (mset t 16 0 (t 16 0 + 1)) = t' ∧ TPR s' t' ∧ fr [54] s s' ∧ fr [16] t t' :=
        ⟨s', t', q1, q2, q3, ((fr.rf _ s).set (by decide)).call (by decide) q4, ((fr.rf _ t).set (by decide)).call (by decide) q5⟩
      by_cases a : t 3 (t 16 0) = 32
      · rw [if_pos a, if_pos a]; exact go
      · rw [if_neg a, if_neg a]
        by_cases b : t 3 (t 16 0) = 10
        · rw [if_pos b, if_pos b]; exact go
        · rw [if_neg b, if_neg b]; exact ⟨s, t, rfl, rfl, h, fr.rf _ _, fr.rf _ _⟩
    · rw [if_neg c, if_neg c]; exact ⟨s, t, rfl, rfl, h, fr.rf _ _, fr.rf _ _⟩
theorem let_eq (x : Int) : f_X3_isLetter x = f_X9_in x 97 122 := rfl
theorem dig_eq (x : Int) : f_X3_isDigit x = f_X9_in x 48 57 := rfl
theorem letter_two : ∀ (n : Nat) (s t : gMem), TPR s t → t 4 0 - t 16 0 < n → ∃ s' t', w_X3_nextWord_0 n s = s' ∧ w_X9_next_103 n t = t' ∧ TPR s' t' ∧ fr [54] s s' ∧ fr [16] t t' ∧ t 16 0 ≤ t' 16 0 ∧ ∀ i, t 16 0 ≤ i → i < t' 16 0 → 97 ≤ t 3 i ∧ t 3 i ≤ 122 := by
  intro n
  induction n with
  | zero => intro s t h hn; exfalso; have := h.2.2.1; omega
  | succ n ih =>
    intro s t h hn
    obtain ⟨h1, h2, h3, h4⟩ := id h
    rw [w_X3_nextWord_0_s, w_X9_next_103_s, h1, h2]
    by_cases c : t 16 0 < t 4 0
    · rw [if_pos c, if_pos c, h4 _ h3.1 c, let_eq, if_in, if_in]
      by_cases a : 97 ≤ t 3 (t 16 0) ∧ t 3 (t 16 0) ≤ 122
      · rw [if_pos a, if_pos a, gl_v, gl_v]
        obtain ⟨s', t', q1, q2, q3, q4, q5, q6, q7⟩ := ih _ _ (TPR_st h c) (by rw [mset_eq, mset_ne _ _ _ _ _ (by decide)]; omega)
        rw [h1] at q1
        rw [mset_eq] at q6 q7
        refine ⟨s', t', q1, q2, q3, ((fr.rf _ s).set (by decide)).call (by decide) q4, ((fr.rf _ t).set (by decide)).call (by decide) q5, by omega, fun i i0 i1 => ?_⟩
        by_cases e : i = t 16 0
        · rw [e]; exact a
        · have z := q7 i (by omega) i1
          rw [mset_ne _ _ _ _ _ (by decide)] at z
          exact z
      · rw [if_neg a, if_neg a]; exact ⟨s, t, rfl, rfl, h, fr.rf _ _, fr.rf _ _, by omega, fun i i0 i1 => by omega⟩
    · rw [if_neg c, if_neg c]; exact ⟨s, t, rfl, rfl, h, fr.rf _ _, fr.rf _ _, by omega, fun i i0 i1 => by omega⟩
def DIG (v x : Int) : Prop := 0 ≤ x ∧ (v = 0 → x < 1) ∧ (v = 1 → x < 10) ∧ (v = 2 → x < 100) ∧ (v = 3 → x < 1000) ∧ (v = 4 → x < 10000)
theorem number_two : ∀ (n : Nat) (v : Int) (s t : gMem), TPR s t → 0 ≤ v → (v ≤ 4 → s 57 0 = t 19 0 ∧ DIG v (t 19 0)) → t 4 0 - t 16 0 < n → ∃ v' s' t', w_X3_nextNumber_5 n s = s' ∧ w_X9_next_230 n v t = (v', t') ∧ TPR s' t' ∧ t' 16 0 - t 16 0 = v' - v ∧ v ≤ v' ∧ (v' ≤ 4 → s' 57 0 = t' 19 0 ∧ DIG v' (t' 19 0)) ∧ fr [54, 57] s s' ∧ fr [16, 19] t t' := by
  intro n
  induction n with
  | zero => intro v s t h _ _ hn; exfalso; have := h.2.2.1; omega
  | succ n ih =>
    intro v s t h v0 hv hn
    obtain ⟨h1, h2, h3, h4⟩ := id h
    rw [w_X3_nextNumber_5_s, w_X9_next_230_s, h1, h2]
    by_cases c : t 16 0 < t 4 0
    · rw [if_pos c, if_pos c, h4 _ h3.1 c, dig_eq, if_in, if_in]
      by_cases a : 48 ≤ t 3 (t 16 0) ∧ t 3 (t 16 0) ≤ 57
      · rw [if_pos a, if_pos a, gl_v, gl_v, gl_v, gl_v, gl_v]
        obtain ⟨S, hS⟩ : ∃ S, S = mset s 57 0 (iwr (iwr (s 57 0 * 10) + (t 3 (t 16 0) - 48))) := ⟨_, rfl⟩
        obtain ⟨T, hT⟩ : ∃ T, T = mset t 19 0 (if v < 4 then 10 * t 19 0 + t 3 (t 16 0) - 48 else 0) := ⟨_, rfl⟩
        rw [← hS, ← hT]
        have fS : fr [57] s S := by rw [hS]; exact (fr.rf _ s).set (by decide)
        have fT : fr [19] t T := by rw [hT]; exact (fr.rf _ t).set (by decide)
        have hST : TPR S T := TPR_fr h (frK fS (by decide)) (frK fT (by decide))
        have e16 : T 16 0 = t 16 0 := by rw [fT 16 (by decide)]
        have e40 : T 4 0 = t 4 0 := by rw [fT 4 (by decide)]
        obtain ⟨v', s', t', q1, q2, q3, q4, q5, q6, q7, q8⟩ := ih (v + 1) (mset S 54 0 (S 54 0 + 1)) (mset T 16 0 (T 16 0 + 1)) (TPR_st hST (by rw [e16, e40]; exact c)) (by omega) (fun z => by
          obtain ⟨d1, d2⟩ := hv (by omega)
          rw [mset_ne _ _ _ _ _ (by decide), mset_ne _ _ _ _ _ (by decide), hS, hT, mset_eq, mset_eq, d1, if_pos (by omega)]
          unfold DIG at d2 ⊢
          have b1 : t 19 0 < 1000 := by omega
          rw [iwr_of (x := t 19 0 * 10) (by omega), iwr_of (by omega)]
          omega) (by rw [mset_eq, mset_ne _ _ _ _ _ (by decide), e16, e40]; omega)
        rw [mset_eq, e16] at q4
        refine ⟨v', s', t', q1, q2, q3, by omega, by omega, q6, ((fS.mono (by decide)).set (by decide)).call (by decide) q7, ((fT.mono (by decide)).set (by decide)).call (by decide) q8⟩
      · rw [if_neg a, if_neg a]; exact ⟨v, s, t, rfl, rfl, h, by omega, by omega, hv, fr.rf _ _, fr.rf _ _⟩
    · rw [if_neg c, if_neg c]; exact ⟨v, s, t, rfl, rfl, h, by omega, by omega, hv, fr.rf _ _, fr.rf _ _⟩
