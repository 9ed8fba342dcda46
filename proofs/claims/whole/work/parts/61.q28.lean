/-! tokens of a text: next, whole -/
theorem next_two {s t : gMem} (h : TPR s t) (hW : IW t) : ∃ s' t', f_X3_next s = (0, s') ∧ f_X9_next t = (0, t') ∧ TOK s' t' ∧ fr [54, 55, 56, 57] s s' ∧ fr [16, 17, 18, 19] t t' := by
  have o0 : ¬ (1 : Int) = 0 := by decide
  obtain ⟨s1, t1, e1, e2, P1, f1, g1⟩ := blank_two 161 s t h (by have := h.2.2.1; omega)
  obtain ⟨S, hS⟩ : ∃ S, S = mset s1 56 0 (s1 54 0) := ⟨_, rfl⟩
  obtain ⟨T, hT⟩ : ∃ T, T = mset (mset (mset t1 17 0 (t1 16 0)) 18 0 0) 19 0 0 := ⟨_, rfl⟩
  have fS : fr [56] s1 S := by rw [hS]; exact (fr.rf _ _).set (by decide)
  have fT : fr [17, 18, 19] t1 T := by rw [hT]; exact (((fr.rf _ _).set (by decide)).set (by decide)).set (by decide)
  have P2 : TPR S T := TPR_fr P1 (frK fS (by decide)) (frK fT (by decide))
  have T20 : T 20 = t 20 := (fT 20 (by decide)).trans (g1 20 (by decide))
  have hW2 : IW T := by unfold IW; rw [T20]; exact hW
  have S56 : S 56 0 = S 54 0 := by rw [fS 54 (by decide), hS, mset_eq]
  have T17 : T 17 0 = T 16 0 := by rw [fT 16 (by decide), hT, mset_ne _ _ _ _ _ (by decide), mset_ne _ _ _ _ _ (by decide), mset_eq]
  have T18 : T 18 0 = 0 := by rw [hT, mset_ne _ _ _ _ _ (by decide), mset_eq]
  have T19 : T 19 0 = 0 := by rw [hT, mset_eq]
  have fs : fr [54, 55, 56, 57] s S := (f1.mono (by decide)).call (by decide) fS
  have gt : fr [16, 17, 18, 19] t T := (g1.mono (by decide)).call (by decide) fT
  obtain ⟨h1, h2, h3, h4⟩ := id P2
  have h56 : S 56 0 = T 17 0 := by rw [S56, T17, h1]
  unfold f_X9_next
  rw [e2, gl_v, gl_v, gl_v, gl_v, ← hT]
  unfold f_X3_next
  rw [e1, gl_v, gl_v, ← hS, h1, h2]
  by_cases c : T 16 0 < T 4 0
  · rw [if_pos c, if_neg (show ¬ T 16 0 = T 4 0 by omega), h4 _ h3.1 c, let_eq, if_in, if_in]
    by_cases a : 97 ≤ T 3 (T 16 0) ∧ T 3 (T 16 0) ≤ 122
    · rw [if_pos a, if_pos a]
      obtain ⟨s', t', q1, q2, q3, q4, q5⟩ := word_two P2 hW2 h56 T17
      rw [gb_eq q1, q2]
      exact ⟨s', t', rfl, rfl, q3, fs.call (by decide) q4, gt.call (by decide) q5⟩
    · rw [if_neg a, if_neg a, dig_eq, if_in, if_in]
      by_cases b : 48 ≤ T 3 (T 16 0) ∧ T 3 (T 16 0) ≤ 57
      · rw [if_pos b, if_pos b]
        obtain ⟨S2, hS2⟩ : ∃ S2, S2 = mset S 57 0 0 := ⟨_, rfl⟩
        have f2 : fr [57] S S2 := by rw [hS2]; exact (fr.rf _ _).set (by decide)
        have P3 : TPR S2 T := TPR_fr P2 (frK f2 (by decide)) (fun _ _ => rfl)
        obtain ⟨v', s', t', q1, q2, q3, q4, q5, q6, q7, q8⟩ := number_two 161 0 S2 T P3 (by omega) (fun _ => ⟨by rw [hS2, mset_eq, T19], by unfold DIG; rw [T19]; omega⟩) (by omega)
        have k54 : s' 54 0 = t' 16 0 := q3.1
        have k56 : s' 56 0 = T 17 0 := by rw [q7 56 (by decide), f2 56 (by decide)]; exact h56
        have k17 : t' 17 0 = T 17 0 := by rw [q8 17 (by decide)]
        have hv : s' 54 0 - s' 56 0 = v' := by omega
        have eX : f_X3_nextNumber S = (0, mset s' 55 0 (if 4 < v' then 1 else 2)) := by
          unfold f_X3_nextNumber
          rw [gl_v, ← hS2, q1, gl_v, gl_v, gl_v, hv]
        rw [gb_eq eX, q2, gl2_v, gl_v, gl_v]
        have f3 : fr [55] s' (mset s' 55 0 (if 4 < v' then 1 else 2)) := (fr.rf _ _).set (by decide)
        have f4 : fr [18] t' (mset t' 18 0 (if 4 < v' then -1 else 1)) := (fr.rf _ _).set (by decide)
        refine ⟨_, _, rfl, rfl, ⟨TPR_fr q3 (frK f3 (by decide)) (frK f4 (by decide)), ?_, ?_, ?_⟩, ((fs.call (by decide) f2).call (by decide) q7).call (by decide) f3, (gt.call (by decide) q8).call (by decide) f4⟩
        · rw [f3 56 (by decide), f4 17 (by decide), k56, k17]
        · rw [f4 17 (by decide), f4 16 (by decide), k17]; omega
        · rw [mset_eq]
          show _ ∨ _
          rw [show (mset t' 18 0 (if 4 < v' then -1 else 1)) 18 0 = (if 4 < v' then -1 else 1) from mset_eq _ _ _ _, f3 57 (by decide), f4 19 (by decide)]
          by_cases y : 4 < v'
          · rw [if_pos y, if_pos y]; exact Or.inr (Or.inl ⟨rfl, rfl⟩)
          · rw [if_neg y, if_neg y]
            obtain ⟨d1, d2⟩ := q6 (by omega)
            unfold DIG at d2
            exact Or.inr (Or.inr (Or.inl ⟨rfl, rfl, d1, by omega, by omega⟩))
      · rw [if_neg b, if_neg b]
        obtain ⟨x, hx⟩ : ∃ x, x = T 3 (T 16 0) := ⟨_, rfl⟩
        rw [← hx]
        have key : ∀ k : Int, (k = 1 ∨ (40 ≤ k ∧ k ≤ 61)) → ∀ k2 : Int, (k = 1 → k2 = -1) → (¬ k = 1 → k2 = k) → ∃ s' t', gl k (fun v95 => gl (mset S 55 0 v95) (fun s96 => gl (mset s96 54 0 ((s96 54 0) + 1)) (fun s105 => (((0 : Int), s105) : gRes)))) = (0, s') ∧ gl k2 (fun v91 => gl (mset T 18 0 v91) (fun s92 => gl (mset s92 16 0 ((s92 16 0) + 1)) (fun s99 => (((0 : Int), s99) : gRes)))) = (0, t') ∧ TOK s' t' ∧ fr [54, 55, 56, 57] s s' ∧ fr [16, 17, 18, 19] t t' := fun k hk k2 hk1 hk2 => by
          have f3 : fr [55] S (mset S 55 0 k) := (fr.rf _ _).set (by decide)
          have f4 : fr [18] T (mset T 18 0 k2) := (fr.rf _ _).set (by decide)
          have P4 : TPR (mset S 55 0 k) (mset T 18 0 k2) := TPR_fr P2 (frK f3 (by decide)) (frK f4 (by decide))
          have P5 := TPR_st P4 (by rw [f4 16 (by decide), f4 4 (by decide)]; exact c)
          rw [gl_v, gl_v, gl_v, gl_v, gl_v, gl_v]
          refine ⟨_, _, rfl, rfl, ⟨P5, ?_, ?_, ?_⟩, (fs.set (by decide)).set (by decide), (gt.set (by decide)).set (by decide)⟩
          · rw [mset_ne _ _ _ _ _ (by decide), mset_ne _ _ _ _ _ (by decide), mset_ne _ _ _ _ _ (by decide), mset_ne _ _ _ _ _ (by decide)]; exact h56
          · rw [mset_ne _ _ _ _ _ (by decide), mset_ne _ _ _ _ _ (by decide), mset_eq, mset_ne _ _ _ _ _ (by decide)]; omega
          · rw [mset_ne _ _ _ _ _ (by decide), mset_eq, mset_ne (mset T 18 0 k2) _ _ _ _ (by decide), mset_eq]
            by_cases y : k = 1
            · exact Or.inr (Or.inl ⟨y, hk1 y⟩)
            · exact Or.inr (Or.inr (Or.inr (Or.inl ⟨by omega, by omega, hk2 y⟩)))
        have big : ∀ (z : Bool), True := fun _ => trivial
        unfold f_X3_isSign
        rw [gj_v, gj_v]
        have leaf := key x
        have bad := key 1 (Or.inl rfl) (-1) (fun _ => rfl) (fun q => absurd rfl q)
        rw [if_pos zz, if_neg o0]
        by_cases s1 : x = 40
        · rw [if_pos s1, if_pos s1, if_neg o0]; exact leaf (by omega) x (fun _ => by omega) (fun _ => rfl)
        · rw [if_neg s1, if_neg s1]
          by_cases s2 : x = 41
          · rw [if_pos s2, if_pos s2, if_neg o0]; exact leaf (by omega) x (fun _ => by omega) (fun _ => rfl)
          · rw [if_neg s2, if_neg s2]
            by_cases s3 : x = 59
            · rw [if_pos s3, if_pos s3, if_neg o0]; exact leaf (by omega) x (fun _ => by omega) (fun _ => rfl)
            · rw [if_neg s3, if_neg s3]
              by_cases s4 : x = 43
              · rw [if_pos s4, if_pos s4, if_neg o0]; exact leaf (by omega) x (fun _ => by omega) (fun _ => rfl)
              · rw [if_neg s4, if_neg s4]
                by_cases s5 : x = 45
                · rw [if_pos s5, if_pos s5, if_neg o0]; exact leaf (by omega) x (fun _ => by omega) (fun _ => rfl)
                · rw [if_neg s5, if_neg s5]
                  by_cases s6 : x = 42
                  · rw [if_pos s6, if_pos s6, if_neg o0]; exact leaf (by omega) x (fun _ => by omega) (fun _ => rfl)
                  · rw [if_neg s6, if_neg s6]
                    by_cases s7 : x = 60
                    · rw [if_pos s7, if_pos s7, if_neg o0]; exact leaf (by omega) x (fun _ => by omega) (fun _ => rfl)
                    · rw [if_neg s7, if_neg s7]
                      by_cases s8 : x = 61
                      · rw [if_pos s8, if_pos s8, if_neg o0]; exact leaf (by omega) x (fun _ => by omega) (fun _ => rfl)
                      · rw [if_neg s8, if_neg s8, if_pos zz]; exact bad
  · rw [if_neg c, if_pos (show T 16 0 = T 4 0 by omega), gl_v]
    have f3 : fr [55] S (mset S 55 0 0) := (fr.rf _ _).set (by decide)
    refine ⟨_, T, rfl, rfl, ⟨TPR_fr P2 (frK f3 (by decide)) (fun _ _ => rfl), ?_, ?_, ?_⟩, fs.call (by decide) f3, gt⟩
    · rw [f3 56 (by decide)]; exact h56
    · omega
    · rw [mset_eq, T18]; exact Or.inl ⟨rfl, rfl⟩
