/-! reading an E: the reference's loop body, what is put out, what is held -/
def eB (n24 : Nat) (v21 v22 : Int) (s27 : gMem) : gRes := (if v21 = 0 then (if (s27 18 0) = 59 then gb (f_X9_unwinds 1 s27) (fun r43 s44 => (if (s44 22 0) = 0 then (1, s44) else (0, s44))) else (if (s27 18 0) = 41 then gb (f_X9_unwinds 1 s27) (fun r63 s64 => (if (s64 22 0) = 0 then (0, s64) else gl (mset s64 22 0 ((s64 22 0) - 1)) (fun s81 => gl (mset s81 23 0 ((s81 23 0) - 1)) (fun s92 => gb (f_X9_unwinds 7 s92) (fun r103 s104 => (t_X9_eRead_14 n24 v21 v22 s104)))))) else (if (f_X9_signOf  s27) = (-1) then (0, s27) else gb (f_X9_between (f_X9_signOf  s27) s27) (fun r122 s123 => (if r122 = 0 then (0, s123) else (gl ((if 12 < (f_X9_signOf  s27) then 0 else 1)) (fun v139 => (t_X9_eRead_14 n24 1 v139 s123)))))))) else (gj (fun j145c => (if (s27 18 0) = 1 then j145c else (if (s27 18 0) = 2 then j145c else (gj (fun j191c => (if (s27 18 0) = 6 then (if v22 = 0 then j191c else gb (f_X9_opensOne 13 s27) (fun r226 s227 => (if r226 = 0 then (0, s227) else (t_X9_eRead_14 n24 v21 v22 s227)))) else j191c)) ((if (s27 18 0) = 45 then gb (f_X9_opensOne 19 s27) (fun r195 s196 => (if r195 = 0 then (0, s196) else (t_X9_eRead_14 n24 v21 0 s196))) else (if (s27 18 0) = 40 then gb (f_X9_opensOne 0 s27) (fun r211 s212 => (if r211 = 0 then (0, s212) else (t_X9_eRead_14 n24 v21 1 s212))) else (0, s27)))))))) ((gl ((if (s27 18 0) = 1 then (100000 + (s27 19 0)) else (s27 19 0))) (fun v149 => gb (f_X9_puts v149 s27) (fun r151 s152 => gb (f_X9_unwinds 7 s152) (fun r166 s167 => (t_X9_eRead_14 n24 0 v22 s167))))))))
theorem eB_s (n : Nat) (v w : Int) (t : gMem) : t_X9_eRead_14 (n + 1) v w t = gb (f_X9_next t) (fun _ T => eB n v w T) := rfl
def cnt (f : Int → Int) (h : Int) : Nat → Int
  | 0 => 0
  | n + 1 => cnt f h n + (if f (h + (n : Int)) = 13 then 1 else if f (h + (n : Int)) = 19 then 1 else 0)
theorem cnt_s (f : Int → Int) (h : Int) (n : Nat) : cnt f h (n + 1) = cnt f h n + (if f (h + (n : Int)) = 13 then 1 else if f (h + (n : Int)) = 19 then 1 else 0) := rfl
theorem cnt_cg {f g : Int → Int} {h : Int} : ∀ n : Nat, (∀ j, h ≤ j → j < h + (n : Int) → f j = g j) → cnt f h n = cnt g h n
  | 0, _ => rfl
  | n + 1, e => by
    rw [cnt_s, cnt_s, cnt_cg n (fun j j0 j1 => e j j0 (by omega)), e (h + (n : Int)) (by omega) (by omega)]
theorem cnt_l (f : Int → Int) (h : Int) : ∀ n : Nat, cnt f h (n + 1) = (if f h = 13 then 1 else if f h = 19 then 1 else 0) + cnt f (h + 1) n
  | 0 => by
    rw [cnt_s]
    have e : h + ((0 : Nat) : Int) = h := by omega
    rw [e]
    show (0 : Int) + _ = _ + 0
    omega
  | n + 1 => by
    rw [cnt_s, cnt_l f h n, cnt_s f (h + 1) n]
    have e : h + ((n + 1 : Nat) : Int) = h + 1 + (n : Int) := by omega
    rw [e]; omega
theorem cnt_19 {f : Int → Int} {h : Int} : ∀ n : Nat, (∀ j, h ≤ j → j < h + (n : Int) → f j = 19) → cnt f h n = (n : Int)
  | 0, _ => rfl
  | n + 1, e => by
    rw [cnt_s, cnt_19 n (fun j j0 j1 => e j j0 (by omega)), e (h + (n : Int)) (by omega) (by omega), if_neg (by decide), if_pos rfl]; omega
theorem unw_l (r h : Int) (h0 : 0 ≤ h) : ∀ (n m : Nat) (T : gMem), T 22 0 = h + (m : Int) → m < n → (∀ j, h ≤ j → j < h + (m : Int) → r ≤ f_X9_rank (T 21 j)) → (h = 0 ∨ f_X9_rank (T 21 (h - 1)) < r) → ∃ T', w_X9_unwinds_0 r n T = T' ∧ T' 22 0 = h ∧ T' 24 0 = T 24 0 + (m : Int) ∧ T' 23 0 = T 23 0 - cnt (T 21) h m ∧ fr [5, 22, 23, 24] T T' ∧ (∀ i, i < 200 * T 7 0 + T 24 0 → T' 5 i = T 5 i) ∧ ∀ j, h ≤ j → j < h + (m : Int) → T' 5 (200 * T 7 0 + T 24 0 + (h + (m : Int) - 1 - j)) = T 21 j := by
  intro n
  induction n with
  | zero => intro m T _ hm; omega
  | succ n ih =>
    intro m T e hm hr hst
    rw [w_X9_unwinds_0_s]
    cases m with
    | zero =>
      have e2 : T 22 0 = h := by omega
      rw [e2]
      have done : ∃ T', T = T' ∧ T' 22 0 = h ∧ T' 24 0 = T 24 0 + ((0 : Nat) : Int) ∧ T' 23 0 = T 23 0 - cnt (T 21) h 0 ∧ fr [5, 22, 23, 24] T T' ∧ (∀ i, i < 200 * T 7 0 + T 24 0 → T' 5 i = T 5 i) ∧ ∀ j, h ≤ j → j < h + ((0 : Nat) : Int) → T' 5 (200 * T 7 0 + T 24 0 + (h + ((0 : Nat) : Int) - 1 - j)) = T 21 j := ⟨T, rfl, e2, by omega, by show _ = _ - (0 : Int); omega, fr.rf _ _, fun _ _ => rfl, fun j j0 j1 => by omega⟩
      by_cases c : 0 < h
      · rw [if_pos c]
        rcases hst with z | z
        · omega
        · rw [if_pos z]; exact done
      · rw [if_neg c]; exact done
    | succ m =>
      have e2 : T 22 0 - 1 = h + (m : Int) := by omega
      have hr1 := hr (h + (m : Int)) (by omega) (by omega)
      rw [if_pos (by omega), e2, if_neg (by omega), gl_v, gj_v]
      obtain ⟨T1, hT1⟩ : ∃ T1, T1 = mset T 22 0 (h + (m : Int)) := ⟨_, rfl⟩
      rw [← hT1]
      have f1 : fr [22] T T1 := by rw [hT1]; exact (fr.rf _ _).set (by decide)
      have a22 : T1 22 0 = h + (m : Int) := by rw [hT1, mset_eq]
      rw [a22, f1 21 (by decide)]
      obtain ⟨x, hx⟩ : ∃ x, x = T 21 (h + (m : Int)) := ⟨_, rfl⟩
      rw [← hx]
      have key : ∀ c : Int, (c = if x = 13 then 1 else if x = 19 then 1 else 0) → ∃ T', gl (mset T1 23 0 ((T1 23 0) - c)) (fun s21 => gb (f_X9_puts x s21) (fun r27 s28 => (w_X9_unwinds_0 r n s28))) = T' ∧ T' 22 0 = h ∧ T' 24 0 = T 24 0 + ((m + 1 : Nat) : Int) ∧ T' 23 0 = T 23 0 - cnt (T 21) h (m + 1) ∧ fr [5, 22, 23, 24] T T' ∧ (∀ i, i < 200 * T 7 0 + T 24 0 → T' 5 i = T 5 i) ∧ ∀ j, h ≤ j → j < h + ((m + 1 : Nat) : Int) → T' 5 (200 * T 7 0 + T 24 0 + (h + ((m + 1 : Nat) : Int) - 1 - j)) = T 21 j := fun c hc => by
        obtain ⟨T2, hT2⟩ : ∃ T2, T2 = mset T1 23 0 ((T1 23 0) - c) := ⟨_, rfl⟩
        rw [gl_v, ← hT2]
        have f2 : fr [23] T1 T2 := by rw [hT2]; exact (fr.rf _ _).set (by decide)
        obtain ⟨T3, hT3⟩ : ∃ T3, T3 = mset (mset T2 5 ((200 * (T2 7 0)) + (T2 24 0)) x) 24 0 (T2 24 0 + 1) := ⟨_, rfl⟩
        have e3 : f_X9_puts x T2 = (0, T3) := by
          unfold f_X9_puts
          rw [gl_v, gl_v, hT3, mset_ne _ _ _ _ _ (by decide)]
        rw [gb_eq e3]
        have f3 : fr [5, 24] T2 T3 := by rw [hT3]; exact ((fr.rf _ _).set (by decide)).set (by decide)
        have b7 : T2 7 0 = T 7 0 := by rw [f2 7 (by decide), f1 7 (by decide)]
        have b24 : T2 24 0 = T 24 0 := by rw [f2 24 (by decide), f1 24 (by decide)]
        have b5 : T2 5 = T 5 := by rw [f2 5 (by decide), f1 5 (by decide)]
        have c7 : T3 7 0 = T 7 0 := by rw [f3 7 (by decide), b7]
        have c24 : T3 24 0 = T 24 0 + 1 := by rw [hT3, mset_eq, b24]
        have c21 : T3 21 = T 21 := by rw [f3 21 (by decide), f2 21 (by decide), f1 21 (by decide)]
        have c22 : T3 22 0 = h + (m : Int) := by rw [f3 22 (by decide), f2 22 (by decide), a22]
        have c23 : T3 23 0 = T 23 0 - c := by rw [f3 23 (by decide), hT2, mset_eq, f1 23 (by decide)]
        have c5 : ∀ i, T3 5 i = if i = 200 * T 7 0 + T 24 0 then x else T 5 i := fun i => by rw [hT3, mset_ne _ _ _ _ _ (by decide), mset_at, b7, b24, b5]
        obtain ⟨T', q1, q2, q3, q4, q5, q6, q7⟩ := ih m T3 c22 (by omega) (fun j j0 j1 => by rw [c21]; exact hr j j0 (by omega)) (by rw [c21]; exact hst)
        rw [c7, c24] at q6 q7
        refine ⟨T', q1, q2, by rw [q3, c24]; omega, ?_, ?_, fun i hi => ?_, fun j j0 j1 => ?_⟩
        · rw [q4, c23, c21, cnt_s, ← hx, ← hc]; omega
        · exact (((f1.mono (by decide)).call (by decide) f2).call (by decide) f3).call (by decide) q5
        · rw [q6 i (by omega), c5, if_neg (by omega)]
        · by_cases z : j = h + (m : Int)
          · have e5 : 200 * T 7 0 + T 24 0 + (h + ((m + 1 : Nat) : Int) - 1 - j) = 200 * T 7 0 + T 24 0 := by omega
            rw [e5, q6 _ (by omega), c5, if_pos rfl, hx, z]
          · have e5 : 200 * T 7 0 + T 24 0 + (h + ((m + 1 : Nat) : Int) - 1 - j) = 200 * T 7 0 + (T 24 0 + 1) + (h + (m : Int) - 1 - j) := by omega
            rw [e5, q7 j j0 (by omega), c21]
      by_cases c13 : x = 13
      · rw [if_pos c13]; exact key 1 (by rw [if_pos c13])
      · rw [if_neg c13]
        by_cases c19 : x = 19
        · rw [if_pos c19]; exact key 1 (by rw [if_neg c13, if_pos c19])
        · rw [if_neg c19]; exact key 0 (by rw [if_neg c13, if_neg c19])
def IV (T : gMem) : Prop := IW T ∧ (∀ i, in32 (T 3 i)) ∧ ∀ i, in32 (T 20 i)
theorem IV_fr {T T' : gMem} (h : IV T) (ht : ∀ k ∈ [3, 20], T' k = T k) : IV T' := by
  unfold IV IW at *
  rw [ht 3 (by decide), ht 20 (by decide)]
  exact h
def COD (s T : gMem) (h : Int) : Prop := s 53 0 = T 24 0 + (T 22 0 - h) ∧ (∀ i, 0 ≤ i → i < T 24 0 → s 34 i = mcd (T 5 (200 * T 7 0 + i))) ∧ ∀ j, h ≤ j → j < T 22 0 → s 34 (T 24 0 + (T 22 0 - 1 - j)) = mcd (T 21 j)
def CR (s T : gMem) (h d : Int) : Prop := COD s T h ∧ s 58 0 < 0 ∧ (0 ≤ h ∧ h ≤ T 22 0 ∧ 0 ≤ T 24 0) ∧ T 23 0 = d + cnt (T 21) h (T 22 0 - h).toNat ∧ IV T
theorem CR_fr {s s' T T' : gMem} {h d : Int} (c : CR s T h d) (hs : ∀ k ∈ [34, 53, 58], s' k = s k) (ht : ∀ k ∈ [3, 5, 7, 20, 21, 22, 23, 24], T' k = T k) : CR s' T' h d := by
  unfold CR COD IV IW at *
  rw [hs 34 (by decide), hs 53 (by decide), hs 58 (by decide), ht 3 (by decide), ht 5 (by decide), ht 7 (by decide), ht 20 (by decide), ht 21 (by decide), ht 22 (by decide), ht 23 (by decide), ht 24 (by decide)]
  exact c
theorem CR_unw {s T : gMem} {h d r : Int} (c : CR s T h d) (hb : T 22 0 ≤ 200) (hr : ∀ j, h ≤ j → j < T 22 0 → r ≤ f_X9_rank (T 21 j)) (st : h = 0 ∨ f_X9_rank (T 21 (h - 1)) < r) : ∃ T', f_X9_unwinds r T = (0, T') ∧ CR s T' h d ∧ T' 22 0 = h ∧ T' 24 0 + h = T 24 0 + T 22 0 ∧ fr [5, 22, 23, 24] T T' := by
  obtain ⟨⟨c1, c2, c3⟩, c4, c5, c6, c7⟩ := c
  have hm : T 22 0 = h + ((T 22 0 - h).toNat : Int) := by omega
  obtain ⟨T', q1, q2, q3, q4, q5, q6, q7⟩ := unw_l r h c5.1 201 (T 22 0 - h).toNat T hm (by omega) (fun j j0 j1 => hr j j0 (by omega)) st
  have e7 : T' 7 0 = T 7 0 := by rw [q5 7 (by decide)]
  have e : f_X9_unwinds r T = (0, T') := by unfold f_X9_unwinds; rw [q1, gl_v]
  refine ⟨T', e, ⟨⟨by omega, fun i i0 i1 => ?_, fun j j0 j1 => by omega⟩, c4, by omega, ?_, IV_fr c7 (frK q5 (by decide))⟩, q2, by omega, q5⟩
  · rw [e7]
    by_cases z : i < T 24 0
    · rw [q6 _ (by omega)]; exact c2 i i0 z
    · have e5 : 200 * T 7 0 + i = 200 * T 7 0 + T 24 0 + (h + ((T 22 0 - h).toNat : Int) - 1 - (T 22 0 - 1 - (i - T 24 0))) := by omega
      rw [e5, q7 _ (by omega) (by omega), ← c3 _ (by omega) (by omega)]
      congr 1
      omega
  · rw [q4, c6, q2]
    have z : (h - h).toNat = 0 := by omega
    rw [z]
    show _ = d + (0 : Int)
    omega
theorem TOK_fr {s s' T T' : gMem} (h : TOK s T) (hs : ∀ k ∈ [33, 52, 54, 55, 56, 57], s' k = s k) (ht : ∀ k ∈ [3, 4, 16, 17, 18, 19], T' k = T k) : TOK s' T' := by
  unfold TOK at *
  obtain ⟨h0, h⟩ := h
  refine ⟨TPR_fr h0 (sbl hs (by decide)) (sbl ht (by decide)), ?_⟩
  rw [hs 55 (by decide), hs 56 (by decide), hs 57 (by decide), ht 16 (by decide), ht 17 (by decide), ht 18 (by decide), ht 19 (by decide)]
  exact h
def FU (n : Nat) (T : gMem) : Prop := T 18 0 = 0 ∨ T 4 0 - T 16 0 < (n : Int)
def ADV (T : gMem) : Prop := T 18 0 = 0 ∨ T 17 0 < T 16 0
/-- a memory with the tape and the words alone -/
def tpm (t : gMem) : gMem := fun k i => if k = 3 then t 3 i else if k = 4 then t 4 0 else if k = 16 then t 16 0 else if k = 20 then t 20 i else 0
theorem tpm_g {t : gMem} (h : IV t) (h4 : in32 (t 4 0)) (h16 : in32 (t 16 0)) : gMR lgM (tpm t) := fun k i => by
  have e : in32 (tpm t k i) := by
    unfold tpm
    by_cases c3 : k = 3
    · rw [if_pos c3]; exact h.2.1 i
    · rw [if_neg c3]
      by_cases c4 : k = 4
      · rw [if_pos c4]; exact h4
      · rw [if_neg c4]
        by_cases c16 : k = 16
        · rw [if_pos c16]; exact h16
        · rw [if_neg c16]
          by_cases c20 : k = 20
          · rw [if_pos c20]; exact h.2.2 i
          · rw [if_neg c20]; exact ⟨by decide, by decide⟩
  exact ⟨fun _ => e, fun _ => ⟨Int.le_trans (by decide) e.1, Int.le_trans e.2 (by decide)⟩⟩
/-- the next token, both -/
theorem nx0 {s t : gMem} (h : TPR s t) (hI : IV t) : ∃ s' t', f_X3_next s = (0, s') ∧ f_X9_next t = (0, t') ∧ TOK s' t' ∧ fr [54, 55, 56, 57] s s' ∧ fr [16, 17, 18, 19] t t' ∧ ADV t' ∧ t 16 0 ≤ t' 17 0 := by
  obtain ⟨s', t', q1, q2, q3, q4, q5⟩ := next_two h hI.1
  have p := h.2.2.1
  have hP : TPR s (tpm t) := h
  have hW : IW (tpm t) := hI.1
  obtain ⟨s2, t2, r1, r2, r3, r4, r5⟩ := next_two hP hW
  have es : s2 = s' := (Prod.mk.inj (r1.symm.trans q1)).2
  rw [es] at r3
  have b4 : tpm t 4 0 = t 4 0 := rfl
  have b16 : tpm t 16 0 = t 16 0 := rfl
  obtain ⟨-, -, -, w4, w5, -, -⟩ := f_X9_next_p (tpm t) (tpm_g hI ⟨by omega, by omega⟩ ⟨by omega, by omega⟩) (by omega) (by omega) 0 t2 r2
  obtain ⟨x1, x2, x3, x4⟩ := q3
  obtain ⟨y1, y2, y3, y4⟩ := r3
  have z1 := x1.1
  have z2 := y1.1
  refine ⟨s', t', q1, q2, ⟨x1, x2, x3, x4⟩, q4, q5, ?_, by omega⟩
  unfold ADV
  omega
theorem nx {s t : gMem} (h : TPR s t) (hI : IV t) {n : Nat} (hn : t 4 0 - t 16 0 < (n : Int)) : ∃ (m : Nat) (s' t' : gMem), f_X3_next s = (0, s') ∧ (∀ v w, t_X9_eRead_14 n v w t = eB m v w t') ∧ TOK s' t' ∧ fr [54, 55, 56, 57] s s' ∧ fr [16, 17, 18, 19] t t' ∧ FU m t' ∧ ADV t' ∧ t 16 0 ≤ t' 17 0 := by
  obtain ⟨s', t', q1, q2, q3, q4, q5, q6, q7⟩ := nx0 h hI
  have p := h.2.2.1
  cases n with
  | zero => omega
  | succ m =>
    refine ⟨m, s', t', q1, fun v w => by rw [eB_s, gb_eq q2], q3, q4, q5, ?_, q6, q7⟩
    rcases q6 with z | z
    · exact Or.inl z
    · refine Or.inr ?_
      have u := q3.2.2.1
      rw [q5 4 (by decide)]; omega
