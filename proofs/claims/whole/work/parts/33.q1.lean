/-! the two memories, held against each other; what the texts say is the same on both sides -/
def mcd (c : Int) : Int := if 100000 ≤ c then c - 100000 else if c < 11 then -1 - c else if c = 11 then -7 else if c = 12 then -8 else if c = 13 then -14 else if c = 14 then -9 else if c = 15 then -10 else if c = 16 then -11 else if c = 17 then -12 else if c = 18 then -13 else -15
theorem mcd_n {c : Int} (h : 0 ≤ c ∧ c ≤ 5) : mcd c = -1 - c := by
  unfold mcd
  rw [if_neg (by omega), if_pos (by omega)]
theorem mcd_k {c : Int} (h : 100000 ≤ c) : mcd c = c - 100000 := by
  unfold mcd
  rw [if_pos h]
def KXl : List Nat := [14, 15, 16, 17, 18, 19, 20, 21, 22, 23, 24, 25, 26, 27, 28, 29, 30, 31, 33, 40, 41, 45, 46, 50, 51, 52, 59, 60, 61, 62, 63, 75, 76, 77, 78, 79, 90, 91, 92, 93, 94, 95, 96, 97]
def KMl : List Nat := [0, 1, 2, 3, 4, 5, 6, 7, 8, 9, 10, 11, 12, 13, 14]
def RLtx (s t : gMem) : Prop := ∀ k : Nat, k < 6 → (k : Int) < t 7 0 → (∀ j : Int, 0 ≤ j → j ≤ 3 → s (26 + k) j = t 6 (4 * k + j)) ∧ ∀ i : Int, 0 ≤ i → i < t 6 (4 * k + 3) → s (19 + k) i = mcd (t 5 (200 * k + i))
def RLpl (s t : gMem) : Prop := ∀ p : Int, 0 ≤ p → p < 16 → s 40 p = t 0 p ∧ s 41 p = t 1 p
def RLto (s t : gMem) : Prop := s 59 0 = t 2 0 ∧ s 60 0 = t 2 1 ∧ s 61 0 = t 2 2 ∧ s 62 0 = t 2 3
def RLno (s t : gMem) : Prop := s 63 0 = t 8 0 ∧ s 51 0 = t 7 0
def RLtp (s t : gMem) : Prop := s 52 0 = t 4 0 ∧ ∀ i : Int, 0 ≤ i → i < t 4 0 → s 33 i = t 3 i
def RLim (s t : gMem) : Prop := s 50 0 = t 9 0 ∧ s 79 0 = t 10 0 ∧ (∀ p : Int, 0 ≤ p → p < 16 → s 45 p = t 11 p ∧ s 46 p = t 11 (16 + p)) ∧ s 75 0 = t 11 32 ∧ s 76 0 = t 11 33 ∧ s 77 0 = t 11 34 ∧ s 78 0 = t 11 35
def RLsh (s t : gMem) : Prop := ∀ k : Nat, k < 4 → s (90 + k) 0 = t 12 k ∧ s (94 + k) 0 = t 13 k ∧ ∀ i : Int, 0 ≤ i → i < 40 → s (14 + k) i = t 14 (40 * k + i)
def RLa (s t : gMem) : Prop := RLpl s t ∧ RLto s t ∧ RLno s t ∧ RLtp s t ∧ RLtx s t ∧ RLim s t ∧ RLsh s t
theorem RLpl_fr {s t s' t' : gMem} (h : RLpl s t) (hx : ∀ k ∈ [40, 41], s' k = s k) (hm : ∀ k ∈ [0, 1], t' k = t k) : RLpl s' t' := fun p p0 p1 => by
  rw [hx 40 (by decide), hx 41 (by decide), hm 0 (by decide), hm 1 (by decide)]; exact h p p0 p1
theorem RLto_fr {s t s' t' : gMem} (h : RLto s t) (hx : ∀ k ∈ [59, 60, 61, 62], s' k = s k) (hm : ∀ k ∈ [2], t' k = t k) : RLto s' t' := by
  unfold RLto
  rw [hx 59 (by decide), hx 60 (by decide), hx 61 (by decide), hx 62 (by decide), hm 2 (by decide)]; exact h
theorem RLno_fr {s t s' t' : gMem} (h : RLno s t) (hx : ∀ k ∈ [51, 63], s' k = s k) (hm : ∀ k ∈ [7, 8], t' k = t k) : RLno s' t' := by
  unfold RLno
  rw [hx 63 (by decide), hx 51 (by decide), hm 8 (by decide), hm 7 (by decide)]; exact h
theorem RLtp_fr {s t s' t' : gMem} (h : RLtp s t) (hx : ∀ k ∈ [33, 52], s' k = s k) (hm : ∀ k ∈ [3, 4], t' k = t k) : RLtp s' t' := by
  unfold RLtp
  rw [hx 33 (by decide), hx 52 (by decide), hm 3 (by decide), hm 4 (by decide)]; exact h
theorem RLtx_fr {s t s' t' : gMem} (h : RLtx s t) (hx : ∀ k ∈ [19, 20, 21, 22, 23, 24, 26, 27, 28, 29, 30, 31], s' k = s k) (hm : ∀ k ∈ [5, 6, 7], t' k = t k) : RLtx s' t' := fun k hk => by
  rw [hx (26 + k) (memb 26 6 hk (by decide)), hx (19 + k) (memb 19 6 hk (by decide)), hm 7 (by decide), hm 6 (by decide), hm 5 (by decide)]; exact h k hk
theorem RLim_fr {s t s' t' : gMem} (h : RLim s t) (hx : ∀ k ∈ [45, 46, 50, 75, 76, 77, 78, 79], s' k = s k) (hm : ∀ k ∈ [9, 10, 11], t' k = t k) : RLim s' t' := by
  unfold RLim
  rw [hx 45 (by decide), hx 46 (by decide), hx 50 (by decide), hx 75 (by decide), hx 76 (by decide), hx 77 (by decide), hx 78 (by decide), hx 79 (by decide), hm 9 (by decide), hm 10 (by decide), hm 11 (by decide)]; exact h
theorem RLsh_fr {s t s' t' : gMem} (h : RLsh s t) (hx : ∀ k ∈ [14, 15, 16, 17, 90, 91, 92, 93, 94, 95, 96, 97], s' k = s k) (hm : ∀ k ∈ [12, 13, 14], t' k = t k) : RLsh s' t' := fun k hk => by
  rw [hx (90 + k) (memb 90 4 hk (by decide)), hx (94 + k) (memb 94 4 hk (by decide)), hx (14 + k) (memb 14 4 hk (by decide)), hm 12 (by decide), hm 13 (by decide), hm 14 (by decide)]; exact h k hk
theorem sbl {L M : List Nat} {s s' : gMem} (h : ∀ k ∈ M, s' k = s k) (d : ∀ k ∈ L, k ∈ M) : ∀ k ∈ L, s' k = s k := fun k hk => h k (d k hk)
theorem RLa_fr {s t s' t' : gMem} (h : RLa s t) (hx : ∀ k ∈ KXl, s' k = s k) (hm : ∀ k ∈ KMl, t' k = t k) : RLa s' t' :=
  ⟨RLpl_fr h.1 (sbl hx (by decide)) (sbl hm (by decide)), RLto_fr h.2.1 (sbl hx (by decide)) (sbl hm (by decide)), RLno_fr h.2.2.1 (sbl hx (by decide)) (sbl hm (by decide)), RLtp_fr h.2.2.2.1 (sbl hx (by decide)) (sbl hm (by decide)), RLtx_fr h.2.2.2.2.1 (sbl hx (by decide)) (sbl hm (by decide)), RLim_fr h.2.2.2.2.2.1 (sbl hx (by decide)) (sbl hm (by decide)), RLsh_fr h.2.2.2.2.2.2 (sbl hx (by decide)) (sbl hm (by decide))⟩
theorem frK {W L : List Nat} {s s' : gMem} (h : fr W s s') (d : ∀ k ∈ L, k ∉ W) : ∀ k ∈ L, s' k = s k := fun k hk => h k (d k hk)
theorem ev_pile {s t : gMem} {v3 X Y w : Int} (h : ∀ j, 0 ≤ j → j < v3 → s 32 j = t 25 j) (hX : X = Y) (hw : w ≤ v3) : ∀ j, 0 ≤ j → j < w + 1 → mset s 32 w X 32 j = mset t 25 w Y 25 j := fun j j0 j1 => by
  rw [mset_at, mset_at]
  by_cases e : j = w
  · rw [if_pos e, if_pos e]; exact hX
  · rw [if_neg e, if_neg e]; exact h j j0 (by omega)
set_option maxHeartbeats 4000000 in
theorem ev_sim (s0 t0 : gMem) (k : Nat) (c1 c2 r e st b : Int) (hk : c1.toNat = k) (hr : t0 8 0 = r) (hend : s0 (26 + k) (c2 + 1) = e) (hendM : t0 6 (((4 * r) + c2) + 1) = e) (hb : b = 200 * r + st) (he : e ≤ 160) (hst : 0 ≤ st)
    (hc : ∀ i, st ≤ i → i < e → okc (t0 5 (200 * r + i)) ∧ s0 (19 + k) i = mcd (t0 5 (200 * r + i)) ∧ 1 ≤ dep (t0 5) b (i - st).toNat + cdep (t0 5 (200 * r + i)))
    (hk6 : k < 6) (hn : ∀ j, 0 ≤ j → j ≤ 5 → s0 36 j = t0 26 j) :
    ∀ (n n' : Nat) (v4 v3 : Int) (s t : gMem), fr [32] s0 s → fr [25] t0 t → st ≤ v4 → v4 ≤ e → e - v4 < n → e - v4 < n' → v3 = dep (t0 5) b (v4 - st).toNat → 0 ≤ v3 → v3 ≤ v4 - st → (v4 = e → 1 ≤ v3) → (∀ j, 0 ≤ j → j < v3 → s 32 j = t 25 j) → (t_X7_reckon_13 c1 c2 n v3 v4 s).1 = (w_X9_says_16 c2 n' v3 v4 t).2.2 25 0 := by
  intro n
  induction n with
  | zero => intro n' v4 v3 s t hs ht a1 a2 a3; exfalso; omega
  | succ n ih =>
    intro n' v4 v3 s t hs ht a1 a2 a3 a4 a5 a6 a7 a8 a9
    cases n' with
    | zero => exfalso; omega
    | succ n' =>
      have x26 : s (26 + k) = s0 (26 + k) := hs _ (by simp; omega)
      have x19 : s (19 + k) = s0 (19 + k) := hs _ (by simp; omega)
      have x36 : s 36 = s0 36 := hs _ (by decide)
      have m6 : t 6 = t0 6 := ht _ (by decide)
      have m5 : t 5 = t0 5 := ht _ (by decide)
      have m8 : t 8 = t0 8 := ht _ (by decide)
      have m26 : t 26 = t0 26 := ht _ (by decide)
      rw [t_X7_reckon_13_s, w_X9_says_16_s, hk, x26, x19, x36, m6, m5, m8, m26, hr, hend, hendM]
      by_cases hlt : v4 < e
      · rw [if_pos hlt, if_pos hlt]
        obtain ⟨o1, o2, o3⟩ := hc v4 a1 hlt
        have hd : dep (t0 5) b (v4 + 1 - st).toNat = v3 + cdep (t0 5 (200 * r + v4)) := by
          have h1 := dep_s (t0 5) b (j := v4 - st) (by omega)
          have e1 : v4 - st + 1 = v4 + 1 - st := by omega
          have e2 : b + (v4 - st) = 200 * r + v4 := by omega
          rw [e1, e2] at h1
          rw [h1, a5]
        rw [o2]
        rw [← a5] at o3
        generalize t0 5 (200 * r + v4) = cc at o1 o3 hd ⊢
        have hnx : v4 + 1 = e → 1 ≤ v3 + cdep cc := fun _ => by omega
        rcases o1 with o1 | o1 | o1
        · have hcd : cdep cc = 1 := by unfold cdep; rw [if_pos (by omega)]
          rw [hcd] at o3 hd hnx
          have e1 : v3 + 1 - 1 = v3 := by omega
          have e2 : (-1 : Int) - (-1 - cc) = cc := by omega
          rw [mcd_n o1]
          simp only [gl, gj]
          rw [if_pos (show (-7 : Int) < -1 - cc by omega), if_neg (show ¬ v3 + 1 < 1 by omega), if_pos (show v3 + 1 < 161 by omega), if_neg (show ¬ ((-1 : Int) - cc = -15) by omega), if_neg (show ¬ ((-1 : Int) - cc = -14) by omega), if_neg (show ¬ ((-1 : Int) - cc = -13) by omega), if_neg (show ¬ ((-1 : Int) - cc = -12) by omega), if_neg (show ¬ ((-1 : Int) - cc = -11) by omega), if_neg (show ¬ ((-1 : Int) - cc = -10) by omega), if_neg (show ¬ ((-1 : Int) - cc = -9) by omega), if_neg (show ¬ ((-1 : Int) - cc = -8) by omega), if_neg (show ¬ ((-1 : Int) - cc = -7) by omega), if_pos (show (-1 : Int) - cc < 0 by omega), e1, e2, if_pos (show cc < 100000 by omega), if_pos (show cc < 11 by omega), if_pos (show cc < 11 by omega)]
          exact ih n' (v4 + 1) (v3 + 1) _ _ (hs.set (by decide)) (ht.set (by decide)) (by omega) (by omega) (by omega) (by omega) hd.symm (by omega) (by omega) hnx (ev_pile a9 (hn cc o1.1 o1.2) (by omega))
        · have hq : cc = 11 ∨ cc = 12 ∨ cc = 13 ∨ cc = 14 ∨ cc = 15 ∨ cc = 16 ∨ cc = 17 ∨ cc = 18 ∨ cc = 19 := by omega
          have un : cdep cc = 0 → 1 ≤ v3 := fun q => by omega
          have bi : cdep cc = -1 → 2 ≤ v3 := fun q => by omega
          have fin : ∀ X Y : Int, cdep cc = 0 → X = Y → (t_X7_reckon_13 c1 c2 n v3 (v4 + 1) (mset s 32 (v3 - 1) X)).1 = (w_X9_says_16 c2 n' v3 (v4 + 1) (mset t 25 (v3 - 1) Y)).2.2 25 0 := fun X Y q hXY => by
            rw [q] at hd hnx
            have hv := un q
            refine ih n' (v4 + 1) v3 _ _ (hs.set (by decide)) (ht.set (by decide)) (by omega) (by omega) (by omega) (by omega) (by omega) (by omega) (by omega) (by omega) (fun j j0 j1 => ev_pile a9 hXY (by omega) j j0 (by omega))
          have fin2 : ∀ X Y : Int, cdep cc = -1 → X = Y → (t_X7_reckon_13 c1 c2 n (v3 + -1) (v4 + 1) (mset s 32 (v3 + -1 - 1) X)).1 = (w_X9_says_16 c2 n' (v3 + -1) (v4 + 1) (mset t 25 (v3 + -1 - 1) Y)).2.2 25 0 := fun X Y q hXY => by
            rw [q] at hd hnx
            have hv := bi q
            refine ih n' (v4 + 1) (v3 + -1) _ _ (hs.set (by decide)) (ht.set (by decide)) (by omega) (by omega) (by omega) (by omega) (by omega) (by omega) (by omega) (by omega) (fun j j0 j1 => ev_pile a9 hXY (by omega) j j0 (by omega))
          have n1 : 1 ≤ v3 → ¬ v3 < 1 := fun q => by omega
          have n2 : v3 < 161 := by omega
          have n3 : 2 ≤ v3 → ¬ v3 + -1 < 1 := fun q => by omega
          have n4 : v3 + -1 < 161 := by omega
          have ha : 2 ≤ v3 → s 32 (v3 + -1 - 1) = t 25 (v3 + -1 - 1) := fun q => a9 _ (by omega) (by omega)
          have hbb : 2 ≤ v3 → s 32 (v3 + -1) = t 25 (v3 + -1) := fun q => a9 _ (by omega) (by omega)
          have hu : 1 ≤ v3 → s 32 (v3 - 1) = t 25 (v3 - 1) := fun q => a9 _ (by omega) (by omega)
          clear hd hnx o3 a5
          rcases hq with rfl | rfl | rfl | rfl | rfl | rfl | rfl | rfl | rfl
          · have c0 : cdep 11 = -1 := by decide
            have hv := bi c0
            have e0 : mcd 11 = -7 := by decide
            simp only [e0, gl, gj, f_X9_two, Int.reduceLT, Int.reduceEq, Int.reduceNeg, reduceIte, if_neg (n3 hv), if_pos n4, ha hv, hbb hv]
            exact fin2 _ _ c0 rfl
          · have c0 : cdep 12 = -1 := by decide
            have hv := bi c0
            have e0 : mcd 12 = -8 := by decide
            simp only [e0, gl, gj, f_X9_two, Int.reduceLT, Int.reduceEq, Int.reduceNeg, reduceIte, if_neg (n3 hv), if_pos n4, ha hv, hbb hv]
            exact fin2 _ _ c0 rfl
          · have c0 : cdep 13 = 0 := by decide
            have hv := un c0
            have e0 : mcd 13 = -14 := by decide
            simp only [e0, gl, gj, f_X9_two, Int.reduceLT, Int.reduceEq, Int.reduceNeg, reduceIte, if_neg (n1 hv), if_pos n2, hu hv]
            exact fin _ _ c0 rfl
          · have c0 : cdep 14 = -1 := by decide
            have hv := bi c0
            have e0 : mcd 14 = -9 := by decide
            simp only [e0, gl, gj, f_X9_two, Int.reduceLT, Int.reduceEq, Int.reduceNeg, reduceIte, if_neg (n3 hv), if_pos n4, ha hv, hbb hv]
            exact fin2 _ _ c0 rfl
          · have c0 : cdep 15 = -1 := by decide
            have hv := bi c0
            have e0 : mcd 15 = -10 := by decide
            simp only [e0, gl, gj, f_X9_two, Int.reduceLT, Int.reduceEq, Int.reduceNeg, reduceIte, if_neg (n3 hv), if_pos n4, ha hv, hbb hv]
            exact fin2 _ _ c0 rfl
          · have c0 : cdep 16 = -1 := by decide
            have hv := bi c0
            have e0 : mcd 16 = -11 := by decide
            simp only [e0, gl, gj, f_X9_two, Int.reduceLT, Int.reduceEq, Int.reduceNeg, reduceIte, if_neg (n3 hv), if_pos n4, ha hv, hbb hv]
            exact fin2 _ _ c0 rfl
          · have c0 : cdep 17 = -1 := by decide
            have hv := bi c0
            have e0 : mcd 17 = -12 := by decide
            simp only [e0, gl, gj, f_X9_two, Int.reduceLT, Int.reduceEq, Int.reduceNeg, reduceIte, if_neg (n3 hv), if_pos n4, ha hv, hbb hv]
            exact fin2 _ _ c0 rfl
          · have c0 : cdep 18 = -1 := by decide
            have hv := bi c0
            have e0 : mcd 18 = -13 := by decide
            simp only [e0, gl, gj, f_X9_two, Int.reduceLT, Int.reduceEq, Int.reduceNeg, reduceIte, if_neg (n3 hv), if_pos n4, ha hv, hbb hv]
            exact fin2 _ _ c0 rfl
          · have c0 : cdep 19 = 0 := by decide
            have hv := un c0
            have e0 : mcd 19 = -15 := by decide
            simp only [e0, gl, gj, f_X9_two, Int.reduceLT, Int.reduceEq, Int.reduceNeg, reduceIte, if_neg (n1 hv), if_pos n2, hu hv]
            exact fin _ _ c0 rfl
        · have hcd : cdep cc = 1 := by unfold cdep; rw [if_pos (by omega)]
          rw [hcd] at o3 hd hnx
          have e1 : v3 + 1 - 1 = v3 := by omega
          rw [mcd_k o1.1]
          simp only [gl, gj]
          rw [if_pos (show (-7 : Int) < cc - 100000 by omega), if_neg (show ¬ v3 + 1 < 1 by omega), if_pos (show v3 + 1 < 161 by omega), if_neg (show ¬ (cc - 100000 = -15) by omega), if_neg (show ¬ (cc - 100000 = -14) by omega), if_neg (show ¬ (cc - 100000 = -13) by omega), if_neg (show ¬ (cc - 100000 = -12) by omega), if_neg (show ¬ (cc - 100000 = -11) by omega), if_neg (show ¬ (cc - 100000 = -10) by omega), if_neg (show ¬ (cc - 100000 = -9) by omega), if_neg (show ¬ (cc - 100000 = -8) by omega), if_neg (show ¬ (cc - 100000 = -7) by omega), if_neg (show ¬ (cc - 100000 < 0) by omega), e1, if_neg (show ¬ cc < 100000 by omega), if_neg (show ¬ cc < 11 by omega)]
          exact ih n' (v4 + 1) (v3 + 1) _ _ (hs.set (by decide)) (ht.set (by decide)) (by omega) (by omega) (by omega) (by omega) hd.symm (by omega) (by omega) hnx (ev_pile a9 rfl (by omega))
      · rw [if_neg hlt, if_neg hlt]
        exact a9 0 (by omega) (by have := a8 (by omega); omega)
