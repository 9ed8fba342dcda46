/-! the mean of a stretch, of a closing -/
theorem cap_most (x : Int) : f_X2_capped x = f_X9_most x := rfl
theorem most_c (x : Int) : (1000000000000 < x ∧ f_X9_most x = 1000000000000) ∨ (x ≤ 1000000000000 ∧ f_X9_most x = x) := by
  unfold f_X9_most
  by_cases h : 1000000000000 < x
  · rw [if_pos h]; exact Or.inl ⟨h, rfl⟩
  · rw [if_neg h]; exact Or.inr ⟨by omega, rfl⟩
def sml (t0 : gMem) (w f l : Int) : Nat → Int → Int → Int
  | 0, _, v => v
  | n + 1, i, v => if l - f < i then v else sml t0 w f l n (i + 1) (f_X9_most (((v + (1000 * TA t0 (up w f l i))) * 100) / (100 - FA t0 (up w f l i) i)))
def smv (t0 : gMem) (w f l : Int) : Int := sml t0 w f l 17 0 0
def clv (t0 : gMem) (p x b : Int) : Int := f_X9_most ((((1000 * (TA t0 p + CA t0 p b)) * 100) + (x * FA t0 p b)) / (100 - FA t0 p b))
theorem sml_rg {t0 : gMem} (h : IM t0) {w f l : Int} (h0 : 0 ≤ f) (h1 : l ≤ 15) : ∀ (n : Nat) (i v : Int), 0 ≤ i → 0 ≤ v → v ≤ 1000000000000 → 0 ≤ sml t0 w f l n i v ∧ sml t0 w f l n i v ≤ 1000000000000 := by
  intro n
  induction n with
  | zero => intro i v _ a b; exact ⟨a, b⟩
  | succ n ih =>
    intro i v i0 a b
    unfold sml
    by_cases c : l - f < i
    · rw [if_pos c]; exact ⟨a, b⟩
    · rw [if_neg c]
      have hu := up_rg (w := w) (f := f) (l := l) i0 (by omega)
      have hF := FA_rg h (p := up w f l i) (b := i) (by omega) (by omega)
      have hT := TA_rg h (p := up w f l i) (by omega)
      have hd : 0 ≤ ((v + (1000 * TA t0 (up w f l i))) * 100) / (100 - FA t0 (up w f l i) i) := Int.ediv_nonneg (by omega) (by omega)
      have hm := most_c (((v + (1000 * TA t0 (up w f l i))) * 100) / (100 - FA t0 (up w f l i) i))
      exact ih (i + 1) _ (by omega) (by omega) (by omega)
theorem smv_rg {t0 : gMem} (h : IM t0) {w f l : Int} (h0 : 0 ≤ f) (h1 : l ≤ 15) : 0 ≤ smv t0 w f l ∧ smv t0 w f l ≤ 1000000000000 := sml_rg h h0 h1 17 0 0 (by omega) (by omega) (by omega)
theorem clv_rg {t0 : gMem} (h : IM t0) {p x b : Int} (hp : 0 ≤ p ∧ p ≤ 15) (hb : 0 ≤ b ∧ b ≤ 16) (hx : 0 ≤ x) : 0 ≤ clv t0 p x b ∧ clv t0 p x b ≤ 1000000000000 := by
  have hF := FA_rg h hp hb
  have hT := TA_rg h hp
  have hC := CA_rg h hp hb
  have hq : 0 ≤ x * FA t0 p b := Int.mul_nonneg hx hF.1
  have hd : 0 ≤ (((1000 * (TA t0 p + CA t0 p b)) * 100) + (x * FA t0 p b)) / (100 - FA t0 p b) := Int.ediv_nonneg (by omega) (by omega)
  have hm := most_c ((((1000 * (TA t0 p + CA t0 p b)) * 100) + (x * FA t0 p b)) / (100 - FA t0 p b))
  unfold clv
  omega
theorem X_sml {t0 : gMem} {w f l : Int} (c : Int) (h0 : 0 ≤ f) (h1 : l ≤ 15) : ∀ (n : Nat) (i v : Int) (s : gMem), XT s t0 → s 64 0 = w → 0 ≤ i → ∃ (i' : Int) (s' : gMem), w_X2_stretchMean_31 f l c n v i s = (sml t0 w f l n i v, i', s') ∧ fr [32, 36, 37, 39] s s' ∧ XT s' t0 := by
  intro n
  induction n with
  | zero => intro i v s hX _ _; exact ⟨i, s, rfl, fr.rf _ _, hX⟩
  | succ n ih =>
    intro i v s hX hw i0
    rw [w_X2_stretchMean_31_s]
    unfold sml
    by_cases q : l - f < i
    · rw [if_pos q, if_pos q]; exact ⟨i, s, rfl, fr.rf _ _, hX⟩
    · rw [if_neg q, if_neg q]
      have hu := up_rg (w := w) (f := f) (l := l) i0 (by omega)
      have eu : f_X2_upAfter f l i s = up w f l i := by rw [← hw]; rfl
      rw [eu]
      obtain ⟨s1, e1, f1, X1⟩ := X_takes hX (p := up w f l i) (by omega)
      obtain ⟨s2, e2, f2, X2⟩ := X_falls X1 (p := up w f l i) (b := i) (by omega) (by omega)
      rw [e1]
      simp only [gb]
      rw [e2]
      simp only [gl]
      rw [cap_most]
      obtain ⟨i', s', e3, f3, X3⟩ := ih (i + 1) (f_X9_most (((v + (1000 * TA t0 (up w f l i))) * 100) / (100 - FA t0 (up w f l i) i))) s2 X2 (by rw [f2 64 (by decide), f1 64 (by decide)]; exact hw) (by omega)
      exact ⟨i', s', e3, ((f1.mono (by decide)).call (by decide) f2).call (fun _ hk => hk) f3, X3⟩
def CFm (s t0 : gMem) (w : Int) : Prop := ∀ f l : Int, 0 ≤ f → f ≤ l → l ≤ 15 → s 42 (f * 16 + l) < 0 ∨ s 42 (f * 16 + l) = smv t0 w f l
def XM (s t0 : gMem) (w : Int) : Prop := XT s t0 ∧ KM s ∧ WY s ∧ s 64 0 = w ∧ CFm s t0 w
theorem X_smean {s t0 : gMem} {w f l : Int} (h : XM s t0 w) (h0 : 0 ≤ f) (h1 : f ≤ l) (h2 : l ≤ 15) : ∃ s', f_X2_stretchMean f l s = (smv t0 w f l, s') ∧ fr [32, 36, 37, 39, 42] s s' ∧ XM s' t0 w := by
  obtain ⟨hX, hK, hY, hw, hC⟩ := h
  obtain ⟨hR, ⟨i1, i2, i3, i4, i5, i6, i7, i8, i9, i10, i11, i12, i13⟩, hM, c1, c2, c3⟩ := id hX
  have hq := f_X2_stretchMean_p f l s (by omega) (by omega) i1 i2 i3 i4 i6 i11 i12 i13 hK hY (by omega) (by omega) (f_X2_stretchMean f l s).1 (f_X2_stretchMean f l s).2 rfl
  have hv : (f_X2_stretchMean f l s).1 = smv t0 w f l ∧ CFf (f_X2_stretchMean f l s).2 t0 ∧ CFc (f_X2_stretchMean f l s).2 t0 ∧ CFt (f_X2_stretchMean f l s).2 t0 ∧ CFm (f_X2_stretchMean f l s).2 t0 w := by
    unfold f_X2_stretchMean
    rw [if_neg (by omega)]
    simp only [gj, gl, gl3]
    by_cases hz : s 42 (f * 16 + l) < 0
    · rw [if_pos hz]
      obtain ⟨i', s1, e1, f1, X1⟩ := X_sml (f * 16 + l) h0 h2 17 0 0 s hX hw (by omega)
      rw [e1]
      show (mset s1 42 (f * 16 + l) (smv t0 w f l)) 42 (f * 16 + l) = smv t0 w f l ∧ CFf (mset s1 42 (f * 16 + l) (smv t0 w f l)) t0 ∧ CFc (mset s1 42 (f * 16 + l) (smv t0 w f l)) t0 ∧ CFt (mset s1 42 (f * 16 + l) (smv t0 w f l)) t0 ∧ CFm (mset s1 42 (f * 16 + l) (smv t0 w f l)) t0 w
      refine ⟨mset_eq _ _ _ _, CFf_fr X1.2.2.2.1 (mset_nf (show (37 : Nat) ≠ 42 by decide)), CFc_fr X1.2.2.2.2.1 (mset_nf (show (38 : Nat) ≠ 42 by decide)), CFt_fr X1.2.2.2.2.2 (mset_nf (show (39 : Nat) ≠ 42 by decide)), fun f' l' a0 a1 a2 => ?_⟩
      rw [mset_at]
      by_cases e : f' * 16 + l' = f * 16 + l
      · rw [if_pos e]
        have e1 : f' = f := by omega
        have e2 : l' = l := by omega
        rw [e1, e2]
        exact Or.inr rfl
      · rw [if_neg e, f1 42 (by decide)]
        exact hC f' l' a0 a1 a2
    · rw [if_neg hz]
      exact ⟨(hC f l h0 h1 h2).resolve_left hz, c1, c2, c3, hC⟩
  refine ⟨(f_X2_stretchMean f l s).2, by rw [← hv.1], hq.1, XT_fr hX hq.1 (by decide) hq.2.1 hq.2.2.2.2.1 hq.2.2.2.2.2.1 hq.2.2.2.2.2.2.1 hv.2.1 hv.2.2.1 hv.2.2.2.1, hq.2.2.2.1, WY_fr hY (frK hq.1 (by decide)), by rw [hq.1 64 (by decide)]; exact hw, hv.2.2.2.2⟩
theorem X_smean0 {f l : Int} (s : gMem) (h : l < f) : f_X2_stretchMean f l s = (0, s) := by
  unfold f_X2_stretchMean
  rw [if_pos h]
theorem CFm_fr {s s' t0 : gMem} {w : Int} (h : CFm s t0 w) (e : s' 42 = s 42) : CFm s' t0 w := fun f l a b c => by rw [e]; exact h f l a b c
theorem XM_fr {s s' t0 : gMem} {w : Int} {W : List Nat} (h : XM s t0 w) (hX : XT s' t0) (hf : fr W s s') (d : ∀ k ∈ [42, 64], k ∉ W) : XM s' t0 w :=
  ⟨hX, KM_fr h.2.1 (sbl (frK hf d) (by decide)), WY_fr h.2.2.1 (sbl (frK hf d) (by decide)), by rw [frK hf d 64 (by decide)]; exact h.2.2.2.1, CFm_fr h.2.2.2.2 (frK hf d 42 (by decide))⟩
theorem X_closing {s t0 : gMem} {w p x b : Int} (h : XM s t0 w) (hp : 0 ≤ p ∧ p ≤ 15) (hb : 0 ≤ b ∧ b ≤ 16) : ∃ s', f_X2_closing p x b s = (clv t0 p x b, s') ∧ fr [32, 36, 37, 38, 39] s s' ∧ XM s' t0 w := by
  obtain ⟨s1, e1, f1, X1⟩ := X_falls h.1 hp hb
  obtain ⟨s2, e2, f2, X2⟩ := X_takes X1 hp
  obtain ⟨s3, e3, f3, X3⟩ := X_closes X2 hp hb
  unfold f_X2_closing
  rw [e1]
  simp only [gb]
  rw [e2]
  simp only
  rw [e3]
  simp only [gl]
  have hf : fr [32, 36, 37, 38, 39] s s3 := ((f1.mono (by decide)).call (by decide) f2).call (by decide) f3
  exact ⟨s3, by rw [cap_most]; rfl, hf, XM_fr h X3 hf (by decide)⟩
/-- the reference's mean of one stretch -/
theorem M_sml {s0 t0 : gMem} {w f l a c : Int} (hX : XT s0 t0) (h0 : 0 ≤ f) (h1 : l ≤ 15) : ∀ (n : Nat) (j v : Int) (t : gMem), MT t0 t → (∀ j : Int, 0 ≤ j → j ≤ l - f → t 27 (a + j) = up w f l j ∧ t 28 (a + j) = j) → 0 ≤ j → ∃ (i' : Int) (t' : gMem), w_X9_meanOfStretch_42 c (a + (l - f + 1)) n v (a + j) t = (sml t0 w f l n j v, i', t') ∧ fr [25, 26] t t' ∧ MT t0 t' := by
  intro n
  induction n with
  | zero => intro j v t hM _ _; exact ⟨a + j, t, rfl, fr.rf _ _, hM⟩
  | succ n ih =>
    intro j v t hM ho j0
    rw [w_X9_meanOfStretch_42_s]
    unfold sml
    by_cases q : l - f < j
    · rw [if_pos q, if_neg (by omega)]; exact ⟨a + j, t, rfl, fr.rf _ _, hM⟩
    · rw [if_neg q, if_pos (by omega)]
      have hu := up_rg (w := w) (f := f) (l := l) j0 (by omega)
      obtain ⟨o1, o2⟩ := ho j j0 (by omega)
      rw [o1]
      obtain ⟨t1, e1, f1, M1⟩ := M_takes hX hM (p := up w f l j) (by omega)
      rw [e1]
      simp only [gb]
      rw [f1 28 (by decide), o2]
      obtain ⟨t2, e2, f2, M2⟩ := M_falls hX M1 (p := up w f l j) (b := j) (by omega) (by omega)
      rw [e2]
      simp only [gl]
      have f12 := f1.call (fun _ hk => hk) f2
      obtain ⟨i', t', e3, f3, M3⟩ := ih (j + 1) (f_X9_most (((v + (1000 * TA t0 (up w f l j))) * 100) / (100 - FA t0 (up w f l j) j))) t2 M2 (fun j' a0 a1 => by rw [f12 27 (by decide), f12 28 (by decide)]; exact ho j' a0 a1) (by omega)
      have e4 : a + j + 1 = a + (j + 1) := by omega
      rw [e4]
      exact ⟨i', t', e3, f12.call (fun _ hk => hk) f3, M3⟩
theorem M_noteloop {w f l a v : Int} : ∀ (n : Nat) (j : Int) (t : gMem), (∀ j : Int, 0 ≤ j → j ≤ l - f → t 27 (a + j) = up w f l j) → 0 ≤ j → l - f + 1 - j < n → fr [34] t (w_X9_meanOfStretch_111 (a + (l - f + 1)) v n (a + j) t).2 ∧ (∀ i, j ≤ i → i ≤ l - f → (w_X9_meanOfStretch_111 (a + (l - f + 1)) v n (a + j) t).2 34 (up w f l i) = v) ∧ ∀ p, (∀ i, j ≤ i → i ≤ l - f → up w f l i ≠ p) → (w_X9_meanOfStretch_111 (a + (l - f + 1)) v n (a + j) t).2 34 p = t 34 p := by
  intro n
  induction n with
  | zero =>
    intro j t _ _ h
    refine ⟨fr.rf _ _, fun i a b => by exfalso; omega, fun p _ => rfl⟩
  | succ n ih =>
    intro j t ho j0 h
    rw [w_X9_meanOfStretch_111_s]
    by_cases q : l - f < j
    · rw [if_neg (by omega)]
      exact ⟨fr.rf _ _, fun i a b => by exfalso; omega, fun p _ => rfl⟩
    · rw [if_pos (by omega)]
      simp only [gl]
      have e4 : a + j + 1 = a + (j + 1) := by omega
      rw [e4, ho j j0 (by omega)]
      obtain ⟨b1, b2, b3⟩ := ih (j + 1) (mset t 34 (up w f l j) v) (fun i a0 a1 => by rw [mset_nf (by decide)]; exact ho i a0 a1) (by omega) (by omega)
      refine ⟨((fr.rf _ t).set (by decide)).call (fun _ hk => hk) b1, fun i i0 i1 => ?_, fun p hp => ?_⟩
      · by_cases e : i = j
        · by_cases z : ∃ i', j + 1 ≤ i' ∧ i' ≤ l - f ∧ up w f l i' = up w f l i
          · obtain ⟨i', z1, z2, z3⟩ := z
            rw [← z3]
            exact b2 i' z1 z2
          · rw [b3 (up w f l i) (fun i' z1 z2 z3 => z ⟨i', z1, z2, z3⟩), e]
            exact mset_eq _ _ _ _
        · exact b2 i (by omega) i1
      · rw [b3 p (fun i' z1 z2 => hp i' (by omega) z2), mset_at, if_neg (fun e => hp j (by omega) (by omega) e.symm)]
theorem up_on {w f l p : Int} (h0 : f ≤ p) (h1 : p ≤ l) : ∃ j, 0 ≤ j ∧ j ≤ l - f ∧ up w f l j = p := by
  unfold up
  by_cases a : w = 0
  · exact ⟨p - f, by omega, by omega, by rw [if_pos a]; omega⟩
  · by_cases b : w = 1
    · exact ⟨l - p, by omega, by omega, by rw [if_neg a, if_pos b]; omega⟩
    · by_cases c : p ≤ (f + l) / 2
      · exact ⟨2 * ((f + l) / 2 - p), by omega, by omega, by rw [if_neg a, if_neg b, if_neg (by omega)]; omega⟩
      · exact ⟨2 * (p - (f + l) / 2) - 1, by omega, by omega, by rw [if_neg a, if_neg b, if_pos (by omega)]; omega⟩
theorem wth {x : Int} (h0 : 0 ≤ x) (h1 : x ≤ 15) : f_X9_within x 0 15 = x := by
  unfold f_X9_within
  rw [if_neg (by omega), if_neg (by omega)]
theorem M_smean {s0 t0 t : gMem} {w : Int} (hX : XT s0 t0) (hM : MT t0 t) {L : List (Int × Int)} (hO : ORD w L t) (hl : lok L) (ht : tot L ≤ 16) {k : Nat} {q : Int × Int} (hk : L[k]? = some q) : ∃ t', f_X9_meanOfStretch k t = (smv t0 w q.1 q.2, t') ∧ fr [25, 26, 34] t t' ∧ MT t0 t' ∧ (∀ p, q.1 ≤ p → p ≤ q.2 → t' 34 p = smv t0 w q.1 q.2) ∧ ∀ p, ¬ (q.1 ≤ p ∧ p ≤ q.2) → t' 34 p = t 34 p := by
  have hlen := (tot_nn hl).2
  have hkl : k < L.length := (List.getElem?_eq_some_iff.mp hk).1
  have hq := hl q (List.mem_of_getElem? hk)
  obtain ⟨o1, o2, o3, o4⟩ := hO
  obtain ⟨-, b2, b3, b4, b5⟩ := ordv_at w L k q 0 hl hk (by omega) (by omega)
  have hall : ∀ j : Int, 0 ≤ j → j ≤ q.2 - q.1 → t 27 (tot (L.take k) + j) = up w q.1 q.2 j ∧ t 28 (tot (L.take k) + j) = j := fun j j0 j1 => by
    obtain ⟨c1, -⟩ := ordv_at w L k q j hl hk j0 j1
    obtain ⟨d1, d2⟩ := o4 (tot (L.take k) + j) (by omega) (by omega)
    rw [d1, d2, c1]
    exact ⟨rfl, rfl⟩
  have hend : (if ((k : Int) + 1) < (t 31 0) then (t 29 (f_X9_within ((k : Int) + 1) 0 15)) else (t 30 0)) = tot (L.take k) + (q.2 - q.1 + 1) := by
    by_cases c : (k : Int) + 1 < t 31 0
    · rw [if_pos c, wth (by omega) (by omega)]
      have := o3 (k + 1) (by omega)
      have e : ((k + 1 : Nat) : Int) = (k : Int) + 1 := by omega
      rw [e] at this
      rw [this]
      exact b4 (by omega)
    · rw [if_neg c, o1]
      exact b5 (by omega)
  have h29 : t 29 k = tot (L.take k) := o3 k hkl
  obtain ⟨i', t1, e1, f1, M1⟩ := M_sml (w := w) (f := q.1) (l := q.2) (a := tot (L.take k)) (c := k) hX hq.1 hq.2.2 17 0 0 t hM hall (by omega)
  have z0 : tot (L.take k) + 0 = tot (L.take k) := by omega
  rw [z0] at e1
  obtain ⟨c1, c2, c3⟩ := M_noteloop (w := w) (f := q.1) (l := q.2) (a := tot (L.take k)) (v := smv t0 w q.1 q.2) 17 0 t1 (fun j j0 j1 => by rw [f1 27 (by decide)]; exact (hall j j0 j1).1) (by omega) (by omega)
  rw [z0] at c1 c2 c3
  have ee : f_X9_meanOfStretch k t = (smv t0 w q.1 q.2, (w_X9_meanOfStretch_111 (tot (L.take k) + (q.2 - q.1 + 1)) (smv t0 w q.1 q.2) 17 (tot (L.take k)) t1).2) := by
    unfold f_X9_meanOfStretch
    simp only [gl, gl2, gl3]
    rw [hend, h29, e1]
    simp only
    rw [f1 29 (by decide), h29]
    rfl
  refine ⟨_, ee, (f1.mono (by decide)).call (by decide) c1, ?_, fun p p0 p1 => ?_, fun p hp => ?_⟩
  · refine M1.fr c1 ?_ (by decide)
    have hI := hM.IM hX.2.2.1
    intro k' i
    by_cases e : k' = 34
    · subst e
      refine ⟨fun z => absurd z (by decide), fun _ => ?_⟩
      by_cases z : ∃ j, 0 ≤ j ∧ j ≤ q.2 - q.1 ∧ up w q.1 q.2 j = i
      · obtain ⟨j, z1, z2, z3⟩ := z
        rw [← z3, c2 j z1 z2]
        have := smv_rg hX.2.2.1 (w := w) hq.1 hq.2.2
        omega
      · rw [c3 i (fun j z1 z2 z3 => z ⟨j, z1, z2, z3⟩)]
        exact (M1.2 34 i).2 rfl
    · rw [c1 k' (by simp; exact e)]
      exact M1.2 k' i
  · obtain ⟨j, z1, z2, z3⟩ := up_on (w := w) p0 p1
    rw [← z3]
    exact c2 j z1 z2
  · rw [c3 p (fun j z1 z2 z3 => hp (by have := up_rg (w := w) (f := q.1) (l := q.2) z1 z2; omega)), f1 34 (by decide)]
