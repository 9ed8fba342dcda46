/-! falls, takes, closes: both sides by one value -/
theorem says_X (x0 x1 x2 : Int) (s : gMem) : ∃ S : gMem, S = mset (mset (mset (mset (mset (mset s 36 0 x1) 36 1 ((mset s 36 0 x1) 41 x1)) 36 2 x2) 36 3 (f_J6_bitCount_0f7a4 ((mset (mset (mset s 36 0 x1) 36 1 ((mset s 36 0 x1) 41 x1)) 36 2 x2) 59 0))) 36 4 ((mset (mset (mset (mset s 36 0 x1) 36 1 ((mset s 36 0 x1) 41 x1)) 36 2 x2) 36 3 (f_J6_bitCount_0f7a4 ((mset (mset (mset s 36 0 x1) 36 1 ((mset s 36 0 x1) 41 x1)) 36 2 x2) 59 0))) 61 0)) 36 5 ((mset (mset (mset (mset (mset s 36 0 x1) 36 1 ((mset s 36 0 x1) 41 x1)) 36 2 x2) 36 3 (f_J6_bitCount_0f7a4 ((mset (mset (mset s 36 0 x1) 36 1 ((mset s 36 0 x1) 41 x1)) 36 2 x2) 59 0))) 36 4 ((mset (mset (mset (mset s 36 0 x1) 36 1 ((mset s 36 0 x1) 41 x1)) 36 2 x2) 36 3 (f_J6_bitCount_0f7a4 ((mset (mset (mset s 36 0 x1) 36 1 ((mset s 36 0 x1) 41 x1)) 36 2 x2) 59 0))) 61 0)) 62 0) ∧ (f_X4_says x0 x1 x2 s).1 = f_X4_bounded (t_X7_reckon_13 (S 63 0) x0 161 0 (S (26 + (S 63 0).toNat) x0) S).1 (if x0 = 0 then 0 else 1) := ⟨_, rfl, rfl⟩
theorem says_M (x0 x1 x2 : Int) (s : gMem) : ∃ S : gMem, S = mset (mset (mset (mset (mset (mset s 26 0 x1) 26 1 ((mset s 26 0 x1) 1 x1)) 26 2 x2) 26 3 (f_X9_ones ((mset (mset (mset s 26 0 x1) 26 1 ((mset s 26 0 x1) 1 x1)) 26 2 x2) 2 0))) 26 4 ((mset (mset (mset (mset s 26 0 x1) 26 1 ((mset s 26 0 x1) 1 x1)) 26 2 x2) 26 3 (f_X9_ones ((mset (mset (mset s 26 0 x1) 26 1 ((mset s 26 0 x1) 1 x1)) 26 2 x2) 2 0))) 2 2)) 26 5 ((mset (mset (mset (mset (mset s 26 0 x1) 26 1 ((mset s 26 0 x1) 1 x1)) 26 2 x2) 26 3 (f_X9_ones ((mset (mset (mset s 26 0 x1) 26 1 ((mset s 26 0 x1) 1 x1)) 26 2 x2) 2 0))) 26 4 ((mset (mset (mset (mset s 26 0 x1) 26 1 ((mset s 26 0 x1) 1 x1)) 26 2 x2) 26 3 (f_X9_ones ((mset (mset (mset s 26 0 x1) 26 1 ((mset s 26 0 x1) 1 x1)) 26 2 x2) 2 0))) 2 2)) 2 3) ∧ (f_X9_asksOf x0 x1 x2 s).1 = f_X9_within ((w_X9_says_16 x0 201 0 (S 6 ((4 * (S 8 0)) + x0)) S).2.2 25 0) (if x0 = 0 then 0 else 1) 99 := ⟨_, rfl, rfl⟩
theorem bnd_eq (x y : Int) : f_X4_bounded x y = f_X9_within x y 99 := rfl
set_option maxHeartbeats 2000000 in
theorem A_eq {s t : gMem} (h : RLa s t) (hBG : BG s) (hGP : GP s) (hV : VS t) {x0 x1 x2 : Int} (h0 : 0 ≤ x0 ∧ x0 ≤ 2) (h1 : 0 ≤ x1 ∧ x1 ≤ 15) : (f_X4_says x0 x1 x2 s).1 = (f_X9_asksOf x0 x1 x2 t).1 := by
  obtain ⟨S, hS, eX⟩ := says_X x0 x1 x2 s
  obtain ⟨T, hT, eM⟩ := says_M x0 x1 x2 t
  rw [eX, eM, bnd_eq]
  have fS : fr [36] s S := by
    rw [hS]
    exact ((((((fr.rf [36] s).set (by decide)).set (by decide)).set (by decide)).set (by decide)).set (by decide)).set (by decide)
  have fT : fr [26] t T := by
    rw [hT]
    exact ((((((fr.rf [26] t).set (by decide)).set (by decide)).set (by decide)).set (by decide)).set (by decide)).set (by decide)
  have hn : ∀ j : Int, 0 ≤ j → j ≤ 5 → S 36 j = T 26 j := by
    intro j j0 j1
    have hq : j = 0 ∨ j = 1 ∨ j = 2 ∨ j = 3 ∨ j = 4 ∨ j = 5 := by omega
    have hg := hGP 0
    rcases hq with rfl | rfl | rfl | rfl | rfl | rfl
    · rw [hS, hT]; simp [mset]
    · rw [hS, hT]; simp [mset]; exact (h.1 x1 h1.1 (by omega)).2
    · rw [hS, hT]; simp [mset]
    · rw [hS, hT]; simp [mset]; rw [← h.2.1.1]; exact bc_ones hg.1 hg.2
    · rw [hS, hT]; simp [mset]; exact h.2.1.2.2.1
    · rw [hS, hT]; simp [mset]; exact h.2.1.2.2.2
  have hr : s 63 0 = t 8 0 := h.2.2.1.1
  obtain ⟨v1, v2, v3, v4, v5⟩ := hV
  obtain ⟨k, hk⟩ : ∃ k : Nat, (k : Int) = t 8 0 := ⟨(t 8 0).toNat, by omega⟩
  have hk6 : k < 6 := by omega
  obtain ⟨hb, hcod⟩ := h.2.2.2.2.1 k hk6 (by omega)
  have S63 : S 63 0 = t 8 0 := by rw [fS 63 (by decide)]; exact hr
  have T8 : T 8 0 = t 8 0 := by rw [fT 8 (by decide)]
  have S26 : S (26 + k) = s (26 + k) := fS _ (by simp; omega)
  have S19 : S (19 + k) = s (19 + k) := fS _ (by simp; omega)
  have T6 : T 6 = t 6 := fT 6 (by decide)
  have T5 : T 5 = t 5 := fT 5 (by decide)
  have hkn : (t 8 0).toNat = k := by omega
  have hvt := v5 (t 8 0) x0 v3 v4 h0.1 h0.2
  have hle : t 6 (4 * t 8 0 + x0 + 1) ≤ t 6 (4 * (k : Int) + 3) := by
    rw [hk]
    have w1 := v5 (t 8 0) 1 v3 v4 (by omega) (by omega)
    have w2 := v5 (t 8 0) 2 v3 v4 (by omega) (by omega)
    have e1 : 4 * t 8 0 + 1 + 1 = 4 * t 8 0 + 2 := by omega
    have e2 : 4 * t 8 0 + 2 + 1 = 4 * t 8 0 + 3 := by omega
    have w3 := w1.2.1
    have w4 := w2.2.1
    rw [e1] at w3
    rw [e2] at w4
    have hq : x0 = 0 ∨ x0 = 1 ∨ x0 = 2 := by omega
    rcases hq with rfl | rfl | rfl
    · have e3 : 4 * t 8 0 + 0 + 1 = 4 * t 8 0 + 1 := by omega
      rw [e3]; omega
    · rw [e1]; omega
    · rw [e2]; omega
  have b1 := hb (x0 + 1) (by omega) (by omega)
  have b0 := hb x0 (by omega) (by omega)
  rw [hk] at b1 b0
  have e4 : 4 * t 8 0 + (x0 + 1) = 4 * t 8 0 + x0 + 1 := by omega
  rw [e4] at b1
  have bb := hBG k hk6 (x0 + 1)
  have hst : S (26 + (S 63 0).toNat) x0 = t 6 (4 * t 8 0 + x0) := by rw [S63, hkn, S26]; exact b0
  have hst2 : T 6 ((4 * (T 8 0)) + x0) = t 6 (4 * t 8 0 + x0) := by rw [T8, T6]
  have hvt1 := hvt.1
  have hvt2 := hvt.2.1
  rw [hst, hst2]
  refine congrArg (fun q => f_X9_within q (if x0 = 0 then 0 else 1) 99) ?_
  refine ev_sim S T k (S 63 0) x0 (t 8 0) (t 6 (4 * t 8 0 + x0 + 1)) (t 6 (4 * t 8 0 + x0)) (200 * t 8 0 + t 6 (4 * t 8 0 + x0)) (by rw [S63]; exact hkn) T8 (by rw [S26]; exact b1) (by rw [T6]) rfl (by omega) hvt1 ?_ hk6 hn 161 201 (t 6 (4 * t 8 0 + x0)) 0 S T (fr.rf _ _) (fr.rf _ _) (by omega) (by omega) (by omega) (by omega) ?_ (by omega) (by omega) (by omega) (fun j j0 j1 => absurd j0 (by omega))
  · intro i i1 i2
    obtain ⟨w1, w2, -⟩ := VT_at hvt i1 i2
    rw [T5, S19]
    refine ⟨w1, ?_, w2⟩
    have := hcod i (by omega) (by omega)
    rw [hk] at this
    exact this
  · have e5 : (t 6 (4 * t 8 0 + x0) - t 6 (4 * t 8 0 + x0)).toNat = 0 := by omega
    rw [e5]
    rfl
/-- all that the two memories hold, by which a walk goes on -/
def IX (s : gMem) : Prop := gMR lgX s ∧ CD s ∧ BG s ∧ LA s ∧ KNx s ∧ MOx s ∧ GP s ∧ ST s ∧ EN s ∧ RE s ∧ KF s ∧ KC s ∧ KT s
def IM (t : gMem) : Prop := gMR lgM t ∧ VS t ∧ KN t ∧ MO t ∧ TD t
def KXe : List Nat := [19, 20, 21, 22, 23, 24, 26, 27, 28, 29, 30, 31, 40, 41, 59, 60, 61, 62, 63]
theorem IX_fr {s s' : gMem} (h : IX s) (hm : gMR lgX s') (e : ∀ k ∈ KXe, s' k = s k) (k1 : KF s') (k2 : KC s') (k3 : KT s') : IX s' :=
  ⟨hm, CD_fr h.2.1 (sbl e (by decide)), BG_fr h.2.2.1 (sbl e (by decide)), LA_fr h.2.2.2.1 (sbl e (by decide)), KNx_fr h.2.2.2.2.1 (sbl e (by decide)), MOx_fr h.2.2.2.2.2.1 (sbl e (by decide)), GP_fr h.2.2.2.2.2.2.1 (sbl e (by decide)), ST_fr h.2.2.2.2.2.2.2.1 (sbl e (by decide)), EN_fr h.2.2.2.2.2.2.2.2.1 (sbl e (by decide)), RE_fr h.2.2.2.2.2.2.2.2.2.1 (sbl e (by decide)), k1, k2, k3⟩
def KMe : List Nat := [0, 1, 2, 5, 6, 7, 8]
theorem IM_fr {t t' : gMem} (h : IM t) (hm : gMR lgM t') (e : ∀ k ∈ KMe, t' k = t k) : IM t' := by
  obtain ⟨-, h1, h2, h3, h4⟩ := h
  refine ⟨hm, ?_, ?_, ?_, ?_⟩
  · unfold VS; rw [e 5 (by decide), e 6 (by decide), e 7 (by decide), e 8 (by decide)]; exact h1
  · intro i; rw [e 0 (by decide)]; exact h2 i
  · intro i; rw [e 1 (by decide)]; exact h3 i
  · intro i; rw [e 2 (by decide)]; exact h4 i
def FA (t : gMem) (p b : Int) : Int := (f_X9_fallsOf p b t).1
def TA (t : gMem) (p : Int) : Int := (f_X9_takesOf p t).1
def CA (t : gMem) (p b : Int) : Int := (f_X9_asksOf 2 p b t).1
def CFf (s t : gMem) : Prop := ∀ p b : Int, 0 ≤ p → p ≤ 15 → 0 ≤ b → b ≤ 16 → s 37 (p * 17 + b) < 0 ∨ s 37 (p * 17 + b) = FA t p b
def CFc (s t : gMem) : Prop := ∀ p b : Int, 0 ≤ p → p ≤ 15 → 0 ≤ b → b ≤ 16 → s 38 (p * 17 + b) < 0 ∨ s 38 (p * 17 + b) = CA t p b
def CFt (s t : gMem) : Prop := ∀ p : Int, 0 ≤ p → p ≤ 15 → s 39 p < 0 ∨ s 39 p = TA t p
/-- the class's memory s stands as the reference's t0 -/
def XT (s t0 : gMem) : Prop := RLa s t0 ∧ IX s ∧ IM t0 ∧ CFf s t0 ∧ CFc s t0 ∧ CFt s t0
/-- the reference's memory t is t0, but for what it notes down while it reckons -/
def MT (t0 t : gMem) : Prop := (∀ k ∈ KMl, t k = t0 k) ∧ gMR lgM t
theorem MT.rf {t : gMem} (h : gMR lgM t) : MT t t := ⟨fun _ _ => rfl, h⟩
theorem MT.fr {t0 t t' : gMem} {W : List Nat} (h : MT t0 t) (hf : fr W t t') (hm : gMR lgM t') (d : ∀ k ∈ KMl, k ∉ W) : MT t0 t' := ⟨fun k hk => (hf k (d k hk)).trans (h.1 k hk), hm⟩
theorem MT.IM {t0 t : gMem} (h : MT t0 t) (hI : IM t0) : IM t := IM_fr hI h.2 (sbl h.1 (by decide))
theorem MT.RLa {s t0 t : gMem} (h : MT t0 t) (hR : RLa s t0) : RLa s t := RLa_fr hR (fun _ _ => rfl) h.1
def kfv (k m r b : Int) : Int := if k = 1 then r + m else if k = 2 then r * 2 else if k = 3 then r + (m + b / 3) else if k = 4 then r * 2 else if k = 5 then r / (m + 2) else r
theorem FA_e {t : gMem} (h : IM t) {p b : Int} (hp : 0 ≤ p ∧ p ≤ 15) (hb : 0 ≤ b ∧ b ≤ 16) : FA t p b = f_X9_within (kfv (t 0 p) (t 1 p) (f_X9_asksOf 0 p b t).1 b) 0 99 := by
  have hf := (f_X9_asksOf_p 0 p b t (by omega) (by omega) (by omega) h.1 h.2.1 (by omega) (by omega) (f_X9_asksOf 0 p b t).1 (f_X9_asksOf 0 p b t).2 rfl).1
  unfold FA f_X9_fallsOf
  simp only [gb, gl]
  rw [hf 0 (by decide), hf 1 (by decide)]
  rfl
def tkv (k m : Int) : Int := if k = 1 then 2 else if k = 3 then 2 else if k = 4 then 3 + m else 0
theorem TA_e {t : gMem} (h : IM t) {p : Int} (hp : 0 ≤ p ∧ p ≤ 15) : TA t p = imax 1 ((f_X9_asksOf 1 p 0 t).1 + tkv (t 0 p) (t 1 p)) := by
  have hf := (f_X9_asksOf_p 1 p 0 t (by omega) (by omega) (by omega) h.1 h.2.1 (by omega) (by omega) (f_X9_asksOf 1 p 0 t).1 (f_X9_asksOf 1 p 0 t).2 rfl).1
  unfold TA f_X9_takesOf tkv imax
  simp only [gb, gl, gj]
  rw [hf 0 (by decide), hf 1 (by decide)]
  repeat' split
  all_goals (try simp only) <;> omega
theorem FA_rg {t : gMem} (h : IM t) {p b : Int} (hp : 0 ≤ p ∧ p ≤ 15) (hb : 0 ≤ b ∧ b ≤ 16) : 0 ≤ FA t p b ∧ FA t p b ≤ 99 := (f_X9_fallsOf_p p b t (by omega) (by omega) h.1 h.2.1 h.2.2.1 h.2.2.2.1 hp hb (f_X9_fallsOf p b t).1 (f_X9_fallsOf p b t).2 rfl).2.2.2
theorem TA_rg {t : gMem} (h : IM t) {p : Int} (hp : 0 ≤ p ∧ p ≤ 15) : 1 ≤ TA t p ∧ TA t p ≤ 111 := (f_X9_takesOf_p p t (by omega) h.1 h.2.1 h.2.2.1 h.2.2.2.1 hp (f_X9_takesOf p t).1 (f_X9_takesOf p t).2 rfl).2.2.2
theorem CA_rg {t : gMem} (h : IM t) {p b : Int} (hp : 0 ≤ p ∧ p ≤ 15) (hb : 0 ≤ b ∧ b ≤ 16) : 0 ≤ CA t p b ∧ CA t p b ≤ 99 := (f_X9_asksOf_p 2 p b t (by omega) (by omega) (by omega) h.1 h.2.1 (by omega) hp (f_X9_asksOf 2 p b t).1 (f_X9_asksOf 2 p b t).2 rfl).2.2.2
/-- what the texts say is the same of all memories that track one -/
theorem A_tr {s t0 t : gMem} (h : XT s t0) (hm : MT t0 t) {x0 x1 x2 : Int} (h0 : 0 ≤ x0 ∧ x0 ≤ 2) (h1 : 0 ≤ x1 ∧ x1 ≤ 15) : (f_X9_asksOf x0 x1 x2 t).1 = (f_X9_asksOf x0 x1 x2 t0).1 :=
  (A_eq (hm.RLa h.1) h.2.1.2.2.1 h.2.1.2.2.2.2.2.2.1 (hm.IM h.2.2.1).2.1 h0 h1).symm.trans (A_eq h.1 h.2.1.2.2.1 h.2.1.2.2.2.2.2.2.1 h.2.2.1.2.1 h0 h1)
theorem FA_tr {s t0 t : gMem} (h : XT s t0) (hm : MT t0 t) {p b : Int} (hp : 0 ≤ p ∧ p ≤ 15) (hb : 0 ≤ b ∧ b ≤ 16) : FA t p b = FA t0 p b := by
  rw [FA_e (hm.IM h.2.2.1) hp hb, FA_e h.2.2.1 hp hb, A_tr h hm (by omega) hp, hm.1 0 (by decide), hm.1 1 (by decide)]
theorem TA_tr {s t0 t : gMem} (h : XT s t0) (hm : MT t0 t) {p : Int} (hp : 0 ≤ p ∧ p ≤ 15) : TA t p = TA t0 p := by
  rw [TA_e (hm.IM h.2.2.1) hp, TA_e h.2.2.1 hp, A_tr h hm (by omega) hp, hm.1 0 (by decide), hm.1 1 (by decide)]
theorem CA_tr {s t0 t : gMem} (h : XT s t0) (hm : MT t0 t) {p b : Int} (hp : 0 ≤ p ∧ p ≤ 15) : CA t p b = CA t0 p b := A_tr h hm (by omega) hp
/-- the reference's steps -/
theorem M_falls {s t0 t : gMem} (h : XT s t0) (hm : MT t0 t) {p b : Int} (hp : 0 ≤ p ∧ p ≤ 15) (hb : 0 ≤ b ∧ b ≤ 16) : ∃ t', f_X9_fallsOf p b t = (FA t0 p b, t') ∧ fr [25, 26] t t' ∧ MT t0 t' := by
  obtain ⟨i1, i2, i3, i4, i5⟩ := hm.IM h.2.2.1
  have hq := f_X9_fallsOf_p p b t (by omega) (by omega) i1 i2 i3 i4 hp hb (f_X9_fallsOf p b t).1 (f_X9_fallsOf p b t).2 rfl
  refine ⟨(f_X9_fallsOf p b t).2, ?_, hq.1, hm.fr hq.1 hq.2.1 (by decide)⟩
  rw [← FA_tr h hm hp hb]
  rfl
theorem M_takes {s t0 t : gMem} (h : XT s t0) (hm : MT t0 t) {p : Int} (hp : 0 ≤ p ∧ p ≤ 15) : ∃ t', f_X9_takesOf p t = (TA t0 p, t') ∧ fr [25, 26] t t' ∧ MT t0 t' := by
  obtain ⟨i1, i2, i3, i4, i5⟩ := hm.IM h.2.2.1
  have hq := f_X9_takesOf_p p t (by omega) i1 i2 i3 i4 hp (f_X9_takesOf p t).1 (f_X9_takesOf p t).2 rfl
  refine ⟨(f_X9_takesOf p t).2, ?_, hq.1, hm.fr hq.1 hq.2.1 (by decide)⟩
  rw [← TA_tr h hm hp]
  rfl
theorem M_closes {s t0 t : gMem} (h : XT s t0) (hm : MT t0 t) {p b : Int} (hp : 0 ≤ p ∧ p ≤ 15) (hb : 0 ≤ b ∧ b ≤ 16) : ∃ t', f_X9_asksOf 2 p b t = (CA t0 p b, t') ∧ fr [25, 26] t t' ∧ MT t0 t' := by
  obtain ⟨i1, i2, i3, i4, i5⟩ := hm.IM h.2.2.1
  have hq := f_X9_asksOf_p 2 p b t (by omega) (by omega) (by omega) i1 i2 (by omega) hp (f_X9_asksOf 2 p b t).1 (f_X9_asksOf 2 p b t).2 rfl
  refine ⟨(f_X9_asksOf 2 p b t).2, ?_, hq.1, hm.fr hq.1 hq.2.1 (by decide)⟩
  rw [← CA_tr h hm hp (b := b)]
  rfl
/-- the class's steps -/
theorem XT_fr {s s' t0 : gMem} {W : List Nat} (h : XT s t0) (hf : fr W s s') (d : ∀ k ∈ KXl, k ∉ W) (hm : gMR lgX s') (k1 : KF s') (k2 : KC s') (k3 : KT s') (c1 : CFf s' t0) (c2 : CFc s' t0) (c3 : CFt s' t0) : XT s' t0 :=
  ⟨RLa_fr h.1 (frK hf d) (fun _ _ => rfl), IX_fr h.2.1 hm (sbl (frK hf d) (by decide)) k1 k2 k3, h.2.2.1, c1, c2, c3⟩
theorem CFf_fr {s s' t : gMem} (h : CFf s t) (e : s' 37 = s 37) : CFf s' t := fun p b p0 p1 b0 b1 => by rw [e]; exact h p b p0 p1 b0 b1
theorem CFc_fr {s s' t : gMem} (h : CFc s t) (e : s' 38 = s 38) : CFc s' t := fun p b p0 p1 b0 b1 => by rw [e]; exact h p b p0 p1 b0 b1
theorem CFt_fr {s s' t : gMem} (h : CFt s t) (e : s' 39 = s 39) : CFt s' t := fun p p0 p1 => by rw [e]; exact h p p0 p1
theorem X_falls {s t0 : gMem} (h : XT s t0) {p b : Int} (hp : 0 ≤ p ∧ p ≤ 15) (hb : 0 ≤ b ∧ b ≤ 16) : ∃ s', f_X4_falls p b s = (FA t0 p b, s') ∧ fr [32, 36, 37] s s' ∧ XT s' t0 := by
  obtain ⟨hR, ⟨i1, i2, i3, i4, i5, i6, i7, i8, i9, i10, i11, i12, i13⟩, hM, c1, c2, c3⟩ := id h
  have hq := f_X4_falls_p p b s (by omega) (by omega) i1 i2 i3 i4 i6 i11 hp hb (f_X4_falls p b s).1 (f_X4_falls p b s).2 rfl
  have rg := FA_rg hM hp hb
  have hv : (f_X4_falls p b s).1 = FA t0 p b ∧ CFf (f_X4_falls p b s).2 t0 := by
    unfold f_X4_falls
    simp only [gl, gb]
    by_cases hz : s 37 (p * 17 + b) < 0
    · rw [if_pos hz]
      have hs := f_X4_says_p 0 p b s (by omega) (by omega) (by omega) i1 i2 i3 i4 (by omega) hp (f_X4_says 0 p b s).1 (f_X4_says 0 p b s).2 rfl
      have ev : f_X4_bounded (f_X4_fallsByKind p (f_X4_says 0 p b s).1 b (f_X4_says 0 p b s).2) 0 = FA t0 p b := by
        rw [FA_e hM hp hb, ← A_eq hR i3 i7 hM.2.1 (by omega) hp, bnd_eq]
        have hpl := hR.1 p hp.1 (by omega)
        unfold f_X4_fallsByKind kfv
        rw [hs.1 40 (by decide), hs.1 41 (by decide), hpl.1, hpl.2]
        congr 1
        repeat' split
        all_goals omega
      rw [ev]
      refine ⟨mset_eq _ _ _ _, fun p' b' p0 p1 b0 b1 => ?_⟩
      rw [mset_at]
      by_cases e : p' * 17 + b' = p * 17 + b
      · rw [if_pos e]
        have e1 : p' = p := by omega
        have e2 : b' = b := by omega
        rw [e1, e2]
        exact Or.inr rfl
      · rw [if_neg e, hs.1 37 (by decide)]
        exact c1 p' b' p0 p1 b0 b1
    · rw [if_neg hz]
      exact ⟨(c1 p b hp.1 hp.2 hb.1 hb.2).resolve_left hz, c1⟩
  refine ⟨(f_X4_falls p b s).2, by rw [← hv.1], hq.1, XT_fr h hq.1 (by decide) hq.2.1 hq.2.2.2.1 (KC_fr i12 (frK hq.1 (by decide))) (KT_fr i13 (frK hq.1 (by decide))) hv.2 (CFc_fr c2 (hq.1 38 (by decide))) (CFt_fr c3 (hq.1 39 (by decide)))⟩
theorem X_closes {s t0 : gMem} (h : XT s t0) {p b : Int} (hp : 0 ≤ p ∧ p ≤ 15) (hb : 0 ≤ b ∧ b ≤ 16) : ∃ s', f_X4_closes p b s = (CA t0 p b, s') ∧ fr [32, 36, 38] s s' ∧ XT s' t0 := by
  obtain ⟨hR, ⟨i1, i2, i3, i4, i5, i6, i7, i8, i9, i10, i11, i12, i13⟩, hM, c1, c2, c3⟩ := id h
  have hq := f_X4_closes_p p b s (by omega) (by omega) i1 i2 i3 i4 i6 i12 hp hb (f_X4_closes p b s).1 (f_X4_closes p b s).2 rfl
  have hv : (f_X4_closes p b s).1 = CA t0 p b ∧ CFc (f_X4_closes p b s).2 t0 := by
    unfold f_X4_closes
    simp only [gl, gb]
    by_cases hz : s 38 (p * 17 + b) < 0
    · rw [if_pos hz]
      have hs := f_X4_says_p 2 p b s (by omega) (by omega) (by omega) i1 i2 i3 i4 (by omega) hp (f_X4_says 2 p b s).1 (f_X4_says 2 p b s).2 rfl
      have ev : (f_X4_says 2 p b s).1 = CA t0 p b := A_eq hR i3 i7 hM.2.1 (by omega) hp
      rw [ev]
      refine ⟨mset_eq _ _ _ _, fun p' b' p0 p1 b0 b1 => ?_⟩
      rw [mset_at]
      by_cases e : p' * 17 + b' = p * 17 + b
      · rw [if_pos e]
        have e1 : p' = p := by omega
        have e2 : b' = b := by omega
        rw [e1, e2]
        exact Or.inr rfl
      · rw [if_neg e, hs.1 38 (by decide)]
        exact c2 p' b' p0 p1 b0 b1
    · rw [if_neg hz]
      exact ⟨(c2 p b hp.1 hp.2 hb.1 hb.2).resolve_left hz, c2⟩
  refine ⟨(f_X4_closes p b s).2, by rw [← hv.1], hq.1, XT_fr h hq.1 (by decide) hq.2.1 (KF_fr i11 (frK hq.1 (by decide))) hq.2.2.2.1 (KT_fr i13 (frK hq.1 (by decide))) (CFf_fr c1 (hq.1 37 (by decide))) hv.2 (CFt_fr c3 (hq.1 39 (by decide)))⟩
theorem X_takes {s t0 : gMem} (h : XT s t0) {p : Int} (hp : 0 ≤ p ∧ p ≤ 15) : ∃ s', f_X4_takes p s = (TA t0 p, s') ∧ fr [32, 36, 39] s s' ∧ XT s' t0 := by
  obtain ⟨hR, ⟨i1, i2, i3, i4, i5, i6, i7, i8, i9, i10, i11, i12, i13⟩, hM, c1, c2, c3⟩ := id h
  have hq := f_X4_takes_p p s (by omega) i1 i2 i3 i4 i6 i13 hp (f_X4_takes p s).1 (f_X4_takes p s).2 rfl
  have hv : (f_X4_takes p s).1 = TA t0 p ∧ CFt (f_X4_takes p s).2 t0 := by
    unfold f_X4_takes
    simp only [gl, gb]
    by_cases hz : s 39 p < 0
    · rw [if_pos hz]
      have hs := f_X4_says_p 1 p 0 s (by omega) (by omega) (by omega) i1 i2 i3 i4 (by omega) hp (f_X4_says 1 p 0 s).1 (f_X4_says 1 p 0 s).2 rfl
      have ev : imax 1 ((f_X4_says 1 p 0 s).1 + f_X4_takesMore p (f_X4_says 1 p 0 s).2) = TA t0 p := by
        rw [TA_e hM hp, ← A_eq hR i3 i7 hM.2.1 (by omega) hp]
        have hpl := hR.1 p hp.1 (by omega)
        unfold f_X4_takesMore tkv
        rw [hs.1 40 (by decide), hs.1 41 (by decide), hpl.1, hpl.2]
        congr 2
        repeat' split
        all_goals omega
      rw [ev]
      refine ⟨mset_eq _ _ _ _, fun p' p0 p1 => ?_⟩
      rw [mset_at]
      by_cases e : p' = p
      · rw [if_pos e, e]
        exact Or.inr rfl
      · rw [if_neg e, hs.1 39 (by decide)]
        exact c3 p' p0 p1
    · rw [if_neg hz]
      exact ⟨(c3 p hp.1 hp.2).resolve_left hz, c3⟩
  refine ⟨(f_X4_takes p s).2, by rw [← hv.1], hq.1, XT_fr h hq.1 (by decide) hq.2.1 (KF_fr i11 (frK hq.1 (by decide))) (KC_fr i12 (frK hq.1 (by decide))) hq.2.2.2.1 (CFf_fr c1 (hq.1 37 (by decide))) (CFc_fr c2 (hq.1 38 (by decide))) hv.2⟩
