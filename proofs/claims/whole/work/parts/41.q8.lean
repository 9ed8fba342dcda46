/-! both sides' answers: asks, told, mean, plan, every, which, dear -/
def INV (s t : gMem) : Prop := RLa s t ∧ XI s ∧ MI t ∧ CFf s t ∧ CFc s t ∧ CFt s t
theorem INV_XT {s t : gMem} (h : INV s t) : XT s t := ⟨h.1, h.2.1.1, h.2.2.1.1, h.2.2.2.1, h.2.2.2.2.1, h.2.2.2.2.2⟩
theorem INV_KM {s t : gMem} (h : INV s t) : KM s := h.2.1.2.2.1
theorem INV_WY {s t : gMem} (h : INV s t) : WY s := h.2.1.2.2.2.1
theorem INV_LEA {s t : gMem} (h : INV s t) : LEA s := h.2.1.2.2.2.2.1
theorem INV_MQ {s t : gMem} (h : INV s t) : MQ4 t := ⟨h.2.2.1.2.1, h.2.2.1.2.2.1, h.2.2.1.2.2.2.1, h.2.2.1.2.2.2.2.1⟩
theorem INV_gM {s t : gMem} (h : INV s t) : gMR lgM t := h.2.2.1.1.1
theorem CFf_tr {s s' t t' : gMem} (h : XT s t) (hm : MT t t') (c : CFf s' t) : CFf s' t' := fun p b p0 p1 b0 b1 => by rw [FA_tr h hm ⟨p0, p1⟩ ⟨b0, b1⟩]; exact c p b p0 p1 b0 b1
theorem CFc_tr {s s' t t' : gMem} (h : XT s t) (hm : MT t t') (c : CFc s' t) : CFc s' t' := fun p b p0 p1 b0 b1 => by rw [CA_tr h hm ⟨p0, p1⟩]; exact c p b p0 p1 b0 b1
theorem CFt_tr {s s' t t' : gMem} (h : XT s t) (hm : MT t t') (c : CFt s' t) : CFt s' t' := fun p p0 p1 => by rw [TA_tr h hm ⟨p0, p1⟩]; exact c p p0 p1
theorem INV_scr {s t s' t' : gMem} {W W' : List Nat} (h : INV s t) (hf : fr W s s') (hf' : fr W' t t') (d : ∀ k ∈ KXl, k ∉ W) (d' : ∀ k ∈ KMl, k ∉ W') (hX : XI s') (hM : MI t') (c : XT s' t) : INV s' t' := by
  have hm : MT t t' := ⟨frK hf' d', hM.1.1⟩
  exact ⟨RLa_fr h.1 (frK hf d) (frK hf' d'), hX, hM, CFf_tr (INV_XT h) hm c.2.2.2.1, CFc_tr (INV_XT h) hm c.2.2.2.2.1, CFt_tr (INV_XT h) hm c.2.2.2.2.2⟩
theorem if_out {α : Type} (x m : Int) (A B : α) : (if f_X8_outside x m = 0 then A else B) = if 0 ≤ x ∧ x < m then A else B := by
  by_cases c : 0 ≤ x ∧ x < m
  · rw [if_pos c, if_pos ((out0 _ _).mpr c)]
  · rw [if_neg c, if_neg (fun q => c ((out0 _ _).mp q))]
theorem if_in {α : Type} (x a b : Int) (A B : α) : (if f_X9_in x a b = 0 then A else B) = if a ≤ x ∧ x ≤ b then B else A := by
  by_cases c : a ≤ x ∧ x ≤ b
  · rw [if_pos c, if_neg (fun q => by have := (inr0 _ _ _).mp q; omega)]
  · rw [if_neg c, if_pos ((inr0 _ _ _).mpr (by omega))]
theorem if_pl {α : Type} (x : Int) (A B : α) : (if f_X9_isPlace x = 0 then A else B) = if 0 ≤ x ∧ x ≤ 15 then B else A := if_in x 0 15 A B
theorem if_sd {α : Type} (x : Int) (A B : α) : (if f_X9_isSide x = 0 then A else B) = if 0 ≤ x ∧ x ≤ 2 then B else A := if_in x 0 2 A B
theorem EQ_count {s t : gMem} (h : INV s t) (x : Int) : f_X8_count x s = f_X9_count x t := by
  obtain ⟨a1, a2, a3, a4⟩ := h.1.2.1
  obtain ⟨b1, b2⟩ := h.1.2.2.1
  have c1 := h.1.2.2.2.1.1
  unfold f_X8_count f_X9_count
  rw [a1, a2, a3, a4, b1, b2, c1]
  by_cases e0 : x = 0
  · subst e0; rfl
  · rw [if_neg e0, if_neg e0]
    by_cases e1 : x = 1
    · subst e1; rfl
    · rw [if_neg e1, if_neg e1]
      by_cases e2 : x = 2
      · subst e2; rfl
      · rw [if_neg e2, if_neg e2]
        by_cases e3 : x = 3
        · subst e3; rfl
        · rw [if_neg e3, if_neg e3]
theorem X_says {s t0 : gMem} (h : XT s t0) {k p b : Int} (hk : 0 ≤ k ∧ k ≤ 2) (hp : 0 ≤ p ∧ p ≤ 15) (hb : in32 b) : ∃ s', f_X4_says k p b s = ((f_X9_asksOf k p b t0).1, s') ∧ fr [32, 36] s s' ∧ XT s' t0 := by
  obtain ⟨hR, ⟨i1, i2, i3, i4, i5, i6, i7, i8, i9, i10, i11, i12, i13⟩, hM, c1, c2, c3⟩ := id h
  have hq := f_X4_says_p k p b s (by omega) (by omega) hb i1 i2 i3 i4 hk hp (f_X4_says k p b s).1 (f_X4_says k p b s).2 rfl
  refine ⟨(f_X4_says k p b s).2, by rw [← A_eq hR i3 i7 hM.2.1 hk hp], hq.1, XT_fr h hq.1 (by decide) hq.2.1 (KF_fr i11 (frK hq.1 (by decide))) (KC_fr i12 (frK hq.1 (by decide))) (KT_fr i13 (frK hq.1 (by decide))) (CFf_fr c1 (hq.1 37 (by decide))) (CFc_fr c2 (hq.1 38 (by decide))) (CFt_fr c3 (hq.1 39 (by decide)))⟩
theorem EQ_asks {s t : gMem} (h : INV s t) {x0 x1 x2 : Int} (hx0 : in32 x0) (hx1 : in32 x1) (hx2 : in32 x2) : (f_X8_asks x0 x1 x2 s).1 = (f_X9_asks x0 x1 x2 t).1 ∧ INV (f_X8_asks x0 x1 x2 s).2 (f_X9_asks x0 x1 x2 t).2 := by
  obtain ⟨fx, hX'⟩ := XI_asks h.2.1 hx0 hx1 hx2
  obtain ⟨fm, hM'⟩ := MI_asks h.2.2.1 hx0 hx1 hx2
  have key : (f_X8_asks x0 x1 x2 s).1 = (f_X9_asks x0 x1 x2 t).1 ∧ XT (f_X8_asks x0 x1 x2 s).2 t := by
    unfold f_X8_asks f_X9_asks
    rw [if_out, if_out, if_out, if_in, if_pl, if_in]
    by_cases a : 0 ≤ x0 ∧ x0 < 3
    · rw [if_pos a, if_pos (show 0 ≤ x0 ∧ x0 ≤ 2 by omega)]
      by_cases b : 0 ≤ x1 ∧ x1 < 16
      · rw [if_pos b, if_pos (show 0 ≤ x1 ∧ x1 ≤ 15 by omega)]
        by_cases c : 0 ≤ x2 ∧ x2 < 17
        · rw [if_pos c, if_pos (show 0 ≤ x2 ∧ x2 ≤ 16 by omega)]
          obtain ⟨s', e, -, X1⟩ := X_says (INV_XT h) (k := x0) (p := x1) (b := x2) (by omega) (by omega) hx2
          simp only [gb]
          rw [e]
          exact ⟨rfl, X1⟩
        · rw [if_neg c, if_neg (show ¬ (0 ≤ x2 ∧ x2 ≤ 16) by omega)]; exact ⟨rfl, INV_XT h⟩
      · rw [if_neg b, if_neg (show ¬ (0 ≤ x1 ∧ x1 ≤ 15) by omega)]; exact ⟨rfl, INV_XT h⟩
    · rw [if_neg a, if_neg (show ¬ (0 ≤ x0 ∧ x0 ≤ 2) by omega)]; exact ⟨rfl, INV_XT h⟩
  exact ⟨key.1, INV_scr h fx fm (by decide) (by decide) hX' hM' key.2⟩
theorem EQ_told {s t : gMem} (h : INV s t) {x0 x1 : Int} (hx0 : in32 x0) (hx1 : in32 x1) : (f_X8_told x0 x1 s).1 = (f_X9_told x0 x1 t).1 ∧ INV (f_X8_told x0 x1 s).2 (f_X9_told x0 x1 t).2 := by
  obtain ⟨fx, hX'⟩ := XI_told h.2.1 hx0 hx1
  obtain ⟨fm, hM'⟩ := MI_told h.2.2.1 hx0 hx1
  have key : (f_X8_told x0 x1 s).1 = (f_X9_told x0 x1 t).1 ∧ XT (f_X8_told x0 x1 s).2 t := by
    unfold f_X8_told f_X9_told
    rw [if_out, if_pl]
    by_cases a : 0 ≤ x0 ∧ x0 < 16
    · rw [if_pos a, if_pos (show 0 ≤ x0 ∧ x0 ≤ 15 by omega)]
      obtain ⟨p1, p2⟩ := h.1.1 x0 a.1 a.2
      by_cases e0 : x1 = 0
      · rw [if_pos e0, if_pos e0]; exact ⟨p1, INV_XT h⟩
      · rw [if_neg e0, if_neg e0]
        by_cases e1 : x1 = 1
        · rw [if_pos e1, if_pos e1]; exact ⟨p2, INV_XT h⟩
        · rw [if_neg e1, if_neg e1]
          by_cases e2 : x1 = 2
          · rw [if_pos e2, if_pos e2]
            obtain ⟨s', q, -, X1⟩ := X_falls (INV_XT h) (p := x0) (b := 0) (by omega) (by omega)
            simp only [gb]; rw [q]; exact ⟨rfl, X1⟩
          · rw [if_neg e2, if_neg e2]
            by_cases e3 : x1 = 3
            · rw [if_pos e3, if_pos e3]
              obtain ⟨s', q, -, X1⟩ := X_takes (INV_XT h) (p := x0) (by omega)
              simp only [gb]; rw [q]; exact ⟨rfl, X1⟩
            · rw [if_neg e3, if_neg e3]
              by_cases e4 : x1 = 4
              · rw [if_pos e4, if_pos e4]
                by_cases z : t 0 x0 = 4
                · rw [if_neg (fun q => (sto0 _ _).mp q (by rw [p1]; exact z)), if_neg (fun q => (dst0 _ _).mp q z)]; exact ⟨rfl, INV_XT h⟩
                · rw [if_pos ((sto0 _ _).mpr (by rw [p1]; exact z)), if_pos ((dst0 _ _).mpr z)]; exact ⟨rfl, INV_XT h⟩
              · rw [if_neg e4, if_neg e4]
                by_cases e5 : x1 = 5
                · rw [if_pos e5, if_pos e5]
                  obtain ⟨s', q, -, X1⟩ := X_closes (INV_XT h) (p := x0) (b := 0) (by omega) (by omega)
                  simp only [gb]; rw [q]; exact ⟨rfl, X1⟩
                · rw [if_neg e5, if_neg e5]; exact ⟨rfl, INV_XT h⟩
    · rw [if_neg a, if_neg (show ¬ (0 ≤ x0 ∧ x0 ≤ 15) by omega)]; exact ⟨rfl, INV_XT h⟩
  exact ⟨key.1, INV_scr h fx fm (by decide) (by decide) hX' hM' key.2⟩
theorem EQ_stretch {s t : gMem} (h : INV s t) {x0 x1 : Int} (hx0 : in32 x0) (hx1 : in32 x1) : (f_X8_stretch x0 x1 s).1 = (f_X9_stretch x0 x1 t).1 ∧ INV (f_X8_stretch x0 x1 s).2 (f_X9_stretch x0 x1 t).2 := by
  obtain ⟨fx, hX'⟩ := XI_stretch h.2.1 hx0 hx1
  obtain ⟨fm, hM'⟩ := MI_stretch h.2.2.1 hx0 hx1
  obtain ⟨hR, ⟨i1, i2, i3, i4, i5, i6, i7, i8, i9, i10, i11, i12, i13⟩, hM, c1, c2, c3⟩ := INV_XT h
  exact ⟨eq_stretch h.1.1 x0 x1, INV_scr h fx fm (by decide) (by decide) hX' hM' (XT_fr (INV_XT h) fx (by decide) hX'.1.1 (KF_fr i11 (frK fx (by decide))) (KC_fr i12 (frK fx (by decide))) (KT_fr i13 (frK fx (by decide))) (CFf_fr c1 (fx 37 (by decide))) (CFc_fr c2 (fx 38 (by decide))) (CFt_fr c3 (fx 39 (by decide))))⟩
theorem INV_from {s t : gMem} {w : Int} (h : INV s t) (hw : 0 ≤ w ∧ w ≤ 2) : ∃ s', f_X2_from w s = (0, s') ∧ fr [42, 64] s s' ∧ XM s' t w := X_from (INV_XT h) (INV_KM h) (INV_WY h) hw
theorem INV_mean {s t t' : gMem} {w x : Int} (h : INV s t) (hM : MT t t') (hQ : MQ4 t') (hx : in32 x) (hw : 0 ≤ w ∧ w ≤ 2) : ∃ t2, f_X9_meanOf x w t' = (MV t w x, t2) ∧ MT t t2 ∧ MQ4 t2 ∧ fr [25, 26, 27, 28, 29, 30, 31, 32, 33, 34] t' t2 := M_mean (INV_XT h) (INV_KM h) (INV_WY h) hM (INV_MQ h) hQ hx hw
theorem EQ_mean {s t : gMem} (h : INV s t) {x0 x1 : Int} (hx0 : in32 x0) (hx1 : in32 x1) : (f_X8_mean x0 x1 s).1 = (f_X9_mean x0 x1 t).1 ∧ INV (f_X8_mean x0 x1 s).2 (f_X9_mean x0 x1 t).2 := by
  obtain ⟨fx, hX'⟩ := XI_mean h.2.1 hx0 hx1
  obtain ⟨fm, hM'⟩ := MI_mean h.2.2.1 hx0 hx1
  have key : (f_X8_mean x0 x1 s).1 = (f_X9_mean x0 x1 t).1 ∧ XT (f_X8_mean x0 x1 s).2 t := by
    unfold f_X8_mean f_X9_mean
    rw [if_out, if_out, if_in, if_in]
    by_cases a : 0 ≤ x0 ∧ x0 < 65536
    · rw [if_pos a, if_pos (show 0 ≤ x0 ∧ x0 ≤ 65535 by omega)]
      by_cases b : 0 ≤ x1 ∧ x1 < 3
      · rw [if_pos b, if_pos (show 0 ≤ x1 ∧ x1 ≤ 2 by omega)]
        obtain ⟨s1, e1, -, X1⟩ := INV_from h (w := x1) (by omega)
        obtain ⟨s2, e2, X2, -⟩ := X_mean X1 (INV_MQ h) hx0 (by omega)
        obtain ⟨t2, e3, -⟩ := INV_mean h (MT.rf (INV_gM h)) (INV_MQ h) hx0 (w := x1) (by omega)
        simp only [gb]
        rw [e1, e3]
        simp only
        rw [e2]
        exact ⟨rfl, X2.1⟩
      · rw [if_neg b, if_neg (show ¬ (0 ≤ x1 ∧ x1 ≤ 2) by omega)]; exact ⟨rfl, INV_XT h⟩
    · rw [if_neg a, if_neg (show ¬ (0 ≤ x0 ∧ x0 ≤ 65535) by omega)]; exact ⟨rfl, INV_XT h⟩
  exact ⟨key.1, INV_scr h fx fm (by decide) (by decide) hX' hM' key.2⟩
/-- plan, of a row that need not be the object's own -/
theorem X_plan {s t0 : gMem} (h : XT s t0) (hK : KM s) (hY : WY s) (hQ : MQ4 t0) : ∃ s', f_X8_plan s = (MV t0 (t0 2 2) (t0 2 0), s') ∧ XM s' t0 (t0 2 2) ∧ fr [32, 36, 37, 38, 39, 42, 64] s s' := by
  obtain ⟨a1, a2, a3, a4⟩ := h.1.2.1
  have he := h.2.2.1.2.2.2.2 2
  have hg := h.2.2.1.2.2.2.2 0
  obtain ⟨s1, e1, f1, X1⟩ := X_from h hK hY (w := t0 2 2) (by omega)
  obtain ⟨s2, e2, X2, f2⟩ := X_mean X1 hQ (x := t0 2 0) (by omega) (by omega)
  refine ⟨s2, ?_, X2, (f1.mono (by decide)).call (by decide) f2⟩
  unfold f_X8_plan
  rw [a3, e1]
  simp only [gb]
  have e59 : s1 59 0 = t0 2 0 := by rw [f1 59 (by decide)]; exact a1
  rw [e59, e2]
theorem M_plan {s t0 t : gMem} (h : XT s t0) (hK : KM s) (hY : WY s) (hM : MT t0 t) (hQ0 : MQ4 t0) (hQ : MQ4 t) : ∃ t', f_X9_plan t = (MV t0 (t0 2 2) (t0 2 0), t') ∧ MT t0 t' ∧ MQ4 t' ∧ fr [25, 26, 27, 28, 29, 30, 31, 32, 33, 34] t t' := by
  have he := h.2.2.1.2.2.2.2 2
  have hg := h.2.2.1.2.2.2.2 0
  obtain ⟨t1, e1, a1, a2, a3⟩ := M_mean h hK hY hM hQ0 hQ (x := t0 2 0) (w := t0 2 2) (by omega) (by omega)
  refine ⟨t1, ?_, a1, a2, a3⟩
  unfold f_X9_plan
  rw [hM.1 2 (by decide), e1]
  rfl
theorem EQ_plan {s t : gMem} (h : INV s t) : (f_X8_plan s).1 = (f_X9_plan t).1 ∧ INV (f_X8_plan s).2 (f_X9_plan t).2 := by
  obtain ⟨fx, hX'⟩ := XI_plan h.2.1
  obtain ⟨fm, hM'⟩ := MI_plan h.2.2.1
  obtain ⟨s1, e1, X1, -⟩ := X_plan (INV_XT h) (INV_KM h) (INV_WY h) (INV_MQ h)
  obtain ⟨t1, e2, -⟩ := M_plan (INV_XT h) (INV_KM h) (INV_WY h) (MT.rf (INV_gM h)) (INV_MQ h) (INV_MQ h)
  refine ⟨by rw [e1, e2], INV_scr h fx fm (by decide) (by decide) hX' hM' (by rw [e1]; exact X1.1)⟩
/-- the least of several -/
def PK (s : gMem) (b l : Int) : Prop := (s 68 0 = 0 ∧ b = -1 ∧ s 69 0 = -1) ∨ (s 68 0 = 1 ∧ ¬ b = -1 ∧ s 69 0 = b ∧ s 70 0 = l)
theorem MV_rg {t0 : gMem} (hI : IM t0) (hQ : MQ4 t0) {w x : Int} (hx : in32 x) (hw : 0 ≤ w ∧ w ≤ 2) : 0 ≤ MV t0 w x ∧ MV t0 w x ≤ 1000000000000 :=
  (f_X9_meanOf_p x w t0 hx (by omega) hI.1 hI.2.1 hI.2.2.1 hI.2.2.2.1 hQ.1 hQ.2.1 hQ.2.2.1 hQ.2.2.2 hw (f_X9_meanOf x w t0).1 (f_X9_meanOf x w t0).2 rfl).2.2.2.2.2.2.2
theorem X_cons0 {s : gMem} {k v b l : Int} (hP : PK s b l) (hk : ¬ k = -1) : PK (f_X1_consider k v s).2 (if b = -1 then k else if v < l then k else b) (if b = -1 then v else if v < l then v else l) := by
  have e : f_X1_consider k v s = if s 68 0 = 0 then (0, mset (mset (mset s 68 0 1) 69 0 k) 70 0 v) else if v < s 70 0 then (0, mset (mset (mset s 68 0 1) 69 0 k) 70 0 v) else (0, s) := rfl
  have hn : PK (mset (mset (mset s 68 0 1) 69 0 k) 70 0 v) k v := Or.inr ⟨by simp [mset], hk, by simp [mset], by simp [mset]⟩
  rw [e]
  rcases hP with ⟨h1, h2, h3⟩ | ⟨h1, h2, h3, h4⟩
  · rw [if_pos h1, if_pos h2, if_pos h2]; exact hn
  · rw [if_neg (by omega), if_neg h2, if_neg h2, h4]
    by_cases c : v < l
    · rw [if_pos c, if_pos c, if_pos c]; exact hn
    · rw [if_neg c, if_neg c, if_neg c]; exact Or.inr ⟨h1, h2, h3, h4⟩
theorem XT_68 {s s' t0 : gMem} (h : XT s t0) (hf : fr [68, 69, 70] s s') (hg : gMR lgX s') : XT s' t0 := by
  obtain ⟨hR, ⟨i1, i2, i3, i4, i5, i6, i7, i8, i9, i10, i11, i12, i13⟩, hM, c1, c2, c3⟩ := id h
  exact XT_fr h hf (by decide) hg (KF_fr i11 (frK hf (by decide))) (KC_fr i12 (frK hf (by decide))) (KT_fr i13 (frK hf (by decide))) (CFf_fr c1 (hf 37 (by decide))) (CFc_fr c2 (hf 38 (by decide))) (CFt_fr c3 (hf 39 (by decide)))
theorem X_cons {s t0 : gMem} {w k v b l : Int} (h : XM s t0 w) (hL : LEA s) (hk : in32 k) (hv : 0 ≤ v ∧ v ≤ 1000000000000) (hP : PK s b l) (hk1 : ¬ k = -1) : ∃ s', f_X1_consider k v s = (0, s') ∧ XM s' t0 w ∧ LEA s' ∧ fr [68, 69, 70] s s' ∧ PK s' (if b = -1 then k else if v < l then k else b) (if b = -1 then v else if v < l then v else l) := by
  have hq := f_X1_consider_p k v s hk (by omega) h.1.2.1.1 hL hv (f_X1_consider k v s).1 (f_X1_consider k v s).2 rfl
  have e0 : (f_X1_consider k v s).1 = 0 := by
    have e : f_X1_consider k v s = if s 68 0 = 0 then (0, mset (mset (mset s 68 0 1) 69 0 k) 70 0 v) else if v < s 70 0 then (0, mset (mset (mset s 68 0 1) 69 0 k) 70 0 v) else (0, s) := rfl
    rw [e]
    split
    · rfl
    · split <;> rfl
  exact ⟨(f_X1_consider k v s).2, by rw [← e0], XM_fr h (XT_68 h.1 hq.1 hq.2.1) hq.1 (by decide), hq.2.2.2, hq.1, X_cons0 hP hk1⟩
theorem X_pbeg {s t0 : gMem} {w : Int} (h : XM s t0 w) (hL : LEA s) : ∃ s', f_X1_begin s = (0, s') ∧ XM s' t0 w ∧ LEA s' ∧ fr [68, 69, 70] s s' ∧ s' 68 0 = 0 ∧ s' 69 0 = -1 ∧ s' 70 0 = -1 := by
  have hq := f_X1_begin_p s h.1.2.1.1 hL (f_X1_begin s).1 (f_X1_begin s).2 rfl
  refine ⟨(f_X1_begin s).2, rfl, XM_fr h (XT_68 h.1 hq.1 hq.2.1) hq.1 (by decide), hq.2.2.2, hq.1, ?_, ?_, ?_⟩
  · show mset (mset (mset s 68 0 0) 69 0 (-1)) 70 0 (-1) 68 0 = 0
    simp [mset]
  · show mset (mset (mset s 68 0 0) 69 0 (-1)) 70 0 (-1) 69 0 = -1
    simp [mset]
  · show mset (mset (mset s 68 0 0) 69 0 (-1)) 70 0 (-1) 70 0 = -1
    simp [mset]
theorem gaps_eq (c : Int) : ∀ (n : Nat) (a b : Int), w_X8_gapsEvery_6 c n a b = w_X9_gapsBy_6 c n a b := by
  intro n
  induction n with
  | zero => intro a b; rfl
  | succ n ih =>
    intro a b
    rw [w_X8_gapsEvery_6_s, w_X9_gapsBy_6_s, ih]
theorem gaps_eq2 (c : Int) : f_X8_gapsEvery c = f_X9_gapsBy c := by
  unfold f_X8_gapsEvery f_X9_gapsBy
  rw [gaps_eq]
theorem every_loop {s0 t0 : gMem} {w c1 c2 : Int} (hB : XT s0 t0) (hK0 : KM s0) (hY0 : WY s0) (hQ0 : MQ4 t0) (hw : w = t0 2 2) : ∀ (n n' : Nat) (k b l : Int) (s t : gMem), XM s t0 w → LEA s → MT t0 t → MQ4 t → PK s b l → 2 ≤ k → k ≤ 17 → 17 - k < n → 17 - k < n' → (k = 2 ∨ s 68 0 = 1) → ∃ (s' t' : gMem) (b' l' : Int), w_X8_every_38 c1 n k s = (17, s') ∧ w_X9_every_20 c2 n' b l k t = (b', l', 17, t') ∧ XT s' t0 ∧ PK s' b' l' ∧ (17 - k ≤ 0 ∨ s' 68 0 = 1) ∧ (k = 2 ∨ s' 68 0 = 1) := by
  intro n
  induction n with
  | zero => intro n' k b l s t _ _ _ _ _ h1 h2 h3; exfalso; omega
  | succ n ih =>
    intro n' k b l s t hX hL hM hQ hP h1 h2 h3 h3' h4
    obtain ⟨n', rfl⟩ : ∃ j, n' = j + 1 := ⟨n' - 1, by omega⟩
    rw [w_X8_every_38_s, w_X9_every_20_s]
    by_cases c : 16 < k
    · have e : k = 17 := by omega
      subst e
      rw [if_pos c, if_pos c]
      exact ⟨s, t, b, l, rfl, rfl, hX.1, hP, Or.inl (by omega), h4⟩
    · rw [if_neg c, if_neg c, gaps_eq2]
      have hwr := hB.2.2.1.2.2.2.2 2
      have hg := f_X9_gapsBy_p k (by omega) (by omega)
      have hgr : in32 (f_X9_gapsBy k) := by omega
      obtain ⟨s1, e1, X1, f1⟩ := X_mean hX hQ0 hgr (by omega)
      obtain ⟨t1, e2, M1, Q1, f2⟩ := M_mean hB hK0 hY0 hM hQ0 hQ hgr (w := w) (by omega)
      have ew : t 2 2 = w := by rw [hM.1 2 (by decide)]; exact hw.symm
      rw [e1, ew, e2]
      simp only [gb, gj, gl]
      have hP1 : PK s1 b l := by
        unfold PK
        rw [f1 68 (by decide), f1 69 (by decide), f1 70 (by decide)]
        exact hP
      obtain ⟨s2, e3, X2, L2, f3, P2⟩ := X_cons X1 (LEA_fr hL (frK f1 (by decide))) (k := k) (v := MV t0 w (f_X9_gapsBy k)) (by omega) (MV_rg hB.2.2.1 hQ0 hgr (by omega)) hP1 (by omega)
      rw [e3]
      simp only
      have s68 : s2 68 0 = 1 := by
        rcases P2 with ⟨-, q, -⟩ | ⟨q, -⟩
        · exfalso
          by_cases z : b = -1
          · rw [if_pos z] at q; omega
          · rw [if_neg z] at q
            by_cases z2 : MV t0 w (f_X9_gapsBy k) < l
            · rw [if_pos z2] at q; omega
            · rw [if_neg z2] at q; exact z q
        · exact q
      simp only [if_neg (show ¬ ((1 : Int) = 0) by decide), if_pos (show ((0 : Int) = 0) from rfl)]
      obtain ⟨s', t', b', l', q1, q2, q3, q4, q5, q6⟩ := ih n' (k + 1) _ _ s2 t1 X2 L2 M1 Q1 P2 (by omega) (by omega) (by omega) (by omega) (Or.inr s68)
      have s68' : s' 68 0 = 1 := q6.resolve_left (by omega)
      refine ⟨s', t', b', l', q1, ?_, q3, q4, Or.inr s68', Or.inr s68'⟩
      by_cases z : b = -1
      · rw [if_pos z, if_pos z] at q2
        rw [if_pos z]; exact q2
      · rw [if_neg z, if_neg z] at q2
        rw [if_neg z]
        by_cases z2 : MV t0 w (f_X9_gapsBy k) < l
        · rw [if_pos z2, if_pos z2] at q2
          rw [if_pos z2]; exact q2
        · rw [if_neg z2, if_neg z2] at q2
          rw [if_neg z2]; exact q2
theorem EQ_every {s t : gMem} (h : INV s t) {x0 : Int} (hx0 : in32 x0) : (f_X8_every x0 s).1 = (f_X9_every x0 t).1 ∧ INV (f_X8_every x0 s).2 (f_X9_every x0 t).2 := by
  obtain ⟨fx, hX'⟩ := XI_every h.2.1 hx0
  obtain ⟨fm, hM'⟩ := MI_every h.2.2.1 hx0
  have key : (f_X8_every x0 s).1 = (f_X9_every x0 t).1 ∧ XT (f_X8_every x0 s).2 t := by
    unfold f_X8_every f_X9_every
    rw [if_out, if_in]
    by_cases a : 0 ≤ x0 ∧ x0 < 2
    · rw [if_pos a, if_pos (show 0 ≤ x0 ∧ x0 ≤ 1 by omega)]
      have e61 := h.1.2.1.2.2.1
      have hwr := h.2.2.1.1.2.2.2.2 2
      obtain ⟨s1, e1, f1, X1⟩ := INV_from h (w := t 2 2) (by omega)
      obtain ⟨s2, e2, X2, L2, f2, z1, z2, z3⟩ := X_pbeg X1 (LEA_fr (INV_LEA h) (frK f1 (by decide)))
      obtain ⟨s', t', b', l', q1, q2, q3, q4, q5, q6⟩ := every_loop (c1 := x0) (c2 := x0) (INV_XT h) (INV_KM h) (INV_WY h) (INV_MQ h) rfl 17 16 2 (-1) 0 s2 t X2 L2 (MT.rf (INV_gM h)) (INV_MQ h) (Or.inl ⟨z1, rfl, z2⟩) (by omega) (by omega) (by omega) (by omega) (Or.inl rfl)
      rw [e61, e1]
      simp only [gb]
      rw [e2]
      simp only [gl2, gl4]
      rw [q1]
      rw [q2]
      have s68 : s' 68 0 = 1 := q5.resolve_left (by omega)
      rcases q4 with ⟨z, -⟩ | ⟨-, -, z2, z3⟩
      · exfalso; omega
      · refine ⟨?_, q3⟩
        unfold f_X1_answer
        simp only
        by_cases e : x0 = 0
        · rw [if_pos e, if_pos e]; exact z2
        · rw [if_neg e, if_neg e]; exact z3
    · rw [if_neg a, if_neg (show ¬ (0 ≤ x0 ∧ x0 ≤ 1) by omega)]; exact ⟨rfl, INV_XT h⟩
  exact ⟨key.1, INV_scr h fx fm (by decide) (by decide) hX' hM' key.2⟩
