/-! stones put up by lots: put, drawn, odds -/
theorem beside_eq {s t : gMem} {x p : Int} (hR : RLpl s t) (hx : 0 ≤ x ∧ x ≤ 65535) (hp : 0 ≤ p ∧ p ≤ 15) (hre : 0 ≤ t 2 3) (hb : ¬ bitS x p) : ior (f_X4_fallsOn p 1 x (t 2 3) s) (f_X4_fallsOn p (-1) x (t 2 3) s) = f_X9_between_ (f_X9_fallsTo p (-1) x t) (f_X9_fallsTo p 1 x t) x ∧ 0 ≤ f_X9_between_ (f_X9_fallsTo p (-1) x t) (f_X9_fallsTo p 1 x t) x ∧ f_X9_between_ (f_X9_fallsTo p (-1) x t) (f_X9_fallsTo p 1 x t) x ≤ 65535 := by
  obtain ⟨a1, a2, a3, a4, a5⟩ := fall_two (c := 1) (x := x) hR (Or.inl rfl) hx hp hre
  obtain ⟨c1, c2, c3, c4, c5⟩ := fall_two (c := -1) (x := x) hR (Or.inr rfl) hx hp hre
  have a3' := a3 rfl
  have c4' := c4 rfl
  obtain ⟨m1, m2, m3⟩ := btw_bits (a := f_X9_fallsTo p (-1) x t) (b := f_X9_fallsTo p 1 x t) hx (by omega) (by omega)
  refine ⟨ext16 (ior_16 a1.1 a1.2 c1.1 c1.2) ⟨m1, m2⟩ (fun i i0 i1 => ?_), m1, m2⟩
  rw [bit_or a1 c1 ⟨i0, by omega⟩, a5 i i0 (by omega), c5 i i0 (by omega), m3 i i0 (by omega)]
  unfold BHD
  constructor
  · intro q
    rcases q with q | q
    · exact ⟨by omega, by omega, q.1⟩
    · exact ⟨by omega, by omega, q.1⟩
  · intro q
    by_cases e : i = p
    · exact absurd (e ▸ q.2.2) hb
    · by_cases e2 : p < i
      · exact Or.inl ⟨q.2.2, by omega⟩
      · exact Or.inr ⟨q.2.2, by omega⟩
theorem XT_7x {s s' t0 : gMem} (h : XT s t0) (hf : fr [71, 72, 73, 74] s s') (hg : gMR lgX s') : XT s' t0 := by
  obtain ⟨hR, ⟨i1, i2, i3, i4, i5, i6, i7, i8, i9, i10, i11, i12, i13⟩, hM, c1, c2, c3⟩ := id h
  exact XT_fr h hf (by decide) hg (KF_fr i11 (frK hf (by decide))) (KC_fr i12 (frK hf (by decide))) (KT_fr i13 (frK hf (by decide))) (CFf_fr c1 (hf 37 (by decide))) (CFc_fr c2 (hf 38 (by decide))) (CFt_fr c3 (hf 39 (by decide)))
theorem andn_rg {x y : Int} (h : 0 ≤ x ∧ x ≤ 65535) : 0 ≤ iand x y ∧ iand x y ≤ 65535 := by
  have := iand_nn y h.1 (by omega)
  omega
set_option maxHeartbeats 4000000 in
theorem put_two {s t0 t : gMem} {x p L : Int} (hX : XT s t0) (hM : MT t0 t) (hs : s 72 0 = x) (ht : t 35 0 = x) (hx : 0 ≤ x ∧ x ≤ 65535) (hp : 0 ≤ p ∧ p ≤ 15) (hb : ¬ bitS x p) (hL : s 71 0 = L) (hL0 : 0 ≤ L ∧ L ≤ 2147483647) (h73 : 0 ≤ s 73 0 ∧ s 73 0 ≤ 1000) (h74 : 0 ≤ s 74 0 ∧ s 74 0 ≤ 1000) : ∃ (r x' : Int) (s' t' : gMem), f_X0_putUp p s = (r, s') ∧ f_X9_putsUp p ((L * 48271) % 2147483647) t = (r, t') ∧ XT s' t0 ∧ MT t0 t' ∧ s' 72 0 = x' ∧ t' 35 0 = x' ∧ (0 ≤ x' ∧ x' ≤ 65535) ∧ s' 71 0 = (L * 48271) % 2147483647 ∧ s' 73 0 = s 73 0 + 1 ∧ s' 74 0 = s 74 0 + (if r = -1 then 0 else 1) ∧ fr [32, 36, 37, 71, 72, 73, 74] s s' ∧ fr [25, 26, 35] t t' := by
  obtain ⟨S, hS⟩ : ∃ S, S = mset (mset s 71 0 ((s 71 0 * 48271) % 2147483647)) 73 0 ((mset s 71 0 ((s 71 0 * 48271) % 2147483647)) 73 0 + 1) := ⟨_, rfl⟩
  have fS : fr [71, 73] s S := by rw [hS]; exact ((fr.rf _ s).set (by decide)).set (by decide)
  have S71 : S 71 0 = (L * 48271) % 2147483647 := by rw [hS, mset_ne _ _ _ _ _ (by decide), mset_eq, hL]
  have S73 : S 73 0 = s 73 0 + 1 := by rw [hS, mset_eq, mset_ne _ _ _ _ _ (by decide)]
  have e73 : (mset s 71 0 ((s 71 0 * 48271) % 2147483647)) 73 0 = s 73 0 := mset_ne _ _ _ _ _ (by decide)
  have gS : gMR lgX S := by
    rw [hS, e73]
    exact (hX.2.1.1.set64 rfl (by rw [hL]; omega)).set32 rfl (by omega)
  have XS1 : XT S t0 := XT_7x hX (fS.mono (by decide)) gS
  have S72 : S 72 0 = x := by rw [fS 72 (by decide)]; exact hs
  have S62 : S 62 0 = t0 2 3 := XS1.1.2.1.2.2.2
  have hRt : RLa S t := hM.RLa XS1.1
  have e23 : t 2 3 = t0 2 3 := by rw [hM.1 2 (by decide)]
  have td3 := hX.2.2.1.2.2.2.2 3
  obtain ⟨b1, b2, b3⟩ := beside_eq (p := p) hRt.1 hx hp (by omega) hb
  rw [e23] at b1
  obtain ⟨N, hN⟩ : ∃ N, N = f_X9_between_ (f_X9_fallsTo p (-1) x t) (f_X9_fallsTo p 1 x t) x := ⟨_, rfl⟩
  rw [← hN] at b1 b2 b3
  have on := f_X9_ones_p N (by omega)
  have obc := bc_rg b2 b3
  rw [bc_ones b2 b3] at obc
  obtain ⟨s1, e1, f1, X1⟩ := X_falls XS1 hp (b := f_X9_ones N) (by omega)
  obtain ⟨t1, m1, g1, M1⟩ := M_falls hX hM hp (b := f_X9_ones N) (by omega)
  have eX : f_X0_putUp p s = if (S 71 0) % 100 < FA t0 p (f_X9_ones N) then (f_X9_ones N, mset (mset s1 72 0 (iand (s1 72 0) (ixor N (-1)))) 74 0 ((mset s1 72 0 (iand (s1 72 0) (ixor N (-1)))) 74 0 + 1)) else (-1, mset s1 72 0 (ior (s1 72 0) (ishl 1 p))) := by
    unfold f_X0_putUp
    simp only [gl]
    rw [← hS, S72, S62, b1, bc_ones b2 b3, e1]
    rfl
  have eM : f_X9_putsUp p ((L * 48271) % 2147483647) t = if ((L * 48271) % 2147483647) % 100 < FA t0 p (f_X9_ones N) then (f_X9_ones N, mset t1 35 0 (iand (t1 35 0) (ixor N (-1)))) else (-1, mset t1 35 0 (ior (t1 35 0) (ishl 1 p))) := by
    unfold f_X9_putsUp
    simp only [gl]
    rw [ht, ← hN, m1]
    rfl
  have s172 : s1 72 0 = x := by rw [f1 72 (by decide)]; exact S72
  have t135 : t1 35 0 = x := by rw [g1 35 (by decide)]; exact ht
  have s174 : s1 74 0 = s 74 0 := by rw [f1 74 (by decide), fS 74 (by decide)]
  have fs1 : fr [32, 36, 37, 71, 72, 73, 74] s s1 := (fS.mono (by decide)).call (by decide) f1
  rw [eX, eM, S71]
  by_cases c : ((L * 48271) % 2147483647) % 100 < FA t0 p (f_X9_ones N)
  · rw [if_pos c, if_pos c, s172, t135]
    have hy := andn_rg (x := x) (y := ixor N (-1)) hx
    obtain ⟨T, hT⟩ : ∃ T, T = mset (mset s1 72 0 (iand x (ixor N (-1)))) 74 0 ((mset s1 72 0 (iand x (ixor N (-1)))) 74 0 + 1) := ⟨_, rfl⟩
    have e74 : (mset s1 72 0 (iand x (ixor N (-1)))) 74 0 = s 74 0 := by rw [mset_ne _ _ _ _ _ (by decide)]; exact s174
    have fT : fr [72, 74] s1 T := by rw [hT]; exact ((fr.rf _ s1).set (by decide)).set (by decide)
    have gT : gMR lgX T := by
      rw [hT, e74]
      exact (X1.2.1.1.set32 rfl (by omega)).set32 rfl (by omega)
    have fU : fr [35] t1 (mset t1 35 0 (iand x (ixor N (-1)))) := (fr.rf _ t1).set (by decide)
    rw [← hT]
    refine ⟨f_X9_ones N, iand x (ixor N (-1)), T, _, rfl, rfl, XT_7x X1 (fT.mono (by decide)) gT, M1.fr fU (M1.2.set32 rfl (by omega)) (by decide), ?_, mset_eq _ _ _ _, hy, ?_, ?_, ?_, fs1.call (by decide) fT, (g1.mono (by decide)).call (by decide) fU⟩
    · rw [hT, mset_ne _ _ _ _ _ (by decide), mset_eq]
    · rw [fT 71 (by decide), f1 71 (by decide)]; exact S71
    · rw [fT 73 (by decide), f1 73 (by decide)]; exact S73
    · rw [if_neg (by omega), hT, mset_eq, e74]
  · rw [if_neg c, if_neg c, s172, t135]
    have hy := ior_16 hx.1 hx.2 (shl_rg hp).1 (shl_rg hp).2
    have fT : fr [72] s1 (mset s1 72 0 (ior x (ishl 1 p))) := (fr.rf _ s1).set (by decide)
    have fU : fr [35] t1 (mset t1 35 0 (ior x (ishl 1 p))) := (fr.rf _ t1).set (by decide)
    refine ⟨-1, ior x (ishl 1 p), _, _, rfl, rfl, XT_7x X1 (fT.mono (by decide)) (X1.2.1.1.set32 rfl (by omega)), M1.fr fU (M1.2.set32 rfl (by omega)) (by decide), mset_eq _ _ _ _, mset_eq _ _ _ _, hy, ?_, ?_, ?_, fs1.call (by decide) fT, (g1.mono (by decide)).call (by decide) fU⟩
    · rw [fT 71 (by decide), f1 71 (by decide)]; exact S71
    · rw [fT 73 (by decide), f1 73 (by decide)]; exact S73
    · rw [if_pos rfl, fT 74 (by decide), s174]; omega
theorem INV_st2 {s t0 t s' t' : gMem} {v : Int} (h : XT s t0) (hm : MT t0 t) (hs : s' = mset s 60 0 v) (ht : t' = mset t 2 1 v) (hX : XI s') (hM : MI t') : INV s' t' := by
  have f1 : fr [60] s s' := by rw [hs]; exact (fr.rf _ _).set (by decide)
  have f2 : fr [2] t t' := by rw [ht]; exact (fr.rf _ _).set (by decide)
  have hR0 := hm.RLa h.1
  obtain ⟨a1, a2, a3, a4⟩ := hR0.2.1
  have hR : RLa s' t' := by
    refine ⟨RLpl_fr hR0.1 (frK f1 (by decide)) (frK f2 (by decide)), ?_, RLno_fr hR0.2.2.1 (frK f1 (by decide)) (frK f2 (by decide)), RLtp_fr hR0.2.2.2.1 (frK f1 (by decide)) (frK f2 (by decide)), RLtx_fr hR0.2.2.2.2.1 (frK f1 (by decide)) (frK f2 (by decide)), RLim_fr hR0.2.2.2.2.2.1 (frK f1 (by decide)) (frK f2 (by decide)), RLsh_fr hR0.2.2.2.2.2.2 (frK f1 (by decide)) (frK f2 (by decide))⟩
    unfold RLto
    rw [f1 59 (by decide), f1 61 (by decide), f1 62 (by decide), a1, a3, a4, hs, ht]
    simp [mset]
  obtain ⟨c1, c2, c3⟩ := CF_x h hR hX.1.2.2.1 hX.1.2.2.2.2.2.2.1 hM.1 ((f2 0 (by decide)).trans (hm.1 0 (by decide))) ((f2 1 (by decide)).trans (hm.1 1 (by decide))) (frK f1 (by decide)) (by rw [f1 _ (by have := h.2.1.2.2.2.1 0; simp; omega)]) (by rw [f1 _ (by have := h.2.1.2.2.2.1 0; simp; omega)])
  exact ⟨hR, hX, hM, c1, c2, c3⟩
theorem X_lbeg {s t0 : gMem} {x : Int} (h : XT s t0) (hx : 0 ≤ x ∧ x ≤ 100100) : ∃ s', f_X0_begin x s = (0, s') ∧ fr [71, 72, 73, 74] s s' ∧ XT s' t0 ∧ s' 71 0 = x + 1 ∧ s' 72 0 = s 60 0 ∧ s' 73 0 = 0 ∧ s' 74 0 = 0 := by
  obtain ⟨T, hT⟩ : ∃ T, T = mset (mset (mset (mset s 71 0 (x + 1)) 72 0 ((mset s 71 0 (x + 1)) 60 0)) 73 0 0) 74 0 0 := ⟨_, rfl⟩
  have e60 : (mset s 71 0 (x + 1)) 60 0 = s 60 0 := mset_ne _ _ _ _ _ (by decide)
  have fT : fr [71, 72, 73, 74] s T := by rw [hT]; exact ((((fr.rf _ s).set (by decide)).set (by decide)).set (by decide)).set (by decide)
  have gT : gMR lgX T := by
    rw [hT, e60]
    exact (((h.2.1.1.set64 rfl (by omega)).set32 rfl ((h.2.1.1 60 0).1 rfl)).set32 rfl (by omega)).set32 rfl (by omega)
  refine ⟨T, by rw [hT]; rfl, fT, XT_7x h fT gT, ?_, ?_, ?_, ?_⟩
  · rw [hT]; simp [mset]
  · rw [hT]; simp [mset]
  · rw [hT]; simp [mset]
  · rw [hT]; simp [mset]
theorem EQ_put {s t : gMem} (h : INV s t) {x0 x1 : Int} (hx0 : in32 x0) (hx1 : in32 x1) : (f_X8_put x0 x1 s).1 = (f_X9_put x0 x1 t).1 ∧ INV (f_X8_put x0 x1 s).2 (f_X9_put x0 x1 t).2 := by
  obtain ⟨fx, hX'⟩ := XI_put h.2.1 hx0 hx1
  obtain ⟨fm, hM'⟩ := MI_put h.2.2.1 hx0 hx1
  have e60 := h.1.2.1.2.1
  have td := h.2.2.1.1.2.2.2.2 1
  have eX : f_X8_put x0 x1 s = if 0 ≤ x0 ∧ x0 < 16 then (if 0 ≤ x1 ∧ x1 < 100000 then (if f_X9_isIn (t 2 1) x0 = 0 then gb (f_X0_begin x1 s) (fun r13 s14 => gb (f_X0_putUp x0 s14) (fun r20 s21 => (r20, mset s21 60 0 (s21 72 0)))) else (-3, s)) else (-7, s)) else (-5, s) := by
    unfold f_X8_put
    rw [if_out, if_out, e60, has_in]
    rfl
  have eM : f_X9_put x0 x1 t = if 0 ≤ x0 ∧ x0 ≤ 15 then (if 0 ≤ x1 ∧ x1 ≤ 99999 then (if f_X9_isIn (t 2 1) x0 = 0 then gb (f_X9_putsUp x0 (((x1 + 1) * 48271) % 2147483647) (mset t 35 0 (t 2 1))) (fun r20 s21 => (r20, mset s21 2 1 (s21 35 0))) else (-3, t)) else (-7, t)) else (-5, t) := by
    unfold f_X9_put
    rw [if_pl, if_in]
    rfl
  rw [eX] at hX' ⊢
  rw [eM] at hM' ⊢
  by_cases a : 0 ≤ x0 ∧ x0 < 16
  · have a' : 0 ≤ x0 ∧ x0 ≤ 15 := by omega
    rw [if_pos a] at hX' ⊢
    rw [if_pos a'] at hM' ⊢
    by_cases b : 0 ≤ x1 ∧ x1 < 100000
    · have b' : 0 ≤ x1 ∧ x1 ≤ 99999 := by omega
      rw [if_pos b] at hX' ⊢
      rw [if_pos b'] at hM' ⊢
      by_cases d : f_X9_isIn (t 2 1) x0 = 0
      · rw [if_pos d] at hX' hM' ⊢
        rw [if_pos d]
        obtain ⟨s1, e1, f1, X1, l71, l72, l73, l74⟩ := X_lbeg (INV_XT h) (x := x1) (by omega)
        have fT : fr [35] t (mset t 35 0 (t 2 1)) := (fr.rf _ t).set (by decide)
        have M1 : MT t (mset t 35 0 (t 2 1)) := (MT.rf (INV_gM h)).fr fT ((INV_gM h).set32 rfl (by omega)) (by decide)
        obtain ⟨r, x', s2, t2, q1, q2, q3, q4, q5, q6, q7, q8, q9, q10, q11, q12⟩ := put_two (p := x0) (x := t 2 1) (L := x1 + 1) X1 M1 (by rw [l72]; exact e60) (mset_eq _ _ _ _) (by omega) a' ((in0 _ _).mp d) l71 (by omega) (by omega) (by omega)
        rw [e1] at hX' ⊢
        simp only [gb] at hX' hM' ⊢
        rw [q1] at hX' ⊢
        rw [q2] at hM' ⊢
        simp only at hX' hM' ⊢
        rw [q5] at hX' ⊢
        rw [q6] at hM' ⊢
        exact ⟨trivial, INV_st2 q3 q4 rfl rfl hX' hM'⟩
      · rw [if_neg d] at hX' hM' ⊢
        rw [if_neg d]
        exact ⟨rfl, h⟩
    · rw [if_neg b] at hX' ⊢
      rw [if_neg (show ¬ (0 ≤ x1 ∧ x1 ≤ 99999) by omega)] at hM' ⊢
      exact ⟨rfl, h⟩
  · rw [if_neg a] at hX' ⊢
    rw [if_neg (show ¬ (0 ≤ x0 ∧ x0 ≤ 15) by omega)] at hM' ⊢
    exact ⟨rfl, h⟩
/-- the reference's order with its gaps behind -/
theorem M_gaps (x c1 c2 : Int) : ∀ (n : Nat) (p : Int) (t : gMem), t 2 0 = x → 0 ≤ p → p ≤ 16 → 16 - p < n → 0 ≤ t 30 0 → fr [27, 28, 30] t (w_X9_rowOf_24 c1 c2 n p t).2 ∧ (∀ i, i < t 30 0 → (w_X9_rowOf_24 c1 c2 n p t).2 27 i = t 27 i) ∧ (∀ q, p ≤ q → q < 16 → bitS x q → (w_X9_rowOf_24 c1 c2 n p t).2 27 (t 30 0 + gc x q - gc x p) = q) := by
  intro n
  induction n with
  | zero => intro p t _ _ _ h; exfalso; omega
  | succ n ih =>
    intro p t hx p0 p1 h m0
    rw [w_X9_rowOf_24_s, hx]
    by_cases c : p < 16
    · rw [if_pos c]
      simp only [gl]
      by_cases d : f_X9_isIn x p = 0
      · rw [if_pos d]
        have hb := (in0 _ _).mp d
        obtain ⟨a1, a2, a3⟩ := ih (p + 1) t hx (by omega) (by omega) (by omega) m0
        refine ⟨a1, a2, fun q q0 q1 qb => ?_⟩
        have hne : ¬ q = p := fun e => hb (by rw [← e]; exact qb)
        have := a3 q (by omega) q1 qb
        rw [gc_n p0 hb] at this
        exact this
      · rw [if_neg d]
        have hb : bitS x p := Classical.byContradiction fun z => d ((in0 _ _).mpr z)
        simp only [gb, f_X9_puts_, gl]
        obtain ⟨T, hT⟩ : ∃ T, T = mset (mset (mset t 27 (t 30 0) p) 28 ((mset t 27 (t 30 0) p) 30 0) 0) 30 0 ((mset (mset t 27 (t 30 0) p) 28 ((mset t 27 (t 30 0) p) 30 0) 0) 30 0 + 1) := ⟨_, rfl⟩
        rw [← hT]
        have fT : fr [27, 28, 30] t T := by rw [hT]; exact (((fr.rf _ t).set (by decide)).set (by decide)).set (by decide)
        have T27 : ∀ j, T 27 j = if j = t 30 0 then p else t 27 j := fun j => by rw [hT]; simp [mset]
        have T30 : T 30 0 = t 30 0 + 1 := by rw [hT]; simp [mset]
        obtain ⟨a1, a2, a3⟩ := ih (p + 1) T (by rw [fT 2 (by decide)]; exact hx) (by omega) (by omega) (by omega) (by omega)
        refine ⟨fT.call (fun _ hk => hk) a1, fun i i1 => ?_, fun q q0 q1 qb => ?_⟩
        · rw [a2 i (by omega), T27, if_neg (by omega)]
        · by_cases e : q = p
          · subst e
            have e1 : t 30 0 + gc x q - gc x q = t 30 0 := by omega
            rw [e1, a2 _ (by omega), T27, if_pos rfl]
          · have := a3 q (by omega) q1 qb
            rw [gc_g p0 hb, T30] at this
            have e1 : t 30 0 + 1 + gc x q - (gc x p + 1) = t 30 0 + gc x q - gc x p := by omega
            rw [e1] at this
            exact this
    · have e : p = 16 := by omega
      rw [if_neg c]
      exact ⟨fr.rf _ _, fun i _ => rfl, fun q q0 q1 => by omega⟩
theorem first_X {s : gMem} {x : Int} {f : Int → Int} (hx : s 72 0 = x) (hf : ∀ i, 0 ≤ i → i < 16 → s 43 i = f i) : ∀ (n : Nat) (i k : Int), 0 ≤ i → i ≤ k → k < 16 → (∀ j, i ≤ j → j < k → bitS x (f j)) → ¬ bitS x (f k) → k - i < n → t_X0_firstEmpty_2 s n i = f k := by
  intro n
  induction n with
  | zero => intro i k _ _ _ _ _ h; exfalso; omega
  | succ n ih =>
    intro i k i0 h1 h2 h3 h4 h5
    rw [t_X0_firstEmpty_2_s, if_pos (by omega), hx, hf i i0 (by omega)]
    by_cases e : i = k
    · subst e
      rw [if_pos ((has0 _ _).mpr h4)]
    · rw [if_neg (fun q => (has0 _ _).mp q (h3 i (by omega) (by omega)))]
      exact ih (i + 1) k (by omega) (by omega) h2 (fun j j0 j1 => h3 j (by omega) j1) h4 (by omega)
theorem first_M {t : gMem} {x c1 c2 : Int} {f : Int → Int} (hx : t 35 0 = x) (hf : ∀ i, 0 ≤ i → i < 16 → t 27 i = f i) : ∀ (n : Nat) (i k : Int), 0 ≤ i → i ≤ k → k < 16 → (∀ j, i ≤ j → j < k → bitS x (f j)) → ¬ bitS x (f k) → k - i < n → w_X9_rowOf_98 c1 c2 t n i = k := by
  intro n
  induction n with
  | zero => intro i k _ _ _ _ _ h; exfalso; omega
  | succ n ih =>
    intro i k i0 h1 h2 h3 h4 h5
    rw [w_X9_rowOf_98_s, hx, hf i i0 (by omega)]
    by_cases e : i = k
    · subst e
      rw [if_pos ((in0 _ _).mpr h4)]
    · rw [if_neg (fun q => (in0 _ _).mp q (h3 i (by omega) (by omega)))]
      exact ih (i + 1) k (by omega) (by omega) h2 (fun j j0 j1 => h3 j (by omega) j1) h4 (by omega)
theorem first_ex {x : Int} {f : Int → Int} (hx : 0 ≤ x ∧ x ≤ 65535) (hn : ¬ x = 65535) (ha : ALLC f) : ∃ k, 0 ≤ k ∧ k < 16 ∧ ¬ bitS x (f k) ∧ ∀ j, 0 ≤ j → j < k → bitS x (f j) := by
  have main : ∀ n : Nat, n ≤ 16 → (∃ k, 0 ≤ k ∧ k < (n : Int) ∧ ¬ bitS x (f k) ∧ ∀ j, 0 ≤ j → j < k → bitS x (f j)) ∨ ∀ j, 0 ≤ j → j < (n : Int) → bitS x (f j) := by
    intro n
    induction n with
    | zero => intro _; exact Or.inr (fun j j0 j1 => by omega)
    | succ n ih =>
      intro h
      rcases ih (by omega) with ⟨k, k0, k1, k2, k3⟩ | hall
      · exact Or.inl ⟨k, k0, by omega, k2, k3⟩
      · by_cases c : bitS x (f (n : Int))
        · refine Or.inr (fun j j0 j1 => ?_)
          by_cases e : j = n
          · rw [e]; exact c
          · exact hall j j0 (by omega)
        · exact Or.inl ⟨n, by omega, by omega, c, hall⟩
  rcases main 16 (by omega) with ⟨k, k0, k1, k2, k3⟩ | hall
  · exact ⟨k, k0, k1, k2, k3⟩
  · exfalso
    refine hn (full16 hx.1 hx.2 (fun q q0 q1 => ?_))
    obtain ⟨i, i0, i1, i2⟩ := ha q q0 q1
    rw [← i2]
    exact hall i i0 (by omega)
theorem draw_loop {sb t0 : gMem} {c : Int} {f : Int → Int} (hc : 0 ≤ c ∧ c ≤ 400) (hf : ∀ i, 0 ≤ i → i < 16 → 0 ≤ f i ∧ f i ≤ 15) (ha : ALLC f) : ∀ (n : Nat) (i L x : Int) (s t : gMem), XT s t0 → MT t0 t → s 72 0 = x → t 35 0 = x → (0 ≤ x ∧ x ≤ 65535) → s 71 0 = L → (0 ≤ L ∧ L ≤ 2147483647) → s 73 0 = i → t 36 0 = i → 0 ≤ i → i ≤ c → s 74 0 = t 37 0 → (0 ≤ s 74 0 ∧ s 74 0 ≤ i) → (∀ k, 0 ≤ k → k < 16 → s 43 k = f k ∧ t 27 k = f k) → c - i < n → ∃ (u L' : Int) (s' t' : gMem), w_X0_drawRow_8 c n i s = (u, s') ∧ w_X9_rowOf_78 c n L t = (L', t') ∧ XT s' t0 ∧ MT t0 t' ∧ s' 72 0 = t' 35 0 ∧ s' 73 0 = t' 36 0 ∧ s' 74 0 = t' 37 0 ∧ fr [32, 36, 37, 71, 72, 73, 74] s s' ∧ fr [25, 26, 35, 36, 37] t t' := by
  intro n
  induction n with
  | zero => intro i L x s t _ _ _ _ _ _ _ _ _ _ _ _ _ _ h; exfalso; omega
  | succ n ih =>
    intro i L x s t hX hM hs ht hx hL hL0 h73 h36 i0 ic h74 h740 hA hn
    rw [w_X0_drawRow_8_s, w_X9_rowOf_78_s, hs, ht, h36]
    by_cases c1 : x = 65535
    · rw [if_pos c1, if_pos c1]
      have e : (if i < c then (i, s) else (i, s)) = (i, s) := by split <;> rfl
      rw [e]
      exact ⟨i, L, s, t, rfl, rfl, hX, hM, by rw [hs, ht], by rw [h73, h36], h74, fr.rf _ _, fr.rf _ _⟩
    · rw [if_neg c1, if_neg c1]
      by_cases c2 : i < c
      · rw [if_pos c2, if_pos c2]
        obtain ⟨k, k0, k1, k2, k3⟩ := first_ex hx c1 ha
        have eF : f_X0_firstEmpty s = f k := first_X hs (fun j j0 j1 => (hA j j0 j1).1) 17 0 k (by omega) k0 k1 k3 k2 (by omega)
        have eG : w_X9_rowOf_98 c L t 17 0 = k := first_M ht (fun j j0 j1 => (hA j j0 j1).2) 17 0 k (by omega) k0 k1 k3 k2 (by omega)
        rw [eF, eG]
        simp only [gl, gb]
        obtain ⟨T, hT⟩ : ∃ T, T = mset t 36 0 (i + 1) := ⟨_, rfl⟩
        rw [← hT]
        have fT : fr [36] t T := by rw [hT]; exact (fr.rf _ t).set (by decide)
        have MT1 : MT t0 T := hM.fr fT (by rw [hT]; exact hM.2.set32 rfl (by omega)) (by decide)
        have T27 : T 27 k = f k := by rw [fT 27 (by decide)]; exact (hA k k0 k1).2
        rw [T27]
        obtain ⟨r, x', s2, t2, q1, q2, q3, q4, q5, q6, q7, q8, q9, q10, q11, q12⟩ := put_two (p := f k) (x := x) (L := L) hX MT1 hs (by rw [fT 35 (by decide)]; exact ht) hx (hf k k0 k1) k2 hL hL0 (by omega) (by omega)
        rw [q1, q2]
        simp only
        obtain ⟨U, hU⟩ : ∃ U, U = mset t2 37 0 (T 37 0 + (if r = -1 then 0 else 1)) := ⟨_, rfl⟩
        rw [← hU]
        have fU : fr [37] t2 U := by rw [hU]; exact (fr.rf _ t2).set (by decide)
        have T37 : T 37 0 = t 37 0 := by rw [fT 37 (by decide)]
        have hr01 : 0 ≤ (if r = -1 then (0 : Int) else 1) ∧ (if r = -1 then (0 : Int) else 1) ≤ 1 := by split <;> omega
        have MU : MT t0 U := q4.fr fU (by rw [hU, T37]; exact q4.2.set32 rfl (by omega)) (by decide)
        have fall : fr [25, 26, 35, 36, 37] t U := ((fT.mono (by decide)).call (by decide) q12).call (by decide) fU
        have U37 : U 37 0 = t 37 0 + (if r = -1 then 0 else 1) := by rw [hU, mset_eq, T37]
        have e36 : U 36 0 = i + 1 := by rw [fU 36 (by decide), q12 36 (by decide), hT, mset_eq]
        obtain ⟨u, L', s', t', r1, r2, r3, r4, r5, r6, r7, r8, r9⟩ := ih (i + 1) ((L * 48271) % 2147483647) x' s2 U q3 MU q5 (by rw [fU 35 (by decide)]; exact q6) q7 q8 (by omega) (by omega) e36 (by omega) (by omega) (by rw [q10, U37, h74]) (by rw [q10]; omega) (fun j j0 j1 => by
          rw [q11 43 (by decide), fall 27 (by decide)]
          exact hA j j0 j1) (by omega)
        exact ⟨u, L', s', t', r1, r2, r3, r4, r5, r6, r7, q11.call (fun _ hk => hk) r8, fall.call (fun _ hk => hk) r9⟩
      · rw [if_neg c2, if_neg c2]
        exact ⟨i, L, s, t, rfl, rfl, hX, hM, by rw [hs, ht], by rw [h73, h36], h74, fr.rf _ _, fr.rf _ _⟩
theorem AF_all {kd f g : Int → Int} {w x : Int} (h : AF f g w x (stl kd x 17 0)) (hx : ∀ q, 0 ≤ q → q ≤ 15 → ¬ bitS x q → ∃ i, 0 ≤ i ∧ i < tot (stl kd x 17 0) ∧ (ordv w (stl kd x 17 0) i).1 = q) : ALLC f := fun q q0 q1 => by
  have hgc := stl_gc kd x 17 0 (by omega) (by omega) (by omega)
  have g0 : gc x 0 = 0 := rfl
  have gn := gc_nn x 16
  have hl := stl_lok kd x 17 (p := 0) (by omega)
  have ht := tot_nn hl
  by_cases c : bitS x q
  · have h1 := gc_g q0 c
    have h2 := gc_mono x (p := q + 1) (q := 16) (by omega) (by omega)
    have h3 := gc_nn x q
    exact ⟨tot (stl kd x 17 0) + gc x q, by omega, by omega, (h.2 q q0 (by omega) c).1⟩
  · obtain ⟨i, i0, i1, i2⟩ := hx q q0 q1 c
    exact ⟨i, i0, by omega, by rw [(h.1 i i0 i1).1]; exact i2⟩
