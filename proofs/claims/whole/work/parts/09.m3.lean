def f_X9_puts_ (x0 : Int) (x1 : Int) (s0 : gMem) : gRes := gl (mset s0 27 (s0 30 0) x0) (fun s2 => gl (mset s2 28 (s2 30 0) x1) (fun s5 => gl (mset s5 30 0 ((s5 30 0) + 1)) (fun s8 => (0, s8))))
theorem f_X9_puts__e (x0 : Int) (x1 : Int) (s0 : gMem) : f_X9_puts_ x0 x1 s0 = gl (mset s0 27 (s0 30 0) x0) (fun s2 => gl (mset s2 28 (s2 30 0) x1) (fun s5 => gl (mset s5 30 0 ((s5 30 0) + 1)) (fun s8 => (0, s8)))) := rfl
set_option maxRecDepth 100000 in
set_option maxHeartbeats 4000000 in
theorem f_X9_puts__p (x0 : Int) (x1 : Int) (s0 : gMem) (hx0 : in32 x0) (hx1 : in32 x1) (hm_s0 : gMR lgM s0) (hpre0 : OR s0) (hpre1 : BE s0) (hpre2 : 0 ≤ s0 30 0 ∧ s0 30 0 ≤ 15) (hpre3 : 0 ≤ x0 ∧ x0 ≤ 15) (hpre4 : 0 ≤ x1 ∧ x1 ≤ 16) (rZ : Int) (sZ : gMem) (hres : f_X9_puts_ x0 x1 s0 = (rZ, sZ)) : (fr [27, 28, 30] s0 sZ) ∧ (gMR lgM sZ) ∧ (True) ∧ (OR sZ) ∧ (BE sZ) ∧ (sZ 30 0 = s0 30 0 + 1) := by
  have hT := f_X9_puts__e x0 x1 s0
  have hf_s0 : fr [27, 28, 30] s0 s0 := fr.rf _ _
  have hOR_s0 := hpre0
  have hBE_s0 := hpre1
  have hr1 := (hm_s0 30 0).1 rfl
  obtain ⟨s2, hs2, hT⟩ := glx hT
  have hf_s2 : fr [27, 28, 30] s0 s2 := hs2 ▸ hf_s0.set (by decide)
  have hm_s2 : gMR lgM s2 := hs2 ▸ hm_s0.set32 rfl (by omega)
  have hOR_s2 : OR s2 := hs2 ▸ OR_set hOR_s0 (by omega)
  have hBE_s2 : BE s2 := fun i => by rw [hs2, mset_ne _ _ _ _ _ (by decide)]; exact hBE_s0 i
  have ht3 : s2 30 0 = s0 30 0 := by rw [hs2]; exact mset_ne _ _ _ _ _ (by decide)
  have hr4 := (hm_s2 30 0).1 rfl
  obtain ⟨s5, hs5, hT⟩ := glx hT
  have hf_s5 : fr [27, 28, 30] s0 s5 := hs5 ▸ hf_s2.set (by decide)
  have hm_s5 : gMR lgM s5 := hs5 ▸ hm_s2.set32 rfl (by omega)
  have hOR_s5 : OR s5 := fun i => by rw [hs5, mset_ne _ _ _ _ _ (by decide)]; exact hOR_s2 i
  have hBE_s5 : BE s5 := hs5 ▸ BE_set hBE_s2 (by omega)
  have ht6 : s5 30 0 = s2 30 0 := by rw [hs5]; exact mset_ne _ _ _ _ _ (by decide)
  have hr7 := (hm_s5 30 0).1 rfl
  obtain ⟨s8, hs8, hT⟩ := glx hT
  have hf_s8 : fr [27, 28, 30] s0 s8 := hs8 ▸ hf_s5.set (by decide)
  have hm_s8 : gMR lgM s8 := hs8 ▸ hm_s5.set32 rfl (by omega)
  have hOR_s8 : OR s8 := fun i => by rw [hs8, mset_ne _ _ _ _ _ (by decide)]; exact hOR_s5 i
  have hBE_s8 : BE s8 := fun i => by rw [hs8, mset_ne _ _ _ _ _ (by decide)]; exact hBE_s5 i
  have ht9 : s8 30 0 = ((s5 30 0) + 1) := by rw [hs8]; exact mset_eq _ _ _ _
  obtain ⟨rfl, rfl⟩ := Prod.mk.inj (hT.symm.trans hres)
  exact ⟨hf_s8, hm_s8, trivial, hOR_s8, hBE_s8, (by first | assumption | omega)⟩
set_option maxRecDepth 100000 in
set_option maxHeartbeats 4000000 in
theorem c_X9_puts_ (l : Launch) (D : va_G) (a : Nat → Nat) (cI cJ cS cT : ClassId) (s0 : gMem) (x0 : Int) (x1 : Int) (hx0 : in32 x0) (hx1 : in32 x1) (hpre0 : OR s0) (hpre1 : BE s0) (hpre2 : 0 ≤ s0 30 0 ∧ s0 30 0 ≤ 15) (hpre3 : 0 ≤ x0 ∧ x0 ≤ 15) (hpre4 : 0 ≤ x1 ∧ x1 ≤ 16) : gC l yX9_puts_ cX9_puts_ 3 none 1 64 D vwCl (gT cI cJ cS cT) (wdM a cI cJ) lgM kV rgV [.ref (a 0), gI x0, gI x1] s0 (f_X9_puts_ x0 x1 s0) := by
  refine gC_of (by decide +kernel) (hwdM a cI cJ) (Nat.le_of_ble_eq_true rfl) ?_
  intro A p e R s m args below meth c hR E
  subst hR
  have hT := f_X9_puts__e x0 x1 s0
  have hf_s0 : fr [27, 28, 30] s0 s0 := fr.rf _ _
  refine k_lv0 (lv' := [(0, .ref (a 0)), (1, gI x0), (2, gI x1)]) rfl ?_
  refine k_mr (fun hm_s0 => ?_)
  have hOR_s0 := hpre0
  have hBE_s0 := hpre1
  refine k_aloadn (pc := 0) E 0 dX9_puts__0 rfl rfl ?_
  refine k_getf (pc := 1) (q0 := 0) (f := 27) (v := .ref (a 16)) E inX9 rfl rfl (by decide) wm_925 rfl rfl dX9_puts__1 ?_
  refine k_aloadn (pc := 4) E 0 dX9_puts__4 rfl rfl ?_
  refine k_getfI (pc := 5) (q0 := 0) (f := 30) (k := 30) E inX9 rfl rfl (by decide) wm_928 rfl rfl rfl dX9_puts__5 (fun hr1 => ?_)
  refine k_iloadn (pc := 8) E 1 dX9_puts__8 rfl rfl ?_
  refine k_iastore (pc := 9) (q0 := 16) (t0 := 0) (k := 27) (n := 16) E rfl rfl rfl rfl (by decide) (by omega) (by omega) (by omega) dX9_puts__9 ?_
  obtain ⟨s2, hs2, hT⟩ := glx hT
  refine k_sg hs2.symm ?_
  have hf_s2 : fr [27, 28, 30] s0 s2 := hs2 ▸ hf_s0.set (by decide)
  have hOR_s2 : OR s2 := hs2 ▸ OR_set hOR_s0 (by omega)
  have hBE_s2 : BE s2 := fun i => by rw [hs2, mset_ne _ _ _ _ _ (by decide)]; exact hBE_s0 i
  have ht3 : s2 30 0 = s0 30 0 := by rw [hs2]; exact mset_ne _ _ _ _ _ (by decide)
  refine k_aloadn (pc := 10) E 0 dX9_puts__10 rfl rfl ?_
  refine k_getf (pc := 11) (q0 := 0) (f := 28) (v := .ref (a 17)) E inX9 rfl rfl (by decide) wm_926 rfl rfl dX9_puts__11 ?_
  refine k_aloadn (pc := 14) E 0 dX9_puts__14 rfl rfl ?_
  refine k_getfI (pc := 15) (q0 := 0) (f := 30) (k := 30) E inX9 rfl rfl (by decide) wm_928 rfl rfl rfl dX9_puts__15 (fun hr4 => ?_)
  refine k_iloadn (pc := 18) E 2 dX9_puts__18 rfl rfl ?_
  refine k_iastore (pc := 19) (q0 := 17) (t0 := 0) (k := 28) (n := 16) E rfl rfl rfl rfl (by decide) (by omega) (by omega) (by omega) dX9_puts__19 ?_
  obtain ⟨s5, hs5, hT⟩ := glx hT
  refine k_sg hs5.symm ?_
  have hf_s5 : fr [27, 28, 30] s0 s5 := hs5 ▸ hf_s2.set (by decide)
  have hOR_s5 : OR s5 := fun i => by rw [hs5, mset_ne _ _ _ _ _ (by decide)]; exact hOR_s2 i
  have hBE_s5 : BE s5 := hs5 ▸ BE_set hBE_s2 (by omega)
  have ht6 : s5 30 0 = s2 30 0 := by rw [hs5]; exact mset_ne _ _ _ _ _ (by decide)
  refine k_aloadn (pc := 20) E 0 dX9_puts__20 rfl rfl ?_
  refine k_dup (pc := 21) E dX9_puts__21 rfl ?_
  refine k_getfI (pc := 22) (q0 := 0) (f := 30) (k := 30) E inX9 rfl rfl (by decide) wm_928 rfl rfl rfl dX9_puts__22 (fun hr7 => ?_)
  refine k_iconst (pc := 25) E dX9_puts__25 ?_
  refine k_iadd (pc := 26) E dX9_puts__26 ?_
  refine k_putfI (pc := 27) (q0 := 0) (f := 30) (k := 30) E tyX9 tyX9_ok nmX9 inX9 rfl rfl (by decide) wm_928 rfl rfl rfl (Nat.le_of_ble_eq_true rfl) rfl rfl (by omega) dX9_puts__27 ?_
  obtain ⟨s8, hs8, hT⟩ := glx hT
  refine k_sg hs8.symm ?_
  have hf_s8 : fr [27, 28, 30] s0 s8 := hs8 ▸ hf_s5.set (by decide)
  have hOR_s8 : OR s8 := fun i => by rw [hs8, mset_ne _ _ _ _ _ (by decide)]; exact hOR_s5 i
  have hBE_s8 : BE s8 := fun i => by rw [hs8, mset_ne _ _ _ _ _ (by decide)]; exact hBE_s5 i
  have ht9 : s8 30 0 = ((s5 30 0) + 1) := by rw [hs8]; exact mset_eq _ _ _ _
  exact k_rho hT (k_vret (pc := 30) E dX9_puts__30)

def w_X9_putsStretch_83 (c1 : Int) (c2 : Int) (c3 : Int) (c4 : Int) (c5 : Int) : Nat → Int → gMem → Int × gMem
  | 0, v35, s36 => (v35, s36)
  | n37 + 1, v35, s36 => (if v35 < c4 then (gl ((if c3 = 0 then (c1 + v35) else (if c3 = 1 then (c2 - v35) else (if (v35 % 2) = 1 then (c5 + ((v35 + 1) / 2)) else (c5 - (v35 / 2)))))) (fun v41 => gb (f_X9_puts_ v41 v35 s36) (fun r43 s44 => (w_X9_putsStretch_83 c1 c2 c3 c4 c5 n37 (v35 + 1) s44)))) else (v35, s36))
theorem w_X9_putsStretch_83_s (c1 : Int) (c2 : Int) (c3 : Int) (c4 : Int) (c5 : Int) (n37 : Nat) (v35 : Int) (s36 : gMem) : w_X9_putsStretch_83 c1 c2 c3 c4 c5 (n37 + 1) v35 s36 = (if v35 < c4 then (gl ((if c3 = 0 then (c1 + v35) else (if c3 = 1 then (c2 - v35) else (if (v35 % 2) = 1 then (c5 + ((v35 + 1) / 2)) else (c5 - (v35 / 2)))))) (fun v41 => gb (f_X9_puts_ v41 v35 s36) (fun r43 s44 => (w_X9_putsStretch_83 c1 c2 c3 c4 c5 n37 (v35 + 1) s44)))) else (v35, s36)) := rfl
def f_X9_putsStretch (x0 : Int) (x1 : Int) (x2 : Int) (s0 : gMem) : gRes := gl (mset s0 29 (s0 31 0) (s0 30 0)) (fun s6 => gl (mset s6 31 0 ((s6 31 0) + 1)) (fun s12 => (gl ((if (s12 32 0) < ((x1 - x0) + 1) then x0 else (s12 33 0))) (fun v20 => gl (mset s12 33 0 v20) (fun s21 => (gl ((if (s21 32 0) < ((x1 - x0) + 1) then ((x1 - x0) + 1) else (s21 32 0))) (fun v29 => gl (mset s21 32 0 v29) (fun s30 => (gl2 (w_X9_putsStretch_83 x0 x1 x2 ((x1 - x0) + 1) ((x0 + x1) / 2) 17 0 s30) (fun v110 s111 => (0, s111)))))))))))
theorem f_X9_putsStretch_e (x0 : Int) (x1 : Int) (x2 : Int) (s0 : gMem) : f_X9_putsStretch x0 x1 x2 s0 = gl (mset s0 29 (s0 31 0) (s0 30 0)) (fun s6 => gl (mset s6 31 0 ((s6 31 0) + 1)) (fun s12 => (gl ((if (s12 32 0) < ((x1 - x0) + 1) then x0 else (s12 33 0))) (fun v20 => gl (mset s12 33 0 v20) (fun s21 => (gl ((if (s21 32 0) < ((x1 - x0) + 1) then ((x1 - x0) + 1) else (s21 32 0))) (fun v29 => gl (mset s21 32 0 v29) (fun s30 => (gl2 (w_X9_putsStretch_83 x0 x1 x2 ((x1 - x0) + 1) ((x0 + x1) / 2) 17 0 s30) (fun v110 s111 => (0, s111))))))))))) := rfl
set_option maxRecDepth 100000 in
set_option maxHeartbeats 4000000 in
theorem f_X9_putsStretch_p (x0 : Int) (x1 : Int) (x2 : Int) (s0 : gMem) (hx0 : in32 x0) (hx1 : in32 x1) (hx2 : in32 x2) (hm_s0 : gMR lgM s0) (hpre0 : OR s0) (hpre1 : BE s0) (hpre2 : FI s0) (hpre3 : 0 ≤ x0 ∧ x0 ≤ x1 ∧ x1 ≤ 15) (hpre4 : 0 ≤ x2 ∧ x2 ≤ 2) (hpre5 : 0 ≤ s0 30 0 ∧ s0 30 0 + (x1 - x0 + 1) ≤ 16) (hpre6 : 0 ≤ s0 31 0 ∧ s0 31 0 ≤ 15) (hpre7 : -1 ≤ s0 33 0 ∧ s0 33 0 ≤ 15 ∧ 0 ≤ s0 32 0 ∧ s0 32 0 ≤ 16) (rZ : Int) (sZ : gMem) (hres : f_X9_putsStretch x0 x1 x2 s0 = (rZ, sZ)) : (fr [27, 28, 29, 30, 31, 32, 33] s0 sZ) ∧ (gMR lgM sZ) ∧ (True) ∧ (OR sZ) ∧ (BE sZ) ∧ (FI sZ) ∧ (sZ 30 0 = s0 30 0 + (x1 - x0 + 1)) ∧ (sZ 31 0 = s0 31 0 + 1) ∧ (-1 ≤ sZ 33 0 ∧ sZ 33 0 ≤ 15 ∧ 0 ≤ sZ 32 0 ∧ sZ 32 0 ≤ 16) := by
  have hT := f_X9_putsStretch_e x0 x1 x2 s0
  have hf_s0 : fr [27, 28, 29, 30, 31, 32, 33] s0 s0 := fr.rf _ _
  have hOR_s0 := hpre0
  have hBE_s0 := hpre1
  have hFI_s0 := hpre2
  have hd1 : (0 : Int) ≤ (x0 + x1) := (by omega)
  have hd2 : (0 : Int) < 2 := (by omega)
  have hb3 := dv_rg hd1 hd2
  have hr4 := (hm_s0 31 0).1 rfl
  have hr5 := (hm_s0 30 0).1 rfl
  obtain ⟨s6, hs6, hT⟩ := glx hT
  have hf_s6 : fr [27, 28, 29, 30, 31, 32, 33] s0 s6 := hs6 ▸ hf_s0.set (by decide)
  have hm_s6 : gMR lgM s6 := hs6 ▸ hm_s0.set32 rfl (by omega)
  have hOR_s6 : OR s6 := fun i => by rw [hs6, mset_ne _ _ _ _ _ (by decide)]; exact hOR_s0 i
  have hBE_s6 : BE s6 := fun i => by rw [hs6, mset_ne _ _ _ _ _ (by decide)]; exact hBE_s0 i
  have hFI_s6 : FI s6 := hs6 ▸ FI_set hFI_s0 (by omega)
  have ht7 : s6 30 0 = s0 30 0 := by rw [hs6]; exact mset_ne _ _ _ _ _ (by decide)
  have ht8 : s6 31 0 = s0 31 0 := by rw [hs6]; exact mset_ne _ _ _ _ _ (by decide)
  have ht9 : s6 32 0 = s0 32 0 := by rw [hs6]; exact mset_ne _ _ _ _ _ (by decide)
  have ht10 : s6 33 0 = s0 33 0 := by rw [hs6]; exact mset_ne _ _ _ _ _ (by decide)
  have hr11 := (hm_s6 31 0).1 rfl
  obtain ⟨s12, hs12, hT⟩ := glx hT
  have hf_s12 : fr [27, 28, 29, 30, 31, 32, 33] s0 s12 := hs12 ▸ hf_s6.set (by decide)
  have hm_s12 : gMR lgM s12 := hs12 ▸ hm_s6.set32 rfl (by omega)
  have hOR_s12 : OR s12 := fun i => by rw [hs12, mset_ne _ _ _ _ _ (by decide)]; exact hOR_s6 i
  have hBE_s12 : BE s12 := fun i => by rw [hs12, mset_ne _ _ _ _ _ (by decide)]; exact hBE_s6 i
  have hFI_s12 : FI s12 := fun i => by rw [hs12, mset_ne _ _ _ _ _ (by decide)]; exact hFI_s6 i
  have ht13 : s12 30 0 = s6 30 0 := by rw [hs12]; exact mset_ne _ _ _ _ _ (by decide)
  have ht14 : s12 31 0 = ((s6 31 0) + 1) := by rw [hs12]; exact mset_eq _ _ _ _
  have ht15 : s12 32 0 = s6 32 0 := by rw [hs12]; exact mset_ne _ _ _ _ _ (by decide)
  have ht16 : s12 33 0 = s6 33 0 := by rw [hs12]; exact mset_ne _ _ _ _ _ (by decide)
  have hr17 := (hm_s12 32 0).1 rfl
  obtain ⟨z123, hz123, hT⟩ := gl1x hT
  have j19 : ∀ (v20 : Int), ((in32 v20)) → z123 = v20 → (fr [27, 28, 29, 30, 31, 32, 33] s0 sZ) ∧ (gMR lgM sZ) ∧ (True) ∧ (OR sZ) ∧ (BE sZ) ∧ (FI sZ) ∧ (sZ 30 0 = s0 30 0 + (x1 - x0 + 1)) ∧ (sZ 31 0 = s0 31 0 + 1) ∧ (-1 ≤ sZ 33 0 ∧ sZ 33 0 ≤ 15 ∧ 0 ≤ sZ 32 0 ∧ sZ 32 0 ≤ 16) := by
    intro v20 hq hz
    have hq122 := hq
    replace hT := gl1y hT hz
    obtain ⟨s21, hs21, hT⟩ := glx hT
    have hf_s21 : fr [27, 28, 29, 30, 31, 32, 33] s0 s21 := hs21 ▸ hf_s12.set (by decide)
    have hm_s21 : gMR lgM s21 := hs21 ▸ hm_s12.set32 rfl (by omega)
    have hOR_s21 : OR s21 := fun i => by rw [hs21, mset_ne _ _ _ _ _ (by decide)]; exact hOR_s12 i
    have hBE_s21 : BE s21 := fun i => by rw [hs21, mset_ne _ _ _ _ _ (by decide)]; exact hBE_s12 i
    have hFI_s21 : FI s21 := fun i => by rw [hs21, mset_ne _ _ _ _ _ (by decide)]; exact hFI_s12 i
    have ht22 : s21 30 0 = s12 30 0 := by rw [hs21]; exact mset_ne _ _ _ _ _ (by decide)
    have ht23 : s21 31 0 = s12 31 0 := by rw [hs21]; exact mset_ne _ _ _ _ _ (by decide)
    have ht24 : s21 32 0 = s12 32 0 := by rw [hs21]; exact mset_ne _ _ _ _ _ (by decide)
    have ht25 : s21 33 0 = v20 := by rw [hs21]; exact mset_eq _ _ _ _
    have hr26 := (hm_s21 32 0).1 rfl
    obtain ⟨z120, hz120, hT⟩ := gl1x hT
    have j28 : ∀ (v29 : Int), ((in32 v29)) → z120 = v29 → (fr [27, 28, 29, 30, 31, 32, 33] s0 sZ) ∧ (gMR lgM sZ) ∧ (True) ∧ (OR sZ) ∧ (BE sZ) ∧ (FI sZ) ∧ (sZ 30 0 = s0 30 0 + (x1 - x0 + 1)) ∧ (sZ 31 0 = s0 31 0 + 1) ∧ (-1 ≤ sZ 33 0 ∧ sZ 33 0 ≤ 15 ∧ 0 ≤ sZ 32 0 ∧ sZ 32 0 ≤ 16) := by
      intro v29 hq hz
      have hq119 := hq
      replace hT := gl1y hT hz
      obtain ⟨s30, hs30, hT⟩ := glx hT
      have hf_s30 : fr [27, 28, 29, 30, 31, 32, 33] s0 s30 := hs30 ▸ hf_s21.set (by decide)
      have hm_s30 : gMR lgM s30 := hs30 ▸ hm_s21.set32 rfl (by omega)
      have hOR_s30 : OR s30 := fun i => by rw [hs30, mset_ne _ _ _ _ _ (by decide)]; exact hOR_s21 i
      have hBE_s30 : BE s30 := fun i => by rw [hs30, mset_ne _ _ _ _ _ (by decide)]; exact hBE_s21 i
      have hFI_s30 : FI s30 := fun i => by rw [hs30, mset_ne _ _ _ _ _ (by decide)]; exact hFI_s21 i
      have ht31 : s30 30 0 = s21 30 0 := by rw [hs30]; exact mset_ne _ _ _ _ _ (by decide)
      have ht32 : s30 31 0 = s21 31 0 := by rw [hs30]; exact mset_ne _ _ _ _ _ (by decide)
      have ht33 : s30 32 0 = v29 := by rw [hs30]; exact mset_eq _ _ _ _
      have ht34 : s30 33 0 = s21 33 0 := by rw [hs30]; exact mset_ne _ _ _ _ _ (by decide)
      have L67 : ∀ (n68 : Nat) (v65 : Int) (s66 : gMem), ((in32 v65) ∧ (fr [27, 28, 29, 30, 31, 32, 33] s0 s66) ∧ (gMR lgM s66) ∧ (OR s66) ∧ (BE s66) ∧ (FI s66) ∧ (s66 31 0 = s30 31 0) ∧ (s66 32 0 = s30 32 0) ∧ (s66 33 0 = s30 33 0) ∧ (0 ≤ v65 ∧ v65 ≤ x1 - x0 + 1) ∧ (s66 30 0 = s0 30 0 + v65)) → x1 - x0 + 1 - v65 < (n68 : Int) → (∀ (w69 : Int) (s70 : gMem), (w_X9_putsStretch_83 x0 x1 x2 ((x1 - x0) + 1) ((x0 + x1) / 2) n68 v65 s66) = (w69, s70) → ((in32 w69) ∧ (fr [27, 28, 29, 30, 31, 32, 33] s0 s70) ∧ (gMR lgM s70) ∧ (OR s70) ∧ (BE s70) ∧ (FI s70) ∧ (s70 31 0 = s30 31 0) ∧ (s70 32 0 = s30 32 0) ∧ (s70 33 0 = s30 33 0) ∧ (0 ≤ w69 ∧ w69 ≤ x1 - x0 + 1) ∧ (s70 30 0 = s0 30 0 + w69) ∧ (x1 - x0 + 1 ≤ w69)) → (fr [27, 28, 29, 30, 31, 32, 33] s0 sZ) ∧ (gMR lgM sZ) ∧ (True) ∧ (OR sZ) ∧ (BE sZ) ∧ (FI sZ) ∧ (sZ 30 0 = s0 30 0 + (x1 - x0 + 1)) ∧ (sZ 31 0 = s0 31 0 + 1) ∧ (-1 ≤ sZ 33 0 ∧ sZ 33 0 ≤ 15 ∧ 0 ≤ sZ 32 0 ∧ sZ 32 0 ≤ 16)) → (fr [27, 28, 29, 30, 31, 32, 33] s0 sZ) ∧ (gMR lgM sZ) ∧ (True) ∧ (OR sZ) ∧ (BE sZ) ∧ (FI sZ) ∧ (sZ 30 0 = s0 30 0 + (x1 - x0 + 1)) ∧ (sZ 31 0 = s0 31 0 + 1) ∧ (-1 ≤ sZ 33 0 ∧ sZ 33 0 ≤ 15 ∧ 0 ≤ sZ 32 0 ∧ sZ 32 0 ≤ 16) := by
        intro n68; induction n68 with
        | zero =>
          intro v65 s66 hq hm hk
          exfalso
          obtain ⟨hq98, hf_s66, hm_s66, hOR_s66, hBE_s66, hFI_s66, hq99, hq100, hq101, hq102, hq103⟩ := hq
          omega
        | succ n68 ih =>
          intro v65 s66 hq hm hk
          obtain ⟨hq104, hf_s66, hm_s66, hOR_s66, hBE_s66, hFI_s66, hq105, hq106, hq107, hq108, hq109⟩ := hq
          have hT := w_X9_putsStretch_83_s x0 x1 x2 ((x1 - x0) + 1) ((x0 + x1) / 2) n68 v65 s66
          by_cases h71 : v65 < ((x1 - x0) + 1)
          · replace hT := hT.trans (if_pos h71)
            obtain ⟨z86, hz86, hT⟩ := gl1x hT
            have j73 : ∀ (v74 : Int), ((in32 v74) ∧ (0 ≤ v74 ∧ v74 ≤ 15)) → z86 = v74 → (fr [27, 28, 29, 30, 31, 32, 33] s0 sZ) ∧ (gMR lgM sZ) ∧ (True) ∧ (OR sZ) ∧ (BE sZ) ∧ (FI sZ) ∧ (sZ 30 0 = s0 30 0 + (x1 - x0 + 1)) ∧ (sZ 31 0 = s0 31 0 + 1) ∧ (-1 ≤ sZ 33 0 ∧ sZ 33 0 ≤ 15 ∧ 0 ≤ sZ 32 0 ∧ sZ 32 0 ≤ 16) := by
              intro v74 hq hz
              obtain ⟨hq84, hq85⟩ := hq
              replace hT := gl1y hT hz
              obtain ⟨r76, s77, hs77⟩ : ∃ rr ss, (f_X9_puts_ v74 v65 s66) = (rr, ss) := ⟨_, _, rfl⟩
              replace hT := gby hT hs77
              have hp78 := f_X9_puts__p v74 v65 s66 (by omega) (by omega) hm_s66 hOR_s66 hBE_s66 (by first | assumption | omega) (by first | assumption | omega) (by first | assumption | omega) r76 s77 hs77
              obtain ⟨hfc_s77, hm_s77, hp79, hOR_s77, hBE_s77, hp80⟩ := hp78
              have hf_s77 : fr [27, 28, 29, 30, 31, 32, 33] s0 s77 := hf_s66.call (by decide) hfc_s77
              have hFI_s77 : FI s77 := fun i => by rw [hfc_s77 29 (by decide)]; exact hFI_s66 i
              have ht81 : s77 31 0 = s66 31 0 := by rw [hfc_s77 31 (by decide)]
              have ht82 : s77 32 0 = s66 32 0 := by rw [hfc_s77 32 (by decide)]
              have ht83 : s77 33 0 = s66 33 0 := by rw [hfc_s77 33 (by decide)]
              exact ih (v65 + 1) s77 ⟨(by omega), hf_s77, hm_s77, hOR_s77, hBE_s77, hFI_s77, (by first | assumption | omega), (by first | assumption | omega), (by first | assumption | omega), (by first | assumption | omega), (by first | assumption | omega)⟩ (by omega) (fun w69 s70 hw hi => hk w69 s70 (hT.trans hw) hi)
            replace hT := hz86
            by_cases h72 : x2 = 0
            · replace hT := hT.trans (if_pos h72)
              exact j73 (x0 + v65) ⟨(by omega), (by first | assumption | omega)⟩ hT
            · replace hT := hT.trans (if_neg h72)
              by_cases h87 : x2 = 1
              · replace hT := hT.trans (if_pos h87)
                exact j73 (x1 - v65) ⟨(by omega), (by first | assumption | omega)⟩ hT
              · replace hT := hT.trans (if_neg h87)
                have hd88 : (0 : Int) ≤ v65 := (by omega)
                have hd89 : (0 : Int) < 2 := (by omega)
                have hb90 := rm_rg (x := v65) hd89
                by_cases h91 : (v65 % 2) = 1
                · replace hT := hT.trans (if_pos h91)
                  have hd92 : (0 : Int) ≤ (v65 + 1) := (by omega)
                  have hd93 : (0 : Int) < 2 := (by omega)
                  have hb94 := dv_rg hd92 hd93
                  exact j73 (((x0 + x1) / 2) + ((v65 + 1) / 2)) ⟨(by omega), (by first | assumption | omega)⟩ hT
                · replace hT := hT.trans (if_neg h91)
                  have hd95 : (0 : Int) ≤ v65 := (by omega)
                  have hd96 : (0 : Int) < 2 := (by omega)
                  have hb97 := dv_rg hd95 hd96
                  exact j73 (((x0 + x1) / 2) - (v65 / 2)) ⟨(by omega), (by first | assumption | omega)⟩ hT
          · replace hT := hT.trans (if_neg h71)
            exact hk v65 s66 hT ⟨(by omega), hf_s66, hm_s66, hOR_s66, hBE_s66, hFI_s66, (by first | assumption | omega), (by first | assumption | omega), (by first | assumption | omega), (by first | assumption | omega), (by first | assumption | omega), (by first | assumption | omega)⟩
      refine L67 17 0 s30 ⟨(by omega), hf_s30, hm_s30, hOR_s30, hBE_s30, hFI_s30, (by first | assumption | omega), (by first | assumption | omega), (by first | assumption | omega), (by first | assumption | omega), (by first | assumption | omega)⟩ (by omega) (fun v110 s111 hw hq => ?_)
      obtain ⟨hq112, hf_s111, hm_s111, hOR_s111, hBE_s111, hFI_s111, hq113, hq114, hq115, hq116, hq117, hq118⟩ := hq
      replace hT := gl2y hT hw
      obtain ⟨rfl, rfl⟩ := Prod.mk.inj (hT.symm.trans hres)
      exact ⟨hf_s111, hm_s111, trivial, hOR_s111, hBE_s111, hFI_s111, (by first | assumption | omega), (by first | assumption | omega), (by first | assumption | omega)⟩
    replace hT := hz120
    by_cases h27 : (s21 32 0) < ((x1 - x0) + 1)
    · replace hT := hT.trans (if_pos h27)
      exact j28 ((x1 - x0) + 1) (by omega) hT
    · replace hT := hT.trans (if_neg h27)
      have hr121 := (hm_s21 32 0).1 rfl
      exact j28 (s21 32 0) (by omega) hT
  replace hT := hz123
  by_cases h18 : (s12 32 0) < ((x1 - x0) + 1)
  · replace hT := hT.trans (if_pos h18)
    exact j19 x0 (by omega) hT
  · replace hT := hT.trans (if_neg h18)
    have hr124 := (hm_s12 33 0).1 rfl
    exact j19 (s12 33 0) (by omega) hT
set_option maxRecDepth 100000 in
set_option maxHeartbeats 4000000 in
theorem c_X9_putsStretch (l : Launch) (D : va_G) (a : Nat → Nat) (cI cJ cS cT : ClassId) (s0 : gMem) (x0 : Int) (x1 : Int) (x2 : Int) (hx0 : in32 x0) (hx1 : in32 x1) (hx2 : in32 x2) (hpre0 : OR s0) (hpre1 : BE s0) (hpre2 : FI s0) (hpre3 : 0 ≤ x0 ∧ x0 ≤ x1 ∧ x1 ≤ 15) (hpre4 : 0 ≤ x2 ∧ x2 ≤ 2) (hpre5 : 0 ≤ s0 30 0 ∧ s0 30 0 + (x1 - x0 + 1) ≤ 16) (hpre6 : 0 ≤ s0 31 0 ∧ s0 31 0 ≤ 15) (hpre7 : -1 ≤ s0 33 0 ∧ s0 33 0 ≤ 15 ∧ 0 ≤ s0 32 0 ∧ s0 32 0 ≤ 16) : gC l yX9_putsStretch cX9_putsStretch 8 none 2 128 D vwCl (gT cI cJ cS cT) (wdM a cI cJ) lgM kV rgV [.ref (a 0), gI x0, gI x1, gI x2] s0 (f_X9_putsStretch x0 x1 x2 s0) := by
  refine gC_of (by decide +kernel) (hwdM a cI cJ) (Nat.le_of_ble_eq_true rfl) ?_
  intro A p e R s m args below meth c hR E
  subst hR
  have hT := f_X9_putsStretch_e x0 x1 x2 s0
  have hf_s0 : fr [27, 28, 29, 30, 31, 32, 33] s0 s0 := fr.rf _ _
  refine k_lv0 (lv' := [(0, .ref (a 0)), (1, gI x0), (2, gI x1), (3, gI x2)]) rfl ?_
  refine k_mr (fun hm_s0 => ?_)
  have hOR_s0 := hpre0
  have hBE_s0 := hpre1
  have hFI_s0 := hpre2
  refine k_iloadn (pc := 0) E 2 dX9_putsStretch_0 rfl rfl ?_
  refine k_iloadn (pc := 1) E 1 dX9_putsStretch_1 rfl rfl ?_
  refine k_isub (pc := 2) E dX9_putsStretch_2 ?_
  refine k_iconst (pc := 3) E dX9_putsStretch_3 ?_
  refine k_iadd (pc := 4) E dX9_putsStretch_4 ?_
  refine k_istore (pc := 5) (lv' := [(4, gI ((x1 - x0) + 1)), (0, .ref (a 0)), (1, gI x0), (2, gI x1), (3, gI x2)]) E dX9_putsStretch_5 (by decide) rfl ?_
  refine k_iloadn (pc := 7) E 2 dX9_putsStretch_7 rfl rfl ?_
  refine k_iloadn (pc := 8) E 3 dX9_putsStretch_8 rfl rfl ?_
  refine k_iadd (pc := 9) E dX9_putsStretch_9 ?_
  refine k_iconst (pc := 10) E dX9_putsStretch_10 ?_
  have hd1 : (0 : Int) ≤ (x0 + x1) := (by omega)
  have hd2 : (0 : Int) < 2 := (by omega)
  refine k_idivN (pc := 11) E (by omega) (by omega) hd1 hd2 dX9_putsStretch_11 ?_
  have hb3 := dv_rg hd1 hd2
  refine k_istore (pc := 12) (lv' := [(5, gI ((x0 + x1) / 2)), (4, gI ((x1 - x0) + 1)), (0, .ref (a 0)), (1, gI x0), (2, gI x1), (3, gI x2)]) E dX9_putsStretch_12 (by decide) rfl ?_
  refine k_aloadn (pc := 14) E 2 dX9_putsStretch_14 rfl rfl ?_
  refine k_getf (pc := 15) (q0 := 0) (f := 29) (v := .ref (a 18)) E inX9 rfl rfl (by decide) wm_927 rfl rfl dX9_putsStretch_15 ?_
  refine k_aloadn (pc := 18) E 2 dX9_putsStretch_18 rfl rfl ?_
  refine k_getfI (pc := 19) (q0 := 0) (f := 31) (k := 31) E inX9 rfl rfl (by decide) wm_929 rfl rfl rfl dX9_putsStretch_19 (fun hr4 => ?_)
  refine k_aloadn (pc := 22) E 2 dX9_putsStretch_22 rfl rfl ?_
  refine k_getfI (pc := 23) (q0 := 0) (f := 30) (k := 30) E inX9 rfl rfl (by decide) wm_928 rfl rfl rfl dX9_putsStretch_23 (fun hr5 => ?_)
  refine k_iastore (pc := 26) (q0 := 18) (t0 := 0) (k := 29) (n := 16) E rfl rfl rfl rfl (by decide) (by omega) (by omega) (by omega) dX9_putsStretch_26 ?_
  obtain ⟨s6, hs6, hT⟩ := glx hT
  refine k_sg hs6.symm ?_
  have hf_s6 : fr [27, 28, 29, 30, 31, 32, 33] s0 s6 := hs6 ▸ hf_s0.set (by decide)
  have hOR_s6 : OR s6 := fun i => by rw [hs6, mset_ne _ _ _ _ _ (by decide)]; exact hOR_s0 i
  have hBE_s6 : BE s6 := fun i => by rw [hs6, mset_ne _ _ _ _ _ (by decide)]; exact hBE_s0 i
  have hFI_s6 : FI s6 := hs6 ▸ FI_set hFI_s0 (by omega)
  have ht7 : s6 30 0 = s0 30 0 := by rw [hs6]; exact mset_ne _ _ _ _ _ (by decide)
  have ht8 : s6 31 0 = s0 31 0 := by rw [hs6]; exact mset_ne _ _ _ _ _ (by decide)
  have ht9 : s6 32 0 = s0 32 0 := by rw [hs6]; exact mset_ne _ _ _ _ _ (by decide)
  have ht10 : s6 33 0 = s0 33 0 := by rw [hs6]; exact mset_ne _ _ _ _ _ (by decide)
  refine k_aloadn (pc := 27) E 2 dX9_putsStretch_27 rfl rfl ?_
  refine k_dup (pc := 28) E dX9_putsStretch_28 rfl ?_
  refine k_getfI (pc := 29) (q0 := 0) (f := 31) (k := 31) E inX9 rfl rfl (by decide) wm_929 rfl rfl rfl dX9_putsStretch_29 (fun hr11 => ?_)
  refine k_iconst (pc := 32) E dX9_putsStretch_32 ?_
  refine k_iadd (pc := 33) E dX9_putsStretch_33 ?_
  refine k_putfI (pc := 34) (q0 := 0) (f := 31) (k := 31) E tyX9 tyX9_ok nmX9 inX9 rfl rfl (by decide) wm_929 rfl rfl rfl (Nat.le_of_ble_eq_true rfl) rfl rfl (by omega) dX9_putsStretch_34 ?_
  obtain ⟨s12, hs12, hT⟩ := glx hT
  refine k_sg hs12.symm ?_
  have hf_s12 : fr [27, 28, 29, 30, 31, 32, 33] s0 s12 := hs12 ▸ hf_s6.set (by decide)
  have hOR_s12 : OR s12 := fun i => by rw [hs12, mset_ne _ _ _ _ _ (by decide)]; exact hOR_s6 i
  have hBE_s12 : BE s12 := fun i => by rw [hs12, mset_ne _ _ _ _ _ (by decide)]; exact hBE_s6 i
  have hFI_s12 : FI s12 := fun i => by rw [hs12, mset_ne _ _ _ _ _ (by decide)]; exact hFI_s6 i
  have ht13 : s12 30 0 = s6 30 0 := by rw [hs12]; exact mset_ne _ _ _ _ _ (by decide)
  have ht14 : s12 31 0 = ((s6 31 0) + 1) := by rw [hs12]; exact mset_eq _ _ _ _
  have ht15 : s12 32 0 = s6 32 0 := by rw [hs12]; exact mset_ne _ _ _ _ _ (by decide)
  have ht16 : s12 33 0 = s6 33 0 := by rw [hs12]; exact mset_ne _ _ _ _ _ (by decide)
  refine k_aloadn (pc := 37) E 2 dX9_putsStretch_37 rfl rfl ?_
  refine k_iload (pc := 38) E 1 dX9_putsStretch_38 rfl ?_
  refine k_aloadn (pc := 40) E 2 dX9_putsStretch_40 rfl rfl ?_
  refine k_getfI (pc := 41) (q0 := 0) (f := 32) (k := 32) E inX9 rfl rfl (by decide) wm_930 rfl rfl rfl dX9_putsStretch_41 (fun hr17 => ?_)
  obtain ⟨z123, hz123, hT⟩ := gl1x hT
  have j19 : ∀ (v20 : Int), ((in32 v20)) → z123 = v20 → gK D vwCl (wdM a cI cJ) lgM A p l e { frames := 2, cells := 0, slots := 0, locals := 128 } s m args below meth c 8 (gQQ D vwCl (wdM a cI cJ) lgM A kV rgV below args s) (f_X9_putsStretch x0 x1 x2 s0) s12 55 [(0, .ref (a 0)), (1, gI x0), (2, gI x1), (3, gI x2), (4, gI ((x1 - x0) + 1)), (5, gI ((x0 + x1) / 2))] [gI v20, .ref (a 0)] := by
    intro v20 hq hz
    have hq122 := hq
    replace hT := gl1y hT hz
    refine k_putfI (pc := 55) (q0 := 0) (f := 33) (k := 33) E tyX9 tyX9_ok nmX9 inX9 rfl rfl (by decide) wm_931 rfl rfl rfl (Nat.le_of_ble_eq_true rfl) rfl rfl (by omega) dX9_putsStretch_55 ?_
    obtain ⟨s21, hs21, hT⟩ := glx hT
    refine k_sg hs21.symm ?_
    have hf_s21 : fr [27, 28, 29, 30, 31, 32, 33] s0 s21 := hs21 ▸ hf_s12.set (by decide)
    have hOR_s21 : OR s21 := fun i => by rw [hs21, mset_ne _ _ _ _ _ (by decide)]; exact hOR_s12 i
    have hBE_s21 : BE s21 := fun i => by rw [hs21, mset_ne _ _ _ _ _ (by decide)]; exact hBE_s12 i
    have hFI_s21 : FI s21 := fun i => by rw [hs21, mset_ne _ _ _ _ _ (by decide)]; exact hFI_s12 i
    have ht22 : s21 30 0 = s12 30 0 := by rw [hs21]; exact mset_ne _ _ _ _ _ (by decide)
    have ht23 : s21 31 0 = s12 31 0 := by rw [hs21]; exact mset_ne _ _ _ _ _ (by decide)
    have ht24 : s21 32 0 = s12 32 0 := by rw [hs21]; exact mset_ne _ _ _ _ _ (by decide)
    have ht25 : s21 33 0 = v20 := by rw [hs21]; exact mset_eq _ _ _ _
    refine k_aloadn (pc := 58) E 0 dX9_putsStretch_58 rfl rfl ?_
    refine k_iload (pc := 59) E 4 dX9_putsStretch_59 rfl ?_
    refine k_aloadn (pc := 61) E 0 dX9_putsStretch_61 rfl rfl ?_
    refine k_getfI (pc := 62) (q0 := 0) (f := 32) (k := 32) E inX9 rfl rfl (by decide) wm_930 rfl rfl rfl dX9_putsStretch_62 (fun hr26 => ?_)
    obtain ⟨z120, hz120, hT⟩ := gl1x hT
    have j28 : ∀ (v29 : Int), ((in32 v29)) → z120 = v29 → gK D vwCl (wdM a cI cJ) lgM A p l e { frames := 2, cells := 0, slots := 0, locals := 128 } s m args below meth c 8 (gQQ D vwCl (wdM a cI cJ) lgM A kV rgV below args s) (f_X9_putsStretch x0 x1 x2 s0) s21 77 [(0, .ref (a 0)), (1, gI x0), (2, gI x1), (3, gI x2), (4, gI ((x1 - x0) + 1)), (5, gI ((x0 + x1) / 2))] [gI v29, .ref (a 0)] := by
      intro v29 hq hz
      have hq119 := hq
      replace hT := gl1y hT hz
      refine k_putfI (pc := 77) (q0 := 0) (f := 32) (k := 32) E tyX9 tyX9_ok nmX9 inX9 rfl rfl (by decide) wm_930 rfl rfl rfl (Nat.le_of_ble_eq_true rfl) rfl rfl (by omega) dX9_putsStretch_77 ?_
      obtain ⟨s30, hs30, hT⟩ := glx hT
      refine k_sg hs30.symm ?_
      have hf_s30 : fr [27, 28, 29, 30, 31, 32, 33] s0 s30 := hs30 ▸ hf_s21.set (by decide)
      have hOR_s30 : OR s30 := fun i => by rw [hs30, mset_ne _ _ _ _ _ (by decide)]; exact hOR_s21 i
      have hBE_s30 : BE s30 := fun i => by rw [hs30, mset_ne _ _ _ _ _ (by decide)]; exact hBE_s21 i
      have hFI_s30 : FI s30 := fun i => by rw [hs30, mset_ne _ _ _ _ _ (by decide)]; exact hFI_s21 i
      have ht31 : s30 30 0 = s21 30 0 := by rw [hs30]; exact mset_ne _ _ _ _ _ (by decide)
      have ht32 : s30 31 0 = s21 31 0 := by rw [hs30]; exact mset_ne _ _ _ _ _ (by decide)
      have ht33 : s30 32 0 = v29 := by rw [hs30]; exact mset_eq _ _ _ _
      have ht34 : s30 33 0 = s21 33 0 := by rw [hs30]; exact mset_ne _ _ _ _ _ (by decide)
      refine k_iconst (pc := 80) E dX9_putsStretch_80 ?_
      refine k_istore (pc := 81) (lv' := [(6, gI 0), (0, .ref (a 0)), (1, gI x0), (2, gI x1), (3, gI x2), (4, gI ((x1 - x0) + 1)), (5, gI ((x0 + x1) / 2))]) E dX9_putsStretch_81 (by decide) rfl ?_
      have L67 : ∀ (n68 : Nat) (v65 : Int) (s66 : gMem), ((in32 v65) ∧ (fr [27, 28, 29, 30, 31, 32, 33] s0 s66) ∧ (OR s66) ∧ (BE s66) ∧ (FI s66) ∧ (s66 31 0 = s30 31 0) ∧ (s66 32 0 = s30 32 0) ∧ (s66 33 0 = s30 33 0) ∧ (0 ≤ v65 ∧ v65 ≤ x1 - x0 + 1) ∧ (s66 30 0 = s0 30 0 + v65)) → x1 - x0 + 1 - v65 < (n68 : Int) → (∀ (w69 : Int) (s70 : gMem), (w_X9_putsStretch_83 x0 x1 x2 ((x1 - x0) + 1) ((x0 + x1) / 2) n68 v65 s66) = (w69, s70) → ((in32 w69) ∧ (fr [27, 28, 29, 30, 31, 32, 33] s0 s70) ∧ (OR s70) ∧ (BE s70) ∧ (FI s70) ∧ (s70 31 0 = s30 31 0) ∧ (s70 32 0 = s30 32 0) ∧ (s70 33 0 = s30 33 0) ∧ (0 ≤ w69 ∧ w69 ≤ x1 - x0 + 1) ∧ (s70 30 0 = s0 30 0 + w69) ∧ (x1 - x0 + 1 ≤ w69)) → gK D vwCl (wdM a cI cJ) lgM A p l e { frames := 2, cells := 0, slots := 0, locals := 128 } s m args below meth c 8 (gQQ D vwCl (wdM a cI cJ) lgM A kV rgV below args s) (f_X9_putsStretch x0 x1 x2 s0) s70 156 [] []) → gK D vwCl (wdM a cI cJ) lgM A p l e { frames := 2, cells := 0, slots := 0, locals := 128 } s m args below meth c 8 (gQQ D vwCl (wdM a cI cJ) lgM A kV rgV below args s) (f_X9_putsStretch x0 x1 x2 s0) s66 83 [(0, .ref (a 0)), (1, gI x0), (2, gI x1), (3, gI x2), (4, gI ((x1 - x0) + 1)), (5, gI ((x0 + x1) / 2)), (6, gI v65)] [] := by
        intro n68; induction n68 with
        | zero =>
          intro v65 s66 hq hm hk
          exfalso
          obtain ⟨hq98, hf_s66, hOR_s66, hBE_s66, hFI_s66, hq99, hq100, hq101, hq102, hq103⟩ := hq
          omega
        | succ n68 ih =>
          intro v65 s66 hq hm hk
          obtain ⟨hq104, hf_s66, hOR_s66, hBE_s66, hFI_s66, hq105, hq106, hq107, hq108, hq109⟩ := hq
          have hT := w_X9_putsStretch_83_s x0 x1 x2 ((x1 - x0) + 1) ((x0 + x1) / 2) n68 v65 s66
          refine k_iload (pc := 83) E 6 dX9_putsStretch_83 rfl ?_
          refine k_iload (pc := 85) E 4 dX9_putsStretch_85 rfl ?_
          by_cases h71 : v65 < ((x1 - x0) + 1)
          · replace hT := hT.trans (if_pos h71)
            refine k_icmp_ge_f (pc := 87) (tgt := 156) E (by omega) (by omega) dX9_putsStretch_87 (by decide) h71 ?_
            refine k_iloadn (pc := 90) E 3 dX9_putsStretch_90 rfl rfl ?_
            obtain ⟨z86, hz86, hT⟩ := gl1x hT
            have j73 : ∀ (v74 : Int), ((in32 v74) ∧ (0 ≤ v74 ∧ v74 ≤ 15)) → z86 = v74 → gK D vwCl (wdM a cI cJ) lgM A p l e { frames := 2, cells := 0, slots := 0, locals := 128 } s m args below meth c 8 (gQQ D vwCl (wdM a cI cJ) lgM A kV rgV below args s) (f_X9_putsStretch x0 x1 x2 s0) s66 140 [(0, .ref (a 0)), (1, gI x0), (2, gI x1), (3, gI x2), (4, gI ((x1 - x0) + 1)), (5, gI ((x0 + x1) / 2)), (6, gI v65)] [gI v74] := by
              intro v74 hq hz
              obtain ⟨hq84, hq85⟩ := hq
              replace hT := gl1y hT hz
              refine k_istore (pc := 140) (lv' := [(7, gI v74), (0, .ref (a 0)), (1, gI x0), (2, gI x1), (3, gI x2), (4, gI ((x1 - x0) + 1)), (5, gI ((x0 + x1) / 2)), (6, gI v65)]) E dX9_putsStretch_140 (by decide) rfl ?_
              refine k_aloadn (pc := 142) E 1 dX9_putsStretch_142 rfl rfl ?_
              refine k_iload (pc := 143) E 0 dX9_putsStretch_143 rfl ?_
              refine k_iload (pc := 145) E 7 dX9_putsStretch_145 rfl ?_
              refine k_mr (fun hm_s66 => ?_)
              refine k_callV (pc := 147) (np := 2) (As := [gI v74, gI v65]) (st := []) (q0 := 0) E (c_X9_puts_ l D a cI cJ cS cT s66 v74 v65 (by omega) (by omega) hOR_s66 hBE_s66 (by first | assumption | omega) (by first | assumption | omega) (by first | assumption | omega)) wm_1096 wm_11 wm_1093 wm_1095 wp_41 (by decide +kernel) rfl rfl ⟨by decide, by decide⟩ rfl (Nat.le_of_ble_eq_true rfl) dX9_putsStretch_147 (fun r76 s77 hs77 hr75 => ?_)
              replace hT := gby hT hs77
              have hp78 := f_X9_puts__p v74 v65 s66 (by omega) (by omega) hm_s66 hOR_s66 hBE_s66 (by first | assumption | omega) (by first | assumption | omega) (by first | assumption | omega) r76 s77 hs77
              obtain ⟨hfc_s77, hm_s77, hp79, hOR_s77, hBE_s77, hp80⟩ := hp78
              have hf_s77 : fr [27, 28, 29, 30, 31, 32, 33] s0 s77 := hf_s66.call (by decide) hfc_s77
              have hFI_s77 : FI s77 := fun i => by rw [hfc_s77 29 (by decide)]; exact hFI_s66 i
              have ht81 : s77 31 0 = s66 31 0 := by rw [hfc_s77 31 (by decide)]
              have ht82 : s77 32 0 = s66 32 0 := by rw [hfc_s77 32 (by decide)]
              have ht83 : s77 33 0 = s66 33 0 := by rw [hfc_s77 33 (by decide)]
              refine k_st (st' := []) rfl ?_
              refine k_iinc (pc := 150) (lv' := [(6, gI (v65 + 1)), (7, gI v74), (0, .ref (a 0)), (1, gI x0), (2, gI x1), (3, gI x2), (4, gI ((x1 - x0) + 1)), (5, gI ((x0 + x1) / 2))]) E 7 dX9_putsStretch_150 rfl (by decide) rfl ?_
              refine k_goto (pc := 153) (tgt := 83) E dX9_putsStretch_153 (by decide) ?_
              refine k_lv (lv' := [(0, .ref (a 0)), (1, gI x0), (2, gI x1), (3, gI x2), (4, gI ((x1 - x0) + 1)), (5, gI ((x0 + x1) / 2)), (6, gI (v65 + 1))]) [2, 3, 4, 5, 6, 7, 0] rfl ?_
              exact ih (v65 + 1) s77 ⟨(by omega), hf_s77, hOR_s77, hBE_s77, hFI_s77, (by first | assumption | omega), (by first | assumption | omega), (by first | assumption | omega), (by first | assumption | omega), (by first | assumption | omega)⟩ (by omega) (fun w69 s70 hw hi => hk w69 s70 (hT.trans hw) hi)
            replace hT := hz86
            by_cases h72 : x2 = 0
            · replace hT := hT.trans (if_pos h72)
              refine k_if_ne_f (pc := 91) (tgt := 101) E (by omega) dX9_putsStretch_91 (by decide) h72 ?_
              refine k_iloadn (pc := 94) E 1 dX9_putsStretch_94 rfl rfl ?_
              refine k_iload (pc := 95) E 6 dX9_putsStretch_95 rfl ?_
              refine k_iadd (pc := 97) E dX9_putsStretch_97 ?_
              refine k_goto (pc := 98) (tgt := 140) E dX9_putsStretch_98 (by decide) ?_
              exact j73 (x0 + v65) ⟨(by omega), (by first | assumption | omega)⟩ hT
            · replace hT := hT.trans (if_neg h72)
              refine k_if_ne_t (pc := 91) (tgt := 101) E (by omega) dX9_putsStretch_91 (by decide) h72 ?_
              refine k_iloadn (pc := 101) E 3 dX9_putsStretch_101 rfl rfl ?_
              refine k_iconst (pc := 102) E dX9_putsStretch_102 ?_
              by_cases h87 : x2 = 1
              · replace hT := hT.trans (if_pos h87)
                refine k_icmp_ne_f (pc := 103) (tgt := 113) E (by omega) (by omega) dX9_putsStretch_103 (by decide) h87 ?_
                refine k_iloadn (pc := 106) E 2 dX9_putsStretch_106 rfl rfl ?_
                refine k_iload (pc := 107) E 6 dX9_putsStretch_107 rfl ?_
                refine k_isub (pc := 109) E dX9_putsStretch_109 ?_
                refine k_goto (pc := 110) (tgt := 140) E dX9_putsStretch_110 (by decide) ?_
                exact j73 (x1 - v65) ⟨(by omega), (by first | assumption | omega)⟩ hT
              · replace hT := hT.trans (if_neg h87)
                refine k_icmp_ne_t (pc := 103) (tgt := 113) E (by omega) (by omega) dX9_putsStretch_103 (by decide) h87 ?_
                refine k_iload (pc := 113) E 6 dX9_putsStretch_113 rfl ?_
                refine k_iconst (pc := 115) E dX9_putsStretch_115 ?_
                have hd88 : (0 : Int) ≤ v65 := (by omega)
                have hd89 : (0 : Int) < 2 := (by omega)
                refine k_iremN (pc := 116) E (by omega) (by omega) hd88 hd89 dX9_putsStretch_116 ?_
                have hb90 := rm_rg (x := v65) hd89
                refine k_iconst (pc := 117) E dX9_putsStretch_117 ?_
                by_cases h91 : (v65 % 2) = 1
                · replace hT := hT.trans (if_pos h91)
                  refine k_icmp_ne_f (pc := 118) (tgt := 133) E (by omega) (by omega) dX9_putsStretch_118 (by decide) h91 ?_
                  refine k_iload (pc := 121) E 5 dX9_putsStretch_121 rfl ?_
                  refine k_iload (pc := 123) E 6 dX9_putsStretch_123 rfl ?_
                  refine k_iconst (pc := 125) E dX9_putsStretch_125 ?_
                  refine k_iadd (pc := 126) E dX9_putsStretch_126 ?_
                  refine k_iconst (pc := 127) E dX9_putsStretch_127 ?_
                  have hd92 : (0 : Int) ≤ (v65 + 1) := (by omega)
                  have hd93 : (0 : Int) < 2 := (by omega)
                  refine k_idivN (pc := 128) E (by omega) (by omega) hd92 hd93 dX9_putsStretch_128 ?_
                  have hb94 := dv_rg hd92 hd93
                  refine k_iadd (pc := 129) E dX9_putsStretch_129 ?_
                  refine k_goto (pc := 130) (tgt := 140) E dX9_putsStretch_130 (by decide) ?_
                  exact j73 (((x0 + x1) / 2) + ((v65 + 1) / 2)) ⟨(by omega), (by first | assumption | omega)⟩ hT
                · replace hT := hT.trans (if_neg h91)
                  refine k_icmp_ne_t (pc := 118) (tgt := 133) E (by omega) (by omega) dX9_putsStretch_118 (by decide) h91 ?_
                  refine k_iload (pc := 133) E 5 dX9_putsStretch_133 rfl ?_
                  refine k_iload (pc := 135) E 6 dX9_putsStretch_135 rfl ?_
                  refine k_iconst (pc := 137) E dX9_putsStretch_137 ?_
                  have hd95 : (0 : Int) ≤ v65 := (by omega)
                  have hd96 : (0 : Int) < 2 := (by omega)
                  refine k_idivN (pc := 138) E (by omega) (by omega) hd95 hd96 dX9_putsStretch_138 ?_
                  have hb97 := dv_rg hd95 hd96
                  refine k_isub (pc := 139) E dX9_putsStretch_139 ?_
                  exact j73 (((x0 + x1) / 2) - (v65 / 2)) ⟨(by omega), (by first | assumption | omega)⟩ hT
          · replace hT := hT.trans (if_neg h71)
            refine k_icmp_ge_t (pc := 87) (tgt := 156) E (by omega) (by omega) dX9_putsStretch_87 (by decide) h71 ?_
            refine k_lv (lv' := []) [] rfl ?_
            exact hk v65 s66 hT ⟨(by omega), hf_s66, hOR_s66, hBE_s66, hFI_s66, (by first | assumption | omega), (by first | assumption | omega), (by first | assumption | omega), (by first | assumption | omega), (by first | assumption | omega), (by first | assumption | omega)⟩
      refine k_lv (lv' := [(0, .ref (a 0)), (1, gI x0), (2, gI x1), (3, gI x2), (4, gI ((x1 - x0) + 1)), (5, gI ((x0 + x1) / 2)), (6, gI 0)]) [1, 2, 3, 4, 5, 6, 0] rfl ?_
      refine L67 17 0 s30 ⟨(by omega), hf_s30, hOR_s30, hBE_s30, hFI_s30, (by first | assumption | omega), (by first | assumption | omega), (by first | assumption | omega), (by first | assumption | omega), (by first | assumption | omega)⟩ (by omega) (fun v110 s111 hw hq => ?_)
      obtain ⟨hq112, hf_s111, hOR_s111, hBE_s111, hFI_s111, hq113, hq114, hq115, hq116, hq117, hq118⟩ := hq
      replace hT := gl2y hT hw
      exact k_rho hT (k_vret (pc := 156) E dX9_putsStretch_156)
    replace hT := hz120
    by_cases h27 : (s21 32 0) < ((x1 - x0) + 1)
    · replace hT := hT.trans (if_pos h27)
      refine k_icmp_le_f (pc := 65) (tgt := 73) E (by omega) (by omega) dX9_putsStretch_65 (by decide) h27 ?_
      refine k_iload (pc := 68) E 4 dX9_putsStretch_68 rfl ?_
      refine k_goto (pc := 70) (tgt := 77) E dX9_putsStretch_70 (by decide) ?_
      exact j28 ((x1 - x0) + 1) (by omega) hT
    · replace hT := hT.trans (if_neg h27)
      refine k_icmp_le_t (pc := 65) (tgt := 73) E (by omega) (by omega) dX9_putsStretch_65 (by decide) h27 ?_
      refine k_aloadn (pc := 73) E 0 dX9_putsStretch_73 rfl rfl ?_
      refine k_getfI (pc := 74) (q0 := 0) (f := 32) (k := 32) E inX9 rfl rfl (by decide) wm_930 rfl rfl rfl dX9_putsStretch_74 (fun hr121 => ?_)
      exact j28 (s21 32 0) (by omega) hT
  replace hT := hz123
  by_cases h18 : (s12 32 0) < ((x1 - x0) + 1)
  · replace hT := hT.trans (if_pos h18)
    refine k_icmp_le_f (pc := 44) (tgt := 51) E (by omega) (by omega) dX9_putsStretch_44 (by decide) h18 ?_
    refine k_iloadn (pc := 47) E 3 dX9_putsStretch_47 rfl rfl ?_
    refine k_goto (pc := 48) (tgt := 55) E dX9_putsStretch_48 (by decide) ?_
    refine k_lv (lv' := [(0, .ref (a 0)), (1, gI x0), (2, gI x1), (3, gI x2), (4, gI ((x1 - x0) + 1)), (5, gI ((x0 + x1) / 2))]) [2, 3, 4, 5, 1, 0] rfl ?_
    exact j19 x0 (by omega) hT
  · replace hT := hT.trans (if_neg h18)
    refine k_icmp_le_t (pc := 44) (tgt := 51) E (by omega) (by omega) dX9_putsStretch_44 (by decide) h18 ?_
    refine k_aloadn (pc := 51) E 2 dX9_putsStretch_51 rfl rfl ?_
    refine k_getfI (pc := 52) (q0 := 0) (f := 33) (k := 33) E inX9 rfl rfl (by decide) wm_931 rfl rfl rfl dX9_putsStretch_52 (fun hr124 => ?_)
    refine k_lv (lv' := [(0, .ref (a 0)), (1, gI x0), (2, gI x1), (3, gI x2), (4, gI ((x1 - x0) + 1)), (5, gI ((x0 + x1) / 2))]) [2, 3, 4, 5, 1, 0] rfl ?_
    exact j19 (s12 33 0) (by omega) hT

def w_X9_orders_31 (c1 : Int) (c2 : Int) (c3 : Int) (s0 : gMem) : Nat → Int → Int
  | 0, v25 => v25
  | n26 + 1, v25 => (if (f_X9_doesStop c3 s0) = 0 then (if (v25 + 1) < 16 then (if (f_X9_isIn c1 (v25 + 1)) = 0 then (if (f_X9_doesStop (f_X9_within (v25 + 1) 0 15) s0) = 0 then (w_X9_orders_31 c1 c2 c3 s0 n26 (v25 + 1)) else v25) else v25) else v25) else v25)
theorem w_X9_orders_31_s (c1 : Int) (c2 : Int) (c3 : Int) (s0 : gMem) (n26 : Nat) (v25 : Int)  : w_X9_orders_31 c1 c2 c3 s0 (n26 + 1) v25 = (if (f_X9_doesStop c3 s0) = 0 then (if (v25 + 1) < 16 then (if (f_X9_isIn c1 (v25 + 1)) = 0 then (if (f_X9_doesStop (f_X9_within (v25 + 1) 0 15) s0) = 0 then (w_X9_orders_31 c1 c2 c3 s0 n26 (v25 + 1)) else v25) else v25) else v25) else v25) := rfl
def w_X9_orders_22 (c1 : Int) (c2 : Int) : Nat → Int → gMem → Int × gMem
  | 0, v21, s22 => (v21, s22)
  | n23 + 1, v21, s22 => (if v21 < 16 then (gl (w_X9_orders_31 c1 c2 v21 s22 17 v21) (fun v59 => (if (f_X9_isIn c1 v21) = 0 then gb (f_X9_putsStretch v21 v59 c2 s22) (fun r66 s67 => (w_X9_orders_22 c1 c2 n23 (v59 + 1) s67)) else (w_X9_orders_22 c1 c2 n23 (v21 + 1) s22)))) else (v21, s22))
theorem w_X9_orders_22_s (c1 : Int) (c2 : Int) (n23 : Nat) (v21 : Int) (s22 : gMem) : w_X9_orders_22 c1 c2 (n23 + 1) v21 s22 = (if v21 < 16 then (gl (w_X9_orders_31 c1 c2 v21 s22 17 v21) (fun v59 => (if (f_X9_isIn c1 v21) = 0 then gb (f_X9_putsStretch v21 v59 c2 s22) (fun r66 s67 => (w_X9_orders_22 c1 c2 n23 (v59 + 1) s67)) else (w_X9_orders_22 c1 c2 n23 (v21 + 1) s22)))) else (v21, s22)) := rfl
def f_X9_orders (x0 : Int) (x1 : Int) (s0 : gMem) : gRes := gl (mset s0 30 0 0) (fun s1 => gl (mset s1 31 0 0) (fun s6 => gl (mset s6 32 0 0) (fun s11 => gl (mset s11 33 0 (-1)) (fun s16 => (gl2 (w_X9_orders_22 x0 x1 17 0 s16) (fun v138 s139 => (0, s139)))))))
theorem f_X9_orders_e (x0 : Int) (x1 : Int) (s0 : gMem) : f_X9_orders x0 x1 s0 = gl (mset s0 30 0 0) (fun s1 => gl (mset s1 31 0 0) (fun s6 => gl (mset s6 32 0 0) (fun s11 => gl (mset s11 33 0 (-1)) (fun s16 => (gl2 (w_X9_orders_22 x0 x1 17 0 s16) (fun v138 s139 => (0, s139))))))) := rfl
set_option maxRecDepth 100000 in
set_option maxHeartbeats 4000000 in
theorem f_X9_orders_p (x0 : Int) (x1 : Int) (s0 : gMem) (hx0 : in32 x0) (hx1 : in32 x1) (hm_s0 : gMR lgM s0) (hpre0 : OR s0) (hpre1 : BE s0) (hpre2 : FI s0) (hpre3 : 0 ≤ x1 ∧ x1 ≤ 2) (rZ : Int) (sZ : gMem) (hres : f_X9_orders x0 x1 s0 = (rZ, sZ)) : (fr [27, 28, 29, 30, 31, 32, 33] s0 sZ) ∧ (gMR lgM sZ) ∧ (True) ∧ (OR sZ) ∧ (BE sZ) ∧ (FI sZ) ∧ (0 ≤ sZ 30 0 ∧ sZ 30 0 ≤ 16) ∧ (0 ≤ sZ 31 0 ∧ sZ 31 0 ≤ 16) ∧ (-1 ≤ sZ 33 0 ∧ sZ 33 0 ≤ 15 ∧ 0 ≤ sZ 32 0 ∧ sZ 32 0 ≤ 16) := by
  have hT := f_X9_orders_e x0 x1 s0
  have hf_s0 : fr [27, 28, 29, 30, 31, 32, 33] s0 s0 := fr.rf _ _
  have hOR_s0 := hpre0
  have hBE_s0 := hpre1
  have hFI_s0 := hpre2
  obtain ⟨s1, hs1, hT⟩ := glx hT
  have hf_s1 : fr [27, 28, 29, 30, 31, 32, 33] s0 s1 := hs1 ▸ hf_s0.set (by decide)
  have hm_s1 : gMR lgM s1 := hs1 ▸ hm_s0.set32 rfl (by omega)
  have hOR_s1 : OR s1 := fun i => by rw [hs1, mset_ne _ _ _ _ _ (by decide)]; exact hOR_s0 i
  have hBE_s1 : BE s1 := fun i => by rw [hs1, mset_ne _ _ _ _ _ (by decide)]; exact hBE_s0 i
  have hFI_s1 : FI s1 := fun i => by rw [hs1, mset_ne _ _ _ _ _ (by decide)]; exact hFI_s0 i
  have ht2 : s1 30 0 = 0 := by rw [hs1]; exact mset_eq _ _ _ _
  have ht3 : s1 31 0 = s0 31 0 := by rw [hs1]; exact mset_ne _ _ _ _ _ (by decide)
  have ht4 : s1 32 0 = s0 32 0 := by rw [hs1]; exact mset_ne _ _ _ _ _ (by decide)
  have ht5 : s1 33 0 = s0 33 0 := by rw [hs1]; exact mset_ne _ _ _ _ _ (by decide)
  obtain ⟨s6, hs6, hT⟩ := glx hT
  have hf_s6 : fr [27, 28, 29, 30, 31, 32, 33] s0 s6 := hs6 ▸ hf_s1.set (by decide)
  have hm_s6 : gMR lgM s6 := hs6 ▸ hm_s1.set32 rfl (by omega)
  have hOR_s6 : OR s6 := fun i => by rw [hs6, mset_ne _ _ _ _ _ (by decide)]; exact hOR_s1 i
  have hBE_s6 : BE s6 := fun i => by rw [hs6, mset_ne _ _ _ _ _ (by decide)]; exact hBE_s1 i
  have hFI_s6 : FI s6 := fun i => by rw [hs6, mset_ne _ _ _ _ _ (by decide)]; exact hFI_s1 i
  have ht7 : s6 30 0 = s1 30 0 := by rw [hs6]; exact mset_ne _ _ _ _ _ (by decide)
  have ht8 : s6 31 0 = 0 := by rw [hs6]; exact mset_eq _ _ _ _
  have ht9 : s6 32 0 = s1 32 0 := by rw [hs6]; exact mset_ne _ _ _ _ _ (by decide)
  have ht10 : s6 33 0 = s1 33 0 := by rw [hs6]; exact mset_ne _ _ _ _ _ (by decide)
  obtain ⟨s11, hs11, hT⟩ := glx hT
  have hf_s11 : fr [27, 28, 29, 30, 31, 32, 33] s0 s11 := hs11 ▸ hf_s6.set (by decide)
  have hm_s11 : gMR lgM s11 := hs11 ▸ hm_s6.set32 rfl (by omega)
  have hOR_s11 : OR s11 := fun i => by rw [hs11, mset_ne _ _ _ _ _ (by decide)]; exact hOR_s6 i
  have hBE_s11 : BE s11 := fun i => by rw [hs11, mset_ne _ _ _ _ _ (by decide)]; exact hBE_s6 i
  have hFI_s11 : FI s11 := fun i => by rw [hs11, mset_ne _ _ _ _ _ (by decide)]; exact hFI_s6 i
  have ht12 : s11 30 0 = s6 30 0 := by rw [hs11]; exact mset_ne _ _ _ _ _ (by decide)
  have ht13 : s11 31 0 = s6 31 0 := by rw [hs11]; exact mset_ne _ _ _ _ _ (by decide)
  have ht14 : s11 32 0 = 0 := by rw [hs11]; exact mset_eq _ _ _ _
  have ht15 : s11 33 0 = s6 33 0 := by rw [hs11]; exact mset_ne _ _ _ _ _ (by decide)
  obtain ⟨s16, hs16, hT⟩ := glx hT
  have hf_s16 : fr [27, 28, 29, 30, 31, 32, 33] s0 s16 := hs16 ▸ hf_s11.set (by decide)
  have hm_s16 : gMR lgM s16 := hs16 ▸ hm_s11.set32 rfl (by omega)
  have hOR_s16 : OR s16 := fun i => by rw [hs16, mset_ne _ _ _ _ _ (by decide)]; exact hOR_s11 i
  have hBE_s16 : BE s16 := fun i => by rw [hs16, mset_ne _ _ _ _ _ (by decide)]; exact hBE_s11 i
  have hFI_s16 : FI s16 := fun i => by rw [hs16, mset_ne _ _ _ _ _ (by decide)]; exact hFI_s11 i
  have ht17 : s16 30 0 = s11 30 0 := by rw [hs16]; exact mset_ne _ _ _ _ _ (by decide)
  have ht18 : s16 31 0 = s11 31 0 := by rw [hs16]; exact mset_ne _ _ _ _ _ (by decide)
  have ht19 : s16 32 0 = s11 32 0 := by rw [hs16]; exact mset_ne _ _ _ _ _ (by decide)
  have ht20 : s16 33 0 = (-1) := by rw [hs16]; exact mset_eq _ _ _ _
  have L75 : ∀ (n76 : Nat) (v73 : Int) (s74 : gMem), ((in32 v73) ∧ (fr [27, 28, 29, 30, 31, 32, 33] s0 s74) ∧ (gMR lgM s74) ∧ (OR s74) ∧ (BE s74) ∧ (FI s74) ∧ (0 ≤ v73 ∧ v73 ≤ 16) ∧ (0 ≤ s74 30 0 ∧ s74 30 0 ≤ v73) ∧ (0 ≤ s74 31 0 ∧ s74 31 0 ≤ v73) ∧ (-1 ≤ s74 33 0 ∧ s74 33 0 ≤ 15 ∧ 0 ≤ s74 32 0 ∧ s74 32 0 ≤ 16)) → 16 - v73 < (n76 : Int) → (∀ (w77 : Int) (s78 : gMem), (w_X9_orders_22 x0 x1 n76 v73 s74) = (w77, s78) → ((in32 w77) ∧ (fr [27, 28, 29, 30, 31, 32, 33] s0 s78) ∧ (gMR lgM s78) ∧ (OR s78) ∧ (BE s78) ∧ (FI s78) ∧ (0 ≤ w77 ∧ w77 ≤ 16) ∧ (0 ≤ s78 30 0 ∧ s78 30 0 ≤ w77) ∧ (0 ≤ s78 31 0 ∧ s78 31 0 ≤ w77) ∧ (-1 ≤ s78 33 0 ∧ s78 33 0 ≤ 15 ∧ 0 ≤ s78 32 0 ∧ s78 32 0 ≤ 16)) → (fr [27, 28, 29, 30, 31, 32, 33] s0 sZ) ∧ (gMR lgM sZ) ∧ (True) ∧ (OR sZ) ∧ (BE sZ) ∧ (FI sZ) ∧ (0 ≤ sZ 30 0 ∧ sZ 30 0 ≤ 16) ∧ (0 ≤ sZ 31 0 ∧ sZ 31 0 ≤ 16) ∧ (-1 ≤ sZ 33 0 ∧ sZ 33 0 ≤ 15 ∧ 0 ≤ sZ 32 0 ∧ sZ 32 0 ≤ 16)) → (fr [27, 28, 29, 30, 31, 32, 33] s0 sZ) ∧ (gMR lgM sZ) ∧ (True) ∧ (OR sZ) ∧ (BE sZ) ∧ (FI sZ) ∧ (0 ≤ sZ 30 0 ∧ sZ 30 0 ≤ 16) ∧ (0 ≤ sZ 31 0 ∧ sZ 31 0 ≤ 16) ∧ (-1 ≤ sZ 33 0 ∧ sZ 33 0 ≤ 15 ∧ 0 ≤ sZ 32 0 ∧ sZ 32 0 ≤ 16) := by
    intro n76; induction n76 with
    | zero =>
      intro v73 s74 hq hm hk
      exfalso
      obtain ⟨hq128, hf_s74, hm_s74, hOR_s74, hBE_s74, hFI_s74, hq129, hq130, hq131, hq132⟩ := hq
      omega
    | succ n76 ih =>
      intro v73 s74 hq hm hk
      obtain ⟨hq133, hf_s74, hm_s74, hOR_s74, hBE_s74, hFI_s74, hq134, hq135, hq136, hq137⟩ := hq
      have hT := w_X9_orders_22_s x0 x1 n76 v73 s74
      by_cases h79 : v73 < 16
      · replace hT := hT.trans (if_pos h79)
        have L95 : ∀ (n96 : Nat) (v94 : Int), ((in32 v94) ∧ (v73 ≤ v94 ∧ v94 ≤ 15)) → 15 - v94 < (n96 : Int) → (∀ (w97 : Int), (w_X9_orders_31 x0 x1 v73 s74 n96 v94) = w97 → ((in32 w97) ∧ (v73 ≤ w97 ∧ w97 ≤ 15)) → (fr [27, 28, 29, 30, 31, 32, 33] s0 sZ) ∧ (gMR lgM sZ) ∧ (True) ∧ (OR sZ) ∧ (BE sZ) ∧ (FI sZ) ∧ (0 ≤ sZ 30 0 ∧ sZ 30 0 ≤ 16) ∧ (0 ≤ sZ 31 0 ∧ sZ 31 0 ≤ 16) ∧ (-1 ≤ sZ 33 0 ∧ sZ 33 0 ≤ 15 ∧ 0 ≤ sZ 32 0 ∧ sZ 32 0 ≤ 16)) → (fr [27, 28, 29, 30, 31, 32, 33] s0 sZ) ∧ (gMR lgM sZ) ∧ (True) ∧ (OR sZ) ∧ (BE sZ) ∧ (FI sZ) ∧ (0 ≤ sZ 30 0 ∧ sZ 30 0 ≤ 16) ∧ (0 ≤ sZ 31 0 ∧ sZ 31 0 ≤ 16) ∧ (-1 ≤ sZ 33 0 ∧ sZ 33 0 ≤ 15 ∧ 0 ≤ sZ 32 0 ∧ sZ 32 0 ≤ 16) := by
          intro n96; induction n96 with
          | zero =>
            intro v94 hq hm hk
            exfalso
            obtain ⟨hq110, hq111⟩ := hq
            omega
          | succ n96 ih =>
            intro v94 hq hm hk
            obtain ⟨hq112, hq113⟩ := hq
            have hT := w_X9_orders_31_s x0 x1 v73 s74 n96 v94
            have hp99 := f_X9_doesStop_p v73 s74 (by omega) hm_s74 (by first | assumption | omega)
            by_cases h100 : (f_X9_doesStop v73 s74) = 0
            · replace hT := hT.trans (if_pos h100)
              by_cases h101 : (v94 + 1) < 16
              · replace hT := hT.trans (if_pos h101)
                have hp103 := f_X9_isIn_p x0 (v94 + 1) (by omega) (by omega) 
                by_cases h104 : (f_X9_isIn x0 (v94 + 1)) = 0
                · replace hT := hT.trans (if_pos h104)
                  have hp106 := f_X9_within_p (v94 + 1) 0 15 (by omega) (by omega) (by omega) 
                  have hp108 := f_X9_doesStop_p (f_X9_within (v94 + 1) 0 15) s74 (by omega) hm_s74 (by first | assumption | omega)
                  by_cases h109 : (f_X9_doesStop (f_X9_within (v94 + 1) 0 15) s74) = 0
                  · replace hT := hT.trans (if_pos h109)
                    exact ih (v94 + 1) ⟨(by omega), (by first | assumption | omega)⟩ (by omega) (fun w97 hw hi => hk w97 (hT.trans hw) hi)
                  · replace hT := hT.trans (if_neg h109)
                    exact hk v94 hT ⟨(by omega), (by first | assumption | omega)⟩
                · replace hT := hT.trans (if_neg h104)
                  exact hk v94 hT ⟨(by omega), (by first | assumption | omega)⟩
              · replace hT := hT.trans (if_neg h101)
                exact hk v94 hT ⟨(by omega), (by first | assumption | omega)⟩
            · replace hT := hT.trans (if_neg h100)
              exact hk v94 hT ⟨(by omega), (by first | assumption | omega)⟩
        refine L95 17 v73 ⟨(by omega), (by first | assumption | omega)⟩ (by omega) (fun v114 hw hq => ?_)
        obtain ⟨hq115, hq116⟩ := hq
        replace hT := gl1y hT hw
        have hp118 := f_X9_isIn_p x0 v73 (by omega) (by omega) 
        by_cases h119 : (f_X9_isIn x0 v73) = 0
        · replace hT := hT.trans (if_pos h119)
          obtain ⟨r121, s122, hs122⟩ : ∃ rr ss, (f_X9_putsStretch v73 v114 x1 s74) = (rr, ss) := ⟨_, _, rfl⟩
          replace hT := gby hT hs122
          have hp123 := f_X9_putsStretch_p v73 v114 x1 s74 (by omega) (by omega) (by omega) hm_s74 hOR_s74 hBE_s74 hFI_s74 (by first | assumption | omega) (by first | assumption | omega) (by first | assumption | omega) (by first | assumption | omega) (by first | assumption | omega) r121 s122 hs122
          obtain ⟨hfc_s122, hm_s122, hp124, hOR_s122, hBE_s122, hFI_s122, hp125, hp126, hp127⟩ := hp123
          have hf_s122 : fr [27, 28, 29, 30, 31, 32, 33] s0 s122 := hf_s74.call (by decide) hfc_s122
          exact ih (v114 + 1) s122 ⟨(by omega), hf_s122, hm_s122, hOR_s122, hBE_s122, hFI_s122, (by first | assumption | omega), (by first | assumption | omega), (by first | assumption | omega), (by first | assumption | omega)⟩ (by omega) (fun w77 s78 hw hi => hk w77 s78 (hT.trans hw) hi)
        · replace hT := hT.trans (if_neg h119)
          exact ih (v73 + 1) s74 ⟨(by omega), hf_s74, hm_s74, hOR_s74, hBE_s74, hFI_s74, (by first | assumption | omega), (by first | assumption | omega), (by first | assumption | omega), (by first | assumption | omega)⟩ (by omega) (fun w77 s78 hw hi => hk w77 s78 (hT.trans hw) hi)
      · replace hT := hT.trans (if_neg h79)
        exact hk v73 s74 hT ⟨(by omega), hf_s74, hm_s74, hOR_s74, hBE_s74, hFI_s74, (by first | assumption | omega), (by first | assumption | omega), (by first | assumption | omega), (by first | assumption | omega)⟩
  refine L75 17 0 s16 ⟨(by omega), hf_s16, hm_s16, hOR_s16, hBE_s16, hFI_s16, (by first | assumption | omega), (by first | assumption | omega), (by first | assumption | omega), (by first | assumption | omega)⟩ (by omega) (fun v138 s139 hw hq => ?_)
  obtain ⟨hq140, hf_s139, hm_s139, hOR_s139, hBE_s139, hFI_s139, hq141, hq142, hq143, hq144⟩ := hq
  replace hT := gl2y hT hw
  obtain ⟨rfl, rfl⟩ := Prod.mk.inj (hT.symm.trans hres)
  exact ⟨hf_s139, hm_s139, trivial, hOR_s139, hBE_s139, hFI_s139, (by first | assumption | omega), (by first | assumption | omega), (by first | assumption | omega)⟩
set_option maxRecDepth 100000 in
set_option maxHeartbeats 4000000 in
theorem c_X9_orders (l : Launch) (D : va_G) (a : Nat → Nat) (cI cJ cS cT : ClassId) (s0 : gMem) (x0 : Int) (x1 : Int) (hx0 : in32 x0) (hx1 : in32 x1) (hpre0 : OR s0) (hpre1 : BE s0) (hpre2 : FI s0) (hpre3 : 0 ≤ x1 ∧ x1 ≤ 2) : gC l yX9_orders cX9_orders 5 none 3 192 D vwCl (gT cI cJ cS cT) (wdM a cI cJ) lgM kV rgV [.ref (a 0), gI x0, gI x1] s0 (f_X9_orders x0 x1 s0) := by
  refine gC_of (by decide +kernel) (hwdM a cI cJ) (Nat.le_of_ble_eq_true rfl) ?_
  intro A p e R s m args below meth c hR E
  subst hR
  have hT := f_X9_orders_e x0 x1 s0
  have hf_s0 : fr [27, 28, 29, 30, 31, 32, 33] s0 s0 := fr.rf _ _
  refine k_lv0 (lv' := [(0, .ref (a 0)), (1, gI x0), (2, gI x1)]) rfl ?_
  refine k_mr (fun hm_s0 => ?_)
  have hOR_s0 := hpre0
  have hBE_s0 := hpre1
  have hFI_s0 := hpre2
  refine k_aloadn (pc := 0) E 0 dX9_orders_0 rfl rfl ?_
  refine k_iconst (pc := 1) E dX9_orders_1 ?_
  refine k_putfI (pc := 2) (q0 := 0) (f := 30) (k := 30) E tyX9 tyX9_ok nmX9 inX9 rfl rfl (by decide) wm_928 rfl rfl rfl (Nat.le_of_ble_eq_true rfl) rfl rfl (by omega) dX9_orders_2 ?_
  obtain ⟨s1, hs1, hT⟩ := glx hT
  refine k_sg hs1.symm ?_
  have hf_s1 : fr [27, 28, 29, 30, 31, 32, 33] s0 s1 := hs1 ▸ hf_s0.set (by decide)
  have hOR_s1 : OR s1 := fun i => by rw [hs1, mset_ne _ _ _ _ _ (by decide)]; exact hOR_s0 i
  have hBE_s1 : BE s1 := fun i => by rw [hs1, mset_ne _ _ _ _ _ (by decide)]; exact hBE_s0 i
  have hFI_s1 : FI s1 := fun i => by rw [hs1, mset_ne _ _ _ _ _ (by decide)]; exact hFI_s0 i
  have ht2 : s1 30 0 = 0 := by rw [hs1]; exact mset_eq _ _ _ _
  have ht3 : s1 31 0 = s0 31 0 := by rw [hs1]; exact mset_ne _ _ _ _ _ (by decide)
  have ht4 : s1 32 0 = s0 32 0 := by rw [hs1]; exact mset_ne _ _ _ _ _ (by decide)
  have ht5 : s1 33 0 = s0 33 0 := by rw [hs1]; exact mset_ne _ _ _ _ _ (by decide)
  refine k_aloadn (pc := 5) E 0 dX9_orders_5 rfl rfl ?_
  refine k_iconst (pc := 6) E dX9_orders_6 ?_
  refine k_putfI (pc := 7) (q0 := 0) (f := 31) (k := 31) E tyX9 tyX9_ok nmX9 inX9 rfl rfl (by decide) wm_929 rfl rfl rfl (Nat.le_of_ble_eq_true rfl) rfl rfl (by omega) dX9_orders_7 ?_
  obtain ⟨s6, hs6, hT⟩ := glx hT
  refine k_sg hs6.symm ?_
  have hf_s6 : fr [27, 28, 29, 30, 31, 32, 33] s0 s6 := hs6 ▸ hf_s1.set (by decide)
  have hOR_s6 : OR s6 := fun i => by rw [hs6, mset_ne _ _ _ _ _ (by decide)]; exact hOR_s1 i
  have hBE_s6 : BE s6 := fun i => by rw [hs6, mset_ne _ _ _ _ _ (by decide)]; exact hBE_s1 i
  have hFI_s6 : FI s6 := fun i => by rw [hs6, mset_ne _ _ _ _ _ (by decide)]; exact hFI_s1 i
  have ht7 : s6 30 0 = s1 30 0 := by rw [hs6]; exact mset_ne _ _ _ _ _ (by decide)
  have ht8 : s6 31 0 = 0 := by rw [hs6]; exact mset_eq _ _ _ _
  have ht9 : s6 32 0 = s1 32 0 := by rw [hs6]; exact mset_ne _ _ _ _ _ (by decide)
  have ht10 : s6 33 0 = s1 33 0 := by rw [hs6]; exact mset_ne _ _ _ _ _ (by decide)
  refine k_aloadn (pc := 10) E 0 dX9_orders_10 rfl rfl ?_
  refine k_iconst (pc := 11) E dX9_orders_11 ?_
  refine k_putfI (pc := 12) (q0 := 0) (f := 32) (k := 32) E tyX9 tyX9_ok nmX9 inX9 rfl rfl (by decide) wm_930 rfl rfl rfl (Nat.le_of_ble_eq_true rfl) rfl rfl (by omega) dX9_orders_12 ?_
  obtain ⟨s11, hs11, hT⟩ := glx hT
  refine k_sg hs11.symm ?_
  have hf_s11 : fr [27, 28, 29, 30, 31, 32, 33] s0 s11 := hs11 ▸ hf_s6.set (by decide)
  have hOR_s11 : OR s11 := fun i => by rw [hs11, mset_ne _ _ _ _ _ (by decide)]; exact hOR_s6 i
  have hBE_s11 : BE s11 := fun i => by rw [hs11, mset_ne _ _ _ _ _ (by decide)]; exact hBE_s6 i
  have hFI_s11 : FI s11 := fun i => by rw [hs11, mset_ne _ _ _ _ _ (by decide)]; exact hFI_s6 i
  have ht12 : s11 30 0 = s6 30 0 := by rw [hs11]; exact mset_ne _ _ _ _ _ (by decide)
  have ht13 : s11 31 0 = s6 31 0 := by rw [hs11]; exact mset_ne _ _ _ _ _ (by decide)
  have ht14 : s11 32 0 = 0 := by rw [hs11]; exact mset_eq _ _ _ _
  have ht15 : s11 33 0 = s6 33 0 := by rw [hs11]; exact mset_ne _ _ _ _ _ (by decide)
  refine k_aloadn (pc := 15) E 0 dX9_orders_15 rfl rfl ?_
  refine k_iconst (pc := 16) E dX9_orders_16 ?_
  refine k_putfI (pc := 17) (q0 := 0) (f := 33) (k := 33) E tyX9 tyX9_ok nmX9 inX9 rfl rfl (by decide) wm_931 rfl rfl rfl (Nat.le_of_ble_eq_true rfl) rfl rfl (by omega) dX9_orders_17 ?_
  obtain ⟨s16, hs16, hT⟩ := glx hT
  refine k_sg hs16.symm ?_
  have hf_s16 : fr [27, 28, 29, 30, 31, 32, 33] s0 s16 := hs16 ▸ hf_s11.set (by decide)
  have hOR_s16 : OR s16 := fun i => by rw [hs16, mset_ne _ _ _ _ _ (by decide)]; exact hOR_s11 i
  have hBE_s16 : BE s16 := fun i => by rw [hs16, mset_ne _ _ _ _ _ (by decide)]; exact hBE_s11 i
  have hFI_s16 : FI s16 := fun i => by rw [hs16, mset_ne _ _ _ _ _ (by decide)]; exact hFI_s11 i
  have ht17 : s16 30 0 = s11 30 0 := by rw [hs16]; exact mset_ne _ _ _ _ _ (by decide)
  have ht18 : s16 31 0 = s11 31 0 := by rw [hs16]; exact mset_ne _ _ _ _ _ (by decide)
  have ht19 : s16 32 0 = s11 32 0 := by rw [hs16]; exact mset_ne _ _ _ _ _ (by decide)
  have ht20 : s16 33 0 = (-1) := by rw [hs16]; exact mset_eq _ _ _ _
  refine k_iconst (pc := 20) E dX9_orders_20 ?_
  refine k_istoren (pc := 21) (lv' := [(3, gI 0), (0, .ref (a 0)), (1, gI x0), (2, gI x1)]) E dX9_orders_21 rfl (by decide) rfl ?_
  have L75 : ∀ (n76 : Nat) (v73 : Int) (s74 : gMem), ((in32 v73) ∧ (fr [27, 28, 29, 30, 31, 32, 33] s0 s74) ∧ (OR s74) ∧ (BE s74) ∧ (FI s74) ∧ (0 ≤ v73 ∧ v73 ≤ 16) ∧ (0 ≤ s74 30 0 ∧ s74 30 0 ≤ v73) ∧ (0 ≤ s74 31 0 ∧ s74 31 0 ≤ v73) ∧ (-1 ≤ s74 33 0 ∧ s74 33 0 ≤ 15 ∧ 0 ≤ s74 32 0 ∧ s74 32 0 ≤ 16)) → 16 - v73 < (n76 : Int) → (∀ (w77 : Int) (s78 : gMem), (w_X9_orders_22 x0 x1 n76 v73 s74) = (w77, s78) → ((in32 w77) ∧ (fr [27, 28, 29, 30, 31, 32, 33] s0 s78) ∧ (OR s78) ∧ (BE s78) ∧ (FI s78) ∧ (0 ≤ w77 ∧ w77 ≤ 16) ∧ (0 ≤ s78 30 0 ∧ s78 30 0 ≤ w77) ∧ (0 ≤ s78 31 0 ∧ s78 31 0 ≤ w77) ∧ (-1 ≤ s78 33 0 ∧ s78 33 0 ≤ 15 ∧ 0 ≤ s78 32 0 ∧ s78 32 0 ≤ 16)) → gK D vwCl (wdM a cI cJ) lgM A p l e { frames := 3, cells := 0, slots := 0, locals := 192 } s m args below meth c 5 (gQQ D vwCl (wdM a cI cJ) lgM A kV rgV below args s) (f_X9_orders x0 x1 s0) s78 112 [] []) → gK D vwCl (wdM a cI cJ) lgM A p l e { frames := 3, cells := 0, slots := 0, locals := 192 } s m args below meth c 5 (gQQ D vwCl (wdM a cI cJ) lgM A kV rgV below args s) (f_X9_orders x0 x1 s0) s74 22 [(0, .ref (a 0)), (1, gI x0), (2, gI x1), (3, gI v73)] [] := by
    intro n76; induction n76 with
    | zero =>
      intro v73 s74 hq hm hk
      exfalso
      obtain ⟨hq128, hf_s74, hOR_s74, hBE_s74, hFI_s74, hq129, hq130, hq131, hq132⟩ := hq
      omega
    | succ n76 ih =>
      intro v73 s74 hq hm hk
      obtain ⟨hq133, hf_s74, hOR_s74, hBE_s74, hFI_s74, hq134, hq135, hq136, hq137⟩ := hq
      have hT := w_X9_orders_22_s x0 x1 n76 v73 s74
      refine k_iloadn (pc := 22) E 3 dX9_orders_22 rfl rfl ?_
      refine k_bipush (pc := 23) E dX9_orders_23 (by decide) ?_
      by_cases h79 : v73 < 16
      · replace hT := hT.trans (if_pos h79)
        refine k_icmp_ge_f (pc := 25) (tgt := 112) E (by omega) (by omega) dX9_orders_25 (by decide) h79 ?_
        refine k_iloadn (pc := 28) E 3 dX9_orders_28 rfl rfl ?_
        refine k_istore (pc := 29) (lv' := [(4, gI v73), (0, .ref (a 0)), (1, gI x0), (2, gI x1), (3, gI v73)]) E dX9_orders_29 (by decide) rfl ?_
        have L95 : ∀ (n96 : Nat) (v94 : Int), ((in32 v94) ∧ (v73 ≤ v94 ∧ v94 ≤ 15)) → 15 - v94 < (n96 : Int) → (∀ (w97 : Int), (w_X9_orders_31 x0 x1 v73 s74 n96 v94) = w97 → ((in32 w97) ∧ (v73 ≤ w97 ∧ w97 ≤ 15)) → gK D vwCl (wdM a cI cJ) lgM A p l e { frames := 3, cells := 0, slots := 0, locals := 192 } s m args below meth c 5 (gQQ D vwCl (wdM a cI cJ) lgM A kV rgV below args s) (f_X9_orders x0 x1 s0) s74 82 [(0, .ref (a 0)), (1, gI x0), (2, gI x1), (3, gI v73), (4, gI w97)] []) → gK D vwCl (wdM a cI cJ) lgM A p l e { frames := 3, cells := 0, slots := 0, locals := 192 } s m args below meth c 5 (gQQ D vwCl (wdM a cI cJ) lgM A kV rgV below args s) (f_X9_orders x0 x1 s0) s74 31 [(0, .ref (a 0)), (1, gI x0), (2, gI x1), (3, gI v73), (4, gI v94)] [] := by
          intro n96; induction n96 with
          | zero =>
            intro v94 hq hm hk
            exfalso
            obtain ⟨hq110, hq111⟩ := hq
            omega
          | succ n96 ih =>
            intro v94 hq hm hk
            obtain ⟨hq112, hq113⟩ := hq
            have hT := w_X9_orders_31_s x0 x1 v73 s74 n96 v94
            refine k_aloadn (pc := 31) E 0 dX9_orders_31 rfl rfl ?_
            refine k_iloadn (pc := 32) E 3 dX9_orders_32 rfl rfl ?_
            refine k_mr (fun hm_s74 => ?_)
            refine k_callV (pc := 33) (np := 1) (As := [gI v73]) (st := []) (q0 := 0) E (c_X9_doesStop l D a cI cJ cS cT s74 v73 (by omega) (by first | assumption | omega)) wm_1077 wm_11 wm_1074 wm_1076 wp_38 (by decide +kernel) rfl rfl ⟨by decide, by decide⟩ rfl (Nat.le_of_ble_eq_true rfl) dX9_orders_33 (ro_kk (fun hr98 => ?_))
            have hp99 := f_X9_doesStop_p v73 s74 (by omega) hm_s74 (by first | assumption | omega)
            refine k_st (st' := [gI (f_X9_doesStop v73 s74)]) rfl ?_
            by_cases h100 : (f_X9_doesStop v73 s74) = 0
            · replace hT := hT.trans (if_pos h100)
              refine k_if_ne_f (pc := 36) (tgt := 82) E (by omega) dX9_orders_36 (by decide) h100 ?_
              refine k_iload (pc := 39) E 4 dX9_orders_39 rfl ?_
              refine k_iconst (pc := 41) E dX9_orders_41 ?_
              refine k_iadd (pc := 42) E dX9_orders_42 ?_
              refine k_bipush (pc := 43) E dX9_orders_43 (by decide) ?_
              by_cases h101 : (v94 + 1) < 16
              · replace hT := hT.trans (if_pos h101)
                refine k_icmp_ge_f (pc := 45) (tgt := 82) E (by omega) (by omega) dX9_orders_45 (by decide) h101 ?_
                refine k_iloadn (pc := 48) E 1 dX9_orders_48 rfl rfl ?_
                refine k_iload (pc := 49) E 4 dX9_orders_49 rfl ?_
                refine k_iconst (pc := 51) E dX9_orders_51 ?_
                refine k_iadd (pc := 52) E dX9_orders_52 ?_
                refine k_mr (fun hm_s74 => ?_)
                refine k_callS (pc := 53) (np := 2) (As := [gI x0, gI (v94 + 1)]) (st := []) E (c_X9_isIn l D a cI cJ cS cT s74 x0 (v94 + 1) (by omega) (by omega)) wm_1088 wm_11 wm_1086 wm_1087 (by decide +kernel) ⟨by decide, by decide⟩ rfl (Nat.le_of_ble_eq_true rfl) dX9_orders_53 (ro_kk (fun hr102 => ?_))
                have hp103 := f_X9_isIn_p x0 (v94 + 1) (by omega) (by omega) 
                refine k_st (st' := [gI (f_X9_isIn x0 (v94 + 1))]) rfl ?_
                by_cases h104 : (f_X9_isIn x0 (v94 + 1)) = 0
                · replace hT := hT.trans (if_pos h104)
                  refine k_if_ne_f (pc := 56) (tgt := 82) E (by omega) dX9_orders_56 (by decide) h104 ?_
                  refine k_aloadn (pc := 59) E 0 dX9_orders_59 rfl rfl ?_
                  refine k_iload (pc := 60) E 4 dX9_orders_60 rfl ?_
                  refine k_iconst (pc := 62) E dX9_orders_62 ?_
                  refine k_iadd (pc := 63) E dX9_orders_63 ?_
                  refine k_iconst (pc := 64) E dX9_orders_64 ?_
                  refine k_bipush (pc := 65) E dX9_orders_65 (by decide) ?_
                  refine k_mr (fun hm_s74 => ?_)
                  refine k_callS (pc := 67) (np := 3) (As := [gI (v94 + 1), gI 0, gI 15]) (st := [.ref (a 0)]) E (c_X9_within l D a cI cJ cS cT s74 (v94 + 1) 0 15 (by omega) (by omega) (by omega)) wm_1057 wm_11 wm_1055 wm_1056 (by decide +kernel) ⟨by decide, by decide⟩ rfl (Nat.le_of_ble_eq_true rfl) dX9_orders_67 (ro_kk (fun hr105 => ?_))
                  have hp106 := f_X9_within_p (v94 + 1) 0 15 (by omega) (by omega) (by omega) 
                  refine k_st (st' := [gI (f_X9_within (v94 + 1) 0 15), .ref (a 0)]) rfl ?_
                  refine k_mr (fun hm_s74 => ?_)
                  refine k_callV (pc := 70) (np := 1) (As := [gI (f_X9_within (v94 + 1) 0 15)]) (st := []) (q0 := 0) E (c_X9_doesStop l D a cI cJ cS cT s74 (f_X9_within (v94 + 1) 0 15) (by omega) (by first | assumption | omega)) wm_1077 wm_11 wm_1074 wm_1076 wp_38 (by decide +kernel) rfl rfl ⟨by decide, by decide⟩ rfl (Nat.le_of_ble_eq_true rfl) dX9_orders_70 (ro_kk (fun hr107 => ?_))
                  have hp108 := f_X9_doesStop_p (f_X9_within (v94 + 1) 0 15) s74 (by omega) hm_s74 (by first | assumption | omega)
                  refine k_st (st' := [gI (f_X9_doesStop (f_X9_within (v94 + 1) 0 15) s74)]) rfl ?_
                  by_cases h109 : (f_X9_doesStop (f_X9_within (v94 + 1) 0 15) s74) = 0
                  · replace hT := hT.trans (if_pos h109)
                    refine k_if_ne_f (pc := 73) (tgt := 82) E (by omega) dX9_orders_73 (by decide) h109 ?_
                    refine k_iinc (pc := 76) (lv' := [(4, gI (v94 + 1)), (0, .ref (a 0)), (1, gI x0), (2, gI x1), (3, gI v73)]) E 4 dX9_orders_76 rfl (by decide) rfl ?_
                    refine k_goto (pc := 79) (tgt := 31) E dX9_orders_79 (by decide) ?_
                    refine k_lv (lv' := [(0, .ref (a 0)), (1, gI x0), (2, gI x1), (3, gI v73), (4, gI (v94 + 1))]) [1, 2, 3, 4, 0] rfl ?_
                    exact ih (v94 + 1) ⟨(by omega), (by first | assumption | omega)⟩ (by omega) (fun w97 hw hi => hk w97 (hT.trans hw) hi)
                  · replace hT := hT.trans (if_neg h109)
                    refine k_if_ne_t (pc := 73) (tgt := 82) E (by omega) dX9_orders_73 (by decide) h109 ?_
                    exact hk v94 hT ⟨(by omega), (by first | assumption | omega)⟩
                · replace hT := hT.trans (if_neg h104)
                  refine k_if_ne_t (pc := 56) (tgt := 82) E (by omega) dX9_orders_56 (by decide) h104 ?_
                  exact hk v94 hT ⟨(by omega), (by first | assumption | omega)⟩
              · replace hT := hT.trans (if_neg h101)
                refine k_icmp_ge_t (pc := 45) (tgt := 82) E (by omega) (by omega) dX9_orders_45 (by decide) h101 ?_
                exact hk v94 hT ⟨(by omega), (by first | assumption | omega)⟩
            · replace hT := hT.trans (if_neg h100)
              refine k_if_ne_t (pc := 36) (tgt := 82) E (by omega) dX9_orders_36 (by decide) h100 ?_
              exact hk v94 hT ⟨(by omega), (by first | assumption | omega)⟩
        refine k_lv (lv' := [(0, .ref (a 0)), (1, gI x0), (2, gI x1), (3, gI v73), (4, gI v73)]) [1, 2, 3, 4, 0] rfl ?_
        refine L95 17 v73 ⟨(by omega), (by first | assumption | omega)⟩ (by omega) (fun v114 hw hq => ?_)
        obtain ⟨hq115, hq116⟩ := hq
        replace hT := gl1y hT hw
        refine k_iloadn (pc := 82) E 1 dX9_orders_82 rfl rfl ?_
        refine k_iloadn (pc := 83) E 3 dX9_orders_83 rfl rfl ?_
        refine k_mr (fun hm_s74 => ?_)
        refine k_callS (pc := 84) (np := 2) (As := [gI x0, gI v73]) (st := []) E (c_X9_isIn l D a cI cJ cS cT s74 x0 v73 (by omega) (by omega)) wm_1088 wm_11 wm_1086 wm_1087 (by decide +kernel) ⟨by decide, by decide⟩ rfl (Nat.le_of_ble_eq_true rfl) dX9_orders_84 (ro_kk (fun hr117 => ?_))
        have hp118 := f_X9_isIn_p x0 v73 (by omega) (by omega) 
        refine k_st (st' := [gI (f_X9_isIn x0 v73)]) rfl ?_
        by_cases h119 : (f_X9_isIn x0 v73) = 0
        · replace hT := hT.trans (if_pos h119)
          refine k_if_eq_t (pc := 87) (tgt := 96) E (by omega) dX9_orders_87 (by decide) h119 ?_
          refine k_aloadn (pc := 96) E 0 dX9_orders_96 rfl rfl ?_
          refine k_iloadn (pc := 97) E 3 dX9_orders_97 rfl rfl ?_
          refine k_iload (pc := 98) E 4 dX9_orders_98 rfl ?_
          refine k_iloadn (pc := 100) E 2 dX9_orders_100 rfl rfl ?_
          refine k_mr (fun hm_s74 => ?_)
          refine k_callV (pc := 101) (np := 3) (As := [gI v73, gI v114, gI x1]) (st := []) (q0 := 0) E (c_X9_putsStretch l D a cI cJ cS cT s74 v73 v114 x1 (by omega) (by omega) (by omega) hOR_s74 hBE_s74 hFI_s74 (by first | assumption | omega) (by first | assumption | omega) (by first | assumption | omega) (by first | assumption | omega) (by first | assumption | omega)) wm_1092 wm_11 wm_1089 wm_1091 wp_40 (by decide +kernel) rfl rfl ⟨by decide, by decide⟩ rfl (Nat.le_of_ble_eq_true rfl) dX9_orders_101 (fun r121 s122 hs122 hr120 => ?_)
          replace hT := gby hT hs122
          have hp123 := f_X9_putsStretch_p v73 v114 x1 s74 (by omega) (by omega) (by omega) hm_s74 hOR_s74 hBE_s74 hFI_s74 (by first | assumption | omega) (by first | assumption | omega) (by first | assumption | omega) (by first | assumption | omega) (by first | assumption | omega) r121 s122 hs122
          obtain ⟨hfc_s122, hm_s122, hp124, hOR_s122, hBE_s122, hFI_s122, hp125, hp126, hp127⟩ := hp123
          have hf_s122 : fr [27, 28, 29, 30, 31, 32, 33] s0 s122 := hf_s74.call (by decide) hfc_s122
          refine k_st (st' := []) rfl ?_
          refine k_iload (pc := 104) E 4 dX9_orders_104 rfl ?_
          refine k_iconst (pc := 106) E dX9_orders_106 ?_
          refine k_iadd (pc := 107) E dX9_orders_107 ?_
          refine k_istoren (pc := 108) (lv' := [(3, gI (v114 + 1)), (0, .ref (a 0)), (1, gI x0), (2, gI x1), (4, gI v114)]) E dX9_orders_108 rfl (by decide) rfl ?_
          refine k_goto (pc := 109) (tgt := 22) E dX9_orders_109 (by decide) ?_
          refine k_lv (lv' := [(0, .ref (a 0)), (1, gI x0), (2, gI x1), (3, gI (v114 + 1))]) [1, 2, 3, 0] rfl ?_
          exact ih (v114 + 1) s122 ⟨(by omega), hf_s122, hOR_s122, hBE_s122, hFI_s122, (by first | assumption | omega), (by first | assumption | omega), (by first | assumption | omega), (by first | assumption | omega)⟩ (by omega) (fun w77 s78 hw hi => hk w77 s78 (hT.trans hw) hi)
        · replace hT := hT.trans (if_neg h119)
          refine k_if_eq_f (pc := 87) (tgt := 96) E (by omega) dX9_orders_87 (by decide) h119 ?_
          refine k_iinc (pc := 90) (lv' := [(3, gI (v73 + 1)), (0, .ref (a 0)), (1, gI x0), (2, gI x1), (4, gI v114)]) E 3 dX9_orders_90 rfl (by decide) rfl ?_
          refine k_goto (pc := 93) (tgt := 109) E dX9_orders_93 (by decide) ?_
          refine k_goto (pc := 109) (tgt := 22) E dX9_orders_109 (by decide) ?_
          refine k_lv (lv' := [(0, .ref (a 0)), (1, gI x0), (2, gI x1), (3, gI (v73 + 1))]) [1, 2, 3, 0] rfl ?_
          exact ih (v73 + 1) s74 ⟨(by omega), hf_s74, hOR_s74, hBE_s74, hFI_s74, (by first | assumption | omega), (by first | assumption | omega), (by first | assumption | omega), (by first | assumption | omega)⟩ (by omega) (fun w77 s78 hw hi => hk w77 s78 (hT.trans hw) hi)
      · replace hT := hT.trans (if_neg h79)
        refine k_icmp_ge_t (pc := 25) (tgt := 112) E (by omega) (by omega) dX9_orders_25 (by decide) h79 ?_
        refine k_lv (lv' := []) [] rfl ?_
        exact hk v73 s74 hT ⟨(by omega), hf_s74, hOR_s74, hBE_s74, hFI_s74, (by first | assumption | omega), (by first | assumption | omega), (by first | assumption | omega), (by first | assumption | omega)⟩
  refine k_lv (lv' := [(0, .ref (a 0)), (1, gI x0), (2, gI x1), (3, gI 0)]) [1, 2, 3, 0] rfl ?_
  refine L75 17 0 s16 ⟨(by omega), hf_s16, hOR_s16, hBE_s16, hFI_s16, (by first | assumption | omega), (by first | assumption | omega), (by first | assumption | omega), (by first | assumption | omega)⟩ (by omega) (fun v138 s139 hw hq => ?_)
  obtain ⟨hq140, hf_s139, hOR_s139, hBE_s139, hFI_s139, hq141, hq142, hq143, hq144⟩ := hq
  replace hT := gl2y hT hw
  exact k_rho hT (k_vret (pc := 112) E dX9_orders_112)

def f_X9_stretch (x0 : Int) (x1 : Int) (s0 : gMem) : gRes := (if (f_X9_in x0 0 65535) = 0 then ((-2), s0) else (if (f_X9_in x1 0 2) = 0 then ((-2), s0) else gb (f_X9_orders x0 0 s0) (fun r8 s9 => (if x1 = 0 then ((s9 32 0), s9) else (if x1 = 1 then ((s9 33 0), s9) else ((s9 31 0), s9))))))
theorem f_X9_stretch_e (x0 : Int) (x1 : Int) (s0 : gMem) : f_X9_stretch x0 x1 s0 = (if (f_X9_in x0 0 65535) = 0 then ((-2), s0) else (if (f_X9_in x1 0 2) = 0 then ((-2), s0) else gb (f_X9_orders x0 0 s0) (fun r8 s9 => (if x1 = 0 then ((s9 32 0), s9) else (if x1 = 1 then ((s9 33 0), s9) else ((s9 31 0), s9)))))) := rfl
set_option maxRecDepth 100000 in
set_option maxHeartbeats 4000000 in
theorem f_X9_stretch_p (x0 : Int) (x1 : Int) (s0 : gMem) (hx0 : in32 x0) (hx1 : in32 x1) (hm_s0 : gMR lgM s0) (hpre0 : OR s0) (hpre1 : BE s0) (hpre2 : FI s0) (rZ : Int) (sZ : gMem) (hres : f_X9_stretch x0 x1 s0 = (rZ, sZ)) : (fr [27, 28, 29, 30, 31, 32, 33] s0 sZ) ∧ (gMR lgM sZ) ∧ (in32 rZ) ∧ (OR sZ) ∧ (BE sZ) ∧ (FI sZ) := by
  have hT := f_X9_stretch_e x0 x1 s0
  have hf_s0 : fr [27, 28, 29, 30, 31, 32, 33] s0 s0 := fr.rf _ _
  have hOR_s0 := hpre0
  have hBE_s0 := hpre1
  have hFI_s0 := hpre2
  have hp2 := f_X9_in_p x0 0 65535 (by omega) (by omega) (by omega) 
  by_cases h3 : (f_X9_in x0 0 65535) = 0
  · replace hT := hT.trans (if_pos h3)
    obtain ⟨rfl, rfl⟩ := Prod.mk.inj (hT.symm.trans hres)
    exact ⟨hf_s0, hm_s0, (by omega), hOR_s0, hBE_s0, hFI_s0⟩
  · replace hT := hT.trans (if_neg h3)
    have hp5 := f_X9_in_p x1 0 2 (by omega) (by omega) (by omega) 
    by_cases h6 : (f_X9_in x1 0 2) = 0
    · replace hT := hT.trans (if_pos h6)
      obtain ⟨rfl, rfl⟩ := Prod.mk.inj (hT.symm.trans hres)
      exact ⟨hf_s0, hm_s0, (by omega), hOR_s0, hBE_s0, hFI_s0⟩
    · replace hT := hT.trans (if_neg h6)
      obtain ⟨r8, s9, hs9⟩ : ∃ rr ss, (f_X9_orders x0 0 s0) = (rr, ss) := ⟨_, _, rfl⟩
      replace hT := gby hT hs9
      have hp10 := f_X9_orders_p x0 0 s0 (by omega) (by omega) hm_s0 hOR_s0 hBE_s0 hFI_s0 (by first | assumption | omega) r8 s9 hs9
      obtain ⟨hfc_s9, hm_s9, hp11, hOR_s9, hBE_s9, hFI_s9, hp12, hp13, hp14⟩ := hp10
      have hf_s9 : fr [27, 28, 29, 30, 31, 32, 33] s0 s9 := hf_s0.call (by decide) hfc_s9
      by_cases h15 : x1 = 0
      · replace hT := hT.trans (if_pos h15)
        have hr16 := (hm_s9 32 0).1 rfl
        obtain ⟨rfl, rfl⟩ := Prod.mk.inj (hT.symm.trans hres)
        exact ⟨hf_s9, hm_s9, (by omega), hOR_s9, hBE_s9, hFI_s9⟩
      · replace hT := hT.trans (if_neg h15)
        by_cases h17 : x1 = 1
        · replace hT := hT.trans (if_pos h17)
          have hr18 := (hm_s9 33 0).1 rfl
          obtain ⟨rfl, rfl⟩ := Prod.mk.inj (hT.symm.trans hres)
          exact ⟨hf_s9, hm_s9, (by omega), hOR_s9, hBE_s9, hFI_s9⟩
        · replace hT := hT.trans (if_neg h17)
          have hr19 := (hm_s9 31 0).1 rfl
          obtain ⟨rfl, rfl⟩ := Prod.mk.inj (hT.symm.trans hres)
          exact ⟨hf_s9, hm_s9, (by omega), hOR_s9, hBE_s9, hFI_s9⟩
set_option maxRecDepth 100000 in
set_option maxHeartbeats 4000000 in
theorem c_X9_stretch (l : Launch) (D : va_G) (a : Nat → Nat) (cI cJ cS cT : ClassId) (s0 : gMem) (x0 : Int) (x1 : Int) (hx0 : in32 x0) (hx1 : in32 x1) (hpre0 : OR s0) (hpre1 : BE s0) (hpre2 : FI s0) : gC l yX9_stretch cX9_stretch 3 (some .int) 4 256 D vwCl (gT cI cJ cS cT) (wdM a cI cJ) lgM kI in32 [.ref (a 0), gI x0, gI x1] s0 (f_X9_stretch x0 x1 s0) := by
  refine gC_of (by decide +kernel) (hwdM a cI cJ) (Nat.le_of_ble_eq_true rfl) ?_
  intro A p e R s m args below meth c hR E
  subst hR
  have hT := f_X9_stretch_e x0 x1 s0
  have hf_s0 : fr [27, 28, 29, 30, 31, 32, 33] s0 s0 := fr.rf _ _
  refine k_lv0 (lv' := [(0, .ref (a 0)), (1, gI x0), (2, gI x1)]) rfl ?_
  refine k_mr (fun hm_s0 => ?_)
  have hOR_s0 := hpre0
  have hBE_s0 := hpre1
  have hFI_s0 := hpre2
  refine k_iloadn (pc := 0) E 1 dX9_stretch_0 rfl rfl ?_
  refine k_iconst (pc := 1) E dX9_stretch_1 ?_
  refine k_ldc (pc := 2) (n := 65535) E dX9_stretch_2 wm_1021 (by decide) ?_
  refine k_mr (fun hm_s0 => ?_)
  refine k_callS (pc := 4) (np := 3) (As := [gI x0, gI 0, gI 65535]) (st := []) E (c_X9_in l D a cI cJ cS cT s0 x0 0 65535 (by omega) (by omega) (by omega)) wm_861 wm_11 wm_859 wm_860 (by decide +kernel) ⟨by decide, by decide⟩ rfl (Nat.le_of_ble_eq_true rfl) dX9_stretch_4 (ro_kk (fun hr1 => ?_))
  have hp2 := f_X9_in_p x0 0 65535 (by omega) (by omega) (by omega) 
  refine k_st (st' := [gI (f_X9_in x0 0 65535)]) rfl ?_
  by_cases h3 : (f_X9_in x0 0 65535) = 0
  · replace hT := hT.trans (if_pos h3)
    refine k_if_eq_t (pc := 7) (tgt := 19) E (by omega) dX9_stretch_7 (by decide) h3 ?_
    refine k_bipush (pc := 19) E dX9_stretch_19 (by decide) ?_
    exact k_rho hT (k_iret (pc := 21) E dX9_stretch_21 (by omega))
  · replace hT := hT.trans (if_neg h3)
    refine k_if_eq_f (pc := 7) (tgt := 19) E (by omega) dX9_stretch_7 (by decide) h3 ?_
    refine k_iloadn (pc := 10) E 2 dX9_stretch_10 rfl rfl ?_
    refine k_iconst (pc := 11) E dX9_stretch_11 ?_
    refine k_iconst (pc := 12) E dX9_stretch_12 ?_
    refine k_mr (fun hm_s0 => ?_)
    refine k_callS (pc := 13) (np := 3) (As := [gI x1, gI 0, gI 2]) (st := []) E (c_X9_in l D a cI cJ cS cT s0 x1 0 2 (by omega) (by omega) (by omega)) wm_861 wm_11 wm_859 wm_860 (by decide +kernel) ⟨by decide, by decide⟩ rfl (Nat.le_of_ble_eq_true rfl) dX9_stretch_13 (ro_kk (fun hr4 => ?_))
    have hp5 := f_X9_in_p x1 0 2 (by omega) (by omega) (by omega) 
    refine k_st (st' := [gI (f_X9_in x1 0 2)]) rfl ?_
    by_cases h6 : (f_X9_in x1 0 2) = 0
    · replace hT := hT.trans (if_pos h6)
      refine k_if_ne_f (pc := 16) (tgt := 22) E (by omega) dX9_stretch_16 (by decide) h6 ?_
      refine k_bipush (pc := 19) E dX9_stretch_19 (by decide) ?_
      exact k_rho hT (k_iret (pc := 21) E dX9_stretch_21 (by omega))
    · replace hT := hT.trans (if_neg h6)
      refine k_if_ne_t (pc := 16) (tgt := 22) E (by omega) dX9_stretch_16 (by decide) h6 ?_
      refine k_aloadn (pc := 22) E 0 dX9_stretch_22 rfl rfl ?_
      refine k_iloadn (pc := 23) E 1 dX9_stretch_23 rfl rfl ?_
      refine k_iconst (pc := 24) E dX9_stretch_24 ?_
      refine k_mr (fun hm_s0 => ?_)
      refine k_callV (pc := 25) (np := 2) (As := [gI x0, gI 0]) (st := []) (q0 := 0) E (c_X9_orders l D a cI cJ cS cT s0 x0 0 (by omega) (by omega) hOR_s0 hBE_s0 hFI_s0 (by first | assumption | omega)) wm_1085 wm_11 wm_1082 wm_1084 wp_39 (by decide +kernel) rfl rfl ⟨by decide, by decide⟩ rfl (Nat.le_of_ble_eq_true rfl) dX9_stretch_25 (fun r8 s9 hs9 hr7 => ?_)
      replace hT := gby hT hs9
      have hp10 := f_X9_orders_p x0 0 s0 (by omega) (by omega) hm_s0 hOR_s0 hBE_s0 hFI_s0 (by first | assumption | omega) r8 s9 hs9
      obtain ⟨hfc_s9, hm_s9, hp11, hOR_s9, hBE_s9, hFI_s9, hp12, hp13, hp14⟩ := hp10
      have hf_s9 : fr [27, 28, 29, 30, 31, 32, 33] s0 s9 := hf_s0.call (by decide) hfc_s9
      refine k_st (st' := []) rfl ?_
      refine k_iloadn (pc := 28) E 2 dX9_stretch_28 rfl rfl ?_
      by_cases h15 : x1 = 0
      · replace hT := hT.trans (if_pos h15)
        refine k_if_ne_f (pc := 29) (tgt := 39) E (by omega) dX9_stretch_29 (by decide) h15 ?_
        refine k_aloadn (pc := 32) E 0 dX9_stretch_32 rfl rfl ?_
        refine k_getfI (pc := 33) (q0 := 0) (f := 32) (k := 32) E inX9 rfl rfl (by decide) wm_930 rfl rfl rfl dX9_stretch_33 (fun hr16 => ?_)
        refine k_goto (pc := 36) (tgt := 55) E dX9_stretch_36 (by decide) ?_
        exact k_rho hT (k_iret (pc := 55) E dX9_stretch_55 (by omega))
      · replace hT := hT.trans (if_neg h15)
        refine k_if_ne_t (pc := 29) (tgt := 39) E (by omega) dX9_stretch_29 (by decide) h15 ?_
        refine k_iloadn (pc := 39) E 2 dX9_stretch_39 rfl rfl ?_
        refine k_iconst (pc := 40) E dX9_stretch_40 ?_
        by_cases h17 : x1 = 1
        · replace hT := hT.trans (if_pos h17)
          refine k_icmp_ne_f (pc := 41) (tgt := 51) E (by omega) (by omega) dX9_stretch_41 (by decide) h17 ?_
          refine k_aloadn (pc := 44) E 0 dX9_stretch_44 rfl rfl ?_
          refine k_getfI (pc := 45) (q0 := 0) (f := 33) (k := 33) E inX9 rfl rfl (by decide) wm_931 rfl rfl rfl dX9_stretch_45 (fun hr18 => ?_)
          refine k_goto (pc := 48) (tgt := 55) E dX9_stretch_48 (by decide) ?_
          exact k_rho hT (k_iret (pc := 55) E dX9_stretch_55 (by omega))
        · replace hT := hT.trans (if_neg h17)
          refine k_icmp_ne_t (pc := 41) (tgt := 51) E (by omega) (by omega) dX9_stretch_41 (by decide) h17 ?_
          refine k_aloadn (pc := 51) E 0 dX9_stretch_51 rfl rfl ?_
          refine k_getfI (pc := 52) (q0 := 0) (f := 31) (k := 31) E inX9 rfl rfl (by decide) wm_929 rfl rfl rfl dX9_stretch_52 (fun hr19 => ?_)
          exact k_rho hT (k_iret (pc := 55) E dX9_stretch_55 (by omega))

def f_X9_most (x0 : Int) : Int := (if 1000000000000 < x0 then 1000000000000 else x0)
theorem f_X9_most_e (x0 : Int) : f_X9_most x0 = (if 1000000000000 < x0 then 1000000000000 else x0) := rfl
set_option maxRecDepth 100000 in
set_option maxHeartbeats 4000000 in
theorem f_X9_most_p (x0 : Int) (hx0 : in64 x0)  : (in64 (f_X9_most x0)) ∧ ((x0 ≤ 1000000000000 ∧ (f_X9_most x0) = x0) ∨ (1000000000000 < x0 ∧ (f_X9_most x0) = 1000000000000)) := by
  have hT := f_X9_most_e x0
  by_cases h1 : 1000000000000 < x0
  · replace hT := hT.trans (if_pos h1)
    rw [hT]
    exact ⟨(by omega), (by first | assumption | omega)⟩
  · replace hT := hT.trans (if_neg h1)
    rw [hT]
    exact ⟨(by omega), (by first | assumption | omega)⟩
set_option maxRecDepth 100000 in
set_option maxHeartbeats 4000000 in
theorem c_X9_most (l : Launch) (D : va_G) (a : Nat → Nat) (cI cJ cS cT : ClassId) (s0 : gMem) (x0 : Int) (hx0 : in64 x0)  : gC l yX9_most cX9_most 2 (some .long) 1 64 D vwCl (gT cI cJ cS cT) (wdM a cI cJ) lgM kJ in64 [gL x0] s0 ((f_X9_most x0), s0) := by
  refine gC_of (by decide +kernel) (hwdM a cI cJ) (Nat.le_of_ble_eq_true rfl) ?_
  intro A p e R s m args below meth c hR E
  subst hR
  have hT := f_X9_most_e x0
  refine k_lv0 (lv' := [(0, gL x0)]) rfl ?_
  refine k_lloadn (pc := 0) E 0 dX9_most_0 rfl rfl ?_
  refine k_ldc2 (pc := 1) (n := 1000000000000) E dX9_most_1 wm_1115 (by decide) ?_
  by_cases h1 : 1000000000000 < x0
  · replace hT := hT.trans (if_pos h1)
    refine k_lcmp (pc := 4) E dX9_most_4 (by omega) (by omega) ?_
    refine k_if_le_f (pc := 5) (tgt := 14) E (by (repeat' split) <;> omega) dX9_most_5 (by decide) (by (repeat' split) <;> omega) ?_
    refine k_ldc2 (pc := 8) (n := 1000000000000) E dX9_most_8 wm_1115 (by decide) ?_
    refine k_goto (pc := 11) (tgt := 15) E dX9_most_11 (by decide) ?_
    exact k_rho (congrArg (fun q => (q, s0)) hT) (k_lret (pc := 15) E dX9_most_15 (by omega))
  · replace hT := hT.trans (if_neg h1)
    refine k_lcmp (pc := 4) E dX9_most_4 (by omega) (by omega) ?_
    refine k_if_le_t (pc := 5) (tgt := 14) E (by (repeat' split) <;> omega) dX9_most_5 (by decide) (by (repeat' split) <;> omega) ?_
    refine k_lloadn (pc := 14) E 0 dX9_most_14 rfl rfl ?_
    exact k_rho (congrArg (fun q => (q, s0)) hT) (k_lret (pc := 15) E dX9_most_15 (by omega))

def w_X9_meanOfStretch_42 (c1 : Int) (c2 : Int) : Nat → Int → Int → gMem → Int × Int × gMem
  | 0, v7, v8, s9 => (v7, v8, s9)
  | n10 + 1, v7, v8, s9 => (if v8 < c2 then gb (f_X9_takesOf (s9 27 v8) s9) (fun r15 s16 => gb (f_X9_fallsOf (s9 27 v8) (s16 28 v8) s16) (fun r25 s26 => gl (f_X9_most (((v7 + (1000 * r15)) * 100) / (100 - r25))) (fun v37 => (w_X9_meanOfStretch_42 c1 c2 n10 v37 (v8 + 1) s26)))) else (v7, v8, s9))
theorem w_X9_meanOfStretch_42_s (c1 : Int) (c2 : Int) (n10 : Nat) (v7 : Int) (v8 : Int) (s9 : gMem) : w_X9_meanOfStretch_42 c1 c2 (n10 + 1) v7 v8 s9 = (if v8 < c2 then gb (f_X9_takesOf (s9 27 v8) s9) (fun r15 s16 => gb (f_X9_fallsOf (s9 27 v8) (s16 28 v8) s16) (fun r25 s26 => gl (f_X9_most (((v7 + (1000 * r15)) * 100) / (100 - r25))) (fun v37 => (w_X9_meanOfStretch_42 c1 c2 n10 v37 (v8 + 1) s26)))) else (v7, v8, s9)) := rfl
def w_X9_meanOfStretch_111 (c2 : Int) (c3 : Int) : Nat → Int → gMem → Int × gMem
  | 0, v96, s97 => (v96, s97)
  | n98 + 1, v96, s97 => (if v96 < c2 then gl (mset s97 34 (s97 27 v96) c3) (fun s102 => (w_X9_meanOfStretch_111 c2 c3 n98 (v96 + 1) s102)) else (v96, s97))
theorem w_X9_meanOfStretch_111_s (c2 : Int) (c3 : Int) (n98 : Nat) (v96 : Int) (s97 : gMem) : w_X9_meanOfStretch_111 c2 c3 (n98 + 1) v96 s97 = (if v96 < c2 then gl (mset s97 34 (s97 27 v96) c3) (fun s102 => (w_X9_meanOfStretch_111 c2 c3 n98 (v96 + 1) s102)) else (v96, s97)) := rfl
def f_X9_meanOfStretch (x0 : Int) (s0 : gMem) : gRes := (gl ((if (x0 + 1) < (s0 31 0) then (s0 29 (f_X9_within (x0 + 1) 0 15)) else (s0 30 0))) (fun v4 => (gl3 (w_X9_meanOfStretch_42 x0 v4 17 0 (s0 29 x0) s0) (fun v85 v86 s87 => (gl2 (w_X9_meanOfStretch_111 v4 v85 17 (s87 29 x0) s87) (fun v125 s126 => (v85, s126)))))))
theorem f_X9_meanOfStretch_e (x0 : Int) (s0 : gMem) : f_X9_meanOfStretch x0 s0 = (gl ((if (x0 + 1) < (s0 31 0) then (s0 29 (f_X9_within (x0 + 1) 0 15)) else (s0 30 0))) (fun v4 => (gl3 (w_X9_meanOfStretch_42 x0 v4 17 0 (s0 29 x0) s0) (fun v85 v86 s87 => (gl2 (w_X9_meanOfStretch_111 v4 v85 17 (s87 29 x0) s87) (fun v125 s126 => (v85, s126))))))) := rfl
set_option maxRecDepth 100000 in
set_option maxHeartbeats 4000000 in
theorem f_X9_meanOfStretch_p (x0 : Int) (s0 : gMem) (hx0 : in32 x0) (hm_s0 : gMR lgM s0) (hpre0 : VS s0) (hpre1 : KN s0) (hpre2 : MO s0) (hpre3 : OR s0) (hpre4 : BE s0) (hpre5 : FI s0) (hpre6 : MN s0) (hpre7 : 0 ≤ x0 ∧ x0 ≤ 15) (hpre8 : 0 ≤ s0 30 0 ∧ s0 30 0 ≤ 16) (hpre9 : 0 ≤ s0 31 0 ∧ s0 31 0 ≤ 16) (rZ : Int) (sZ : gMem) (hres : f_X9_meanOfStretch x0 s0 = (rZ, sZ)) : (fr [25, 26, 34] s0 sZ) ∧ (gMR lgM sZ) ∧ (in64 rZ) ∧ (OR sZ) ∧ (BE sZ) ∧ (FI sZ) ∧ (MN sZ) ∧ (0 ≤ rZ ∧ rZ ≤ 1000000000000) := by
  have hT := f_X9_meanOfStretch_e x0 s0
  have hf_s0 : fr [25, 26, 34] s0 s0 := fr.rf _ _
  have hOR_s0 := hpre3
  have hBE_s0 := hpre4
  have hFI_s0 := hpre5
  have hMN_s0 := hpre6
  have hr1 := (hm_s0 31 0).1 rfl
  obtain ⟨z133, hz133, hT⟩ := gl1x hT
  have j3 : ∀ (v4 : Int), ((in32 v4) ∧ (0 ≤ v4 ∧ v4 ≤ 16)) → z133 = v4 → (fr [25, 26, 34] s0 sZ) ∧ (gMR lgM sZ) ∧ (in64 rZ) ∧ (OR sZ) ∧ (BE sZ) ∧ (FI sZ) ∧ (MN sZ) ∧ (0 ≤ rZ ∧ rZ ≤ 1000000000000) := by
    intro v4 hq hz
    obtain ⟨hq131, hq132⟩ := hq
    replace hT := gl1y hT hz
    have hr5 := (hm_s0 29 x0).1 rfl
    have hi6 := hFI_s0 x0
    have L41 : ∀ (n42 : Nat) (v38 : Int) (v39 : Int) (s40 : gMem), ((in64 v38) ∧ (in32 v39) ∧ (fr [25, 26, 34] s0 s40) ∧ (gMR lgM s40) ∧ (OR s40) ∧ (BE s40) ∧ (FI s40) ∧ (MN s40) ∧ (s40 30 0 = s0 30 0) ∧ (s40 31 0 = s0 31 0) ∧ (0 ≤ v38 ∧ v38 ≤ 1000000000000) ∧ (0 ≤ v39 ∧ v39 ≤ 16)) → 16 - v39 < (n42 : Int) → (∀ (w43 : Int) (w44 : Int) (s45 : gMem), (w_X9_meanOfStretch_42 x0 v4 n42 v38 v39 s40) = (w43, w44, s45) → ((in64 w43) ∧ (in32 w44) ∧ (fr [25, 26, 34] s0 s45) ∧ (gMR lgM s45) ∧ (OR s45) ∧ (BE s45) ∧ (FI s45) ∧ (MN s45) ∧ (s45 30 0 = s0 30 0) ∧ (s45 31 0 = s0 31 0) ∧ (0 ≤ w43 ∧ w43 ≤ 1000000000000) ∧ (0 ≤ w44 ∧ w44 ≤ 16)) → (fr [25, 26, 34] s0 sZ) ∧ (gMR lgM sZ) ∧ (in64 rZ) ∧ (OR sZ) ∧ (BE sZ) ∧ (FI sZ) ∧ (MN sZ) ∧ (0 ≤ rZ ∧ rZ ≤ 1000000000000)) → (fr [25, 26, 34] s0 sZ) ∧ (gMR lgM sZ) ∧ (in64 rZ) ∧ (OR sZ) ∧ (BE sZ) ∧ (FI sZ) ∧ (MN sZ) ∧ (0 ≤ rZ ∧ rZ ≤ 1000000000000) := by
      intro n42; induction n42 with
      | zero =>
        intro v38 v39 s40 hq hm hk
        exfalso
        obtain ⟨hq73, hq74, hf_s40, hm_s40, hOR_s40, hBE_s40, hFI_s40, hMN_s40, hq75, hq76, hq77, hq78⟩ := hq
        omega
      | succ n42 ih =>
        intro v38 v39 s40 hq hm hk
        obtain ⟨hq79, hq80, hf_s40, hm_s40, hOR_s40, hBE_s40, hFI_s40, hMN_s40, hq81, hq82, hq83, hq84⟩ := hq
        have hT := w_X9_meanOfStretch_42_s x0 v4 n42 v38 v39 s40
        by_cases h46 : v39 < v4
        · replace hT := hT.trans (if_pos h46)
          have hr47 := (hm_s40 27 v39).1 rfl
          have hi48 := hOR_s40 v39
          obtain ⟨r50, s51, hs51⟩ : ∃ rr ss, (f_X9_takesOf (s40 27 v39) s40) = (rr, ss) := ⟨_, _, rfl⟩
          replace hT := gby hT hs51
          have hp52 := f_X9_takesOf_p (s40 27 v39) s40 (by omega) hm_s40 (by unfold VS; rw [hf_s40 5 (by decide), hf_s40 6 (by decide), hf_s40 7 (by decide), hf_s40 8 (by decide)]; exact hpre0) (by unfold KN; rw [hf_s40 0 (by decide)]; exact hpre1) (by unfold MO; rw [hf_s40 1 (by decide)]; exact hpre2) (by first | assumption | omega) r50 s51 hs51
          obtain ⟨hfc_s51, hm_s51, hp53, hp54⟩ := hp52
          have hf_s51 : fr [25, 26, 34] s0 s51 := hf_s40.call (by decide) hfc_s51
          have hOR_s51 : OR s51 := fun i => by rw [hfc_s51 27 (by decide)]; exact hOR_s40 i
          have hBE_s51 : BE s51 := fun i => by rw [hfc_s51 28 (by decide)]; exact hBE_s40 i
          have hFI_s51 : FI s51 := fun i => by rw [hfc_s51 29 (by decide)]; exact hFI_s40 i
          have hMN_s51 : MN s51 := fun i => by rw [hfc_s51 34 (by decide)]; exact hMN_s40 i
          have ht55 : s51 30 0 = s40 30 0 := by rw [hfc_s51 30 (by decide)]
          have ht56 : s51 31 0 = s40 31 0 := by rw [hfc_s51 31 (by decide)]
          have hr57 := (hm_s51 28 v39).1 rfl
          have hi58 := hBE_s51 v39
          obtain ⟨r60, s61, hs61⟩ : ∃ rr ss, (f_X9_fallsOf (s40 27 v39) (s51 28 v39) s51) = (rr, ss) := ⟨_, _, rfl⟩
          replace hT := gby hT hs61
          have hp62 := f_X9_fallsOf_p (s40 27 v39) (s51 28 v39) s51 (by omega) (by omega) hm_s51 (by unfold VS; rw [hf_s51 5 (by decide), hf_s51 6 (by decide), hf_s51 7 (by decide), hf_s51 8 (by decide)]; exact hpre0) (by unfold KN; rw [hf_s51 0 (by decide)]; exact hpre1) (by unfold MO; rw [hf_s51 1 (by decide)]; exact hpre2) (by first | assumption | omega) (by first | assumption | omega) r60 s61 hs61
          obtain ⟨hfc_s61, hm_s61, hp63, hp64⟩ := hp62
          have hf_s61 : fr [25, 26, 34] s0 s61 := hf_s51.call (by decide) hfc_s61
          have hOR_s61 : OR s61 := fun i => by rw [hfc_s61 27 (by decide)]; exact hOR_s51 i
          have hBE_s61 : BE s61 := fun i => by rw [hfc_s61 28 (by decide)]; exact hBE_s51 i
          have hFI_s61 : FI s61 := fun i => by rw [hfc_s61 29 (by decide)]; exact hFI_s51 i
          have hMN_s61 : MN s61 := fun i => by rw [hfc_s61 34 (by decide)]; exact hMN_s51 i
          have ht65 : s61 30 0 = s51 30 0 := by rw [hfc_s61 30 (by decide)]
          have ht66 : s61 31 0 = s51 31 0 := by rw [hfc_s61 31 (by decide)]
          have hd67 : (0 : Int) ≤ ((v38 + (1000 * r50)) * 100) := (by omega)
          have hd68 : (0 : Int) < (100 - r60) := (by omega)
          have hb69 := dv_rg hd67 hd68
          have hp71 := f_X9_most_p (((v38 + (1000 * r50)) * 100) / (100 - r60)) (by omega) 
          obtain ⟨v72, hv72, hT⟩ := glx hT
          exact ih v72 (v39 + 1) s61 ⟨(by omega), (by omega), hf_s61, hm_s61, hOR_s61, hBE_s61, hFI_s61, hMN_s61, (by first | assumption | omega), (by first | assumption | omega), (by first | assumption | omega), (by first | assumption | omega)⟩ (by omega) (fun w43 w44 s45 hw hi => hk w43 w44 s45 (hT.trans hw) hi)
        · replace hT := hT.trans (if_neg h46)
          exact hk v38 v39 s40 hT ⟨(by omega), (by omega), hf_s40, hm_s40, hOR_s40, hBE_s40, hFI_s40, hMN_s40, (by first | assumption | omega), (by first | assumption | omega), (by first | assumption | omega), (by first | assumption | omega)⟩
    refine L41 17 0 (s0 29 x0) s0 ⟨(by omega), (by omega), hf_s0, hm_s0, hOR_s0, hBE_s0, hFI_s0, hMN_s0, (by first | assumption | omega), (by first | assumption | omega), (by first | assumption | omega), (by first | assumption | omega)⟩ (by omega) (fun v85 v86 s87 hw hq => ?_)
    obtain ⟨hq88, hq89, hf_s87, hm_s87, hOR_s87, hBE_s87, hFI_s87, hMN_s87, hq90, hq91, hq92, hq93⟩ := hq
    replace hT := gl3y hT hw
    have hr94 := (hm_s87 29 x0).1 rfl
    have hi95 := hFI_s87 x0
    have L107 : ∀ (n108 : Nat) (v105 : Int) (s106 : gMem), ((in32 v105) ∧ (fr [25, 26, 34] s0 s106) ∧ (gMR lgM s106) ∧ (OR s106) ∧ (BE s106) ∧ (FI s106) ∧ (MN s106) ∧ (s106 30 0 = s87 30 0) ∧ (s106 31 0 = s87 31 0) ∧ (0 ≤ v105 ∧ v105 ≤ 16)) → 16 - v105 < (n108 : Int) → (∀ (w109 : Int) (s110 : gMem), (w_X9_meanOfStretch_111 v4 v85 n108 v105 s106) = (w109, s110) → ((in32 w109) ∧ (fr [25, 26, 34] s0 s110) ∧ (gMR lgM s110) ∧ (OR s110) ∧ (BE s110) ∧ (FI s110) ∧ (MN s110) ∧ (s110 30 0 = s87 30 0) ∧ (s110 31 0 = s87 31 0) ∧ (0 ≤ w109 ∧ w109 ≤ 16)) → (fr [25, 26, 34] s0 sZ) ∧ (gMR lgM sZ) ∧ (in64 rZ) ∧ (OR sZ) ∧ (BE sZ) ∧ (FI sZ) ∧ (MN sZ) ∧ (0 ≤ rZ ∧ rZ ≤ 1000000000000)) → (fr [25, 26, 34] s0 sZ) ∧ (gMR lgM sZ) ∧ (in64 rZ) ∧ (OR sZ) ∧ (BE sZ) ∧ (FI sZ) ∧ (MN sZ) ∧ (0 ≤ rZ ∧ rZ ≤ 1000000000000) := by
      intro n108; induction n108 with
      | zero =>
        intro v105 s106 hq hm hk
        exfalso
        obtain ⟨hq117, hf_s106, hm_s106, hOR_s106, hBE_s106, hFI_s106, hMN_s106, hq118, hq119, hq120⟩ := hq
        omega
      | succ n108 ih =>
        intro v105 s106 hq hm hk
        obtain ⟨hq121, hf_s106, hm_s106, hOR_s106, hBE_s106, hFI_s106, hMN_s106, hq122, hq123, hq124⟩ := hq
        have hT := w_X9_meanOfStretch_111_s v4 v85 n108 v105 s106
        by_cases h111 : v105 < v4
        · replace hT := hT.trans (if_pos h111)
          have hr112 := (hm_s106 27 v105).1 rfl
          have hi113 := hOR_s106 v105
          obtain ⟨s114, hs114, hT⟩ := glx hT
          have hf_s114 : fr [25, 26, 34] s0 s114 := hs114 ▸ hf_s106.set (by decide)
          have hm_s114 : gMR lgM s114 := hs114 ▸ hm_s106.set64 rfl (by omega)
          have hOR_s114 : OR s114 := fun i => by rw [hs114, mset_ne _ _ _ _ _ (by decide)]; exact hOR_s106 i
          have hBE_s114 : BE s114 := fun i => by rw [hs114, mset_ne _ _ _ _ _ (by decide)]; exact hBE_s106 i
          have hFI_s114 : FI s114 := fun i => by rw [hs114, mset_ne _ _ _ _ _ (by decide)]; exact hFI_s106 i
          have hMN_s114 : MN s114 := hs114 ▸ MN_set hMN_s106 (by omega)
          have ht115 : s114 30 0 = s106 30 0 := by rw [hs114]; exact mset_ne _ _ _ _ _ (by decide)
          have ht116 : s114 31 0 = s106 31 0 := by rw [hs114]; exact mset_ne _ _ _ _ _ (by decide)
          exact ih (v105 + 1) s114 ⟨(by omega), hf_s114, hm_s114, hOR_s114, hBE_s114, hFI_s114, hMN_s114, (by first | assumption | omega), (by first | assumption | omega), (by first | assumption | omega)⟩ (by omega) (fun w109 s110 hw hi => hk w109 s110 (hT.trans hw) hi)
        · replace hT := hT.trans (if_neg h111)
          exact hk v105 s106 hT ⟨(by omega), hf_s106, hm_s106, hOR_s106, hBE_s106, hFI_s106, hMN_s106, (by first | assumption | omega), (by first | assumption | omega), (by first | assumption | omega)⟩
    refine L107 17 (s87 29 x0) s87 ⟨(by omega), hf_s87, hm_s87, hOR_s87, hBE_s87, hFI_s87, hMN_s87, (by first | assumption | omega), (by first | assumption | omega), (by first | assumption | omega)⟩ (by omega) (fun v125 s126 hw hq => ?_)
    obtain ⟨hq127, hf_s126, hm_s126, hOR_s126, hBE_s126, hFI_s126, hMN_s126, hq128, hq129, hq130⟩ := hq
    replace hT := gl2y hT hw
    obtain ⟨rfl, rfl⟩ := Prod.mk.inj (hT.symm.trans hres)
    exact ⟨hf_s126, hm_s126, (by omega), hOR_s126, hBE_s126, hFI_s126, hMN_s126, (by first | assumption | omega)⟩
  replace hT := hz133
  by_cases h2 : (x0 + 1) < (s0 31 0)
  · replace hT := hT.trans (if_pos h2)
    have hp135 := f_X9_within_p (x0 + 1) 0 15 (by omega) (by omega) (by omega) 
    have hr136 := (hm_s0 29 (f_X9_within (x0 + 1) 0 15)).1 rfl
    have hi137 := hFI_s0 (f_X9_within (x0 + 1) 0 15)
    exact j3 (s0 29 (f_X9_within (x0 + 1) 0 15)) ⟨(by omega), (by first | assumption | omega)⟩ hT
  · replace hT := hT.trans (if_neg h2)
    have hr138 := (hm_s0 30 0).1 rfl
    exact j3 (s0 30 0) ⟨(by omega), (by first | assumption | omega)⟩ hT
set_option maxRecDepth 100000 in
set_option maxHeartbeats 4000000 in
theorem c_X9_meanOfStretch (l : Launch) (D : va_G) (a : Nat → Nat) (cI cJ cS cT : ClassId) (s0 : gMem) (x0 : Int) (hx0 : in32 x0) (hpre0 : VS s0) (hpre1 : KN s0) (hpre2 : MO s0) (hpre3 : OR s0) (hpre4 : BE s0) (hpre5 : FI s0) (hpre6 : MN s0) (hpre7 : 0 ≤ x0 ∧ x0 ≤ 15) (hpre8 : 0 ≤ s0 30 0 ∧ s0 30 0 ≤ 16) (hpre9 : 0 ≤ s0 31 0 ∧ s0 31 0 ≤ 16) : gC l yX9_meanOfStretch cX9_meanOfStretch 7 (some .long) 5 320 D vwCl (gT cI cJ cS cT) (wdM a cI cJ) lgM kJ in64 [.ref (a 0), gI x0] s0 (f_X9_meanOfStretch x0 s0) := by
  refine gC_of (by decide +kernel) (hwdM a cI cJ) (Nat.le_of_ble_eq_true rfl) ?_
  intro A p e R s m args below meth c hR E
  subst hR
  have hT := f_X9_meanOfStretch_e x0 s0
  have hf_s0 : fr [25, 26, 34] s0 s0 := fr.rf _ _
  refine k_lv0 (lv' := [(0, .ref (a 0)), (1, gI x0)]) rfl ?_
  refine k_mr (fun hm_s0 => ?_)
  have hOR_s0 := hpre3
  have hBE_s0 := hpre4
  have hFI_s0 := hpre5
  have hMN_s0 := hpre6
  refine k_iloadn (pc := 0) E 1 dX9_meanOfStretch_0 rfl rfl ?_
  refine k_iconst (pc := 1) E dX9_meanOfStretch_1 ?_
  refine k_iadd (pc := 2) E dX9_meanOfStretch_2 ?_
  refine k_aloadn (pc := 3) E 0 dX9_meanOfStretch_3 rfl rfl ?_
  refine k_getfI (pc := 4) (q0 := 0) (f := 31) (k := 31) E inX9 rfl rfl (by decide) wm_929 rfl rfl rfl dX9_meanOfStretch_4 (fun hr1 => ?_)
  obtain ⟨z133, hz133, hT⟩ := gl1x hT
  have j3 : ∀ (v4 : Int), ((in32 v4) ∧ (0 ≤ v4 ∧ v4 ≤ 16)) → z133 = v4 → gK D vwCl (wdM a cI cJ) lgM A p l e { frames := 5, cells := 0, slots := 0, locals := 320 } s m args below meth c 7 (gQQ D vwCl (wdM a cI cJ) lgM A kJ in64 below args s) (f_X9_meanOfStretch x0 s0) s0 31 [(0, .ref (a 0)), (1, gI x0)] [gI v4] := by
    intro v4 hq hz
    obtain ⟨hq131, hq132⟩ := hq
    replace hT := gl1y hT hz
    refine k_istoren (pc := 31) (lv' := [(2, gI v4), (0, .ref (a 0)), (1, gI x0)]) E dX9_meanOfStretch_31 rfl (by decide) rfl ?_
    refine k_lconst0 (pc := 32) E dX9_meanOfStretch_32 ?_
    refine k_lstoren (pc := 33) (lv' := [(3, gL 0), (2, gI v4), (0, .ref (a 0)), (1, gI x0)]) E dX9_meanOfStretch_33 rfl (by decide) rfl ?_
    refine k_aloadn (pc := 34) E 2 dX9_meanOfStretch_34 rfl rfl ?_
    refine k_getf (pc := 35) (q0 := 0) (f := 29) (v := .ref (a 18)) E inX9 rfl rfl (by decide) wm_927 rfl rfl dX9_meanOfStretch_35 ?_
    refine k_iloadn (pc := 38) E 3 dX9_meanOfStretch_38 rfl rfl ?_
    refine k_iaload (pc := 39) (q0 := 18) (t0 := 0) (k := 29) (n := 16) E rfl rfl rfl (by decide) (by omega) (by omega) dX9_meanOfStretch_39 (fun hr5 => ?_)
    have hi6 := hFI_s0 x0
    refine k_istore (pc := 40) (lv' := [(5, gI (s0 29 x0)), (3, gL 0), (2, gI v4), (0, .ref (a 0)), (1, gI x0)]) E dX9_meanOfStretch_40 (by decide) rfl ?_
    have L41 : ∀ (n42 : Nat) (v38 : Int) (v39 : Int) (s40 : gMem), ((in64 v38) ∧ (in32 v39) ∧ (fr [25, 26, 34] s0 s40) ∧ (OR s40) ∧ (BE s40) ∧ (FI s40) ∧ (MN s40) ∧ (s40 30 0 = s0 30 0) ∧ (s40 31 0 = s0 31 0) ∧ (0 ≤ v38 ∧ v38 ≤ 1000000000000) ∧ (0 ≤ v39 ∧ v39 ≤ 16)) → 16 - v39 < (n42 : Int) → (∀ (w43 : Int) (w44 : Int) (s45 : gMem), (w_X9_meanOfStretch_42 x0 v4 n42 v38 v39 s40) = (w43, w44, s45) → ((in64 w43) ∧ (in32 w44) ∧ (fr [25, 26, 34] s0 s45) ∧ (OR s45) ∧ (BE s45) ∧ (FI s45) ∧ (MN s45) ∧ (s45 30 0 = s0 30 0) ∧ (s45 31 0 = s0 31 0) ∧ (0 ≤ w43 ∧ w43 ≤ 1000000000000) ∧ (0 ≤ w44 ∧ w44 ≤ 16)) → gK D vwCl (wdM a cI cJ) lgM A p l e { frames := 5, cells := 0, slots := 0, locals := 320 } s m args below meth c 7 (gQQ D vwCl (wdM a cI cJ) lgM A kJ in64 below args s) (f_X9_meanOfStretch x0 s0) s45 103 [(0, .ref (a 0)), (1, gI x0), (2, gI v4), (3, gL w43)] []) → gK D vwCl (wdM a cI cJ) lgM A p l e { frames := 5, cells := 0, slots := 0, locals := 320 } s m args below meth c 7 (gQQ D vwCl (wdM a cI cJ) lgM A kJ in64 below args s) (f_X9_meanOfStretch x0 s0) s40 42 [(0, .ref (a 0)), (1, gI x0), (2, gI v4), (3, gL v38), (5, gI v39)] [] := by
      intro n42; induction n42 with
      | zero =>
        intro v38 v39 s40 hq hm hk
        exfalso
        obtain ⟨hq73, hq74, hf_s40, hOR_s40, hBE_s40, hFI_s40, hMN_s40, hq75, hq76, hq77, hq78⟩ := hq
        omega
      | succ n42 ih =>
        intro v38 v39 s40 hq hm hk
        obtain ⟨hq79, hq80, hf_s40, hOR_s40, hBE_s40, hFI_s40, hMN_s40, hq81, hq82, hq83, hq84⟩ := hq
        have hT := w_X9_meanOfStretch_42_s x0 v4 n42 v38 v39 s40
        refine k_iload (pc := 42) E 4 dX9_meanOfStretch_42 rfl ?_
        refine k_iloadn (pc := 44) E 2 dX9_meanOfStretch_44 rfl rfl ?_
        by_cases h46 : v39 < v4
        · replace hT := hT.trans (if_pos h46)
          refine k_icmp_ge_f (pc := 45) (tgt := 103) E (by omega) (by omega) dX9_meanOfStretch_45 (by decide) h46 ?_
          refine k_aloadn (pc := 48) E 0 dX9_meanOfStretch_48 rfl rfl ?_
          refine k_getf (pc := 49) (q0 := 0) (f := 27) (v := .ref (a 16)) E inX9 rfl rfl (by decide) wm_925 rfl rfl dX9_meanOfStretch_49 ?_
          refine k_iload (pc := 52) E 4 dX9_meanOfStretch_52 rfl ?_
          refine k_iaload (pc := 54) (q0 := 16) (t0 := 0) (k := 27) (n := 16) E rfl rfl rfl (by decide) (by omega) (by omega) dX9_meanOfStretch_54 (fun hr47 => ?_)
          have hi48 := hOR_s40 v39
          refine k_istore (pc := 55) (lv' := [(6, gI (s40 27 v39)), (0, .ref (a 0)), (1, gI x0), (2, gI v4), (3, gL v38), (5, gI v39)]) E dX9_meanOfStretch_55 (by decide) rfl ?_
          refine k_lloadn (pc := 57) E 4 dX9_meanOfStretch_57 rfl rfl ?_
          refine k_ldc2 (pc := 58) (n := 1000) E dX9_meanOfStretch_58 wm_1110 (by decide) ?_
          refine k_aloadn (pc := 61) E 1 dX9_meanOfStretch_61 rfl rfl ?_
          refine k_iload (pc := 62) E 0 dX9_meanOfStretch_62 rfl ?_
          refine k_mr (fun hm_s40 => ?_)
          refine k_callV (pc := 64) (np := 1) (As := [gI (s40 27 v39)]) (st := [gL 1000, gL v38]) (q0 := 0) E (c_X9_takesOf l D a cI cJ cS cT s40 (s40 27 v39) (by omega) (by unfold VS; rw [hf_s40 5 (by decide), hf_s40 6 (by decide), hf_s40 7 (by decide), hf_s40 8 (by decide)]; exact hpre0) (by unfold KN; rw [hf_s40 0 (by decide)]; exact hpre1) (by unfold MO; rw [hf_s40 1 (by decide)]; exact hpre2) (by first | assumption | omega)) wm_1073 wm_11 wm_1070 wm_1072 wp_37 (by decide +kernel) rfl rfl ⟨by decide, by decide⟩ rfl (Nat.le_of_ble_eq_true rfl) dX9_meanOfStretch_64 (fun r50 s51 hs51 hr49 => ?_)
          replace hT := gby hT hs51
          have hp52 := f_X9_takesOf_p (s40 27 v39) s40 (by omega) hm_s40 (by unfold VS; rw [hf_s40 5 (by decide), hf_s40 6 (by decide), hf_s40 7 (by decide), hf_s40 8 (by decide)]; exact hpre0) (by unfold KN; rw [hf_s40 0 (by decide)]; exact hpre1) (by unfold MO; rw [hf_s40 1 (by decide)]; exact hpre2) (by first | assumption | omega) r50 s51 hs51
          obtain ⟨hfc_s51, hm_s51, hp53, hp54⟩ := hp52
          have hf_s51 : fr [25, 26, 34] s0 s51 := hf_s40.call (by decide) hfc_s51
          have hOR_s51 : OR s51 := fun i => by rw [hfc_s51 27 (by decide)]; exact hOR_s40 i
          have hBE_s51 : BE s51 := fun i => by rw [hfc_s51 28 (by decide)]; exact hBE_s40 i
          have hFI_s51 : FI s51 := fun i => by rw [hfc_s51 29 (by decide)]; exact hFI_s40 i
          have hMN_s51 : MN s51 := fun i => by rw [hfc_s51 34 (by decide)]; exact hMN_s40 i
          have ht55 : s51 30 0 = s40 30 0 := by rw [hfc_s51 30 (by decide)]
          have ht56 : s51 31 0 = s40 31 0 := by rw [hfc_s51 31 (by decide)]
          refine k_st (st' := [gI r50, gL 1000, gL v38]) rfl ?_
          refine k_i2l (pc := 67) E dX9_meanOfStretch_67 (by omega) ?_
          refine k_lmul (pc := 68) E dX9_meanOfStretch_68 ?_
          refine k_ladd (pc := 69) E dX9_meanOfStretch_69 ?_
          refine k_ldc2 (pc := 70) (n := 100) E dX9_meanOfStretch_70 wm_1111 (by decide) ?_
          refine k_lmul (pc := 73) E dX9_meanOfStretch_73 ?_
          refine k_ldc2 (pc := 74) (n := 100) E dX9_meanOfStretch_74 wm_1111 (by decide) ?_
          refine k_aloadn (pc := 77) E 1 dX9_meanOfStretch_77 rfl rfl ?_
          refine k_iload (pc := 78) E 0 dX9_meanOfStretch_78 rfl ?_
          refine k_aloadn (pc := 80) E 1 dX9_meanOfStretch_80 rfl rfl ?_
          refine k_getf (pc := 81) (q0 := 0) (f := 28) (v := .ref (a 17)) E inX9 rfl rfl (by decide) wm_926 rfl rfl dX9_meanOfStretch_81 ?_
          refine k_iload (pc := 84) E 5 dX9_meanOfStretch_84 rfl ?_
          refine k_iaload (pc := 86) (q0 := 17) (t0 := 0) (k := 28) (n := 16) E rfl rfl rfl (by decide) (by omega) (by omega) dX9_meanOfStretch_86 (fun hr57 => ?_)
          have hi58 := hBE_s51 v39
          refine k_mr (fun hm_s51 => ?_)
          refine k_callV (pc := 87) (np := 2) (As := [gI (s40 27 v39), gI (s51 28 v39)]) (st := [gL 100, gL ((v38 + (1000 * r50)) * 100)]) (q0 := 0) E (c_X9_fallsOf l D a cI cJ cS cT s51 (s40 27 v39) (s51 28 v39) (by omega) (by omega) (by unfold VS; rw [hf_s51 5 (by decide), hf_s51 6 (by decide), hf_s51 7 (by decide), hf_s51 8 (by decide)]; exact hpre0) (by unfold KN; rw [hf_s51 0 (by decide)]; exact hpre1) (by unfold MO; rw [hf_s51 1 (by decide)]; exact hpre2) (by first | assumption | omega) (by first | assumption | omega)) wm_1069 wm_11 wm_1066 wm_1068 wp_36 (by decide +kernel) rfl rfl ⟨by decide, by decide⟩ rfl (Nat.le_of_ble_eq_true rfl) dX9_meanOfStretch_87 (fun r60 s61 hs61 hr59 => ?_)
          replace hT := gby hT hs61
          have hp62 := f_X9_fallsOf_p (s40 27 v39) (s51 28 v39) s51 (by omega) (by omega) hm_s51 (by unfold VS; rw [hf_s51 5 (by decide), hf_s51 6 (by decide), hf_s51 7 (by decide), hf_s51 8 (by decide)]; exact hpre0) (by unfold KN; rw [hf_s51 0 (by decide)]; exact hpre1) (by unfold MO; rw [hf_s51 1 (by decide)]; exact hpre2) (by first | assumption | omega) (by first | assumption | omega) r60 s61 hs61
          obtain ⟨hfc_s61, hm_s61, hp63, hp64⟩ := hp62
          have hf_s61 : fr [25, 26, 34] s0 s61 := hf_s51.call (by decide) hfc_s61
          have hOR_s61 : OR s61 := fun i => by rw [hfc_s61 27 (by decide)]; exact hOR_s51 i
          have hBE_s61 : BE s61 := fun i => by rw [hfc_s61 28 (by decide)]; exact hBE_s51 i
          have hFI_s61 : FI s61 := fun i => by rw [hfc_s61 29 (by decide)]; exact hFI_s51 i
          have hMN_s61 : MN s61 := fun i => by rw [hfc_s61 34 (by decide)]; exact hMN_s51 i
          have ht65 : s61 30 0 = s51 30 0 := by rw [hfc_s61 30 (by decide)]
          have ht66 : s61 31 0 = s51 31 0 := by rw [hfc_s61 31 (by decide)]
          refine k_st (st' := [gI r60, gL 100, gL ((v38 + (1000 * r50)) * 100)]) rfl ?_
          refine k_i2l (pc := 90) E dX9_meanOfStretch_90 (by omega) ?_
          refine k_lsub (pc := 91) E dX9_meanOfStretch_91 ?_
          have hd67 : (0 : Int) ≤ ((v38 + (1000 * r50)) * 100) := (by omega)
          have hd68 : (0 : Int) < (100 - r60) := (by omega)
          refine k_ldivN (pc := 92) E (by omega) (by omega) hd67 hd68 dX9_meanOfStretch_92 ?_
          have hb69 := dv_rg hd67 hd68
          refine k_mr (fun hm_s61 => ?_)
          refine k_callS (pc := 93) (np := 1) (As := [gL (((v38 + (1000 * r50)) * 100) / (100 - r60))]) (st := []) E (c_X9_most l D a cI cJ cS cT s61 (((v38 + (1000 * r50)) * 100) / (100 - r60)) (by omega)) wm_1114 wm_11 wm_1112 wm_1113 (by decide +kernel) ⟨by decide, by decide⟩ rfl (Nat.le_of_ble_eq_true rfl) dX9_meanOfStretch_93 (ro_kk (fun hr70 => ?_))
          have hp71 := f_X9_most_p (((v38 + (1000 * r50)) * 100) / (100 - r60)) (by omega) 
          refine k_st (st' := [gL (f_X9_most (((v38 + (1000 * r50)) * 100) / (100 - r60)))]) rfl ?_
          obtain ⟨v72, hv72, hT⟩ := glx hT
          refine k_st (st' := [gL v72]) (by rw [hv72]) ?_
          refine k_lstoren (pc := 96) (lv' := [(3, gL v72), (6, gI (s40 27 v39)), (0, .ref (a 0)), (1, gI x0), (2, gI v4), (5, gI v39)]) E dX9_meanOfStretch_96 rfl (by decide) rfl ?_
          refine k_iinc (pc := 97) (lv' := [(5, gI (v39 + 1)), (3, gL v72), (6, gI (s40 27 v39)), (0, .ref (a 0)), (1, gI x0), (2, gI v4)]) E 5 dX9_meanOfStretch_97 rfl (by decide) rfl ?_
          refine k_goto (pc := 100) (tgt := 42) E dX9_meanOfStretch_100 (by decide) ?_
          refine k_lv (lv' := [(0, .ref (a 0)), (1, gI x0), (2, gI v4), (3, gL v72), (5, gI (v39 + 1))]) [3, 4, 5, 1, 0] rfl ?_
          exact ih v72 (v39 + 1) s61 ⟨(by omega), (by omega), hf_s61, hOR_s61, hBE_s61, hFI_s61, hMN_s61, (by first | assumption | omega), (by first | assumption | omega), (by first | assumption | omega), (by first | assumption | omega)⟩ (by omega) (fun w43 w44 s45 hw hi => hk w43 w44 s45 (hT.trans hw) hi)
        · replace hT := hT.trans (if_neg h46)
          refine k_icmp_ge_t (pc := 45) (tgt := 103) E (by omega) (by omega) dX9_meanOfStretch_45 (by decide) h46 ?_
          refine k_lv (lv' := [(0, .ref (a 0)), (1, gI x0), (2, gI v4), (3, gL v38)]) [0, 1, 2, 3] rfl ?_
          exact hk v38 v39 s40 hT ⟨(by omega), (by omega), hf_s40, hOR_s40, hBE_s40, hFI_s40, hMN_s40, (by first | assumption | omega), (by first | assumption | omega), (by first | assumption | omega), (by first | assumption | omega)⟩
    refine k_lv (lv' := [(0, .ref (a 0)), (1, gI x0), (2, gI v4), (3, gL 0), (5, gI (s0 29 x0))]) [3, 4, 2, 1, 0] rfl ?_
    refine L41 17 0 (s0 29 x0) s0 ⟨(by omega), (by omega), hf_s0, hOR_s0, hBE_s0, hFI_s0, hMN_s0, (by first | assumption | omega), (by first | assumption | omega), (by first | assumption | omega), (by first | assumption | omega)⟩ (by omega) (fun v85 v86 s87 hw hq => ?_)
    obtain ⟨hq88, hq89, hf_s87, hOR_s87, hBE_s87, hFI_s87, hMN_s87, hq90, hq91, hq92, hq93⟩ := hq
    replace hT := gl3y hT hw
    refine k_aloadn (pc := 103) E 0 dX9_meanOfStretch_103 rfl rfl ?_
    refine k_getf (pc := 104) (q0 := 0) (f := 29) (v := .ref (a 18)) E inX9 rfl rfl (by decide) wm_927 rfl rfl dX9_meanOfStretch_104 ?_
    refine k_iloadn (pc := 107) E 1 dX9_meanOfStretch_107 rfl rfl ?_
    refine k_iaload (pc := 108) (q0 := 18) (t0 := 0) (k := 29) (n := 16) E rfl rfl rfl (by decide) (by omega) (by omega) dX9_meanOfStretch_108 (fun hr94 => ?_)
    have hi95 := hFI_s87 x0
    refine k_istore (pc := 109) (lv' := [(5, gI (s87 29 x0)), (0, .ref (a 0)), (1, gI x0), (2, gI v4), (3, gL v85)]) E dX9_meanOfStretch_109 (by decide) rfl ?_
    have L107 : ∀ (n108 : Nat) (v105 : Int) (s106 : gMem), ((in32 v105) ∧ (fr [25, 26, 34] s0 s106) ∧ (OR s106) ∧ (BE s106) ∧ (FI s106) ∧ (MN s106) ∧ (s106 30 0 = s87 30 0) ∧ (s106 31 0 = s87 31 0) ∧ (0 ≤ v105 ∧ v105 ≤ 16)) → 16 - v105 < (n108 : Int) → (∀ (w109 : Int) (s110 : gMem), (w_X9_meanOfStretch_111 v4 v85 n108 v105 s106) = (w109, s110) → ((in32 w109) ∧ (fr [25, 26, 34] s0 s110) ∧ (OR s110) ∧ (BE s110) ∧ (FI s110) ∧ (MN s110) ∧ (s110 30 0 = s87 30 0) ∧ (s110 31 0 = s87 31 0) ∧ (0 ≤ w109 ∧ w109 ≤ 16)) → gK D vwCl (wdM a cI cJ) lgM A p l e { frames := 5, cells := 0, slots := 0, locals := 320 } s m args below meth c 7 (gQQ D vwCl (wdM a cI cJ) lgM A kJ in64 below args s) (f_X9_meanOfStretch x0 s0) s110 136 [(3, gL v85)] []) → gK D vwCl (wdM a cI cJ) lgM A p l e { frames := 5, cells := 0, slots := 0, locals := 320 } s m args below meth c 7 (gQQ D vwCl (wdM a cI cJ) lgM A kJ in64 below args s) (f_X9_meanOfStretch x0 s0) s106 111 [(0, .ref (a 0)), (2, gI v4), (3, gL v85), (5, gI v105)] [] := by
      intro n108; induction n108 with
      | zero =>
        intro v105 s106 hq hm hk
        exfalso
        obtain ⟨hq117, hf_s106, hOR_s106, hBE_s106, hFI_s106, hMN_s106, hq118, hq119, hq120⟩ := hq
        omega
      | succ n108 ih =>
        intro v105 s106 hq hm hk
        obtain ⟨hq121, hf_s106, hOR_s106, hBE_s106, hFI_s106, hMN_s106, hq122, hq123, hq124⟩ := hq
        have hT := w_X9_meanOfStretch_111_s v4 v85 n108 v105 s106
        refine k_iload (pc := 111) E 3 dX9_meanOfStretch_111 rfl ?_
        refine k_iloadn (pc := 113) E 1 dX9_meanOfStretch_113 rfl rfl ?_
        by_cases h111 : v105 < v4
        · replace hT := hT.trans (if_pos h111)
          refine k_icmp_ge_f (pc := 114) (tgt := 136) E (by omega) (by omega) dX9_meanOfStretch_114 (by decide) h111 ?_
          refine k_aloadn (pc := 117) E 0 dX9_meanOfStretch_117 rfl rfl ?_
          refine k_getf (pc := 118) (q0 := 0) (f := 34) (v := .ref (a 19)) E inX9 rfl rfl (by decide) wm_932 rfl rfl dX9_meanOfStretch_118 ?_
          refine k_aloadn (pc := 121) E 0 dX9_meanOfStretch_121 rfl rfl ?_
          refine k_getf (pc := 122) (q0 := 0) (f := 27) (v := .ref (a 16)) E inX9 rfl rfl (by decide) wm_925 rfl rfl dX9_meanOfStretch_122 ?_
          refine k_iload (pc := 125) E 3 dX9_meanOfStretch_125 rfl ?_
          refine k_iaload (pc := 127) (q0 := 16) (t0 := 0) (k := 27) (n := 16) E rfl rfl rfl (by decide) (by omega) (by omega) dX9_meanOfStretch_127 (fun hr112 => ?_)
          have hi113 := hOR_s106 v105
          refine k_lloadn (pc := 128) E 2 dX9_meanOfStretch_128 rfl rfl ?_
          refine k_lastore (pc := 129) (q0 := 19) (t0 := 1) (k := 34) (n := 16) E rfl rfl rfl rfl (by decide) (by omega) (by omega) (by omega) dX9_meanOfStretch_129 ?_
          obtain ⟨s114, hs114, hT⟩ := glx hT
          refine k_sg hs114.symm ?_
          have hf_s114 : fr [25, 26, 34] s0 s114 := hs114 ▸ hf_s106.set (by decide)
          have hOR_s114 : OR s114 := fun i => by rw [hs114, mset_ne _ _ _ _ _ (by decide)]; exact hOR_s106 i
          have hBE_s114 : BE s114 := fun i => by rw [hs114, mset_ne _ _ _ _ _ (by decide)]; exact hBE_s106 i
          have hFI_s114 : FI s114 := fun i => by rw [hs114, mset_ne _ _ _ _ _ (by decide)]; exact hFI_s106 i
          have hMN_s114 : MN s114 := hs114 ▸ MN_set hMN_s106 (by omega)
          have ht115 : s114 30 0 = s106 30 0 := by rw [hs114]; exact mset_ne _ _ _ _ _ (by decide)
          have ht116 : s114 31 0 = s106 31 0 := by rw [hs114]; exact mset_ne _ _ _ _ _ (by decide)
          refine k_iinc (pc := 130) (lv' := [(5, gI (v105 + 1)), (0, .ref (a 0)), (2, gI v4), (3, gL v85)]) E 3 dX9_meanOfStretch_130 rfl (by decide) rfl ?_
          refine k_goto (pc := 133) (tgt := 111) E dX9_meanOfStretch_133 (by decide) ?_
          refine k_lv (lv' := [(0, .ref (a 0)), (2, gI v4), (3, gL v85), (5, gI (v105 + 1))]) [1, 2, 3, 0] rfl ?_
          exact ih (v105 + 1) s114 ⟨(by omega), hf_s114, hOR_s114, hBE_s114, hFI_s114, hMN_s114, (by first | assumption | omega), (by first | assumption | omega), (by first | assumption | omega)⟩ (by omega) (fun w109 s110 hw hi => hk w109 s110 (hT.trans hw) hi)
        · replace hT := hT.trans (if_neg h111)
          refine k_icmp_ge_t (pc := 114) (tgt := 136) E (by omega) (by omega) dX9_meanOfStretch_114 (by decide) h111 ?_
          refine k_lv (lv' := [(3, gL v85)]) [2] rfl ?_
          exact hk v105 s106 hT ⟨(by omega), hf_s106, hOR_s106, hBE_s106, hFI_s106, hMN_s106, (by first | assumption | omega), (by first | assumption | omega), (by first | assumption | omega)⟩
    refine k_lv (lv' := [(0, .ref (a 0)), (2, gI v4), (3, gL v85), (5, gI (s87 29 x0))]) [1, 3, 4, 0] rfl ?_
    refine L107 17 (s87 29 x0) s87 ⟨(by omega), hf_s87, hOR_s87, hBE_s87, hFI_s87, hMN_s87, (by first | assumption | omega), (by first | assumption | omega), (by first | assumption | omega)⟩ (by omega) (fun v125 s126 hw hq => ?_)
    obtain ⟨hq127, hf_s126, hOR_s126, hBE_s126, hFI_s126, hMN_s126, hq128, hq129, hq130⟩ := hq
    replace hT := gl2y hT hw
    refine k_lloadn (pc := 136) E 0 dX9_meanOfStretch_136 rfl rfl ?_
    exact k_rho hT (k_lret (pc := 137) E dX9_meanOfStretch_137 (by omega))
  replace hT := hz133
  by_cases h2 : (x0 + 1) < (s0 31 0)
  · replace hT := hT.trans (if_pos h2)
    refine k_icmp_ge_f (pc := 7) (tgt := 27) E (by omega) (by omega) dX9_meanOfStretch_7 (by decide) h2 ?_
    refine k_aloadn (pc := 10) E 0 dX9_meanOfStretch_10 rfl rfl ?_
    refine k_getf (pc := 11) (q0 := 0) (f := 29) (v := .ref (a 18)) E inX9 rfl rfl (by decide) wm_927 rfl rfl dX9_meanOfStretch_11 ?_
    refine k_iloadn (pc := 14) E 1 dX9_meanOfStretch_14 rfl rfl ?_
    refine k_iconst (pc := 15) E dX9_meanOfStretch_15 ?_
    refine k_iadd (pc := 16) E dX9_meanOfStretch_16 ?_
    refine k_iconst (pc := 17) E dX9_meanOfStretch_17 ?_
    refine k_bipush (pc := 18) E dX9_meanOfStretch_18 (by decide) ?_
    refine k_mr (fun hm_s0 => ?_)
    refine k_callS (pc := 20) (np := 3) (As := [gI (x0 + 1), gI 0, gI 15]) (st := [.ref (a 18)]) E (c_X9_within l D a cI cJ cS cT s0 (x0 + 1) 0 15 (by omega) (by omega) (by omega)) wm_1057 wm_11 wm_1055 wm_1056 (by decide +kernel) ⟨by decide, by decide⟩ rfl (Nat.le_of_ble_eq_true rfl) dX9_meanOfStretch_20 (ro_kk (fun hr134 => ?_))
    have hp135 := f_X9_within_p (x0 + 1) 0 15 (by omega) (by omega) (by omega) 
    refine k_st (st' := [gI (f_X9_within (x0 + 1) 0 15), .ref (a 18)]) rfl ?_
    refine k_iaload (pc := 23) (q0 := 18) (t0 := 0) (k := 29) (n := 16) E rfl rfl rfl (by decide) (by omega) (by omega) dX9_meanOfStretch_23 (fun hr136 => ?_)
    have hi137 := hFI_s0 (f_X9_within (x0 + 1) 0 15)
    refine k_goto (pc := 24) (tgt := 31) E dX9_meanOfStretch_24 (by decide) ?_
    exact j3 (s0 29 (f_X9_within (x0 + 1) 0 15)) ⟨(by omega), (by first | assumption | omega)⟩ hT
  · replace hT := hT.trans (if_neg h2)
    refine k_icmp_ge_t (pc := 7) (tgt := 27) E (by omega) (by omega) dX9_meanOfStretch_7 (by decide) h2 ?_
    refine k_aloadn (pc := 27) E 0 dX9_meanOfStretch_27 rfl rfl ?_
    refine k_getfI (pc := 28) (q0 := 0) (f := 30) (k := 30) E inX9 rfl rfl (by decide) wm_928 rfl rfl rfl dX9_meanOfStretch_28 (fun hr138 => ?_)
    exact j3 (s0 30 0) ⟨(by omega), (by first | assumption | omega)⟩ hT

def f_X9_joins (x0 : Int) (s0 : gMem) : Int := (if (f_X9_isPlace x0) = 0 then 0 else (if (f_X9_doesStop (f_X9_within x0 0 15) s0) = 0 then (if (s0 34 (f_X9_within x0 0 15)) < 0 then 0 else 1) else 0))
theorem f_X9_joins_e (x0 : Int) (s0 : gMem) : f_X9_joins x0 s0 = (if (f_X9_isPlace x0) = 0 then 0 else (if (f_X9_doesStop (f_X9_within x0 0 15) s0) = 0 then (if (s0 34 (f_X9_within x0 0 15)) < 0 then 0 else 1) else 0)) := rfl
set_option maxRecDepth 100000 in
set_option maxHeartbeats 4000000 in
theorem f_X9_joins_p (x0 : Int) (s0 : gMem) (hx0 : in32 x0) (hm_s0 : gMR lgM s0) (hpre0 : MN s0) : (((f_X9_joins x0 s0) = 0 ∨ (f_X9_joins x0 s0) = 1)) ∧ ((f_X9_joins x0 s0) = 0 ∨ (0 ≤ x0 ∧ x0 ≤ 15)) := by
  have hT := f_X9_joins_e x0 s0
  have hp2 := f_X9_isPlace_p x0 (by omega) 
  by_cases h3 : (f_X9_isPlace x0) = 0
  · replace hT := hT.trans (if_pos h3)
    rw [hT]
    exact ⟨(by first | exact Or.inl rfl | exact Or.inr rfl | omega), (by first | assumption | omega)⟩
  · replace hT := hT.trans (if_neg h3)
    have hp5 := f_X9_within_p x0 0 15 (by omega) (by omega) (by omega) 
    have hp7 := f_X9_doesStop_p (f_X9_within x0 0 15) s0 (by omega) hm_s0 (by first | assumption | omega)
    by_cases h8 : (f_X9_doesStop (f_X9_within x0 0 15) s0) = 0
    · replace hT := hT.trans (if_pos h8)
      have hp10 := f_X9_within_p x0 0 15 (by omega) (by omega) (by omega) 
      have hr11 := (hm_s0 34 (f_X9_within x0 0 15)).2 rfl
      have hi12 := hpre0 (f_X9_within x0 0 15)
      by_cases h13 : (s0 34 (f_X9_within x0 0 15)) < 0
      · replace hT := hT.trans (if_pos h13)
        rw [hT]
        exact ⟨(by first | exact Or.inl rfl | exact Or.inr rfl | omega), (by first | assumption | omega)⟩
      · replace hT := hT.trans (if_neg h13)
        rw [hT]
        exact ⟨(by first | exact Or.inl rfl | exact Or.inr rfl | omega), (by first | assumption | omega)⟩
    · replace hT := hT.trans (if_neg h8)
      rw [hT]
      exact ⟨(by first | exact Or.inl rfl | exact Or.inr rfl | omega), (by first | assumption | omega)⟩
set_option maxRecDepth 100000 in
set_option maxHeartbeats 4000000 in
theorem c_X9_joins (l : Launch) (D : va_G) (a : Nat → Nat) (cI cJ cS cT : ClassId) (s0 : gMem) (x0 : Int) (hx0 : in32 x0) (hpre0 : MN s0) : gC l yX9_joins cX9_joins 2 (some .boolean) 3 192 D vwCl (gT cI cJ cS cT) (wdM a cI cJ) lgM kI rgZ [.ref (a 0), gI x0] s0 ((f_X9_joins x0 s0), s0) := by
  refine gC_of (by decide +kernel) (hwdM a cI cJ) (Nat.le_of_ble_eq_true rfl) ?_
  intro A p e R s m args below meth c hR E
  subst hR
  have hT := f_X9_joins_e x0 s0
  refine k_lv0 (lv' := [(0, .ref (a 0)), (1, gI x0)]) rfl ?_
  refine k_mr (fun hm_s0 => ?_)
  refine k_iloadn (pc := 0) E 1 dX9_joins_0 rfl rfl ?_
  refine k_mr (fun hm_s0 => ?_)
  refine k_callS (pc := 1) (np := 1) (As := [gI x0]) (st := []) E (c_X9_isPlace l D a cI cJ cS cT s0 x0 (by omega)) wm_1040 wm_11 wm_1038 wm_1039 (by decide +kernel) ⟨by decide, by decide⟩ rfl (Nat.le_of_ble_eq_true rfl) dX9_joins_1 (ro_kk (fun hr1 => ?_))
  have hp2 := f_X9_isPlace_p x0 (by omega) 
  refine k_st (st' := [gI (f_X9_isPlace x0)]) rfl ?_
  by_cases h3 : (f_X9_isPlace x0) = 0
  · replace hT := hT.trans (if_pos h3)
    refine k_if_eq_t (pc := 4) (tgt := 42) E (by omega) dX9_joins_4 (by decide) h3 ?_
    refine k_iconst (pc := 42) E dX9_joins_42 ?_
    exact k_rho (congrArg (fun q => (q, s0)) hT) (k_zret (pc := 43) E dX9_joins_43 (by first | exact Or.inl rfl | exact Or.inr rfl | omega))
  · replace hT := hT.trans (if_neg h3)
    refine k_if_eq_f (pc := 4) (tgt := 42) E (by omega) dX9_joins_4 (by decide) h3 ?_
    refine k_aloadn (pc := 7) E 0 dX9_joins_7 rfl rfl ?_
    refine k_iloadn (pc := 8) E 1 dX9_joins_8 rfl rfl ?_
    refine k_iconst (pc := 9) E dX9_joins_9 ?_
    refine k_bipush (pc := 10) E dX9_joins_10 (by decide) ?_
    refine k_mr (fun hm_s0 => ?_)
    refine k_callS (pc := 12) (np := 3) (As := [gI x0, gI 0, gI 15]) (st := [.ref (a 0)]) E (c_X9_within l D a cI cJ cS cT s0 x0 0 15 (by omega) (by omega) (by omega)) wm_1057 wm_11 wm_1055 wm_1056 (by decide +kernel) ⟨by decide, by decide⟩ rfl (Nat.le_of_ble_eq_true rfl) dX9_joins_12 (ro_kk (fun hr4 => ?_))
    have hp5 := f_X9_within_p x0 0 15 (by omega) (by omega) (by omega) 
    refine k_st (st' := [gI (f_X9_within x0 0 15), .ref (a 0)]) rfl ?_
    refine k_mr (fun hm_s0 => ?_)
    refine k_callV (pc := 15) (np := 1) (As := [gI (f_X9_within x0 0 15)]) (st := []) (q0 := 0) E (c_X9_doesStop l D a cI cJ cS cT s0 (f_X9_within x0 0 15) (by omega) (by first | assumption | omega)) wm_1077 wm_11 wm_1074 wm_1076 wp_38 (by decide +kernel) rfl rfl ⟨by decide, by decide⟩ rfl (Nat.le_of_ble_eq_true rfl) dX9_joins_15 (ro_kk (fun hr6 => ?_))
    have hp7 := f_X9_doesStop_p (f_X9_within x0 0 15) s0 (by omega) hm_s0 (by first | assumption | omega)
    refine k_st (st' := [gI (f_X9_doesStop (f_X9_within x0 0 15) s0)]) rfl ?_
    by_cases h8 : (f_X9_doesStop (f_X9_within x0 0 15) s0) = 0
    · replace hT := hT.trans (if_pos h8)
      refine k_if_ne_f (pc := 18) (tgt := 42) E (by omega) dX9_joins_18 (by decide) h8 ?_
      refine k_aloadn (pc := 21) E 0 dX9_joins_21 rfl rfl ?_
      refine k_getf (pc := 22) (q0 := 0) (f := 34) (v := .ref (a 19)) E inX9 rfl rfl (by decide) wm_932 rfl rfl dX9_joins_22 ?_
      refine k_iloadn (pc := 25) E 1 dX9_joins_25 rfl rfl ?_
      refine k_iconst (pc := 26) E dX9_joins_26 ?_
      refine k_bipush (pc := 27) E dX9_joins_27 (by decide) ?_
      refine k_mr (fun hm_s0 => ?_)
      refine k_callS (pc := 29) (np := 3) (As := [gI x0, gI 0, gI 15]) (st := [.ref (a 19)]) E (c_X9_within l D a cI cJ cS cT s0 x0 0 15 (by omega) (by omega) (by omega)) wm_1057 wm_11 wm_1055 wm_1056 (by decide +kernel) ⟨by decide, by decide⟩ rfl (Nat.le_of_ble_eq_true rfl) dX9_joins_29 (ro_kk (fun hr9 => ?_))
      have hp10 := f_X9_within_p x0 0 15 (by omega) (by omega) (by omega) 
      refine k_st (st' := [gI (f_X9_within x0 0 15), .ref (a 19)]) rfl ?_
      refine k_laload (pc := 32) (q0 := 19) (t0 := 1) (k := 34) (n := 16) E rfl rfl rfl (by decide) (by omega) (by omega) dX9_joins_32 (fun hr11 => ?_)
      have hi12 := hpre0 (f_X9_within x0 0 15)
      refine k_lconst0 (pc := 33) E dX9_joins_33 ?_
      by_cases h13 : (s0 34 (f_X9_within x0 0 15)) < 0
      · replace hT := hT.trans (if_pos h13)
        refine k_lcmp (pc := 34) E dX9_joins_34 (by omega) (by omega) ?_
        refine k_if_lt_t (pc := 35) (tgt := 42) E (by (repeat' split) <;> omega) dX9_joins_35 (by decide) (by (repeat' split) <;> omega) ?_
        refine k_iconst (pc := 42) E dX9_joins_42 ?_
        exact k_rho (congrArg (fun q => (q, s0)) hT) (k_zret (pc := 43) E dX9_joins_43 (by first | exact Or.inl rfl | exact Or.inr rfl | omega))
      · replace hT := hT.trans (if_neg h13)
        refine k_lcmp (pc := 34) E dX9_joins_34 (by omega) (by omega) ?_
        refine k_if_lt_f (pc := 35) (tgt := 42) E (by (repeat' split) <;> omega) dX9_joins_35 (by decide) (by (repeat' split) <;> omega) ?_
        refine k_iconst (pc := 38) E dX9_joins_38 ?_
        refine k_goto (pc := 39) (tgt := 43) E dX9_joins_39 (by decide) ?_
        exact k_rho (congrArg (fun q => (q, s0)) hT) (k_zret (pc := 43) E dX9_joins_43 (by first | exact Or.inl rfl | exact Or.inr rfl | omega))
    · replace hT := hT.trans (if_neg h8)
      refine k_if_ne_t (pc := 18) (tgt := 42) E (by omega) dX9_joins_18 (by decide) h8 ?_
      refine k_iconst (pc := 42) E dX9_joins_42 ?_
      exact k_rho (congrArg (fun q => (q, s0)) hT) (k_zret (pc := 43) E dX9_joins_43 (by first | exact Or.inl rfl | exact Or.inr rfl | omega))

def w_X9_runFrom_2 (c1 : Int) (c2 : Int) (s0 : gMem) : Nat → Int → Int
  | 0, v1 => v1
  | n2 + 1, v1 => (if (f_X9_doesStop c1 s0) = 0 then (if (f_X9_joins (c1 + (c2 * (v1 + 1))) s0) = 0 then v1 else (w_X9_runFrom_2 c1 c2 s0 n2 (v1 + 1))) else v1)
theorem w_X9_runFrom_2_s (c1 : Int) (c2 : Int) (s0 : gMem) (n2 : Nat) (v1 : Int)  : w_X9_runFrom_2 c1 c2 s0 (n2 + 1) v1 = (if (f_X9_doesStop c1 s0) = 0 then (if (f_X9_joins (c1 + (c2 * (v1 + 1))) s0) = 0 then v1 else (w_X9_runFrom_2 c1 c2 s0 n2 (v1 + 1))) else v1) := rfl
def f_X9_runFrom (x0 : Int) (x1 : Int) (s0 : gMem) : Int := (gl (w_X9_runFrom_2 x0 x1 s0 17 0) (fun v25 => v25))
theorem f_X9_runFrom_e (x0 : Int) (x1 : Int) (s0 : gMem) : f_X9_runFrom x0 x1 s0 = (gl (w_X9_runFrom_2 x0 x1 s0 17 0) (fun v25 => v25)) := rfl
set_option maxRecDepth 100000 in
set_option maxHeartbeats 4000000 in
theorem f_X9_runFrom_p (x0 : Int) (x1 : Int) (s0 : gMem) (hx0 : in32 x0) (hx1 : in32 x1) (hm_s0 : gMR lgM s0) (hpre0 : MN s0) (hpre1 : 0 ≤ x0 ∧ x0 ≤ 15) (hpre2 : x1 = 1 ∨ x1 = -1) : (in32 (f_X9_runFrom x0 x1 s0)) ∧ (0 ≤ (f_X9_runFrom x0 x1 s0) ∧ (f_X9_runFrom x0 x1 s0) ≤ 15) ∧ ((x1 = 1 → x0 + (f_X9_runFrom x0 x1 s0) ≤ 15) ∧ (x1 = -1 → (f_X9_runFrom x0 x1 s0) ≤ x0)) := by
  have hT := f_X9_runFrom_e x0 x1 s0
  have L10 : ∀ (n11 : Nat) (v9 : Int), ((in32 v9) ∧ (0 ≤ v9 ∧ v9 ≤ 15) ∧ ((x1 = 1 → x0 + v9 ≤ 15) ∧ (x1 = -1 → v9 ≤ x0))) → 16 - v9 < (n11 : Int) → (∀ (w12 : Int), (w_X9_runFrom_2 x0 x1 s0 n11 v9) = w12 → ((in32 w12) ∧ (0 ≤ w12 ∧ w12 ≤ 15) ∧ ((x1 = 1 → x0 + w12 ≤ 15) ∧ (x1 = -1 → w12 ≤ x0))) → (in32 (f_X9_runFrom x0 x1 s0)) ∧ (0 ≤ (f_X9_runFrom x0 x1 s0) ∧ (f_X9_runFrom x0 x1 s0) ≤ 15) ∧ ((x1 = 1 → x0 + (f_X9_runFrom x0 x1 s0) ≤ 15) ∧ (x1 = -1 → (f_X9_runFrom x0 x1 s0) ≤ x0))) → (in32 (f_X9_runFrom x0 x1 s0)) ∧ (0 ≤ (f_X9_runFrom x0 x1 s0) ∧ (f_X9_runFrom x0 x1 s0) ≤ 15) ∧ ((x1 = 1 → x0 + (f_X9_runFrom x0 x1 s0) ≤ 15) ∧ (x1 = -1 → (f_X9_runFrom x0 x1 s0) ≤ x0)) := by
    intro n11; induction n11 with
    | zero =>
      intro v9 hq hm hk
      exfalso
      obtain ⟨hq19, hq20, hq21⟩ := hq
      omega
    | succ n11 ih =>
      intro v9 hq hm hk
      obtain ⟨hq22, hq23, hq24⟩ := hq
      have hT := w_X9_runFrom_2_s x0 x1 s0 n11 v9
      have hp14 := f_X9_doesStop_p x0 s0 (by omega) hm_s0 (by first | assumption | omega)
      by_cases h15 : (f_X9_doesStop x0 s0) = 0
      · replace hT := hT.trans (if_pos h15)
        have km : (x1 = 1 ∧ (x1 * (v9 + 1)) = v9 + 1) ∨ (x1 = -1 ∧ (x1 * (v9 + 1)) = -(v9 + 1)) := by rcases hpre2 with h | h <;> rw [h] <;> omega
        have hp17 := f_X9_joins_p (x0 + (x1 * (v9 + 1))) s0 (by omega) hm_s0 hpre0
        by_cases h18 : (f_X9_joins (x0 + (x1 * (v9 + 1))) s0) = 0
        · replace hT := hT.trans (if_pos h18)
          exact hk v9 hT ⟨(by omega), (by first | assumption | omega), (by first | assumption | omega)⟩
        · replace hT := hT.trans (if_neg h18)
          exact ih (v9 + 1) ⟨(by omega), (by first | assumption | omega), (by first | assumption | omega)⟩ (by omega) (fun w12 hw hi => hk w12 (hT.trans hw) hi)
      · replace hT := hT.trans (if_neg h15)
        exact hk v9 hT ⟨(by omega), (by first | assumption | omega), (by first | assumption | omega)⟩
  refine L10 17 0 ⟨(by omega), (by first | assumption | omega), (by first | assumption | omega)⟩ (by omega) (fun v25 hw hq => ?_)
  obtain ⟨hq26, hq27, hq28⟩ := hq
  replace hT := gl1y hT hw
  rw [hT]
  exact ⟨(by omega), (by first | assumption | omega), (by first | assumption | omega)⟩
set_option maxRecDepth 100000 in
set_option maxHeartbeats 4000000 in
theorem c_X9_runFrom (l : Launch) (D : va_G) (a : Nat → Nat) (cI cJ cS cT : ClassId) (s0 : gMem) (x0 : Int) (x1 : Int) (hx0 : in32 x0) (hx1 : in32 x1) (hpre0 : MN s0) (hpre1 : 0 ≤ x0 ∧ x0 ≤ 15) (hpre2 : x1 = 1 ∨ x1 = -1) : gC l yX9_runFrom cX9_runFrom 4 (some .int) 4 256 D vwCl (gT cI cJ cS cT) (wdM a cI cJ) lgM kI in32 [.ref (a 0), gI x0, gI x1] s0 ((f_X9_runFrom x0 x1 s0), s0) := by
  refine gC_of (by decide +kernel) (hwdM a cI cJ) (Nat.le_of_ble_eq_true rfl) ?_
  intro A p e R s m args below meth c hR E
  subst hR
  have hT := f_X9_runFrom_e x0 x1 s0
  refine k_lv0 (lv' := [(0, .ref (a 0)), (1, gI x0), (2, gI x1)]) rfl ?_
  refine k_mr (fun hm_s0 => ?_)
  refine k_iconst (pc := 0) E dX9_runFrom_0 ?_
  refine k_istoren (pc := 1) (lv' := [(3, gI 0), (0, .ref (a 0)), (1, gI x0), (2, gI x1)]) E dX9_runFrom_1 rfl (by decide) rfl ?_
  have L10 : ∀ (n11 : Nat) (v9 : Int), ((in32 v9) ∧ (0 ≤ v9 ∧ v9 ≤ 15) ∧ ((x1 = 1 → x0 + v9 ≤ 15) ∧ (x1 = -1 → v9 ≤ x0))) → 16 - v9 < (n11 : Int) → (∀ (w12 : Int), (w_X9_runFrom_2 x0 x1 s0 n11 v9) = w12 → ((in32 w12) ∧ (0 ≤ w12 ∧ w12 ≤ 15) ∧ ((x1 = 1 → x0 + w12 ≤ 15) ∧ (x1 = -1 → w12 ≤ x0))) → gK D vwCl (wdM a cI cJ) lgM A p l e { frames := 4, cells := 0, slots := 0, locals := 256 } s m args below meth c 4 (gQQ D vwCl (wdM a cI cJ) lgM A kI in32 below args s) ((f_X9_runFrom x0 x1 s0), s0) s0 30 [(3, gI w12)] []) → gK D vwCl (wdM a cI cJ) lgM A p l e { frames := 4, cells := 0, slots := 0, locals := 256 } s m args below meth c 4 (gQQ D vwCl (wdM a cI cJ) lgM A kI in32 below args s) ((f_X9_runFrom x0 x1 s0), s0) s0 2 [(0, .ref (a 0)), (1, gI x0), (2, gI x1), (3, gI v9)] [] := by
    intro n11; induction n11 with
    | zero =>
      intro v9 hq hm hk
      exfalso
      obtain ⟨hq19, hq20, hq21⟩ := hq
      omega
    | succ n11 ih =>
      intro v9 hq hm hk
      obtain ⟨hq22, hq23, hq24⟩ := hq
      have hT := w_X9_runFrom_2_s x0 x1 s0 n11 v9
      refine k_aloadn (pc := 2) E 0 dX9_runFrom_2 rfl rfl ?_
      refine k_iloadn (pc := 3) E 1 dX9_runFrom_3 rfl rfl ?_
      refine k_mr (fun hm_s0 => ?_)
      refine k_callV (pc := 4) (np := 1) (As := [gI x0]) (st := []) (q0 := 0) E (c_X9_doesStop l D a cI cJ cS cT s0 x0 (by omega) (by first | assumption | omega)) wm_1077 wm_11 wm_1074 wm_1076 wp_38 (by decide +kernel) rfl rfl ⟨by decide, by decide⟩ rfl (Nat.le_of_ble_eq_true rfl) dX9_runFrom_4 (ro_kk (fun hr13 => ?_))
      have hp14 := f_X9_doesStop_p x0 s0 (by omega) hm_s0 (by first | assumption | omega)
      refine k_st (st' := [gI (f_X9_doesStop x0 s0)]) rfl ?_
      by_cases h15 : (f_X9_doesStop x0 s0) = 0
      · replace hT := hT.trans (if_pos h15)
        refine k_if_ne_f (pc := 7) (tgt := 30) E (by omega) dX9_runFrom_7 (by decide) h15 ?_
        refine k_aloadn (pc := 10) E 0 dX9_runFrom_10 rfl rfl ?_
        refine k_iloadn (pc := 11) E 1 dX9_runFrom_11 rfl rfl ?_
        refine k_iloadn (pc := 12) E 2 dX9_runFrom_12 rfl rfl ?_
        refine k_iloadn (pc := 13) E 3 dX9_runFrom_13 rfl rfl ?_
        refine k_iconst (pc := 14) E dX9_runFrom_14 ?_
        refine k_iadd (pc := 15) E dX9_runFrom_15 ?_
        refine k_imul (pc := 16) E dX9_runFrom_16 ?_
        have km : (x1 = 1 ∧ (x1 * (v9 + 1)) = v9 + 1) ∨ (x1 = -1 ∧ (x1 * (v9 + 1)) = -(v9 + 1)) := by rcases hpre2 with h | h <;> rw [h] <;> omega
        refine k_iadd (pc := 17) E dX9_runFrom_17 ?_
        refine k_mr (fun hm_s0 => ?_)
        refine k_callV (pc := 18) (np := 1) (As := [gI (x0 + (x1 * (v9 + 1)))]) (st := []) (q0 := 0) E (c_X9_joins l D a cI cJ cS cT s0 (x0 + (x1 * (v9 + 1))) (by omega) hpre0) wm_1127 wm_11 wm_1124 wm_1126 wp_46 (by decide +kernel) rfl rfl ⟨by decide, by decide⟩ rfl (Nat.le_of_ble_eq_true rfl) dX9_runFrom_18 (ro_kk (fun hr16 => ?_))
        have hp17 := f_X9_joins_p (x0 + (x1 * (v9 + 1))) s0 (by omega) hm_s0 hpre0
        refine k_st (st' := [gI (f_X9_joins (x0 + (x1 * (v9 + 1))) s0)]) rfl ?_
        by_cases h18 : (f_X9_joins (x0 + (x1 * (v9 + 1))) s0) = 0
        · replace hT := hT.trans (if_pos h18)
          refine k_if_eq_t (pc := 21) (tgt := 30) E (by omega) dX9_runFrom_21 (by decide) h18 ?_
          refine k_lv (lv' := [(3, gI v9)]) [3] rfl ?_
          exact hk v9 hT ⟨(by omega), (by first | assumption | omega), (by first | assumption | omega)⟩
        · replace hT := hT.trans (if_neg h18)
          refine k_if_eq_f (pc := 21) (tgt := 30) E (by omega) dX9_runFrom_21 (by decide) h18 ?_
          refine k_iinc (pc := 24) (lv' := [(3, gI (v9 + 1)), (0, .ref (a 0)), (1, gI x0), (2, gI x1)]) E 3 dX9_runFrom_24 rfl (by decide) rfl ?_
          refine k_goto (pc := 27) (tgt := 2) E dX9_runFrom_27 (by decide) ?_
          refine k_lv (lv' := [(0, .ref (a 0)), (1, gI x0), (2, gI x1), (3, gI (v9 + 1))]) [1, 2, 3, 0] rfl ?_
          exact ih (v9 + 1) ⟨(by omega), (by first | assumption | omega), (by first | assumption | omega)⟩ (by omega) (fun w12 hw hi => hk w12 (hT.trans hw) hi)
      · replace hT := hT.trans (if_neg h15)
        refine k_if_ne_t (pc := 7) (tgt := 30) E (by omega) dX9_runFrom_7 (by decide) h15 ?_
        refine k_lv (lv' := [(3, gI v9)]) [3] rfl ?_
        exact hk v9 hT ⟨(by omega), (by first | assumption | omega), (by first | assumption | omega)⟩
  refine k_lv (lv' := [(0, .ref (a 0)), (1, gI x0), (2, gI x1), (3, gI 0)]) [1, 2, 3, 0] rfl ?_
  refine L10 17 0 ⟨(by omega), (by first | assumption | omega), (by first | assumption | omega)⟩ (by omega) (fun v25 hw hq => ?_)
  obtain ⟨hq26, hq27, hq28⟩ := hq
  replace hT := gl1y hT hw
  refine k_iloadn (pc := 30) E 0 dX9_runFrom_30 rfl rfl ?_
  exact k_rho (congrArg (fun q => (q, s0)) hT) (k_iret (pc := 31) E dX9_runFrom_31 (by omega))
