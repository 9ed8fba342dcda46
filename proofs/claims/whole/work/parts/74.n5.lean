section
/-! text on a memory that may hold no text yet -/
def VS0 (s : gMem) : Prop := 0 ≤ s 7 0 ∧ s 7 0 ≤ 6 ∧ 0 ≤ s 8 0 ∧ s 8 0 ≤ s 7 0 ∧ ∀ t part : Int, 0 ≤ t → t < s 7 0 → 0 ≤ part → part ≤ 2 → VT (s 5) (s 6) t part
theorem VS_old0 {s0 s1 s2 sj : gMem} {f5 : Int → Int} {q v : Int} (h : VS0 s0) (e5 : s1 5 = f5) (l5 : LOW (s0 5) f5 (200 * s0 7 0)) (e6 : s1 6 = s2 6) (hm : s2 = mset sj 6 q v) (l6 : LOW (s0 6) (sj 6) (4 * s0 7 0)) (hq : 4 * s0 7 0 ≤ q) (e7 : s1 7 0 = s0 7 0) (e8 : s1 8 0 = s0 8 0) : VS0 s1 := by
  obtain ⟨k1, k2, k3, k4, k5⟩ := h
  refine ⟨by omega, by omega, by omega, by omega, fun t part t1 t2 p1 p2 => ?_⟩
  refine VT_cg (k5 t part t1 (by omega) p1 p2) p1 p2 (fun i hi => ?_) (fun i hi => ?_)
  · rw [e5]; exact l5 i (by omega)
  · rw [e6, hm, mset_at, if_neg (by omega)]; exact l6 i (by omega)
theorem VS_new0 {s0 s1 s2 sj : gMem} {f5 : Int → Int} {q v l t o : Int} (h : VS0 s0) (e5 : s1 5 = f5) (l5 : LOW (s0 5) f5 (200 * s0 7 0)) (e6 : s1 6 = s2 6) (hm : s2 = mset sj 6 q v) (l6 : LOW (s0 6) (sj 6) (4 * s0 7 0)) (hp : l = 1 → PTS f5 (sj 6) t 3 o) (hl : l = 1) (ht : t = s0 7 0) (hq : q = 4 * s0 7 0 + 3) (hv : v = o) (ho : o ≤ 200) (h6 : s0 7 0 ≤ 5) (e7 : s1 7 0 = s0 7 0 + 1) (e8 : s1 8 0 = s0 8 0) : VS0 s1 := by
  obtain ⟨k1, k2, k3, k4, k5⟩ := h
  refine ⟨by omega, by omega, by omega, by omega, fun t2 part t1 t3 p1 p2 => ?_⟩
  by_cases e : t2 = s0 7 0
  · have hP := hp hl
    rw [ht, ← e] at hP
    have h1 := hP.1 part p1 (by omega)
    have e1 : s1 6 (4 * t2 + part) = sj 6 (4 * t2 + part) := by rw [e6, hm, mset_at, if_neg (by omega)]
    by_cases e2 : part + 1 = 3
    · rw [if_pos e2] at h1
      have e3 : s1 6 (4 * t2 + part + 1) = o := by rw [e6, hm, mset_at, if_pos (by omega)]; exact hv
      unfold VT
      rw [e1, e3, e5]
      exact ⟨h1.1, h1.2.1, ho, h1.2.2⟩
    · rw [if_neg e2] at h1
      have e3 : s1 6 (4 * t2 + part + 1) = sj 6 (4 * t2 + part + 1) := by rw [e6, hm, mset_at, if_neg (by omega)]
      have h2 := hP.2 (part + 1) (by omega) (by omega)
      have e4 : 4 * t2 + (part + 1) = 4 * t2 + part + 1 := by omega
      rw [e4] at h2
      unfold VT
      rw [e1, e3, e5]
      exact ⟨h1.1, h1.2.1, by omega, h1.2.2⟩
  · refine VT_cg (k5 t2 part t1 (by omega) p1 p2) p1 p2 (fun i hi => ?_) (fun i hi => ?_)
    · rw [e5]; exact l5 i (by omega)
    · rw [e6, hm, mset_at, if_neg (by omega)]; exact l6 i (by omega)
set_option maxRecDepth 100000 in
set_option maxHeartbeats 4000000 in
theorem f_X9_text_p0  (s0 : gMem)  (hm_s0 : gMR lgM s0) (hpre0 : VS0 s0) (hpre1 : 0 ≤ s0 4 0 ∧ s0 4 0 ≤ 160) (rZ : Int) (sZ : gMem) (hres : f_X9_text s0 = (rZ, sZ)) : (fr [4, 5, 6, 7, 16, 17, 18, 19, 21, 22, 23, 24] s0 sZ) ∧ (gMR lgM sZ) ∧ (in32 rZ) ∧ (VS0 sZ) ∧ (0 ≤ sZ 4 0 ∧ sZ 4 0 ≤ 160) := by
  have hT := f_X9_text_e  s0
  have hf_s0 : fr [4, 5, 6, 7, 16, 17, 18, 19, 21, 22, 23, 24] s0 s0 := fr.rf _ _
  obtain ⟨kv1, kv2, kv3, kv4, kv5⟩ := id hpre0
  have hr1 := (hm_s0 7 0).1 rfl
  by_cases h2 : (s0 7 0) = 6
  · replace hT := hT.trans (if_pos h2)
    obtain ⟨rfl, rfl⟩ := Prod.mk.inj (hT.symm.trans hres)
    exact ⟨hf_s0, hm_s0, (by omega), hpre0, (by first | assumption | omega)⟩
  · replace hT := hT.trans (if_neg h2)
    obtain ⟨s3, hs3, hT⟩ := glx hT
    have hf_s3 : fr [4, 5, 6, 7, 16, 17, 18, 19, 21, 22, 23, 24] s0 s3 := hs3 ▸ hf_s0.set (by decide)
    have hm_s3 : gMR lgM s3 := hs3 ▸ hm_s0.set32 rfl (by omega)
    have ht4 : s3 4 0 = s0 4 0 := by rw [hs3]; exact mset_ne _ _ _ _ _ (by decide)
    have ht5 : s3 7 0 = s0 7 0 := by rw [hs3]; exact mset_ne _ _ _ _ _ (by decide)
    have ht6 : s3 16 0 = 0 := by rw [hs3]; exact mset_eq _ _ _ _
    have ht7 : s3 17 0 = s0 17 0 := by rw [hs3]; exact mset_ne _ _ _ _ _ (by decide)
    have ht8 : s3 18 0 = s0 18 0 := by rw [hs3]; exact mset_ne _ _ _ _ _ (by decide)
    have ht9 : s3 19 0 = s0 19 0 := by rw [hs3]; exact mset_ne _ _ _ _ _ (by decide)
    have ht10 : s3 24 0 = s0 24 0 := by rw [hs3]; exact mset_ne _ _ _ _ _ (by decide)
    have htf5_s3 : s3 5 = s0 5 := (by rw [hs3]; exact mset_nf (by decide))
    have htf6_s3 : s3 6 = s0 6 := (by rw [hs3]; exact mset_nf (by decide))
    obtain ⟨s11, hs11, hT⟩ := glx hT
    have hf_s11 : fr [4, 5, 6, 7, 16, 17, 18, 19, 21, 22, 23, 24] s0 s11 := hs11 ▸ hf_s3.set (by decide)
    have hm_s11 : gMR lgM s11 := hs11 ▸ hm_s3.set32 rfl (by omega)
    have ht12 : s11 4 0 = s3 4 0 := by rw [hs11]; exact mset_ne _ _ _ _ _ (by decide)
    have ht13 : s11 7 0 = s3 7 0 := by rw [hs11]; exact mset_ne _ _ _ _ _ (by decide)
    have ht14 : s11 16 0 = s3 16 0 := by rw [hs11]; exact mset_ne _ _ _ _ _ (by decide)
    have ht15 : s11 17 0 = s3 17 0 := by rw [hs11]; exact mset_ne _ _ _ _ _ (by decide)
    have ht16 : s11 18 0 = s3 18 0 := by rw [hs11]; exact mset_ne _ _ _ _ _ (by decide)
    have ht17 : s11 19 0 = s3 19 0 := by rw [hs11]; exact mset_ne _ _ _ _ _ (by decide)
    have ht18 : s11 24 0 = 0 := by rw [hs11]; exact mset_eq _ _ _ _
    have htf5_s11 : s11 5 = s0 5 := ((by rw [hs11]; exact mset_nf (by decide)) : s11 5 = s3 5).trans htf5_s3
    have htf6_s11 : s11 6 = s0 6 := ((by rw [hs11]; exact mset_nf (by decide)) : s11 6 = s3 6).trans htf6_s3
    have L109 : ∀ (n110 : Nat) (v106 : Int) (v107 : Int) (s108 : gMem), ((in32 v106) ∧ (in32 v107) ∧ (fr [4, 5, 6, 7, 16, 17, 18, 19, 21, 22, 23, 24] s0 s108) ∧ (gMR lgM s108) ∧ (s108 4 0 = s11 4 0) ∧ (s108 7 0 = s11 7 0) ∧ (0 ≤ v107 ∧ v107 ≤ 3) ∧ (0 ≤ v106 ∧ v106 ≤ 1) ∧ (0 ≤ s108 16 0 ∧ s108 16 0 ≤ s0 4 0) ∧ (0 ≤ s108 24 0 ∧ s108 24 0 ≤ s108 16 0) ∧ (v106 = 1 ∨ (0 ≤ s108 17 0 ∧ s108 17 0 ≤ 160)) ∧ (LOW (s0 5) (s108 5) (200 * s0 7 0)) ∧ (LOW (s0 6) (s108 6) (4 * s0 7 0)) ∧ (v106 = 1 → PTS (s108 5) (s108 6) (s0 7 0) v107 (s108 24 0))) → 3 - v107 < (n110 : Int) → (∀ (w111 : Int) (w112 : Int) (s113 : gMem), (w_X9_text_26 n110 v106 v107 s108) = (w111, w112, s113) → ((in32 w111) ∧ (in32 w112) ∧ (fr [4, 5, 6, 7, 16, 17, 18, 19, 21, 22, 23, 24] s0 s113) ∧ (gMR lgM s113) ∧ (s113 4 0 = s11 4 0) ∧ (s113 7 0 = s11 7 0) ∧ (0 ≤ w112 ∧ w112 ≤ 3) ∧ (0 ≤ w111 ∧ w111 ≤ 1) ∧ (0 ≤ s113 16 0 ∧ s113 16 0 ≤ s0 4 0) ∧ (0 ≤ s113 24 0 ∧ s113 24 0 ≤ s113 16 0) ∧ (w111 = 1 ∨ (0 ≤ s113 17 0 ∧ s113 17 0 ≤ 160)) ∧ (LOW (s0 5) (s113 5) (200 * s0 7 0)) ∧ (LOW (s0 6) (s113 6) (4 * s0 7 0)) ∧ (w111 = 1 → PTS (s113 5) (s113 6) (s0 7 0) w112 (s113 24 0)) ∧ (w111 = 1 → PTS (s113 5) (s113 6) (s0 7 0) 3 (s113 24 0))) → (fr [4, 5, 6, 7, 16, 17, 18, 19, 21, 22, 23, 24] s0 sZ) ∧ (gMR lgM sZ) ∧ (in32 rZ) ∧ (VS0 sZ) ∧ (0 ≤ sZ 4 0 ∧ sZ 4 0 ≤ 160)) → (fr [4, 5, 6, 7, 16, 17, 18, 19, 21, 22, 23, 24] s0 sZ) ∧ (gMR lgM sZ) ∧ (in32 rZ) ∧ (VS0 sZ) ∧ (0 ≤ sZ 4 0 ∧ sZ 4 0 ≤ 160) := by
      intro n110; induction n110 with
      | zero =>
        intro v106 v107 s108 hq hm hk
        exfalso
        obtain ⟨hq197, hq198, hf_s108, hm_s108, hq199, hq200, hq201, hq202, hq203, hq204, hq205, hq206, hq207, hq208⟩ := hq
        omega
      | succ n110 ih =>
        intro v106 v107 s108 hq hm hk
        obtain ⟨hq209, hq210, hf_s108, hm_s108, hq211, hq212, hq213, hq214, hq215, hq216, hq217, hq218, hq219, hq220⟩ := hq
        have hT := w_X9_text_26_s  n110 v106 v107 s108
        by_cases h114 : v107 < 3
        · replace hT := hT.trans (if_pos h114)
          by_cases h115 : v106 = 0
          · replace hT := hT.trans (if_pos h115)
            exact hk v106 v107 s108 hT ⟨(by omega), (by omega), hf_s108, hm_s108, (by first | assumption | omega), (by first | assumption | omega), (by first | assumption | omega), (by first | assumption | omega), (by first | assumption | omega), (by first | assumption | omega), (by first | assumption | omega), (by first | assumption | exact LOW_0 _ _ | exact LOW_e (LOW_0 _ _) (by assumption) | exact LOW_t (by assumption) (by assumption) (by assumption) (by omega) | exact LOW_w (by assumption) (by assumption) (by assumption) (by assumption) (by omega) | exact LOW_w rfl (by assumption) (by assumption) (by assumption) (by omega) | exact LOW_e (by assumption) (by assumption)), (by first | assumption | exact LOW_0 _ _ | exact LOW_e (LOW_0 _ _) (by assumption) | exact LOW_t (by assumption) (by assumption) (by assumption) (by omega) | exact LOW_w (by assumption) (by assumption) (by assumption) (by assumption) (by omega) | exact LOW_w rfl (by assumption) (by assumption) (by assumption) (by omega) | exact LOW_e (by assumption) (by assumption)), (by first | assumption | (intro h; exact absurd h (by omega)) | (intro _; exact PTS_0 _ _ _ _ (by omega)) | (intro _; exact T_step (by assumption) (by assumption) (by assumption) (by assumption) (by omega) (by assumption) (by assumption) (by assumption) (by omega) (by omega) (by omega) (by omega) (by omega) (by omega) (by omega)) | (intro _; exact T_tr rfl rfl (by assumption) (by omega) (by omega) (by omega)) | (intro _; exact T_tr (by assumption) (by assumption) (by assumption) (by omega) (by omega) (by omega))), (by first | assumption | (intro h; exact absurd h (by omega)) | (intro _; exact PTS_0 _ _ _ _ (by omega)) | (intro _; exact T_step (by assumption) (by assumption) (by assumption) (by assumption) (by omega) (by assumption) (by assumption) (by assumption) (by omega) (by omega) (by omega) (by omega) (by omega) (by omega) (by omega)) | (intro _; exact T_tr rfl rfl (by assumption) (by omega) (by omega) (by omega)) | (intro _; exact T_tr (by assumption) (by assumption) (by assumption) (by omega) (by omega) (by omega)))⟩
          · replace hT := hT.trans (if_neg h115)
            obtain ⟨r117, s118, hs118⟩ : ∃ rr ss, (f_X9_next  s108) = (rr, ss) := ⟨_, _, rfl⟩
            replace hT := gby hT hs118
            have hp119 := f_X9_next_p  s108  hm_s108 (by first | assumption | omega) (by first | assumption | omega) r117 s118 hs118
            obtain ⟨hfc_s118, hm_s118, hp120, hp121, hp122, hp123, hp124⟩ := hp119
            have hf_s118 : fr [4, 5, 6, 7, 16, 17, 18, 19, 21, 22, 23, 24] s0 s118 := hf_s108.call (by decide) hfc_s118
            have htf5_s118 : s118 5 = s108 5 := hfc_s118 5 (by decide)
            have htf6_s118 : s118 6 = s108 6 := hfc_s118 6 (by decide)
            have ht125 : s118 4 0 = s108 4 0 := by rw [hfc_s118 4 (by decide)]
            have ht126 : s118 7 0 = s108 7 0 := by rw [hfc_s118 7 (by decide)]
            have ht127 : s118 24 0 = s108 24 0 := by rw [hfc_s118 24 (by decide)]
            have hr128 := (hm_s118 18 0).1 rfl
            obtain ⟨j130c, hj130c, hT⟩ := gjx hT
            have j130 : (True) → (w_X9_text_26 (n110 + 1) v106 v107 s108) = j130c  → (fr [4, 5, 6, 7, 16, 17, 18, 19, 21, 22, 23, 24] s0 sZ) ∧ (gMR lgM sZ) ∧ (in32 rZ) ∧ (VS0 sZ) ∧ (0 ≤ sZ 4 0 ∧ sZ 4 0 ≤ 160) := by
              intro  hq hT
              rw [hj130c] at hT
              have hr131 := (hm_s118 7 0).1 rfl
              have hr132 := (hm_s118 24 0).1 rfl
              obtain ⟨s133, hs133, hT⟩ := glx hT
              have hf_s133 : fr [4, 5, 6, 7, 16, 17, 18, 19, 21, 22, 23, 24] s0 s133 := hs133 ▸ hf_s118.set (by decide)
              have hm_s133 : gMR lgM s133 := hs133 ▸ hm_s118.set32 rfl (by omega)
              have ht134 : s133 4 0 = s118 4 0 := by rw [hs133]; exact mset_ne _ _ _ _ _ (by decide)
              have ht135 : s133 7 0 = s118 7 0 := by rw [hs133]; exact mset_ne _ _ _ _ _ (by decide)
              have ht136 : s133 16 0 = s118 16 0 := by rw [hs133]; exact mset_ne _ _ _ _ _ (by decide)
              have ht137 : s133 17 0 = s118 17 0 := by rw [hs133]; exact mset_ne _ _ _ _ _ (by decide)
              have ht138 : s133 18 0 = s118 18 0 := by rw [hs133]; exact mset_ne _ _ _ _ _ (by decide)
              have ht139 : s133 19 0 = s118 19 0 := by rw [hs133]; exact mset_ne _ _ _ _ _ (by decide)
              have ht140 : s133 24 0 = s118 24 0 := by rw [hs133]; exact mset_ne _ _ _ _ _ (by decide)
              have htf5_s133 : s133 5 = s108 5 := ((by rw [hs133]; exact mset_nf (by decide)) : s133 5 = s118 5).trans htf5_s118
              obtain ⟨j142c, hj142c, hT⟩ := gjx hT
              have j142 : ∀ (s143 : gMem), ((fr [4, 5, 6, 7, 16, 17, 18, 19, 21, 22, 23, 24] s0 s143) ∧ (gMR lgM s143) ∧ (s143 4 0 = s133 4 0) ∧ (s143 7 0 = s133 7 0) ∧ (0 ≤ s143 16 0 ∧ s143 16 0 ≤ s0 4 0) ∧ (0 ≤ s143 24 0 ∧ s143 24 0 ≤ s143 16 0) ∧ (0 ≤ s143 17 0 ∧ s143 17 0 ≤ 160) ∧ (LOW (s0 5) (s143 5) (200 * s0 7 0)) ∧ (LOW (s0 6) (s143 6) (4 * s0 7 0))) → (w_X9_text_26 (n110 + 1) v106 v107 s108) = j142c s143 → (fr [4, 5, 6, 7, 16, 17, 18, 19, 21, 22, 23, 24] s0 sZ) ∧ (gMR lgM sZ) ∧ (in32 rZ) ∧ (VS0 sZ) ∧ (0 ≤ sZ 4 0 ∧ sZ 4 0 ≤ 160) := by
                intro s143 hq hT
                obtain ⟨hf_s143, hm_s143, hq144, hq145, hq146, hq147, hq148, hq149, hq150⟩ := hq
                rw [hj142c] at hT
                exact ih 0 (v107 + 1) s143 ⟨(by omega), (by omega), hf_s143, hm_s143, (by first | assumption | omega), (by first | assumption | omega), (by first | assumption | omega), (by first | assumption | omega), (by first | assumption | omega), (by first | assumption | omega), (by first | assumption | omega), (by first | assumption | exact LOW_0 _ _ | exact LOW_e (LOW_0 _ _) (by assumption) | exact LOW_t (by assumption) (by assumption) (by assumption) (by omega) | exact LOW_w (by assumption) (by assumption) (by assumption) (by assumption) (by omega) | exact LOW_w rfl (by assumption) (by assumption) (by assumption) (by omega) | exact LOW_e (by assumption) (by assumption)), (by first | assumption | exact LOW_0 _ _ | exact LOW_e (LOW_0 _ _) (by assumption) | exact LOW_t (by assumption) (by assumption) (by assumption) (by omega) | exact LOW_w (by assumption) (by assumption) (by assumption) (by assumption) (by omega) | exact LOW_w rfl (by assumption) (by assumption) (by assumption) (by omega) | exact LOW_e (by assumption) (by assumption)), (by first | assumption | (intro h; exact absurd h (by omega)) | (intro _; exact PTS_0 _ _ _ _ (by omega)) | (intro _; exact T_step (by assumption) (by assumption) (by assumption) (by assumption) (by omega) (by assumption) (by assumption) (by assumption) (by omega) (by omega) (by omega) (by omega) (by omega) (by omega) (by omega)) | (intro _; exact T_tr rfl rfl (by assumption) (by omega) (by omega) (by omega)) | (intro _; exact T_tr (by assumption) (by assumption) (by assumption) (by omega) (by omega) (by omega)))⟩ (by omega) (fun w111 w112 s113 hw hi => hk w111 w112 s113 (hT.trans hw) hi)
              by_cases h141 : (0 : Int) = 0
              · replace hT := hT.trans (if_pos h141)
                exact j142 s133 ⟨hf_s133, hm_s133, (by first | assumption | omega), (by first | assumption | omega), (by first | assumption | omega), (by first | assumption | omega), (by first | assumption | omega), (by first | assumption | exact LOW_0 _ _ | exact LOW_e (LOW_0 _ _) (by assumption) | exact LOW_t (by assumption) (by assumption) (by assumption) (by omega) | exact LOW_w (by assumption) (by assumption) (by assumption) (by assumption) (by omega) | exact LOW_w rfl (by assumption) (by assumption) (by assumption) (by omega) | exact LOW_e (by assumption) (by assumption)), (by first | assumption | exact LOW_0 _ _ | exact LOW_e (LOW_0 _ _) (by assumption) | exact LOW_t (by assumption) (by assumption) (by assumption) (by omega) | exact LOW_w (by assumption) (by assumption) (by assumption) (by assumption) (by omega) | exact LOW_w rfl (by assumption) (by assumption) (by assumption) (by omega) | exact LOW_e (by assumption) (by assumption))⟩ hT
              · replace hT := hT.trans (if_neg h141)
                obtain ⟨r152, s153, hs153⟩ : ∃ rr ss, (f_X9_eRead  s133) = (rr, ss) := ⟨_, _, rfl⟩
                replace hT := gby hT hs153
                have hp154 := f_X9_eRead_p  s133  hm_s133 (by first | assumption | omega) (by first | assumption | omega) (by first | assumption | omega) (by first | assumption | omega) r152 s153 hs153
                obtain ⟨hfc_s153, hm_s153, hp155, hp156, hp157, hp158, hp159⟩ := hp154
                have hf_s153 : fr [4, 5, 6, 7, 16, 17, 18, 19, 21, 22, 23, 24] s0 s153 := hf_s133.call (by decide) hfc_s153
                have htf6_s153 : s153 6 = s133 6 := hfc_s153 6 (by decide)
                have ht160 : s153 4 0 = s133 4 0 := by rw [hfc_s153 4 (by decide)]
                have ht161 : s153 7 0 = s133 7 0 := by rw [hfc_s153 7 (by decide)]
                by_cases h162 : r152 = 0
                · replace hT := hT.trans (if_pos h162)
                  exact j142 s153 ⟨hf_s153, hm_s153, (by first | assumption | omega), (by first | assumption | omega), (by first | assumption | omega), (by first | assumption | omega), (by first | assumption | omega), (by first | assumption | exact LOW_0 _ _ | exact LOW_e (LOW_0 _ _) (by assumption) | exact LOW_t (by assumption) (by assumption) (by assumption) (by omega) | exact LOW_w (by assumption) (by assumption) (by assumption) (by assumption) (by omega) | exact LOW_w rfl (by assumption) (by assumption) (by assumption) (by omega) | exact LOW_e (by assumption) (by assumption)), (by first | assumption | exact LOW_0 _ _ | exact LOW_e (LOW_0 _ _) (by assumption) | exact LOW_t (by assumption) (by assumption) (by assumption) (by omega) | exact LOW_w (by assumption) (by assumption) (by assumption) (by assumption) (by omega) | exact LOW_w rfl (by assumption) (by assumption) (by assumption) (by omega) | exact LOW_e (by assumption) (by assumption))⟩ hT
                · replace hT := hT.trans (if_neg h162)
                  exact ih 1 (v107 + 1) s153 ⟨(by omega), (by omega), hf_s153, hm_s153, (by first | assumption | omega), (by first | assumption | omega), (by first | assumption | omega), (by first | assumption | omega), (by first | assumption | omega), (by first | assumption | omega), (by first | assumption | omega), (by first | assumption | exact LOW_0 _ _ | exact LOW_e (LOW_0 _ _) (by assumption) | exact LOW_t (by assumption) (by assumption) (by assumption) (by omega) | exact LOW_w (by assumption) (by assumption) (by assumption) (by assumption) (by omega) | exact LOW_w rfl (by assumption) (by assumption) (by assumption) (by omega) | exact LOW_e (by assumption) (by assumption)), (by first | assumption | exact LOW_0 _ _ | exact LOW_e (LOW_0 _ _) (by assumption) | exact LOW_t (by assumption) (by assumption) (by assumption) (by omega) | exact LOW_w (by assumption) (by assumption) (by assumption) (by assumption) (by omega) | exact LOW_w rfl (by assumption) (by assumption) (by assumption) (by omega) | exact LOW_e (by assumption) (by assumption)), (by first | assumption | (intro h; exact absurd h (by omega)) | (intro _; exact PTS_0 _ _ _ _ (by omega)) | (intro _; exact T_step (by assumption) (by assumption) (by assumption) (by assumption) (by omega) (by assumption) (by assumption) (by assumption) (by omega) (by omega) (by omega) (by omega) (by omega) (by omega) (by omega)) | (intro _; exact T_tr rfl rfl (by assumption) (by omega) (by omega) (by omega)) | (intro _; exact T_tr (by assumption) (by assumption) (by assumption) (by omega) (by omega) (by omega)))⟩ (by omega) (fun w111 w112 s113 hw hi => hk w111 w112 s113 (hT.trans hw) hi)
            by_cases h129 : (s118 18 0) = 3
            · replace hT := hT.trans (if_pos h129)
              have hr163 := (hm_s118 19 0).1 rfl
              by_cases h164 : (s118 19 0) = v107
              · replace hT := hT.trans (if_pos h164)
                have hr165 := (hm_s118 7 0).1 rfl
                have hr166 := (hm_s118 24 0).1 rfl
                obtain ⟨s167, hs167, hT⟩ := glx hT
                have hf_s167 : fr [4, 5, 6, 7, 16, 17, 18, 19, 21, 22, 23, 24] s0 s167 := hs167 ▸ hf_s118.set (by decide)
                have hm_s167 : gMR lgM s167 := hs167 ▸ hm_s118.set32 rfl (by omega)
                have ht168 : s167 4 0 = s118 4 0 := by rw [hs167]; exact mset_ne _ _ _ _ _ (by decide)
                have ht169 : s167 7 0 = s118 7 0 := by rw [hs167]; exact mset_ne _ _ _ _ _ (by decide)
                have ht170 : s167 16 0 = s118 16 0 := by rw [hs167]; exact mset_ne _ _ _ _ _ (by decide)
                have ht171 : s167 17 0 = s118 17 0 := by rw [hs167]; exact mset_ne _ _ _ _ _ (by decide)
                have ht172 : s167 18 0 = s118 18 0 := by rw [hs167]; exact mset_ne _ _ _ _ _ (by decide)
                have ht173 : s167 19 0 = s118 19 0 := by rw [hs167]; exact mset_ne _ _ _ _ _ (by decide)
                have ht174 : s167 24 0 = s118 24 0 := by rw [hs167]; exact mset_ne _ _ _ _ _ (by decide)
                have htf5_s167 : s167 5 = s108 5 := ((by rw [hs167]; exact mset_nf (by decide)) : s167 5 = s118 5).trans htf5_s118
                obtain ⟨j176c, hj176c, hT⟩ := gjx hT
                have j176 : ∀ (s177 : gMem), ((fr [4, 5, 6, 7, 16, 17, 18, 19, 21, 22, 23, 24] s0 s177) ∧ (gMR lgM s177) ∧ (s177 4 0 = s167 4 0) ∧ (s177 7 0 = s167 7 0) ∧ (0 ≤ s177 16 0 ∧ s177 16 0 ≤ s0 4 0) ∧ (0 ≤ s177 24 0 ∧ s177 24 0 ≤ s177 16 0) ∧ (0 ≤ s177 17 0 ∧ s177 17 0 ≤ 160) ∧ (LOW (s0 5) (s177 5) (200 * s0 7 0)) ∧ (LOW (s0 6) (s177 6) (4 * s0 7 0))) → (w_X9_text_26 (n110 + 1) v106 v107 s108) = j176c s177 → (fr [4, 5, 6, 7, 16, 17, 18, 19, 21, 22, 23, 24] s0 sZ) ∧ (gMR lgM sZ) ∧ (in32 rZ) ∧ (VS0 sZ) ∧ (0 ≤ sZ 4 0 ∧ sZ 4 0 ≤ 160) := by
                  intro s177 hq hT
                  obtain ⟨hf_s177, hm_s177, hq178, hq179, hq180, hq181, hq182, hq183, hq184⟩ := hq
                  rw [hj176c] at hT
                  exact ih 0 (v107 + 1) s177 ⟨(by omega), (by omega), hf_s177, hm_s177, (by first | assumption | omega), (by first | assumption | omega), (by first | assumption | omega), (by first | assumption | omega), (by first | assumption | omega), (by first | assumption | omega), (by first | assumption | omega), (by first | assumption | exact LOW_0 _ _ | exact LOW_e (LOW_0 _ _) (by assumption) | exact LOW_t (by assumption) (by assumption) (by assumption) (by omega) | exact LOW_w (by assumption) (by assumption) (by assumption) (by assumption) (by omega) | exact LOW_w rfl (by assumption) (by assumption) (by assumption) (by omega) | exact LOW_e (by assumption) (by assumption)), (by first | assumption | exact LOW_0 _ _ | exact LOW_e (LOW_0 _ _) (by assumption) | exact LOW_t (by assumption) (by assumption) (by assumption) (by omega) | exact LOW_w (by assumption) (by assumption) (by assumption) (by assumption) (by omega) | exact LOW_w rfl (by assumption) (by assumption) (by assumption) (by omega) | exact LOW_e (by assumption) (by assumption)), (by first | assumption | (intro h; exact absurd h (by omega)) | (intro _; exact PTS_0 _ _ _ _ (by omega)) | (intro _; exact T_step (by assumption) (by assumption) (by assumption) (by assumption) (by omega) (by assumption) (by assumption) (by assumption) (by omega) (by omega) (by omega) (by omega) (by omega) (by omega) (by omega)) | (intro _; exact T_tr rfl rfl (by assumption) (by omega) (by omega) (by omega)) | (intro _; exact T_tr (by assumption) (by assumption) (by assumption) (by omega) (by omega) (by omega)))⟩ (by omega) (fun w111 w112 s113 hw hi => hk w111 w112 s113 (hT.trans hw) hi)
                by_cases h175 : (1 : Int) = 0
                · replace hT := hT.trans (if_pos h175)
                  exact j176 s167 ⟨hf_s167, hm_s167, (by first | assumption | omega), (by first | assumption | omega), (by first | assumption | omega), (by first | assumption | omega), (by first | assumption | omega), (by first | assumption | exact LOW_0 _ _ | exact LOW_e (LOW_0 _ _) (by assumption) | exact LOW_t (by assumption) (by assumption) (by assumption) (by omega) | exact LOW_w (by assumption) (by assumption) (by assumption) (by assumption) (by omega) | exact LOW_w rfl (by assumption) (by assumption) (by assumption) (by omega) | exact LOW_e (by assumption) (by assumption)), (by first | assumption | exact LOW_0 _ _ | exact LOW_e (LOW_0 _ _) (by assumption) | exact LOW_t (by assumption) (by assumption) (by assumption) (by omega) | exact LOW_w (by assumption) (by assumption) (by assumption) (by assumption) (by omega) | exact LOW_w rfl (by assumption) (by assumption) (by assumption) (by omega) | exact LOW_e (by assumption) (by assumption))⟩ hT
                · replace hT := hT.trans (if_neg h175)
                  obtain ⟨r186, s187, hs187⟩ : ∃ rr ss, (f_X9_eRead  s167) = (rr, ss) := ⟨_, _, rfl⟩
                  replace hT := gby hT hs187
                  have hp188 := f_X9_eRead_p  s167  hm_s167 (by first | assumption | omega) (by first | assumption | omega) (by first | assumption | omega) (by first | assumption | omega) r186 s187 hs187
                  obtain ⟨hfc_s187, hm_s187, hp189, hp190, hp191, hp192, hp193⟩ := hp188
                  have hf_s187 : fr [4, 5, 6, 7, 16, 17, 18, 19, 21, 22, 23, 24] s0 s187 := hf_s167.call (by decide) hfc_s187
                  have htf6_s187 : s187 6 = s167 6 := hfc_s187 6 (by decide)
                  have ht194 : s187 4 0 = s167 4 0 := by rw [hfc_s187 4 (by decide)]
                  have ht195 : s187 7 0 = s167 7 0 := by rw [hfc_s187 7 (by decide)]
                  by_cases h196 : r186 = 0
                  · replace hT := hT.trans (if_pos h196)
                    exact j176 s187 ⟨hf_s187, hm_s187, (by first | assumption | omega), (by first | assumption | omega), (by first | assumption | omega), (by first | assumption | omega), (by first | assumption | omega), (by first | assumption | exact LOW_0 _ _ | exact LOW_e (LOW_0 _ _) (by assumption) | exact LOW_t (by assumption) (by assumption) (by assumption) (by omega) | exact LOW_w (by assumption) (by assumption) (by assumption) (by assumption) (by omega) | exact LOW_w rfl (by assumption) (by assumption) (by assumption) (by omega) | exact LOW_e (by assumption) (by assumption)), (by first | assumption | exact LOW_0 _ _ | exact LOW_e (LOW_0 _ _) (by assumption) | exact LOW_t (by assumption) (by assumption) (by assumption) (by omega) | exact LOW_w (by assumption) (by assumption) (by assumption) (by assumption) (by omega) | exact LOW_w rfl (by assumption) (by assumption) (by assumption) (by omega) | exact LOW_e (by assumption) (by assumption))⟩ hT
                  · replace hT := hT.trans (if_neg h196)
                    exact ih 1 (v107 + 1) s187 ⟨(by omega), (by omega), hf_s187, hm_s187, (by first | assumption | omega), (by first | assumption | omega), (by first | assumption | omega), (by first | assumption | omega), (by first | assumption | omega), (by first | assumption | omega), (by first | assumption | omega), (by first | assumption | exact LOW_0 _ _ | exact LOW_e (LOW_0 _ _) (by assumption) | exact LOW_t (by assumption) (by assumption) (by assumption) (by omega) | exact LOW_w (by assumption) (by assumption) (by assumption) (by assumption) (by omega) | exact LOW_w rfl (by assumption) (by assumption) (by assumption) (by omega) | exact LOW_e (by assumption) (by assumption)), (by first | assumption | exact LOW_0 _ _ | exact LOW_e (LOW_0 _ _) (by assumption) | exact LOW_t (by assumption) (by assumption) (by assumption) (by omega) | exact LOW_w (by assumption) (by assumption) (by assumption) (by assumption) (by omega) | exact LOW_w rfl (by assumption) (by assumption) (by assumption) (by omega) | exact LOW_e (by assumption) (by assumption)), (by first | assumption | (intro h; exact absurd h (by omega)) | (intro _; exact PTS_0 _ _ _ _ (by omega)) | (intro _; exact T_step (by assumption) (by assumption) (by assumption) (by assumption) (by omega) (by assumption) (by assumption) (by assumption) (by omega) (by omega) (by omega) (by omega) (by omega) (by omega) (by omega)) | (intro _; exact T_tr rfl rfl (by assumption) (by omega) (by omega) (by omega)) | (intro _; exact T_tr (by assumption) (by assumption) (by assumption) (by omega) (by omega) (by omega)))⟩ (by omega) (fun w111 w112 s113 hw hi => hk w111 w112 s113 (hT.trans hw) hi)
              · replace hT := hT.trans (if_neg h164)
                exact j130  trivial hT
            · replace hT := hT.trans (if_neg h129)
              exact j130  trivial hT
        · replace hT := hT.trans (if_neg h114)
          exact hk v106 v107 s108 hT ⟨(by omega), (by omega), hf_s108, hm_s108, (by first | assumption | omega), (by first | assumption | omega), (by first | assumption | omega), (by first | assumption | omega), (by first | assumption | omega), (by first | assumption | omega), (by first | assumption | omega), (by first | assumption | exact LOW_0 _ _ | exact LOW_e (LOW_0 _ _) (by assumption) | exact LOW_t (by assumption) (by assumption) (by assumption) (by omega) | exact LOW_w (by assumption) (by assumption) (by assumption) (by assumption) (by omega) | exact LOW_w rfl (by assumption) (by assumption) (by assumption) (by omega) | exact LOW_e (by assumption) (by assumption)), (by first | assumption | exact LOW_0 _ _ | exact LOW_e (LOW_0 _ _) (by assumption) | exact LOW_t (by assumption) (by assumption) (by assumption) (by omega) | exact LOW_w (by assumption) (by assumption) (by assumption) (by assumption) (by omega) | exact LOW_w rfl (by assumption) (by assumption) (by assumption) (by omega) | exact LOW_e (by assumption) (by assumption)), (by first | assumption | (intro h; exact absurd h (by omega)) | (intro _; exact PTS_0 _ _ _ _ (by omega)) | (intro _; exact T_step (by assumption) (by assumption) (by assumption) (by assumption) (by omega) (by assumption) (by assumption) (by assumption) (by omega) (by omega) (by omega) (by omega) (by omega) (by omega) (by omega)) | (intro _; exact T_tr rfl rfl (by assumption) (by omega) (by omega) (by omega)) | (intro _; exact T_tr (by assumption) (by assumption) (by assumption) (by omega) (by omega) (by omega))), (by first | assumption | (intro h; exact absurd h (by omega)) | (intro _; exact PTS_0 _ _ _ _ (by omega)) | (intro _; exact T_step (by assumption) (by assumption) (by assumption) (by assumption) (by omega) (by assumption) (by assumption) (by assumption) (by omega) (by omega) (by omega) (by omega) (by omega) (by omega) (by omega)) | (intro _; exact T_tr rfl rfl (by assumption) (by omega) (by omega) (by omega)) | (intro _; exact T_tr (by assumption) (by assumption) (by assumption) (by omega) (by omega) (by omega)))⟩
    refine L109 5 1 0 s11 ⟨(by omega), (by omega), hf_s11, hm_s11, (by first | assumption | omega), (by first | assumption | omega), (by first | assumption | omega), (by first | assumption | omega), (by first | assumption | omega), (by first | assumption | omega), (by first | assumption | omega), (by first | assumption | exact LOW_0 _ _ | exact LOW_e (LOW_0 _ _) (by assumption) | exact LOW_t (by assumption) (by assumption) (by assumption) (by omega) | exact LOW_w (by assumption) (by assumption) (by assumption) (by assumption) (by omega) | exact LOW_w rfl (by assumption) (by assumption) (by assumption) (by omega) | exact LOW_e (by assumption) (by assumption)), (by first | assumption | exact LOW_0 _ _ | exact LOW_e (LOW_0 _ _) (by assumption) | exact LOW_t (by assumption) (by assumption) (by assumption) (by omega) | exact LOW_w (by assumption) (by assumption) (by assumption) (by assumption) (by omega) | exact LOW_w rfl (by assumption) (by assumption) (by assumption) (by omega) | exact LOW_e (by assumption) (by assumption)), (by first | assumption | (intro h; exact absurd h (by omega)) | (intro _; exact PTS_0 _ _ _ _ (by omega)) | (intro _; exact T_step (by assumption) (by assumption) (by assumption) (by assumption) (by omega) (by assumption) (by assumption) (by assumption) (by omega) (by omega) (by omega) (by omega) (by omega) (by omega) (by omega)) | (intro _; exact T_tr rfl rfl (by assumption) (by omega) (by omega) (by omega)) | (intro _; exact T_tr (by assumption) (by assumption) (by assumption) (by omega) (by omega) (by omega)))⟩ (by omega) (fun v221 v222 s223 hw hq => ?_)
    obtain ⟨hq224, hq225, hf_s223, hm_s223, hq226, hq227, hq228, hq229, hq230, hq231, hq232, hq233, hq234, hq235, hq236⟩ := hq
    replace hT := gl3y hT hw
    obtain ⟨z283, hz283, hT⟩ := gl2x hT
    have j238 : ∀ (v239 : Int) (s240 : gMem), ((in32 v239) ∧ (fr [4, 5, 6, 7, 16, 17, 18, 19, 21, 22, 23, 24] s0 s240) ∧ (gMR lgM s240) ∧ (s240 4 0 = s223 4 0) ∧ (s240 7 0 = s223 7 0) ∧ (s240 24 0 = s223 24 0) ∧ (0 ≤ v239 ∧ v239 ≤ 1) ∧ (0 ≤ s240 16 0 ∧ s240 16 0 ≤ s0 4 0) ∧ (0 ≤ s240 24 0 ∧ s240 24 0 ≤ s240 16 0) ∧ (0 ≤ s240 17 0 ∧ s240 17 0 ≤ 160) ∧ ((s240 7 0 = s0 7 0) ∧ (s240 4 0 = s0 4 0)) ∧ (LOW (s0 5) (s240 5) (200 * s0 7 0)) ∧ (LOW (s0 6) (s240 6) (4 * s0 7 0)) ∧ (v239 = 1 → PTS (s240 5) (s240 6) (s0 7 0) 3 (s240 24 0))) → z283 = (v239, s240) → (fr [4, 5, 6, 7, 16, 17, 18, 19, 21, 22, 23, 24] s0 sZ) ∧ (gMR lgM sZ) ∧ (in32 rZ) ∧ (VS0 sZ) ∧ (0 ≤ sZ 4 0 ∧ sZ 4 0 ≤ 160) := by
      intro v239 s240 hq hz
      obtain ⟨hq271, hf_s240, hm_s240, hq272, hq273, hq274, hq275, hq276, hq277, hq278, hq279, hq280, hq281, hq282⟩ := hq
      replace hT := gl2y hT hz
      have hr241 := (hm_s240 7 0).1 rfl
      have hr242 := (hm_s240 24 0).1 rfl
      obtain ⟨s243, hs243, hT⟩ := glx hT
      have hf_s243 : fr [4, 5, 6, 7, 16, 17, 18, 19, 21, 22, 23, 24] s0 s243 := hs243 ▸ hf_s240.set (by decide)
      have hm_s243 : gMR lgM s243 := hs243 ▸ hm_s240.set32 rfl (by omega)
      have ht244 : s243 4 0 = s240 4 0 := by rw [hs243]; exact mset_ne _ _ _ _ _ (by decide)
      have ht245 : s243 7 0 = s240 7 0 := by rw [hs243]; exact mset_ne _ _ _ _ _ (by decide)
      have ht246 : s243 16 0 = s240 16 0 := by rw [hs243]; exact mset_ne _ _ _ _ _ (by decide)
      have ht247 : s243 17 0 = s240 17 0 := by rw [hs243]; exact mset_ne _ _ _ _ _ (by decide)
      have ht248 : s243 18 0 = s240 18 0 := by rw [hs243]; exact mset_ne _ _ _ _ _ (by decide)
      have ht249 : s243 19 0 = s240 19 0 := by rw [hs243]; exact mset_ne _ _ _ _ _ (by decide)
      have ht250 : s243 24 0 = s240 24 0 := by rw [hs243]; exact mset_ne _ _ _ _ _ (by decide)
      have htf5_s243 : s243 5 = s240 5 := (by rw [hs243]; exact mset_nf (by decide))
      obtain ⟨s251, hs251, hT⟩ := glx hT
      have hf_s251 : fr [4, 5, 6, 7, 16, 17, 18, 19, 21, 22, 23, 24] s0 s251 := hs251 ▸ hf_s243.set (by decide)
      have hm_s251 : gMR lgM s251 := hs251 ▸ hm_s243.set32 rfl (by omega)
      have ht252 : s251 4 0 = 0 := by rw [hs251]; exact mset_eq _ _ _ _
      have ht253 : s251 7 0 = s243 7 0 := by rw [hs251]; exact mset_ne _ _ _ _ _ (by decide)
      have ht254 : s251 16 0 = s243 16 0 := by rw [hs251]; exact mset_ne _ _ _ _ _ (by decide)
      have ht255 : s251 17 0 = s243 17 0 := by rw [hs251]; exact mset_ne _ _ _ _ _ (by decide)
      have ht256 : s251 18 0 = s243 18 0 := by rw [hs251]; exact mset_ne _ _ _ _ _ (by decide)
      have ht257 : s251 19 0 = s243 19 0 := by rw [hs251]; exact mset_ne _ _ _ _ _ (by decide)
      have ht258 : s251 24 0 = s243 24 0 := by rw [hs251]; exact mset_ne _ _ _ _ _ (by decide)
      have htf5_s251 : s251 5 = s240 5 := ((by rw [hs251]; exact mset_nf (by decide)) : s251 5 = s243 5).trans htf5_s243
      have htf6_s251 : s251 6 = s243 6 := (by rw [hs251]; exact mset_nf (by decide))
      by_cases h259 : v239 = 0
      · replace hT := hT.trans (if_pos h259)
        have hr260 := (hm_s251 17 0).1 rfl
        obtain ⟨rfl, rfl⟩ := Prod.mk.inj (hT.symm.trans hres)
        exact ⟨hf_s251, hm_s251, (by omega), (VS_old0 hpre0 (by assumption) (by assumption) (by assumption) (by assumption) (by assumption) (by omega) (by omega) (by rw [hf_s251 8 (by decide)])), (by first | assumption | omega)⟩
      · replace hT := hT.trans (if_neg h259)
        have hr261 := (hm_s251 7 0).1 rfl
        obtain ⟨s262, hs262, hT⟩ := glx hT
        have hf_s262 : fr [4, 5, 6, 7, 16, 17, 18, 19, 21, 22, 23, 24] s0 s262 := hs262 ▸ hf_s251.set (by decide)
        have hm_s262 : gMR lgM s262 := hs262 ▸ hm_s251.set32 rfl (by omega)
        have ht263 : s262 4 0 = s251 4 0 := by rw [hs262]; exact mset_ne _ _ _ _ _ (by decide)
        have ht264 : s262 7 0 = ((s251 7 0) + 1) := by rw [hs262]; exact mset_eq _ _ _ _
        have ht265 : s262 16 0 = s251 16 0 := by rw [hs262]; exact mset_ne _ _ _ _ _ (by decide)
        have ht266 : s262 17 0 = s251 17 0 := by rw [hs262]; exact mset_ne _ _ _ _ _ (by decide)
        have ht267 : s262 18 0 = s251 18 0 := by rw [hs262]; exact mset_ne _ _ _ _ _ (by decide)
        have ht268 : s262 19 0 = s251 19 0 := by rw [hs262]; exact mset_ne _ _ _ _ _ (by decide)
        have ht269 : s262 24 0 = s251 24 0 := by rw [hs262]; exact mset_ne _ _ _ _ _ (by decide)
        have htf5_s262 : s262 5 = s240 5 := ((by rw [hs262]; exact mset_nf (by decide)) : s262 5 = s251 5).trans htf5_s251
        have htf6_s262 : s262 6 = s243 6 := ((by rw [hs262]; exact mset_nf (by decide)) : s262 6 = s251 6).trans htf6_s251
        have hr270 := (hm_s262 7 0).1 rfl
        obtain ⟨rfl, rfl⟩ := Prod.mk.inj (hT.symm.trans hres)
        exact ⟨hf_s262, hm_s262, (by omega), (VS_new0 hpre0 (by assumption) (by assumption) (by assumption) (by assumption) (by assumption) (by assumption) (by omega) (by omega) (by omega) (by omega) (by omega) (by omega) (by omega) (by rw [hf_s262 8 (by decide)])), (by first | assumption | omega)⟩
    replace hT := hz283
    by_cases h237 : v221 = 0
    · replace hT := hT.trans (if_pos h237)
      exact j238 v221 s223 ⟨(by omega), hf_s223, hm_s223, (by first | assumption | omega), (by first | assumption | omega), (by first | assumption | omega), (by first | assumption | omega), (by first | assumption | omega), (by first | assumption | omega), (by first | assumption | omega), (by first | assumption | omega), (by first | assumption | exact LOW_0 _ _ | exact LOW_e (LOW_0 _ _) (by assumption) | exact LOW_t (by assumption) (by assumption) (by assumption) (by omega) | exact LOW_w (by assumption) (by assumption) (by assumption) (by assumption) (by omega) | exact LOW_w rfl (by assumption) (by assumption) (by assumption) (by omega) | exact LOW_e (by assumption) (by assumption)), (by first | assumption | exact LOW_0 _ _ | exact LOW_e (LOW_0 _ _) (by assumption) | exact LOW_t (by assumption) (by assumption) (by assumption) (by omega) | exact LOW_w (by assumption) (by assumption) (by assumption) (by assumption) (by omega) | exact LOW_w rfl (by assumption) (by assumption) (by assumption) (by omega) | exact LOW_e (by assumption) (by assumption)), (by first | assumption | (intro h; exact absurd h (by omega)) | (intro _; exact PTS_0 _ _ _ _ (by omega)) | (intro _; exact T_step (by assumption) (by assumption) (by assumption) (by assumption) (by omega) (by assumption) (by assumption) (by assumption) (by omega) (by omega) (by omega) (by omega) (by omega) (by omega) (by omega)) | (intro _; exact T_tr rfl rfl (by assumption) (by omega) (by omega) (by omega)) | (intro _; exact T_tr (by assumption) (by assumption) (by assumption) (by omega) (by omega) (by omega)))⟩ hT
    · replace hT := hT.trans (if_neg h237)
      obtain ⟨r285, s286, hs286⟩ : ∃ rr ss, (f_X9_next  s223) = (rr, ss) := ⟨_, _, rfl⟩
      replace hT := gby hT hs286
      have hp287 := f_X9_next_p  s223  hm_s223 (by first | assumption | omega) (by first | assumption | omega) r285 s286 hs286
      obtain ⟨hfc_s286, hm_s286, hp288, hp289, hp290, hp291, hp292⟩ := hp287
      have hf_s286 : fr [4, 5, 6, 7, 16, 17, 18, 19, 21, 22, 23, 24] s0 s286 := hf_s223.call (by decide) hfc_s286
      have htf5_s286 : s286 5 = s223 5 := hfc_s286 5 (by decide)
      have htf6_s286 : s286 6 = s223 6 := hfc_s286 6 (by decide)
      have ht293 : s286 4 0 = s223 4 0 := by rw [hfc_s286 4 (by decide)]
      have ht294 : s286 7 0 = s223 7 0 := by rw [hfc_s286 7 (by decide)]
      have ht295 : s286 24 0 = s223 24 0 := by rw [hfc_s286 24 (by decide)]
      have hr296 := (hm_s286 18 0).1 rfl
      obtain ⟨z302, hz302, hT⟩ := gl1x hT
      have j298 : ∀ (v299 : Int), ((in32 v299) ∧ (0 ≤ v299 ∧ v299 ≤ 1)) → z302 = v299 → (fr [4, 5, 6, 7, 16, 17, 18, 19, 21, 22, 23, 24] s0 sZ) ∧ (gMR lgM sZ) ∧ (in32 rZ) ∧ (VS0 sZ) ∧ (0 ≤ sZ 4 0 ∧ sZ 4 0 ≤ 160) := by
        intro v299 hq hz
        obtain ⟨hq300, hq301⟩ := hq
        replace hT := gl1y hT hz
        exact j238 v299 s286 ⟨(by omega), hf_s286, hm_s286, (by first | assumption | omega), (by first | assumption | omega), (by first | assumption | omega), (by first | assumption | omega), (by first | assumption | omega), (by first | assumption | omega), (by first | assumption | omega), (by first | assumption | omega), (by first | assumption | exact LOW_0 _ _ | exact LOW_e (LOW_0 _ _) (by assumption) | exact LOW_t (by assumption) (by assumption) (by assumption) (by omega) | exact LOW_w (by assumption) (by assumption) (by assumption) (by assumption) (by omega) | exact LOW_w rfl (by assumption) (by assumption) (by assumption) (by omega) | exact LOW_e (by assumption) (by assumption)), (by first | assumption | exact LOW_0 _ _ | exact LOW_e (LOW_0 _ _) (by assumption) | exact LOW_t (by assumption) (by assumption) (by assumption) (by omega) | exact LOW_w (by assumption) (by assumption) (by assumption) (by assumption) (by omega) | exact LOW_w rfl (by assumption) (by assumption) (by assumption) (by omega) | exact LOW_e (by assumption) (by assumption)), (by first | assumption | (intro h; exact absurd h (by omega)) | (intro _; exact PTS_0 _ _ _ _ (by omega)) | (intro _; exact T_step (by assumption) (by assumption) (by assumption) (by assumption) (by omega) (by assumption) (by assumption) (by assumption) (by omega) (by omega) (by omega) (by omega) (by omega) (by omega) (by omega)) | (intro _; exact T_tr rfl rfl (by assumption) (by omega) (by omega) (by omega)) | (intro _; exact T_tr (by assumption) (by assumption) (by assumption) (by omega) (by omega) (by omega)))⟩ hT
      replace hT := hz302
      by_cases h297 : (s286 18 0) = 0
      · replace hT := hT.trans (if_pos h297)
        exact j298 1 ⟨(by omega), (by first | assumption | omega)⟩ hT
      · replace hT := hT.trans (if_neg h297)
        exact j298 0 ⟨(by omega), (by first | assumption | omega)⟩ hT
set_option maxRecDepth 100000 in
set_option maxHeartbeats 4000000 in
theorem c_X9_text0 (l : Launch) (D : va_G) (a : Nat → Nat) (cI cJ cS cT : ClassId) (s0 : gMem)   (hpre0 : VS0 s0) (hpre1 : 0 ≤ s0 4 0 ∧ s0 4 0 ≤ 160) : gC l yX9_text cX9_text 3 (some .int) 5 320 D vwCl (gT cI cJ cS cT) (wdM a cI cJ) lgM kI in32 [.ref (a 0)] s0 (f_X9_text s0) := by
  refine gC_of (by decide +kernel) (hwdM a cI cJ) (Nat.le_of_ble_eq_true rfl) ?_
  intro A p e R s m args below meth c hR E
  subst hR
  have hT := f_X9_text_e  s0
  have hf_s0 : fr [4, 5, 6, 7, 16, 17, 18, 19, 21, 22, 23, 24] s0 s0 := fr.rf _ _
  refine k_lv0 (lv' := [(0, .ref (a 0))]) rfl ?_
  refine k_mr (fun hm_s0 => ?_)
  obtain ⟨kv1, kv2, kv3, kv4, kv5⟩ := id hpre0
  refine k_aloadn (pc := 0) E 0 dX9_text_0 rfl rfl ?_
  refine k_getfI (pc := 1) (q0 := 0) (f := 7) (k := 7) E inX9 rfl rfl (by decide) wm_905 rfl rfl rfl dX9_text_1 (fun hr1 => ?_)
  refine k_bipush (pc := 4) E dX9_text_4 (by decide) ?_
  by_cases h2 : (s0 7 0) = 6
  · replace hT := hT.trans (if_pos h2)
    refine k_icmp_ne_f (pc := 6) (tgt := 12) E (by omega) (by omega) dX9_text_6 (by decide) h2 ?_
    refine k_bipush (pc := 9) E dX9_text_9 (by decide) ?_
    exact k_rho hT (k_iret (pc := 11) E dX9_text_11 (by omega))
  · replace hT := hT.trans (if_neg h2)
    refine k_icmp_ne_t (pc := 6) (tgt := 12) E (by omega) (by omega) dX9_text_6 (by decide) h2 ?_
    refine k_aloadn (pc := 12) E 0 dX9_text_12 rfl rfl ?_
    refine k_iconst (pc := 13) E dX9_text_13 ?_
    refine k_putfI (pc := 14) (q0 := 0) (f := 16) (k := 16) E tyX9 tyX9_ok nmX9 inX9 rfl rfl (by decide) wm_914 rfl rfl rfl (Nat.le_of_ble_eq_true rfl) rfl rfl (by omega) dX9_text_14 ?_
    obtain ⟨s3, hs3, hT⟩ := glx hT
    refine k_sg hs3.symm ?_
    have hf_s3 : fr [4, 5, 6, 7, 16, 17, 18, 19, 21, 22, 23, 24] s0 s3 := hs3 ▸ hf_s0.set (by decide)
    have ht4 : s3 4 0 = s0 4 0 := by rw [hs3]; exact mset_ne _ _ _ _ _ (by decide)
    have ht5 : s3 7 0 = s0 7 0 := by rw [hs3]; exact mset_ne _ _ _ _ _ (by decide)
    have ht6 : s3 16 0 = 0 := by rw [hs3]; exact mset_eq _ _ _ _
    have ht7 : s3 17 0 = s0 17 0 := by rw [hs3]; exact mset_ne _ _ _ _ _ (by decide)
    have ht8 : s3 18 0 = s0 18 0 := by rw [hs3]; exact mset_ne _ _ _ _ _ (by decide)
    have ht9 : s3 19 0 = s0 19 0 := by rw [hs3]; exact mset_ne _ _ _ _ _ (by decide)
    have ht10 : s3 24 0 = s0 24 0 := by rw [hs3]; exact mset_ne _ _ _ _ _ (by decide)
    have htf5_s3 : s3 5 = s0 5 := (by rw [hs3]; exact mset_nf (by decide))
    have htf6_s3 : s3 6 = s0 6 := (by rw [hs3]; exact mset_nf (by decide))
    refine k_aloadn (pc := 17) E 0 dX9_text_17 rfl rfl ?_
    refine k_iconst (pc := 18) E dX9_text_18 ?_
    refine k_putfI (pc := 19) (q0 := 0) (f := 24) (k := 24) E tyX9 tyX9_ok nmX9 inX9 rfl rfl (by decide) wm_922 rfl rfl rfl (Nat.le_of_ble_eq_true rfl) rfl rfl (by omega) dX9_text_19 ?_
    obtain ⟨s11, hs11, hT⟩ := glx hT
    refine k_sg hs11.symm ?_
    have hf_s11 : fr [4, 5, 6, 7, 16, 17, 18, 19, 21, 22, 23, 24] s0 s11 := hs11 ▸ hf_s3.set (by decide)
    have ht12 : s11 4 0 = s3 4 0 := by rw [hs11]; exact mset_ne _ _ _ _ _ (by decide)
    have ht13 : s11 7 0 = s3 7 0 := by rw [hs11]; exact mset_ne _ _ _ _ _ (by decide)
    have ht14 : s11 16 0 = s3 16 0 := by rw [hs11]; exact mset_ne _ _ _ _ _ (by decide)
    have ht15 : s11 17 0 = s3 17 0 := by rw [hs11]; exact mset_ne _ _ _ _ _ (by decide)
    have ht16 : s11 18 0 = s3 18 0 := by rw [hs11]; exact mset_ne _ _ _ _ _ (by decide)
    have ht17 : s11 19 0 = s3 19 0 := by rw [hs11]; exact mset_ne _ _ _ _ _ (by decide)
    have ht18 : s11 24 0 = 0 := by rw [hs11]; exact mset_eq _ _ _ _
    have htf5_s11 : s11 5 = s0 5 := ((by rw [hs11]; exact mset_nf (by decide)) : s11 5 = s3 5).trans htf5_s3
    have htf6_s11 : s11 6 = s0 6 := ((by rw [hs11]; exact mset_nf (by decide)) : s11 6 = s3 6).trans htf6_s3
    refine k_iconst (pc := 22) E dX9_text_22 ?_
    refine k_istoren (pc := 23) (lv' := [(1, gI 1), (0, .ref (a 0))]) E dX9_text_23 rfl (by decide) rfl ?_
    refine k_iconst (pc := 24) E dX9_text_24 ?_
    refine k_istoren (pc := 25) (lv' := [(2, gI 0), (1, gI 1), (0, .ref (a 0))]) E dX9_text_25 rfl (by decide) rfl ?_
    have L109 : ∀ (n110 : Nat) (v106 : Int) (v107 : Int) (s108 : gMem), ((in32 v106) ∧ (in32 v107) ∧ (fr [4, 5, 6, 7, 16, 17, 18, 19, 21, 22, 23, 24] s0 s108) ∧ (s108 4 0 = s11 4 0) ∧ (s108 7 0 = s11 7 0) ∧ (0 ≤ v107 ∧ v107 ≤ 3) ∧ (0 ≤ v106 ∧ v106 ≤ 1) ∧ (0 ≤ s108 16 0 ∧ s108 16 0 ≤ s0 4 0) ∧ (0 ≤ s108 24 0 ∧ s108 24 0 ≤ s108 16 0) ∧ (v106 = 1 ∨ (0 ≤ s108 17 0 ∧ s108 17 0 ≤ 160)) ∧ (LOW (s0 5) (s108 5) (200 * s0 7 0)) ∧ (LOW (s0 6) (s108 6) (4 * s0 7 0)) ∧ (v106 = 1 → PTS (s108 5) (s108 6) (s0 7 0) v107 (s108 24 0))) → 3 - v107 < (n110 : Int) → (∀ (w111 : Int) (w112 : Int) (s113 : gMem), (w_X9_text_26 n110 v106 v107 s108) = (w111, w112, s113) → ((in32 w111) ∧ (in32 w112) ∧ (fr [4, 5, 6, 7, 16, 17, 18, 19, 21, 22, 23, 24] s0 s113) ∧ (s113 4 0 = s11 4 0) ∧ (s113 7 0 = s11 7 0) ∧ (0 ≤ w112 ∧ w112 ≤ 3) ∧ (0 ≤ w111 ∧ w111 ≤ 1) ∧ (0 ≤ s113 16 0 ∧ s113 16 0 ≤ s0 4 0) ∧ (0 ≤ s113 24 0 ∧ s113 24 0 ≤ s113 16 0) ∧ (w111 = 1 ∨ (0 ≤ s113 17 0 ∧ s113 17 0 ≤ 160)) ∧ (LOW (s0 5) (s113 5) (200 * s0 7 0)) ∧ (LOW (s0 6) (s113 6) (4 * s0 7 0)) ∧ (w111 = 1 → PTS (s113 5) (s113 6) (s0 7 0) w112 (s113 24 0)) ∧ (w111 = 1 → PTS (s113 5) (s113 6) (s0 7 0) 3 (s113 24 0))) → gK D vwCl (wdM a cI cJ) lgM A p l e { frames := 5, cells := 0, slots := 0, locals := 320 } s m args below meth c 3 (gQQ D vwCl (wdM a cI cJ) lgM A kI in32 below args s) (f_X9_text s0) s113 101 [(0, .ref (a 0)), (1, gI w111)] []) → gK D vwCl (wdM a cI cJ) lgM A p l e { frames := 5, cells := 0, slots := 0, locals := 320 } s m args below meth c 3 (gQQ D vwCl (wdM a cI cJ) lgM A kI in32 below args s) (f_X9_text s0) s108 26 [(0, .ref (a 0)), (1, gI v106), (2, gI v107)] [] := by
      intro n110; induction n110 with
      | zero =>
        intro v106 v107 s108 hq hm hk
        exfalso
        obtain ⟨hq197, hq198, hf_s108, hq199, hq200, hq201, hq202, hq203, hq204, hq205, hq206, hq207, hq208⟩ := hq
        omega
      | succ n110 ih =>
        intro v106 v107 s108 hq hm hk
        obtain ⟨hq209, hq210, hf_s108, hq211, hq212, hq213, hq214, hq215, hq216, hq217, hq218, hq219, hq220⟩ := hq
        have hT := w_X9_text_26_s  n110 v106 v107 s108
        refine k_iloadn (pc := 26) E 2 dX9_text_26 rfl rfl ?_
        refine k_iconst (pc := 27) E dX9_text_27 ?_
        by_cases h114 : v107 < 3
        · replace hT := hT.trans (if_pos h114)
          refine k_icmp_ge_f (pc := 28) (tgt := 101) E (by omega) (by omega) dX9_text_28 (by decide) h114 ?_
          refine k_iloadn (pc := 31) E 1 dX9_text_31 rfl rfl ?_
          by_cases h115 : v106 = 0
          · replace hT := hT.trans (if_pos h115)
            refine k_if_eq_t (pc := 32) (tgt := 101) E (by omega) dX9_text_32 (by decide) h115 ?_
            refine k_lv (lv' := [(0, .ref (a 0)), (1, gI v106)]) [0, 1] rfl ?_
            exact hk v106 v107 s108 hT ⟨(by omega), (by omega), hf_s108, (by first | assumption | omega), (by first | assumption | omega), (by first | assumption | omega), (by first | assumption | omega), (by first | assumption | omega), (by first | assumption | omega), (by first | assumption | omega), (by first | assumption | exact LOW_0 _ _ | exact LOW_e (LOW_0 _ _) (by assumption) | exact LOW_t (by assumption) (by assumption) (by assumption) (by omega) | exact LOW_w (by assumption) (by assumption) (by assumption) (by assumption) (by omega) | exact LOW_w rfl (by assumption) (by assumption) (by assumption) (by omega) | exact LOW_e (by assumption) (by assumption)), (by first | assumption | exact LOW_0 _ _ | exact LOW_e (LOW_0 _ _) (by assumption) | exact LOW_t (by assumption) (by assumption) (by assumption) (by omega) | exact LOW_w (by assumption) (by assumption) (by assumption) (by assumption) (by omega) | exact LOW_w rfl (by assumption) (by assumption) (by assumption) (by omega) | exact LOW_e (by assumption) (by assumption)), (by first | assumption | (intro h; exact absurd h (by omega)) | (intro _; exact PTS_0 _ _ _ _ (by omega)) | (intro _; exact T_step (by assumption) (by assumption) (by assumption) (by assumption) (by omega) (by assumption) (by assumption) (by assumption) (by omega) (by omega) (by omega) (by omega) (by omega) (by omega) (by omega)) | (intro _; exact T_tr rfl rfl (by assumption) (by omega) (by omega) (by omega)) | (intro _; exact T_tr (by assumption) (by assumption) (by assumption) (by omega) (by omega) (by omega))), (by first | assumption | (intro h; exact absurd h (by omega)) | (intro _; exact PTS_0 _ _ _ _ (by omega)) | (intro _; exact T_step (by assumption) (by assumption) (by assumption) (by assumption) (by omega) (by assumption) (by assumption) (by assumption) (by omega) (by omega) (by omega) (by omega) (by omega) (by omega) (by omega)) | (intro _; exact T_tr rfl rfl (by assumption) (by omega) (by omega) (by omega)) | (intro _; exact T_tr (by assumption) (by assumption) (by assumption) (by omega) (by omega) (by omega)))⟩
          · replace hT := hT.trans (if_neg h115)
            refine k_if_eq_f (pc := 32) (tgt := 101) E (by omega) dX9_text_32 (by decide) h115 ?_
            refine k_aloadn (pc := 35) E 0 dX9_text_35 rfl rfl ?_
            refine k_mr (fun hm_s108 => ?_)
            refine k_callV (pc := 36) (np := 0) (As := []) (st := []) (q0 := 0) E (c_X9_next l D a cI cJ cS cT s108  (by first | assumption | omega) (by first | assumption | omega)) wm_858 wm_11 wm_855 wm_857 wp_25 (by decide +kernel) rfl rfl ⟨by decide, by decide⟩ rfl (Nat.le_of_ble_eq_true rfl) dX9_text_36 (fun r117 s118 hs118 hr116 => ?_)
            replace hT := gby hT hs118
            have hp119 := f_X9_next_p  s108  hm_s108 (by first | assumption | omega) (by first | assumption | omega) r117 s118 hs118
            obtain ⟨hfc_s118, hm_s118, hp120, hp121, hp122, hp123, hp124⟩ := hp119
            have hf_s118 : fr [4, 5, 6, 7, 16, 17, 18, 19, 21, 22, 23, 24] s0 s118 := hf_s108.call (by decide) hfc_s118
            have htf5_s118 : s118 5 = s108 5 := hfc_s118 5 (by decide)
            have htf6_s118 : s118 6 = s108 6 := hfc_s118 6 (by decide)
            have ht125 : s118 4 0 = s108 4 0 := by rw [hfc_s118 4 (by decide)]
            have ht126 : s118 7 0 = s108 7 0 := by rw [hfc_s118 7 (by decide)]
            have ht127 : s118 24 0 = s108 24 0 := by rw [hfc_s118 24 (by decide)]
            refine k_st (st' := []) rfl ?_
            refine k_aloadn (pc := 39) E 0 dX9_text_39 rfl rfl ?_
            refine k_getfI (pc := 40) (q0 := 0) (f := 18) (k := 18) E inX9 rfl rfl (by decide) wm_916 rfl rfl rfl dX9_text_40 (fun hr128 => ?_)
            refine k_iconst (pc := 43) E dX9_text_43 ?_
            obtain ⟨j130c, hj130c, hT⟩ := gjx hT
            have j130 : (True) → (w_X9_text_26 (n110 + 1) v106 v107 s108) = j130c  → gK D vwCl (wdM a cI cJ) lgM A p l e { frames := 5, cells := 0, slots := 0, locals := 320 } s m args below meth c 3 (gQQ D vwCl (wdM a cI cJ) lgM A kI in32 below args s) (f_X9_text s0) s118 59 [(0, .ref (a 0)), (2, gI v107)] [] := by
              intro  hq hT
              rw [hj130c] at hT
              refine k_iconst (pc := 59) E dX9_text_59 ?_
              refine k_istoren (pc := 60) (lv' := [(1, gI 0), (0, .ref (a 0)), (2, gI v107)]) E dX9_text_60 rfl (by decide) rfl ?_
              refine k_aloadn (pc := 61) E 1 dX9_text_61 rfl rfl ?_
              refine k_getf (pc := 62) (q0 := 0) (f := 6) (v := .ref (a 6)) E inX9 rfl rfl (by decide) wm_904 rfl rfl dX9_text_62 ?_
              refine k_iconst (pc := 65) E dX9_text_65 ?_
              refine k_aloadn (pc := 66) E 1 dX9_text_66 rfl rfl ?_
              refine k_getfI (pc := 67) (q0 := 0) (f := 7) (k := 7) E inX9 rfl rfl (by decide) wm_905 rfl rfl rfl dX9_text_67 (fun hr131 => ?_)
              refine k_imul (pc := 70) E dX9_text_70 ?_
              refine k_iloadn (pc := 71) E 2 dX9_text_71 rfl rfl ?_
              refine k_iadd (pc := 72) E dX9_text_72 ?_
              refine k_aloadn (pc := 73) E 1 dX9_text_73 rfl rfl ?_
              refine k_getfI (pc := 74) (q0 := 0) (f := 24) (k := 24) E inX9 rfl rfl (by decide) wm_922 rfl rfl rfl dX9_text_74 (fun hr132 => ?_)
              refine k_iastore (pc := 77) (q0 := 6) (t0 := 0) (k := 6) (n := 24) E rfl rfl rfl rfl (by decide) (by omega) (by omega) (by omega) dX9_text_77 ?_
              obtain ⟨s133, hs133, hT⟩ := glx hT
              refine k_sg hs133.symm ?_
              have hf_s133 : fr [4, 5, 6, 7, 16, 17, 18, 19, 21, 22, 23, 24] s0 s133 := hs133 ▸ hf_s118.set (by decide)
              have ht134 : s133 4 0 = s118 4 0 := by rw [hs133]; exact mset_ne _ _ _ _ _ (by decide)
              have ht135 : s133 7 0 = s118 7 0 := by rw [hs133]; exact mset_ne _ _ _ _ _ (by decide)
              have ht136 : s133 16 0 = s118 16 0 := by rw [hs133]; exact mset_ne _ _ _ _ _ (by decide)
              have ht137 : s133 17 0 = s118 17 0 := by rw [hs133]; exact mset_ne _ _ _ _ _ (by decide)
              have ht138 : s133 18 0 = s118 18 0 := by rw [hs133]; exact mset_ne _ _ _ _ _ (by decide)
              have ht139 : s133 19 0 = s118 19 0 := by rw [hs133]; exact mset_ne _ _ _ _ _ (by decide)
              have ht140 : s133 24 0 = s118 24 0 := by rw [hs133]; exact mset_ne _ _ _ _ _ (by decide)
              have htf5_s133 : s133 5 = s108 5 := ((by rw [hs133]; exact mset_nf (by decide)) : s133 5 = s118 5).trans htf5_s118
              refine k_iloadn (pc := 78) E 0 dX9_text_78 rfl rfl ?_
              obtain ⟨j142c, hj142c, hT⟩ := gjx hT
              have j142 : ∀ (s143 : gMem), ((fr [4, 5, 6, 7, 16, 17, 18, 19, 21, 22, 23, 24] s0 s143) ∧ (s143 4 0 = s133 4 0) ∧ (s143 7 0 = s133 7 0) ∧ (0 ≤ s143 16 0 ∧ s143 16 0 ≤ s0 4 0) ∧ (0 ≤ s143 24 0 ∧ s143 24 0 ≤ s143 16 0) ∧ (0 ≤ s143 17 0 ∧ s143 17 0 ≤ 160) ∧ (LOW (s0 5) (s143 5) (200 * s0 7 0)) ∧ (LOW (s0 6) (s143 6) (4 * s0 7 0))) → (w_X9_text_26 (n110 + 1) v106 v107 s108) = j142c s143 → gK D vwCl (wdM a cI cJ) lgM A p l e { frames := 5, cells := 0, slots := 0, locals := 320 } s m args below meth c 3 (gQQ D vwCl (wdM a cI cJ) lgM A kI in32 below args s) (f_X9_text s0) s143 93 [(0, .ref (a 0)), (2, gI v107)] [] := by
                intro s143 hq hT
                obtain ⟨hf_s143, hq144, hq145, hq146, hq147, hq148, hq149, hq150⟩ := hq
                rw [hj142c] at hT
                refine k_iconst (pc := 93) E dX9_text_93 ?_
                refine k_istoren (pc := 94) (lv' := [(1, gI 0), (0, .ref (a 0)), (2, gI v107)]) E dX9_text_94 rfl (by decide) rfl ?_
                refine k_iinc (pc := 95) (lv' := [(2, gI (v107 + 1)), (1, gI 0), (0, .ref (a 0))]) E 2 dX9_text_95 rfl (by decide) rfl ?_
                refine k_goto (pc := 98) (tgt := 26) E dX9_text_98 (by decide) ?_
                refine k_lv (lv' := [(0, .ref (a 0)), (1, gI 0), (2, gI (v107 + 1))]) [2, 1, 0] rfl ?_
                exact ih 0 (v107 + 1) s143 ⟨(by omega), (by omega), hf_s143, (by first | assumption | omega), (by first | assumption | omega), (by first | assumption | omega), (by first | assumption | omega), (by first | assumption | omega), (by first | assumption | omega), (by first | assumption | omega), (by first | assumption | exact LOW_0 _ _ | exact LOW_e (LOW_0 _ _) (by assumption) | exact LOW_t (by assumption) (by assumption) (by assumption) (by omega) | exact LOW_w (by assumption) (by assumption) (by assumption) (by assumption) (by omega) | exact LOW_w rfl (by assumption) (by assumption) (by assumption) (by omega) | exact LOW_e (by assumption) (by assumption)), (by first | assumption | exact LOW_0 _ _ | exact LOW_e (LOW_0 _ _) (by assumption) | exact LOW_t (by assumption) (by assumption) (by assumption) (by omega) | exact LOW_w (by assumption) (by assumption) (by assumption) (by assumption) (by omega) | exact LOW_w rfl (by assumption) (by assumption) (by assumption) (by omega) | exact LOW_e (by assumption) (by assumption)), (by first | assumption | (intro h; exact absurd h (by omega)) | (intro _; exact PTS_0 _ _ _ _ (by omega)) | (intro _; exact T_step (by assumption) (by assumption) (by assumption) (by assumption) (by omega) (by assumption) (by assumption) (by assumption) (by omega) (by omega) (by omega) (by omega) (by omega) (by omega) (by omega)) | (intro _; exact T_tr rfl rfl (by assumption) (by omega) (by omega) (by omega)) | (intro _; exact T_tr (by assumption) (by assumption) (by assumption) (by omega) (by omega) (by omega)))⟩ (by omega) (fun w111 w112 s113 hw hi => hk w111 w112 s113 (hT.trans hw) hi)
              by_cases h141 : (0 : Int) = 0
              · replace hT := hT.trans (if_pos h141)
                refine k_if_eq_t (pc := 79) (tgt := 93) E (by omega) dX9_text_79 (by decide) h141 ?_
                refine k_lv (lv' := [(0, .ref (a 0)), (2, gI v107)]) [1, 2] rfl ?_
                exact j142 s133 ⟨hf_s133, (by first | assumption | omega), (by first | assumption | omega), (by first | assumption | omega), (by first | assumption | omega), (by first | assumption | omega), (by first | assumption | exact LOW_0 _ _ | exact LOW_e (LOW_0 _ _) (by assumption) | exact LOW_t (by assumption) (by assumption) (by assumption) (by omega) | exact LOW_w (by assumption) (by assumption) (by assumption) (by assumption) (by omega) | exact LOW_w rfl (by assumption) (by assumption) (by assumption) (by omega) | exact LOW_e (by assumption) (by assumption)), (by first | assumption | exact LOW_0 _ _ | exact LOW_e (LOW_0 _ _) (by assumption) | exact LOW_t (by assumption) (by assumption) (by assumption) (by omega) | exact LOW_w (by assumption) (by assumption) (by assumption) (by assumption) (by omega) | exact LOW_w rfl (by assumption) (by assumption) (by assumption) (by omega) | exact LOW_e (by assumption) (by assumption))⟩ hT
              · replace hT := hT.trans (if_neg h141)
                refine k_if_eq_f (pc := 79) (tgt := 93) E (by omega) dX9_text_79 (by decide) h141 ?_
                refine k_aloadn (pc := 82) E 1 dX9_text_82 rfl rfl ?_
                refine k_mr (fun hm_s133 => ?_)
                refine k_callV (pc := 83) (np := 0) (As := []) (st := []) (q0 := 0) E (c_X9_eRead l D a cI cJ cS cT s133  (by first | assumption | omega) (by first | assumption | omega) (by first | assumption | omega) (by first | assumption | omega)) wm_869 wm_11 wm_866 wm_868 wp_27 (by decide +kernel) rfl rfl ⟨by decide, by decide⟩ rfl (Nat.le_of_ble_eq_true rfl) dX9_text_83 (fun r152 s153 hs153 hr151 => ?_)
                replace hT := gby hT hs153
                have hp154 := f_X9_eRead_p  s133  hm_s133 (by first | assumption | omega) (by first | assumption | omega) (by first | assumption | omega) (by first | assumption | omega) r152 s153 hs153
                obtain ⟨hfc_s153, hm_s153, hp155, hp156, hp157, hp158, hp159⟩ := hp154
                have hf_s153 : fr [4, 5, 6, 7, 16, 17, 18, 19, 21, 22, 23, 24] s0 s153 := hf_s133.call (by decide) hfc_s153
                have htf6_s153 : s153 6 = s133 6 := hfc_s153 6 (by decide)
                have ht160 : s153 4 0 = s133 4 0 := by rw [hfc_s153 4 (by decide)]
                have ht161 : s153 7 0 = s133 7 0 := by rw [hfc_s153 7 (by decide)]
                refine k_st (st' := [gI r152]) rfl ?_
                by_cases h162 : r152 = 0
                · replace hT := hT.trans (if_pos h162)
                  refine k_if_eq_t (pc := 86) (tgt := 93) E (by omega) dX9_text_86 (by decide) h162 ?_
                  refine k_lv (lv' := [(0, .ref (a 0)), (2, gI v107)]) [1, 2] rfl ?_
                  exact j142 s153 ⟨hf_s153, (by first | assumption | omega), (by first | assumption | omega), (by first | assumption | omega), (by first | assumption | omega), (by first | assumption | omega), (by first | assumption | exact LOW_0 _ _ | exact LOW_e (LOW_0 _ _) (by assumption) | exact LOW_t (by assumption) (by assumption) (by assumption) (by omega) | exact LOW_w (by assumption) (by assumption) (by assumption) (by assumption) (by omega) | exact LOW_w rfl (by assumption) (by assumption) (by assumption) (by omega) | exact LOW_e (by assumption) (by assumption)), (by first | assumption | exact LOW_0 _ _ | exact LOW_e (LOW_0 _ _) (by assumption) | exact LOW_t (by assumption) (by assumption) (by assumption) (by omega) | exact LOW_w (by assumption) (by assumption) (by assumption) (by assumption) (by omega) | exact LOW_w rfl (by assumption) (by assumption) (by assumption) (by omega) | exact LOW_e (by assumption) (by assumption))⟩ hT
                · replace hT := hT.trans (if_neg h162)
                  refine k_if_eq_f (pc := 86) (tgt := 93) E (by omega) dX9_text_86 (by decide) h162 ?_
                  refine k_iconst (pc := 89) E dX9_text_89 ?_
                  refine k_goto (pc := 90) (tgt := 94) E dX9_text_90 (by decide) ?_
                  refine k_istoren (pc := 94) (lv' := [(1, gI 1), (0, .ref (a 0)), (2, gI v107)]) E dX9_text_94 rfl (by decide) rfl ?_
                  refine k_iinc (pc := 95) (lv' := [(2, gI (v107 + 1)), (1, gI 1), (0, .ref (a 0))]) E 2 dX9_text_95 rfl (by decide) rfl ?_
                  refine k_goto (pc := 98) (tgt := 26) E dX9_text_98 (by decide) ?_
                  refine k_lv (lv' := [(0, .ref (a 0)), (1, gI 1), (2, gI (v107 + 1))]) [2, 1, 0] rfl ?_
                  exact ih 1 (v107 + 1) s153 ⟨(by omega), (by omega), hf_s153, (by first | assumption | omega), (by first | assumption | omega), (by first | assumption | omega), (by first | assumption | omega), (by first | assumption | omega), (by first | assumption | omega), (by first | assumption | omega), (by first | assumption | exact LOW_0 _ _ | exact LOW_e (LOW_0 _ _) (by assumption) | exact LOW_t (by assumption) (by assumption) (by assumption) (by omega) | exact LOW_w (by assumption) (by assumption) (by assumption) (by assumption) (by omega) | exact LOW_w rfl (by assumption) (by assumption) (by assumption) (by omega) | exact LOW_e (by assumption) (by assumption)), (by first | assumption | exact LOW_0 _ _ | exact LOW_e (LOW_0 _ _) (by assumption) | exact LOW_t (by assumption) (by assumption) (by assumption) (by omega) | exact LOW_w (by assumption) (by assumption) (by assumption) (by assumption) (by omega) | exact LOW_w rfl (by assumption) (by assumption) (by assumption) (by omega) | exact LOW_e (by assumption) (by assumption)), (by first | assumption | (intro h; exact absurd h (by omega)) | (intro _; exact PTS_0 _ _ _ _ (by omega)) | (intro _; exact T_step (by assumption) (by assumption) (by assumption) (by assumption) (by omega) (by assumption) (by assumption) (by assumption) (by omega) (by omega) (by omega) (by omega) (by omega) (by omega) (by omega)) | (intro _; exact T_tr rfl rfl (by assumption) (by omega) (by omega) (by omega)) | (intro _; exact T_tr (by assumption) (by assumption) (by assumption) (by omega) (by omega) (by omega)))⟩ (by omega) (fun w111 w112 s113 hw hi => hk w111 w112 s113 (hT.trans hw) hi)
            by_cases h129 : (s118 18 0) = 3
            · replace hT := hT.trans (if_pos h129)
              refine k_icmp_ne_f (pc := 44) (tgt := 59) E (by omega) (by omega) dX9_text_44 (by decide) h129 ?_
              refine k_aloadn (pc := 47) E 0 dX9_text_47 rfl rfl ?_
              refine k_getfI (pc := 48) (q0 := 0) (f := 19) (k := 19) E inX9 rfl rfl (by decide) wm_917 rfl rfl rfl dX9_text_48 (fun hr163 => ?_)
              refine k_iloadn (pc := 51) E 2 dX9_text_51 rfl rfl ?_
              by_cases h164 : (s118 19 0) = v107
              · replace hT := hT.trans (if_pos h164)
                refine k_icmp_ne_f (pc := 52) (tgt := 59) E (by omega) (by omega) dX9_text_52 (by decide) h164 ?_
                refine k_iconst (pc := 55) E dX9_text_55 ?_
                refine k_goto (pc := 56) (tgt := 60) E dX9_text_56 (by decide) ?_
                refine k_istoren (pc := 60) (lv' := [(1, gI 1), (0, .ref (a 0)), (2, gI v107)]) E dX9_text_60 rfl (by decide) rfl ?_
                refine k_aloadn (pc := 61) E 1 dX9_text_61 rfl rfl ?_
                refine k_getf (pc := 62) (q0 := 0) (f := 6) (v := .ref (a 6)) E inX9 rfl rfl (by decide) wm_904 rfl rfl dX9_text_62 ?_
                refine k_iconst (pc := 65) E dX9_text_65 ?_
                refine k_aloadn (pc := 66) E 1 dX9_text_66 rfl rfl ?_
                refine k_getfI (pc := 67) (q0 := 0) (f := 7) (k := 7) E inX9 rfl rfl (by decide) wm_905 rfl rfl rfl dX9_text_67 (fun hr165 => ?_)
                refine k_imul (pc := 70) E dX9_text_70 ?_
                refine k_iloadn (pc := 71) E 2 dX9_text_71 rfl rfl ?_
                refine k_iadd (pc := 72) E dX9_text_72 ?_
                refine k_aloadn (pc := 73) E 1 dX9_text_73 rfl rfl ?_
                refine k_getfI (pc := 74) (q0 := 0) (f := 24) (k := 24) E inX9 rfl rfl (by decide) wm_922 rfl rfl rfl dX9_text_74 (fun hr166 => ?_)
                refine k_iastore (pc := 77) (q0 := 6) (t0 := 0) (k := 6) (n := 24) E rfl rfl rfl rfl (by decide) (by omega) (by omega) (by omega) dX9_text_77 ?_
                obtain ⟨s167, hs167, hT⟩ := glx hT
                refine k_sg hs167.symm ?_
                have hf_s167 : fr [4, 5, 6, 7, 16, 17, 18, 19, 21, 22, 23, 24] s0 s167 := hs167 ▸ hf_s118.set (by decide)
                have ht168 : s167 4 0 = s118 4 0 := by rw [hs167]; exact mset_ne _ _ _ _ _ (by decide)
                have ht169 : s167 7 0 = s118 7 0 := by rw [hs167]; exact mset_ne _ _ _ _ _ (by decide)
                have ht170 : s167 16 0 = s118 16 0 := by rw [hs167]; exact mset_ne _ _ _ _ _ (by decide)
                have ht171 : s167 17 0 = s118 17 0 := by rw [hs167]; exact mset_ne _ _ _ _ _ (by decide)
                have ht172 : s167 18 0 = s118 18 0 := by rw [hs167]; exact mset_ne _ _ _ _ _ (by decide)
                have ht173 : s167 19 0 = s118 19 0 := by rw [hs167]; exact mset_ne _ _ _ _ _ (by decide)
                have ht174 : s167 24 0 = s118 24 0 := by rw [hs167]; exact mset_ne _ _ _ _ _ (by decide)
                have htf5_s167 : s167 5 = s108 5 := ((by rw [hs167]; exact mset_nf (by decide)) : s167 5 = s118 5).trans htf5_s118
                refine k_iloadn (pc := 78) E 0 dX9_text_78 rfl rfl ?_
                obtain ⟨j176c, hj176c, hT⟩ := gjx hT
                have j176 : ∀ (s177 : gMem), ((fr [4, 5, 6, 7, 16, 17, 18, 19, 21, 22, 23, 24] s0 s177) ∧ (s177 4 0 = s167 4 0) ∧ (s177 7 0 = s167 7 0) ∧ (0 ≤ s177 16 0 ∧ s177 16 0 ≤ s0 4 0) ∧ (0 ≤ s177 24 0 ∧ s177 24 0 ≤ s177 16 0) ∧ (0 ≤ s177 17 0 ∧ s177 17 0 ≤ 160) ∧ (LOW (s0 5) (s177 5) (200 * s0 7 0)) ∧ (LOW (s0 6) (s177 6) (4 * s0 7 0))) → (w_X9_text_26 (n110 + 1) v106 v107 s108) = j176c s177 → gK D vwCl (wdM a cI cJ) lgM A p l e { frames := 5, cells := 0, slots := 0, locals := 320 } s m args below meth c 3 (gQQ D vwCl (wdM a cI cJ) lgM A kI in32 below args s) (f_X9_text s0) s177 93 [(0, .ref (a 0)), (2, gI v107)] [] := by
                  intro s177 hq hT
                  obtain ⟨hf_s177, hq178, hq179, hq180, hq181, hq182, hq183, hq184⟩ := hq
                  rw [hj176c] at hT
                  refine k_iconst (pc := 93) E dX9_text_93 ?_
                  refine k_istoren (pc := 94) (lv' := [(1, gI 0), (0, .ref (a 0)), (2, gI v107)]) E dX9_text_94 rfl (by decide) rfl ?_
                  refine k_iinc (pc := 95) (lv' := [(2, gI (v107 + 1)), (1, gI 0), (0, .ref (a 0))]) E 2 dX9_text_95 rfl (by decide) rfl ?_
                  refine k_goto (pc := 98) (tgt := 26) E dX9_text_98 (by decide) ?_
                  refine k_lv (lv' := [(0, .ref (a 0)), (1, gI 0), (2, gI (v107 + 1))]) [2, 1, 0] rfl ?_
                  exact ih 0 (v107 + 1) s177 ⟨(by omega), (by omega), hf_s177, (by first | assumption | omega), (by first | assumption | omega), (by first | assumption | omega), (by first | assumption | omega), (by first | assumption | omega), (by first | assumption | omega), (by first | assumption | omega), (by first | assumption | exact LOW_0 _ _ | exact LOW_e (LOW_0 _ _) (by assumption) | exact LOW_t (by assumption) (by assumption) (by assumption) (by omega) | exact LOW_w (by assumption) (by assumption) (by assumption) (by assumption) (by omega) | exact LOW_w rfl (by assumption) (by assumption) (by assumption) (by omega) | exact LOW_e (by assumption) (by assumption)), (by first | assumption | exact LOW_0 _ _ | exact LOW_e (LOW_0 _ _) (by assumption) | exact LOW_t (by assumption) (by assumption) (by assumption) (by omega) | exact LOW_w (by assumption) (by assumption) (by assumption) (by assumption) (by omega) | exact LOW_w rfl (by assumption) (by assumption) (by assumption) (by omega) | exact LOW_e (by assumption) (by assumption)), (by first | assumption | (intro h; exact absurd h (by omega)) | (intro _; exact PTS_0 _ _ _ _ (by omega)) | (intro _; exact T_step (by assumption) (by assumption) (by assumption) (by assumption) (by omega) (by assumption) (by assumption) (by assumption) (by omega) (by omega) (by omega) (by omega) (by omega) (by omega) (by omega)) | (intro _; exact T_tr rfl rfl (by assumption) (by omega) (by omega) (by omega)) | (intro _; exact T_tr (by assumption) (by assumption) (by assumption) (by omega) (by omega) (by omega)))⟩ (by omega) (fun w111 w112 s113 hw hi => hk w111 w112 s113 (hT.trans hw) hi)
                by_cases h175 : (1 : Int) = 0
                · replace hT := hT.trans (if_pos h175)
                  refine k_if_eq_t (pc := 79) (tgt := 93) E (by omega) dX9_text_79 (by decide) h175 ?_
                  refine k_lv (lv' := [(0, .ref (a 0)), (2, gI v107)]) [1, 2] rfl ?_
                  exact j176 s167 ⟨hf_s167, (by first | assumption | omega), (by first | assumption | omega), (by first | assumption | omega), (by first | assumption | omega), (by first | assumption | omega), (by first | assumption | exact LOW_0 _ _ | exact LOW_e (LOW_0 _ _) (by assumption) | exact LOW_t (by assumption) (by assumption) (by assumption) (by omega) | exact LOW_w (by assumption) (by assumption) (by assumption) (by assumption) (by omega) | exact LOW_w rfl (by assumption) (by assumption) (by assumption) (by omega) | exact LOW_e (by assumption) (by assumption)), (by first | assumption | exact LOW_0 _ _ | exact LOW_e (LOW_0 _ _) (by assumption) | exact LOW_t (by assumption) (by assumption) (by assumption) (by omega) | exact LOW_w (by assumption) (by assumption) (by assumption) (by assumption) (by omega) | exact LOW_w rfl (by assumption) (by assumption) (by assumption) (by omega) | exact LOW_e (by assumption) (by assumption))⟩ hT
                · replace hT := hT.trans (if_neg h175)
                  refine k_if_eq_f (pc := 79) (tgt := 93) E (by omega) dX9_text_79 (by decide) h175 ?_
                  refine k_aloadn (pc := 82) E 1 dX9_text_82 rfl rfl ?_
                  refine k_mr (fun hm_s167 => ?_)
                  refine k_callV (pc := 83) (np := 0) (As := []) (st := []) (q0 := 0) E (c_X9_eRead l D a cI cJ cS cT s167  (by first | assumption | omega) (by first | assumption | omega) (by first | assumption | omega) (by first | assumption | omega)) wm_869 wm_11 wm_866 wm_868 wp_27 (by decide +kernel) rfl rfl ⟨by decide, by decide⟩ rfl (Nat.le_of_ble_eq_true rfl) dX9_text_83 (fun r186 s187 hs187 hr185 => ?_)
                  replace hT := gby hT hs187
                  have hp188 := f_X9_eRead_p  s167  hm_s167 (by first | assumption | omega) (by first | assumption | omega) (by first | assumption | omega) (by first | assumption | omega) r186 s187 hs187
                  obtain ⟨hfc_s187, hm_s187, hp189, hp190, hp191, hp192, hp193⟩ := hp188
                  have hf_s187 : fr [4, 5, 6, 7, 16, 17, 18, 19, 21, 22, 23, 24] s0 s187 := hf_s167.call (by decide) hfc_s187
                  have htf6_s187 : s187 6 = s167 6 := hfc_s187 6 (by decide)
                  have ht194 : s187 4 0 = s167 4 0 := by rw [hfc_s187 4 (by decide)]
                  have ht195 : s187 7 0 = s167 7 0 := by rw [hfc_s187 7 (by decide)]
                  refine k_st (st' := [gI r186]) rfl ?_
                  by_cases h196 : r186 = 0
                  · replace hT := hT.trans (if_pos h196)
                    refine k_if_eq_t (pc := 86) (tgt := 93) E (by omega) dX9_text_86 (by decide) h196 ?_
                    refine k_lv (lv' := [(0, .ref (a 0)), (2, gI v107)]) [1, 2] rfl ?_
                    exact j176 s187 ⟨hf_s187, (by first | assumption | omega), (by first | assumption | omega), (by first | assumption | omega), (by first | assumption | omega), (by first | assumption | omega), (by first | assumption | exact LOW_0 _ _ | exact LOW_e (LOW_0 _ _) (by assumption) | exact LOW_t (by assumption) (by assumption) (by assumption) (by omega) | exact LOW_w (by assumption) (by assumption) (by assumption) (by assumption) (by omega) | exact LOW_w rfl (by assumption) (by assumption) (by assumption) (by omega) | exact LOW_e (by assumption) (by assumption)), (by first | assumption | exact LOW_0 _ _ | exact LOW_e (LOW_0 _ _) (by assumption) | exact LOW_t (by assumption) (by assumption) (by assumption) (by omega) | exact LOW_w (by assumption) (by assumption) (by assumption) (by assumption) (by omega) | exact LOW_w rfl (by assumption) (by assumption) (by assumption) (by omega) | exact LOW_e (by assumption) (by assumption))⟩ hT
                  · replace hT := hT.trans (if_neg h196)
                    refine k_if_eq_f (pc := 86) (tgt := 93) E (by omega) dX9_text_86 (by decide) h196 ?_
                    refine k_iconst (pc := 89) E dX9_text_89 ?_
                    refine k_goto (pc := 90) (tgt := 94) E dX9_text_90 (by decide) ?_
                    refine k_istoren (pc := 94) (lv' := [(1, gI 1), (0, .ref (a 0)), (2, gI v107)]) E dX9_text_94 rfl (by decide) rfl ?_
                    refine k_iinc (pc := 95) (lv' := [(2, gI (v107 + 1)), (1, gI 1), (0, .ref (a 0))]) E 2 dX9_text_95 rfl (by decide) rfl ?_
                    refine k_goto (pc := 98) (tgt := 26) E dX9_text_98 (by decide) ?_
                    refine k_lv (lv' := [(0, .ref (a 0)), (1, gI 1), (2, gI (v107 + 1))]) [2, 1, 0] rfl ?_
                    exact ih 1 (v107 + 1) s187 ⟨(by omega), (by omega), hf_s187, (by first | assumption | omega), (by first | assumption | omega), (by first | assumption | omega), (by first | assumption | omega), (by first | assumption | omega), (by first | assumption | omega), (by first | assumption | omega), (by first | assumption | exact LOW_0 _ _ | exact LOW_e (LOW_0 _ _) (by assumption) | exact LOW_t (by assumption) (by assumption) (by assumption) (by omega) | exact LOW_w (by assumption) (by assumption) (by assumption) (by assumption) (by omega) | exact LOW_w rfl (by assumption) (by assumption) (by assumption) (by omega) | exact LOW_e (by assumption) (by assumption)), (by first | assumption | exact LOW_0 _ _ | exact LOW_e (LOW_0 _ _) (by assumption) | exact LOW_t (by assumption) (by assumption) (by assumption) (by omega) | exact LOW_w (by assumption) (by assumption) (by assumption) (by assumption) (by omega) | exact LOW_w rfl (by assumption) (by assumption) (by assumption) (by omega) | exact LOW_e (by assumption) (by assumption)), (by first | assumption | (intro h; exact absurd h (by omega)) | (intro _; exact PTS_0 _ _ _ _ (by omega)) | (intro _; exact T_step (by assumption) (by assumption) (by assumption) (by assumption) (by omega) (by assumption) (by assumption) (by assumption) (by omega) (by omega) (by omega) (by omega) (by omega) (by omega) (by omega)) | (intro _; exact T_tr rfl rfl (by assumption) (by omega) (by omega) (by omega)) | (intro _; exact T_tr (by assumption) (by assumption) (by assumption) (by omega) (by omega) (by omega)))⟩ (by omega) (fun w111 w112 s113 hw hi => hk w111 w112 s113 (hT.trans hw) hi)
              · replace hT := hT.trans (if_neg h164)
                refine k_icmp_ne_t (pc := 52) (tgt := 59) E (by omega) (by omega) dX9_text_52 (by decide) h164 ?_
                refine k_lv (lv' := [(0, .ref (a 0)), (2, gI v107)]) [0, 2] rfl ?_
                exact j130  trivial hT
            · replace hT := hT.trans (if_neg h129)
              refine k_icmp_ne_t (pc := 44) (tgt := 59) E (by omega) (by omega) dX9_text_44 (by decide) h129 ?_
              refine k_lv (lv' := [(0, .ref (a 0)), (2, gI v107)]) [0, 2] rfl ?_
              exact j130  trivial hT
        · replace hT := hT.trans (if_neg h114)
          refine k_icmp_ge_t (pc := 28) (tgt := 101) E (by omega) (by omega) dX9_text_28 (by decide) h114 ?_
          refine k_lv (lv' := [(0, .ref (a 0)), (1, gI v106)]) [0, 1] rfl ?_
          exact hk v106 v107 s108 hT ⟨(by omega), (by omega), hf_s108, (by first | assumption | omega), (by first | assumption | omega), (by first | assumption | omega), (by first | assumption | omega), (by first | assumption | omega), (by first | assumption | omega), (by first | assumption | omega), (by first | assumption | exact LOW_0 _ _ | exact LOW_e (LOW_0 _ _) (by assumption) | exact LOW_t (by assumption) (by assumption) (by assumption) (by omega) | exact LOW_w (by assumption) (by assumption) (by assumption) (by assumption) (by omega) | exact LOW_w rfl (by assumption) (by assumption) (by assumption) (by omega) | exact LOW_e (by assumption) (by assumption)), (by first | assumption | exact LOW_0 _ _ | exact LOW_e (LOW_0 _ _) (by assumption) | exact LOW_t (by assumption) (by assumption) (by assumption) (by omega) | exact LOW_w (by assumption) (by assumption) (by assumption) (by assumption) (by omega) | exact LOW_w rfl (by assumption) (by assumption) (by assumption) (by omega) | exact LOW_e (by assumption) (by assumption)), (by first | assumption | (intro h; exact absurd h (by omega)) | (intro _; exact PTS_0 _ _ _ _ (by omega)) | (intro _; exact T_step (by assumption) (by assumption) (by assumption) (by assumption) (by omega) (by assumption) (by assumption) (by assumption) (by omega) (by omega) (by omega) (by omega) (by omega) (by omega) (by omega)) | (intro _; exact T_tr rfl rfl (by assumption) (by omega) (by omega) (by omega)) | (intro _; exact T_tr (by assumption) (by assumption) (by assumption) (by omega) (by omega) (by omega))), (by first | assumption | (intro h; exact absurd h (by omega)) | (intro _; exact PTS_0 _ _ _ _ (by omega)) | (intro _; exact T_step (by assumption) (by assumption) (by assumption) (by assumption) (by omega) (by assumption) (by assumption) (by assumption) (by omega) (by omega) (by omega) (by omega) (by omega) (by omega) (by omega)) | (intro _; exact T_tr rfl rfl (by assumption) (by omega) (by omega) (by omega)) | (intro _; exact T_tr (by assumption) (by assumption) (by assumption) (by omega) (by omega) (by omega)))⟩
    refine k_lv (lv' := [(0, .ref (a 0)), (1, gI 1), (2, gI 0)]) [2, 1, 0] rfl ?_
    refine L109 5 1 0 s11 ⟨(by omega), (by omega), hf_s11, (by first | assumption | omega), (by first | assumption | omega), (by first | assumption | omega), (by first | assumption | omega), (by first | assumption | omega), (by first | assumption | omega), (by first | assumption | omega), (by first | assumption | exact LOW_0 _ _ | exact LOW_e (LOW_0 _ _) (by assumption) | exact LOW_t (by assumption) (by assumption) (by assumption) (by omega) | exact LOW_w (by assumption) (by assumption) (by assumption) (by assumption) (by omega) | exact LOW_w rfl (by assumption) (by assumption) (by assumption) (by omega) | exact LOW_e (by assumption) (by assumption)), (by first | assumption | exact LOW_0 _ _ | exact LOW_e (LOW_0 _ _) (by assumption) | exact LOW_t (by assumption) (by assumption) (by assumption) (by omega) | exact LOW_w (by assumption) (by assumption) (by assumption) (by assumption) (by omega) | exact LOW_w rfl (by assumption) (by assumption) (by assumption) (by omega) | exact LOW_e (by assumption) (by assumption)), (by first | assumption | (intro h; exact absurd h (by omega)) | (intro _; exact PTS_0 _ _ _ _ (by omega)) | (intro _; exact T_step (by assumption) (by assumption) (by assumption) (by assumption) (by omega) (by assumption) (by assumption) (by assumption) (by omega) (by omega) (by omega) (by omega) (by omega) (by omega) (by omega)) | (intro _; exact T_tr rfl rfl (by assumption) (by omega) (by omega) (by omega)) | (intro _; exact T_tr (by assumption) (by assumption) (by assumption) (by omega) (by omega) (by omega)))⟩ (by omega) (fun v221 v222 s223 hw hq => ?_)
    obtain ⟨hq224, hq225, hf_s223, hq226, hq227, hq228, hq229, hq230, hq231, hq232, hq233, hq234, hq235, hq236⟩ := hq
    replace hT := gl3y hT hw
    refine k_iloadn (pc := 101) E 1 dX9_text_101 rfl rfl ?_
    obtain ⟨z283, hz283, hT⟩ := gl2x hT
    have j238 : ∀ (v239 : Int) (s240 : gMem), ((in32 v239) ∧ (fr [4, 5, 6, 7, 16, 17, 18, 19, 21, 22, 23, 24] s0 s240) ∧ (s240 4 0 = s223 4 0) ∧ (s240 7 0 = s223 7 0) ∧ (s240 24 0 = s223 24 0) ∧ (0 ≤ v239 ∧ v239 ≤ 1) ∧ (0 ≤ s240 16 0 ∧ s240 16 0 ≤ s0 4 0) ∧ (0 ≤ s240 24 0 ∧ s240 24 0 ≤ s240 16 0) ∧ (0 ≤ s240 17 0 ∧ s240 17 0 ≤ 160) ∧ ((s240 7 0 = s0 7 0) ∧ (s240 4 0 = s0 4 0)) ∧ (LOW (s0 5) (s240 5) (200 * s0 7 0)) ∧ (LOW (s0 6) (s240 6) (4 * s0 7 0)) ∧ (v239 = 1 → PTS (s240 5) (s240 6) (s0 7 0) 3 (s240 24 0))) → z283 = (v239, s240) → gK D vwCl (wdM a cI cJ) lgM A p l e { frames := 5, cells := 0, slots := 0, locals := 320 } s m args below meth c 3 (gQQ D vwCl (wdM a cI cJ) lgM A kI in32 below args s) (f_X9_text s0) s240 122 [(0, .ref (a 0)), (1, gI v239)] [] := by
      intro v239 s240 hq hz
      obtain ⟨hq271, hf_s240, hq272, hq273, hq274, hq275, hq276, hq277, hq278, hq279, hq280, hq281, hq282⟩ := hq
      replace hT := gl2y hT hz
      refine k_aloadn (pc := 122) E 0 dX9_text_122 rfl rfl ?_
      refine k_getf (pc := 123) (q0 := 0) (f := 6) (v := .ref (a 6)) E inX9 rfl rfl (by decide) wm_904 rfl rfl dX9_text_123 ?_
      refine k_iconst (pc := 126) E dX9_text_126 ?_
      refine k_aloadn (pc := 127) E 0 dX9_text_127 rfl rfl ?_
      refine k_getfI (pc := 128) (q0 := 0) (f := 7) (k := 7) E inX9 rfl rfl (by decide) wm_905 rfl rfl rfl dX9_text_128 (fun hr241 => ?_)
      refine k_imul (pc := 131) E dX9_text_131 ?_
      refine k_iconst (pc := 132) E dX9_text_132 ?_
      refine k_iadd (pc := 133) E dX9_text_133 ?_
      refine k_aloadn (pc := 134) E 0 dX9_text_134 rfl rfl ?_
      refine k_getfI (pc := 135) (q0 := 0) (f := 24) (k := 24) E inX9 rfl rfl (by decide) wm_922 rfl rfl rfl dX9_text_135 (fun hr242 => ?_)
      refine k_iastore (pc := 138) (q0 := 6) (t0 := 0) (k := 6) (n := 24) E rfl rfl rfl rfl (by decide) (by omega) (by omega) (by omega) dX9_text_138 ?_
      obtain ⟨s243, hs243, hT⟩ := glx hT
      refine k_sg hs243.symm ?_
      have hf_s243 : fr [4, 5, 6, 7, 16, 17, 18, 19, 21, 22, 23, 24] s0 s243 := hs243 ▸ hf_s240.set (by decide)
      have ht244 : s243 4 0 = s240 4 0 := by rw [hs243]; exact mset_ne _ _ _ _ _ (by decide)
      have ht245 : s243 7 0 = s240 7 0 := by rw [hs243]; exact mset_ne _ _ _ _ _ (by decide)
      have ht246 : s243 16 0 = s240 16 0 := by rw [hs243]; exact mset_ne _ _ _ _ _ (by decide)
      have ht247 : s243 17 0 = s240 17 0 := by rw [hs243]; exact mset_ne _ _ _ _ _ (by decide)
      have ht248 : s243 18 0 = s240 18 0 := by rw [hs243]; exact mset_ne _ _ _ _ _ (by decide)
      have ht249 : s243 19 0 = s240 19 0 := by rw [hs243]; exact mset_ne _ _ _ _ _ (by decide)
      have ht250 : s243 24 0 = s240 24 0 := by rw [hs243]; exact mset_ne _ _ _ _ _ (by decide)
      have htf5_s243 : s243 5 = s240 5 := (by rw [hs243]; exact mset_nf (by decide))
      refine k_aloadn (pc := 139) E 0 dX9_text_139 rfl rfl ?_
      refine k_iconst (pc := 140) E dX9_text_140 ?_
      refine k_putfI (pc := 141) (q0 := 0) (f := 4) (k := 4) E tyX9 tyX9_ok nmX9 inX9 rfl rfl (by decide) wm_902 rfl rfl rfl (Nat.le_of_ble_eq_true rfl) rfl rfl (by omega) dX9_text_141 ?_
      obtain ⟨s251, hs251, hT⟩ := glx hT
      refine k_sg hs251.symm ?_
      have hf_s251 : fr [4, 5, 6, 7, 16, 17, 18, 19, 21, 22, 23, 24] s0 s251 := hs251 ▸ hf_s243.set (by decide)
      have ht252 : s251 4 0 = 0 := by rw [hs251]; exact mset_eq _ _ _ _
      have ht253 : s251 7 0 = s243 7 0 := by rw [hs251]; exact mset_ne _ _ _ _ _ (by decide)
      have ht254 : s251 16 0 = s243 16 0 := by rw [hs251]; exact mset_ne _ _ _ _ _ (by decide)
      have ht255 : s251 17 0 = s243 17 0 := by rw [hs251]; exact mset_ne _ _ _ _ _ (by decide)
      have ht256 : s251 18 0 = s243 18 0 := by rw [hs251]; exact mset_ne _ _ _ _ _ (by decide)
      have ht257 : s251 19 0 = s243 19 0 := by rw [hs251]; exact mset_ne _ _ _ _ _ (by decide)
      have ht258 : s251 24 0 = s243 24 0 := by rw [hs251]; exact mset_ne _ _ _ _ _ (by decide)
      have htf5_s251 : s251 5 = s240 5 := ((by rw [hs251]; exact mset_nf (by decide)) : s251 5 = s243 5).trans htf5_s243
      have htf6_s251 : s251 6 = s243 6 := (by rw [hs251]; exact mset_nf (by decide))
      refine k_iloadn (pc := 144) E 1 dX9_text_144 rfl rfl ?_
      by_cases h259 : v239 = 0
      · replace hT := hT.trans (if_pos h259)
        refine k_if_ne_f (pc := 145) (tgt := 156) E (by omega) dX9_text_145 (by decide) h259 ?_
        refine k_bipush (pc := 148) E dX9_text_148 (by decide) ?_
        refine k_aloadn (pc := 150) E 0 dX9_text_150 rfl rfl ?_
        refine k_getfI (pc := 151) (q0 := 0) (f := 17) (k := 17) E inX9 rfl rfl (by decide) wm_915 rfl rfl rfl dX9_text_151 (fun hr260 => ?_)
        refine k_isub (pc := 154) E dX9_text_154 ?_
        exact k_rho hT (k_iret (pc := 155) E dX9_text_155 (by omega))
      · replace hT := hT.trans (if_neg h259)
        refine k_if_ne_t (pc := 145) (tgt := 156) E (by omega) dX9_text_145 (by decide) h259 ?_
        refine k_aloadn (pc := 156) E 0 dX9_text_156 rfl rfl ?_
        refine k_dup (pc := 157) E dX9_text_157 rfl ?_
        refine k_getfI (pc := 158) (q0 := 0) (f := 7) (k := 7) E inX9 rfl rfl (by decide) wm_905 rfl rfl rfl dX9_text_158 (fun hr261 => ?_)
        refine k_iconst (pc := 161) E dX9_text_161 ?_
        refine k_iadd (pc := 162) E dX9_text_162 ?_
        refine k_putfI (pc := 163) (q0 := 0) (f := 7) (k := 7) E tyX9 tyX9_ok nmX9 inX9 rfl rfl (by decide) wm_905 rfl rfl rfl (Nat.le_of_ble_eq_true rfl) rfl rfl (by omega) dX9_text_163 ?_
        obtain ⟨s262, hs262, hT⟩ := glx hT
        refine k_sg hs262.symm ?_
        have hf_s262 : fr [4, 5, 6, 7, 16, 17, 18, 19, 21, 22, 23, 24] s0 s262 := hs262 ▸ hf_s251.set (by decide)
        have ht263 : s262 4 0 = s251 4 0 := by rw [hs262]; exact mset_ne _ _ _ _ _ (by decide)
        have ht264 : s262 7 0 = ((s251 7 0) + 1) := by rw [hs262]; exact mset_eq _ _ _ _
        have ht265 : s262 16 0 = s251 16 0 := by rw [hs262]; exact mset_ne _ _ _ _ _ (by decide)
        have ht266 : s262 17 0 = s251 17 0 := by rw [hs262]; exact mset_ne _ _ _ _ _ (by decide)
        have ht267 : s262 18 0 = s251 18 0 := by rw [hs262]; exact mset_ne _ _ _ _ _ (by decide)
        have ht268 : s262 19 0 = s251 19 0 := by rw [hs262]; exact mset_ne _ _ _ _ _ (by decide)
        have ht269 : s262 24 0 = s251 24 0 := by rw [hs262]; exact mset_ne _ _ _ _ _ (by decide)
        have htf5_s262 : s262 5 = s240 5 := ((by rw [hs262]; exact mset_nf (by decide)) : s262 5 = s251 5).trans htf5_s251
        have htf6_s262 : s262 6 = s243 6 := ((by rw [hs262]; exact mset_nf (by decide)) : s262 6 = s251 6).trans htf6_s251
        refine k_aloadn (pc := 166) E 0 dX9_text_166 rfl rfl ?_
        refine k_getfI (pc := 167) (q0 := 0) (f := 7) (k := 7) E inX9 rfl rfl (by decide) wm_905 rfl rfl rfl dX9_text_167 (fun hr270 => ?_)
        refine k_iconst (pc := 170) E dX9_text_170 ?_
        refine k_isub (pc := 171) E dX9_text_171 ?_
        exact k_rho hT (k_iret (pc := 172) E dX9_text_172 (by omega))
    replace hT := hz283
    by_cases h237 : v221 = 0
    · replace hT := hT.trans (if_pos h237)
      refine k_if_eq_t (pc := 102) (tgt := 122) E (by omega) dX9_text_102 (by decide) h237 ?_
      exact j238 v221 s223 ⟨(by omega), hf_s223, (by first | assumption | omega), (by first | assumption | omega), (by first | assumption | omega), (by first | assumption | omega), (by first | assumption | omega), (by first | assumption | omega), (by first | assumption | omega), (by first | assumption | omega), (by first | assumption | exact LOW_0 _ _ | exact LOW_e (LOW_0 _ _) (by assumption) | exact LOW_t (by assumption) (by assumption) (by assumption) (by omega) | exact LOW_w (by assumption) (by assumption) (by assumption) (by assumption) (by omega) | exact LOW_w rfl (by assumption) (by assumption) (by assumption) (by omega) | exact LOW_e (by assumption) (by assumption)), (by first | assumption | exact LOW_0 _ _ | exact LOW_e (LOW_0 _ _) (by assumption) | exact LOW_t (by assumption) (by assumption) (by assumption) (by omega) | exact LOW_w (by assumption) (by assumption) (by assumption) (by assumption) (by omega) | exact LOW_w rfl (by assumption) (by assumption) (by assumption) (by omega) | exact LOW_e (by assumption) (by assumption)), (by first | assumption | (intro h; exact absurd h (by omega)) | (intro _; exact PTS_0 _ _ _ _ (by omega)) | (intro _; exact T_step (by assumption) (by assumption) (by assumption) (by assumption) (by omega) (by assumption) (by assumption) (by assumption) (by omega) (by omega) (by omega) (by omega) (by omega) (by omega) (by omega)) | (intro _; exact T_tr rfl rfl (by assumption) (by omega) (by omega) (by omega)) | (intro _; exact T_tr (by assumption) (by assumption) (by assumption) (by omega) (by omega) (by omega)))⟩ hT
    · replace hT := hT.trans (if_neg h237)
      refine k_if_eq_f (pc := 102) (tgt := 122) E (by omega) dX9_text_102 (by decide) h237 ?_
      refine k_aloadn (pc := 105) E 0 dX9_text_105 rfl rfl ?_
      refine k_mr (fun hm_s223 => ?_)
      refine k_callV (pc := 106) (np := 0) (As := []) (st := []) (q0 := 0) E (c_X9_next l D a cI cJ cS cT s223  (by first | assumption | omega) (by first | assumption | omega)) wm_858 wm_11 wm_855 wm_857 wp_25 (by decide +kernel) rfl rfl ⟨by decide, by decide⟩ rfl (Nat.le_of_ble_eq_true rfl) dX9_text_106 (fun r285 s286 hs286 hr284 => ?_)
      replace hT := gby hT hs286
      have hp287 := f_X9_next_p  s223  hm_s223 (by first | assumption | omega) (by first | assumption | omega) r285 s286 hs286
      obtain ⟨hfc_s286, hm_s286, hp288, hp289, hp290, hp291, hp292⟩ := hp287
      have hf_s286 : fr [4, 5, 6, 7, 16, 17, 18, 19, 21, 22, 23, 24] s0 s286 := hf_s223.call (by decide) hfc_s286
      have htf5_s286 : s286 5 = s223 5 := hfc_s286 5 (by decide)
      have htf6_s286 : s286 6 = s223 6 := hfc_s286 6 (by decide)
      have ht293 : s286 4 0 = s223 4 0 := by rw [hfc_s286 4 (by decide)]
      have ht294 : s286 7 0 = s223 7 0 := by rw [hfc_s286 7 (by decide)]
      have ht295 : s286 24 0 = s223 24 0 := by rw [hfc_s286 24 (by decide)]
      refine k_st (st' := []) rfl ?_
      refine k_aloadn (pc := 109) E 0 dX9_text_109 rfl rfl ?_
      refine k_getfI (pc := 110) (q0 := 0) (f := 18) (k := 18) E inX9 rfl rfl (by decide) wm_916 rfl rfl rfl dX9_text_110 (fun hr296 => ?_)
      obtain ⟨z302, hz302, hT⟩ := gl1x hT
      have j298 : ∀ (v299 : Int), ((in32 v299) ∧ (0 ≤ v299 ∧ v299 ≤ 1)) → z302 = v299 → gK D vwCl (wdM a cI cJ) lgM A p l e { frames := 5, cells := 0, slots := 0, locals := 320 } s m args below meth c 3 (gQQ D vwCl (wdM a cI cJ) lgM A kI in32 below args s) (f_X9_text s0) s286 121 [(0, .ref (a 0))] [gI v299] := by
        intro v299 hq hz
        obtain ⟨hq300, hq301⟩ := hq
        replace hT := gl1y hT hz
        refine k_istoren (pc := 121) (lv' := [(1, gI v299), (0, .ref (a 0))]) E dX9_text_121 rfl (by decide) rfl ?_
        refine k_lv (lv' := [(0, .ref (a 0)), (1, gI v299)]) [1, 0] rfl ?_
        exact j238 v299 s286 ⟨(by omega), hf_s286, (by first | assumption | omega), (by first | assumption | omega), (by first | assumption | omega), (by first | assumption | omega), (by first | assumption | omega), (by first | assumption | omega), (by first | assumption | omega), (by first | assumption | omega), (by first | assumption | exact LOW_0 _ _ | exact LOW_e (LOW_0 _ _) (by assumption) | exact LOW_t (by assumption) (by assumption) (by assumption) (by omega) | exact LOW_w (by assumption) (by assumption) (by assumption) (by assumption) (by omega) | exact LOW_w rfl (by assumption) (by assumption) (by assumption) (by omega) | exact LOW_e (by assumption) (by assumption)), (by first | assumption | exact LOW_0 _ _ | exact LOW_e (LOW_0 _ _) (by assumption) | exact LOW_t (by assumption) (by assumption) (by assumption) (by omega) | exact LOW_w (by assumption) (by assumption) (by assumption) (by assumption) (by omega) | exact LOW_w rfl (by assumption) (by assumption) (by assumption) (by omega) | exact LOW_e (by assumption) (by assumption)), (by first | assumption | (intro h; exact absurd h (by omega)) | (intro _; exact PTS_0 _ _ _ _ (by omega)) | (intro _; exact T_step (by assumption) (by assumption) (by assumption) (by assumption) (by omega) (by assumption) (by assumption) (by assumption) (by omega) (by omega) (by omega) (by omega) (by omega) (by omega) (by omega)) | (intro _; exact T_tr rfl rfl (by assumption) (by omega) (by omega) (by omega)) | (intro _; exact T_tr (by assumption) (by assumption) (by assumption) (by omega) (by omega) (by omega)))⟩ hT
      replace hT := hz302
      by_cases h297 : (s286 18 0) = 0
      · replace hT := hT.trans (if_pos h297)
        refine k_if_ne_f (pc := 113) (tgt := 120) E (by omega) dX9_text_113 (by decide) h297 ?_
        refine k_iconst (pc := 116) E dX9_text_116 ?_
        refine k_goto (pc := 117) (tgt := 121) E dX9_text_117 (by decide) ?_
        refine k_lv (lv' := [(0, .ref (a 0))]) [0] rfl ?_
        exact j298 1 ⟨(by omega), (by first | assumption | omega)⟩ hT
      · replace hT := hT.trans (if_neg h297)
        refine k_if_ne_t (pc := 113) (tgt := 120) E (by omega) dX9_text_113 (by decide) h297 ?_
        refine k_iconst (pc := 120) E dX9_text_120 ?_
        refine k_lv (lv' := [(0, .ref (a 0))]) [0] rfl ?_
        exact j298 0 ⟨(by omega), (by first | assumption | omega)⟩ hT
end
