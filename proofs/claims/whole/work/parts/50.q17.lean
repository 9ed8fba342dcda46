/-! the plan changed: set, force, laws, lay, layBy, kinds -/
theorem INV_end {s' t T' : gMem} (c : XT s' t) (m : MT t T') (hX : XI s') (hM : MI T') : INV s' T' := ⟨m.RLa c.1, hX, hM, CFf_tr c m c.2.2.2.1, CFc_tr c m c.2.2.2.2.1, CFt_tr c m c.2.2.2.2.2⟩
theorem MT_set {b T : gMem} (h : MT b T) (k : Nat) (i v : Int) (hg : gMR lgM (mset T k i v)) : MT (mset b k i v) (mset T k i v) := ⟨fun c hc => by
  have e := h.1 c hc
  by_cases d : c = k
  · subst d
    funext j
    rw [mset_at, mset_at, e]
  · funext j
    rw [mset_ne _ _ _ _ _ d, mset_ne _ _ _ _ _ d, e], hg⟩
theorem IM_law {b : gMem} (h : IM b) {v : Int} (h0 : 0 ≤ v) (h1 : v < b 7 0) : IM (mset b 8 0 v) := by
  obtain ⟨g, hV, hK, hMo, hT⟩ := h
  have ne : ∀ k, ¬ k = 8 → (mset b 8 0 v) k = b k := fun k hk => by funext j; rw [mset_ne _ _ _ _ _ hk]
  have h7 := hV.2.1
  refine ⟨g.set32 rfl (by omega), VS_of hV (ne 5 (by decide)) (ne 6 (by decide)) (ne 7 (by decide)) (by rw [mset_eq]; exact h0) (by rw [mset_eq]; exact h1), fun i => ?_, fun i => ?_, fun i => ?_⟩
  · rw [ne 0 (by decide)]; exact hK i
  · rw [ne 1 (by decide)]; exact hMo i
  · rw [ne 2 (by decide)]; exact hT i
theorem IM_lay {b : gMem} (h : IM b) {p k m : Int} (hk : 0 ≤ k ∧ k ≤ 5) (hm : 0 ≤ m ∧ m ≤ 9) : IM (mset (mset b 0 p k) 1 p m) := by
  obtain ⟨g, hV, hK, hMo, hT⟩ := h
  have ne : ∀ c, ¬ c = 0 → ¬ c = 1 → (mset (mset b 0 p k) 1 p m) c = b c := fun c h0 h1 => by funext j; rw [mset_ne _ _ _ _ _ h1, mset_ne _ _ _ _ _ h0]
  refine ⟨(g.set32 rfl (by omega)).set32 rfl (by omega), VS_of hV (ne 5 (by decide) (by decide)) (ne 6 (by decide) (by decide)) (ne 7 (by decide) (by decide)) (by rw [ne 8 (by decide) (by decide)]; exact hV.2.2.1) (by rw [ne 8 (by decide) (by decide)]; exact hV.2.2.2.1), fun i => ?_, fun i => ?_, fun i => ?_⟩
  · rw [mset_ne _ _ _ _ _ (by decide), mset_at]
    split
    · exact hk
    · exact hK i
  · rw [mset_at, mset_ne _ _ _ _ _ (by decide)]
    split
    · exact hm
    · exact hMo i
  · rw [ne 2 (by decide) (by decide)]; exact hT i
theorem X_obey {s b : gMem} (h : XT s b) {v : Int} (h0 : 0 ≤ v) (h1 : v < b 7 0) : ∃ s', f_X4_obey v s = (0, s') ∧ fr [37, 38, 39, 63] s s' ∧ XT s' (mset b 8 0 v) := by
  obtain ⟨hR, ⟨i1, i2, i3, i4, i5, i6, i7, i8, i9, i10, i11, i12, i13⟩, hM, c1, c2, c3⟩ := id h
  have h7 := hM.2.1.2.1
  have hq := f_X4_obey_p v s (by omega) i1 i4 i11 i12 i13 (by omega) (f_X4_obey v s).1 (f_X4_obey v s).2 rfl
  obtain ⟨S, hS⟩ : ∃ S, S = mfill (mfill (mfill (mset s 63 0 v) 37 272 (-1)) 38 272 (-1)) 39 16 (-1) := ⟨_, rfl⟩
  have e0 : f_X4_obey v s = (0, S) := by rw [hS]; rfl
  rw [e0] at hq
  have fo := forgot (s := mset s 63 0 v) (t := mset b 8 0 v)
  rw [← hS] at fo
  have f8 : fr [8] b (mset b 8 0 v) := (fr.rf _ _).set (by decide)
  have s63 : S 63 0 = v := by rw [hS, mfill_ne _ _ _ _ _ (by decide), mfill_ne _ _ _ _ _ (by decide), mfill_ne _ _ _ _ _ (by decide), mset_eq]
  refine ⟨S, e0, hq.1, ⟨RLpl_fr hR.1 (frK hq.1 (by decide)) (frK f8 (by decide)), RLto_fr hR.2.1 (frK hq.1 (by decide)) (frK f8 (by decide)), ⟨by rw [s63, mset_eq], ?_⟩, RLtp_fr hR.2.2.2.1 (frK hq.1 (by decide)) (frK f8 (by decide)), RLtx_fr hR.2.2.2.2.1 (frK hq.1 (by decide)) (frK f8 (by decide)), RLim_fr hR.2.2.2.2.2.1 (frK hq.1 (by decide)) (frK f8 (by decide)), RLsh_fr hR.2.2.2.2.2.2 (frK hq.1 (by decide)) (frK f8 (by decide))⟩, ⟨hq.2.1, CD_fr i2 (frK hq.1 (by decide)), BG_fr i3 (frK hq.1 (by decide)), hq.2.2.2.1, KNx_fr i5 (frK hq.1 (by decide)), MOx_fr i6 (frK hq.1 (by decide)), GP_fr i7 (frK hq.1 (by decide)), ST_fr i8 (frK hq.1 (by decide)), EN_fr i9 (frK hq.1 (by decide)), RE_fr i10 (frK hq.1 (by decide)), hq.2.2.2.2.1, hq.2.2.2.2.2.1, hq.2.2.2.2.2.2⟩, IM_law hM h0 h1, fo.1, fo.2.1, fo.2.2⟩
  have f51 : S 51 = s 51 := hq.1 51 (by decide)
  rw [f51, f8 7 (by decide)]
  exact hR.2.2.1.2
theorem EQ_force {s t : gMem} (h : INV s t) {x0 : Int} (hx0 : in32 x0) : (f_X8_force x0 s).1 = (f_X9_force x0 t).1 ∧ INV (f_X8_force x0 s).2 (f_X9_force x0 t).2 := by
  have e7 := h.1.2.2.1.2
  have e8 := h.1.2.2.1.1
  obtain ⟨fx, hX'⟩ := XI_force h.2.1 hx0
  have hV := h.2.2.1.1.2.1
  by_cases a : 0 ≤ x0 ∧ x0 < t 7 0
  · obtain ⟨s', q1, q2, q3⟩ := X_obey (INV_XT h) a.1 a.2
    have eX : f_X8_force x0 s = (s 63 0, s') := by
      unfold f_X8_force
      rw [if_out, e7, if_pos a, q1]
      rfl
    have eM : f_X9_force x0 t = (t 8 0, mset t 8 0 x0) := by
      unfold f_X9_force
      rw [if_in, if_pos (show 0 ≤ x0 ∧ x0 ≤ t 7 0 - 1 by omega)]
      rfl
    obtain ⟨fm, hM'⟩ := MI_force h.2.2.1 hx0 (by rw [eM]; exact q3.2.2.1.2.1)
    rw [eX] at hX' ⊢
    rw [eM] at hM' ⊢
    exact ⟨e8, INV_end q3 (MT.rf hM'.1.1) hX' hM'⟩
  · have eX : f_X8_force x0 s = (-2, s) := by
      unfold f_X8_force
      rw [if_out, e7, if_neg a]
    have eM : f_X9_force x0 t = (-2, t) := by
      unfold f_X9_force
      rw [if_in, if_neg (show ¬ (0 ≤ x0 ∧ x0 ≤ t 7 0 - 1) by omega)]
    rw [eX, eM]
    exact ⟨rfl, h⟩
theorem mset_mset (b : gMem) (k : Nat) (i v w : Int) : mset (mset b k i v) k i w = mset b k i w := by
  funext c j
  by_cases d : c = k
  · subst d
    rw [mset_at, mset_at, mset_at]
    by_cases e : j = i
    · rw [if_pos e, if_pos e]
    · rw [if_neg e, if_neg e, if_neg e]
  · rw [mset_ne _ _ _ _ _ d, mset_ne _ _ _ _ _ d, mset_ne _ _ _ _ _ d]
theorem mset_self (b : gMem) (k : Nat) (i : Int) : mset b k i (b k i) = b := by
  funext c j
  by_cases d : c = k
  · subst d
    rw [mset_at]
    by_cases e : j = i
    · rw [if_pos e, e]
    · rw [if_neg e]
  · rw [mset_ne _ _ _ _ _ d]
theorem laws_loop {t : gMem} {x0 c : Int} (hx : 0 ≤ x0 ∧ x0 ≤ 3) (h7 : t 7 0 ≤ 6) : ∀ (n : Nat) (v p w : Int) (s T : gMem), XT s (mset t 8 0 w) → MT (mset t 8 0 w) T → 0 ≤ p → 0 ≤ v ∧ v ≤ 65535 → ∃ (r u u' w' : Int) (s' T' : gMem), w_X8_laws_29 x0 c n v p s = (r, u, s') ∧ w_X9_laws_23 x0 c n v p T = (r, u', T') ∧ XT s' (mset t 8 0 w') ∧ MT (mset t 8 0 w') T' := by
  intro n
  induction n with
  | zero => intro v p w s T hX hM _ _; exact ⟨v, p, p, w, s, T, rfl, rfl, hX, hM⟩
  | succ n ih =>
    intro v p w s T hX hM p0 hv
    rw [w_X8_laws_29_s, w_X9_laws_23_s]
    have e7 : T 7 0 = t 7 0 := by rw [hM.1 7 (by decide), mset_ne _ _ _ _ _ (by decide)]
    have e51 : s 51 0 = t 7 0 := by rw [hX.1.2.2.1.2, mset_ne _ _ _ _ _ (by decide)]
    rw [e7, e51]
    by_cases c : p < t 7 0
    · rw [if_pos c, if_pos c]
      obtain ⟨s1, q1, q2, q3⟩ := X_obey hX (v := p) p0 (by rw [mset_ne _ _ _ _ _ (by decide)]; exact c)
      have M1 := MT_set hM 8 0 p (hM.2.set32 rfl (by omega))
      rw [mset_mset] at q3 M1
      obtain ⟨r, s2, T2, d1, d2, d3, d4, d5, -⟩ := oth_two hx 17 0 s1 (mset T 8 0 p) q3 M1 (by omega)
      have eo : f_X8_firstOtherChance x0 s1 = (r, s2) := d1
      have eo2 : f_X9_otherwise x0 (mset T 8 0 p) = (r, T2) := d2
      simp only [gl]
      rw [gb_eq q1, gb_eq eo, gb_eq eo2]
      have sp := shl_rg (p := p) (by omega)
      have io := ior_16 hv.1 hv.2 sp.1 sp.2
      by_cases f : r = -1
      · rw [if_pos (show r < 0 by omega), if_pos f]
        exact ih _ (p + 1) p s2 T2 d3 d4 (by omega) io
      · rw [if_neg (show ¬ r < 0 by omega), if_neg f, ior0 hv]
        exact ih v (p + 1) p s2 T2 d3 d4 (by omega) hv
    · rw [if_neg c, if_neg c]
      exact ⟨v, p, p, w, s, T, rfl, rfl, hX, hM⟩
theorem EQ_laws {s t : gMem} (h : INV s t) {x0 : Int} (hx0 : in32 x0) : (f_X8_laws x0 s).1 = (f_X9_laws x0 t).1 ∧ INV (f_X8_laws x0 s).2 (f_X9_laws x0 t).2 := by
  obtain ⟨fx, hX'⟩ := XI_laws h.2.1 hx0
  obtain ⟨e, g⟩ := ref_eq h.1 (INV_SOz h).1 x0
  have e8 := h.1.2.2.1.1
  have hV := h.2.2.1.1.2.1
  by_cases a : f_X9_sheetWrong x0 t = 0
  · obtain ⟨r, u, u', w', s', T', q1, q2, q3, q4⟩ := laws_loop (t := t) (c := t 8 0) (g a).1 hV.2.1 7 0 0 (t 8 0) s t (by rw [mset_self]; exact INV_XT h) (by rw [mset_self]; exact MT.rf (INV_gM h)) (by omega) (by omega)
    obtain ⟨s2, d1, d2, d3⟩ := X_obey q3 (v := t 8 0) hV.2.2.1 (by rw [mset_ne _ _ _ _ _ (by decide)]; exact hV.2.2.2.1)
    have hV1 := hV.2.1
    have hV2 := hV.2.2.1
    have hV3 := hV.2.2.2.1
    have M1 := MT_set q4 8 0 (t 8 0) (q4.2.set32 rfl (by omega))
    rw [mset_mset, mset_self] at d3 M1
    have eX : f_X8_laws x0 s = (r, s2) := by
      unfold f_X8_laws
      simp only [gl]
      rw [e, if_pos a, e8, q1]
      simp only [gl3]
      rw [d1]
      rfl
    have eM : f_X9_laws x0 t = (r, mset T' 8 0 (t 8 0)) := by
      unfold f_X9_laws
      rw [if_pos a, q2]
      rfl
    obtain ⟨fm, hM'⟩ := MI_laws h.2.2.1 hx0 (by rw [eM]; exact (M1.IM d3.2.2.1).2.1)
    rw [eX] at hX' ⊢
    rw [eM] at hM' ⊢
    exact ⟨rfl, INV_end d3 M1 hX' hM'⟩
  · have eX : f_X8_laws x0 s = (f_X9_sheetWrong x0 t, s) := by
      unfold f_X8_laws
      simp only [gl]
      rw [e, if_neg a]
    have eM : f_X9_laws x0 t = (f_X9_sheetWrong x0 t, t) := by
      unfold f_X9_laws
      rw [if_neg a]
    rw [eX, eM]
    exact ⟨rfl, h⟩
theorem X_lay1 {s b : gMem} (h : XT s b) {p k m : Int} (hp : 0 ≤ p ∧ p ≤ 15) (hk : 0 ≤ k ∧ k ≤ 5) (hm : 0 ≤ m ∧ m ≤ 9) : ∃ s', f_X4_become p k m s = (0, s') ∧ fr [37, 38, 39, 40, 41] s s' ∧ XT s' (mset (mset b 0 p k) 1 p m) :=
  X_become h hp hk hm (fun q => by rw [mset_ne _ _ _ _ _ (by decide), mset_at]) (fun q => by rw [mset_at, mset_ne _ _ _ _ _ (by decide)]) (fun c _ h0 h1 => by funext j; rw [mset_ne _ _ _ _ _ h1, mset_ne _ _ _ _ _ h0]) (IM_lay h.2.2.1 hk hm)
theorem EQ_lay {s t : gMem} (h : INV s t) {x0 x1 x2 : Int} (hx0 : in32 x0) (hx1 : in32 x1) (hx2 : in32 x2) : (f_X8_lay x0 x1 x2 s).1 = (f_X9_lay x0 x1 x2 t).1 ∧ INV (f_X8_lay x0 x1 x2 s).2 (f_X9_lay x0 x1 x2 t).2 := by
  obtain ⟨fx, hX'⟩ := XI_lay h.2.1 hx0 hx1 hx2
  obtain ⟨fm, hM'⟩ := MI_lay h.2.2.1 hx0 hx1 hx2
  have eX : f_X8_lay x0 x1 x2 s = if 0 ≤ x0 ∧ x0 < 16 then (if 0 ≤ x1 ∧ x1 < 6 then (if 0 ≤ x2 ∧ x2 < 10 then gl ((10 * (s 40 x0)) + (s 41 x0)) (fun v14 => gb (f_X4_become x0 x1 x2 s) (fun r16 s17 => (v14, s17))) else (-7, s)) else (-7, s)) else (-5, s) := by
    unfold f_X8_lay
    rw [if_out, if_out, if_out]
  have eM : f_X9_lay x0 x1 x2 t = if 0 ≤ x0 ∧ x0 ≤ 15 then (if 0 ≤ x1 ∧ x1 ≤ 5 then (if 0 ≤ x2 ∧ x2 ≤ 9 then (10 * (t 0 x0) + (t 1 x0), mset (mset t 0 x0 x1) 1 x0 x2) else (-7, t)) else (-7, t)) else (-5, t) := by
    unfold f_X9_lay
    rw [if_pl, if_in, if_in]
    rfl
  rw [eX] at hX' ⊢
  rw [eM] at hM' ⊢
  by_cases a : 0 ≤ x0 ∧ x0 < 16
  · have a' : 0 ≤ x0 ∧ x0 ≤ 15 := by omega
    rw [if_pos a] at hX' ⊢
    rw [if_pos a'] at hM' ⊢
    by_cases b : 0 ≤ x1 ∧ x1 < 6
    · have b' : 0 ≤ x1 ∧ x1 ≤ 5 := by omega
      rw [if_pos b] at hX' ⊢
      rw [if_pos b'] at hM' ⊢
      by_cases c : 0 ≤ x2 ∧ x2 < 10
      · have c' : 0 ≤ x2 ∧ x2 ≤ 9 := by omega
        rw [if_pos c] at hX' ⊢
        rw [if_pos c'] at hM' ⊢
        obtain ⟨s', q1, q2, q3⟩ := X_lay1 (INV_XT h) a' b' c'
        obtain ⟨r1, r2⟩ := h.1.1 x0 a.1 a.2
        rw [q1] at hX' ⊢
        rw [r1, r2]
        exact ⟨rfl, INV_end q3 (MT.rf hM'.1.1) hX' hM'⟩
      · rw [if_neg c] at hX' ⊢
        rw [if_neg (show ¬ (0 ≤ x2 ∧ x2 ≤ 9) by omega)] at hM' ⊢
        exact ⟨rfl, h⟩
    · rw [if_neg b] at hX' ⊢
      rw [if_neg (show ¬ (0 ≤ x1 ∧ x1 ≤ 5) by omega)] at hM' ⊢
      exact ⟨rfl, h⟩
  · rw [if_neg a] at hX' ⊢
    rw [if_neg (show ¬ (0 ≤ x0 ∧ x0 ≤ 15) by omega)] at hM' ⊢
    exact ⟨rfl, h⟩
theorem holds_if {s t : gMem} (hR : RLa s t) {x0 : Int} (h0 : 0 ≤ x0 ∧ x0 ≤ 3) (w n : Int) {α : Type} (A B : α) : (if f_X5_holds w n x0.toNat s = 0 then A else B) = if 0 ≤ w ∧ 0 ≤ n ∧ w ≤ t 13 x0 ∧ n ≤ t 13 x0 - w then B else A := by
  have e := (sh_k hR h0).2.1
  unfold f_X5_holds
  rw [e]
  by_cases a : w < 0
  · rw [if_pos a, if_pos rfl, if_neg (by omega)]
  · rw [if_neg a]
    by_cases b : n < 0
    · rw [if_pos b, if_pos rfl, if_neg (by omega)]
    · rw [if_neg b]
      by_cases c : t 13 x0 < w
      · rw [if_pos c, if_pos rfl, if_neg (by omega)]
      · rw [if_neg c]
        by_cases d : t 13 x0 - w < n
        · rw [if_pos d, if_pos rfl, if_neg (by omega)]
        · rw [if_neg d, if_neg (by decide), if_pos (by omega)]
theorem layBy_loop {x0 c3 c4 : Int} (hx : 0 ≤ x0 ∧ x0 ≤ 3) (hc3 : in32 c3) (hc4 : c4 ≤ 13) : ∀ (n : Nat) (v p : Int) (s t : gMem), INV s t → 0 ≤ p → (p = 0 ∨ (0 ≤ c3 ∧ c3 ≤ 40)) → (t_X8_layBy_66 x0 c3 c4 n v p s).1 = (t_X9_layBy_64 x0 c3 c4 n v p t).1 ∧ INV (t_X8_layBy_66 x0 c3 c4 n v p s).2 (t_X9_layBy_64 x0 c3 c4 n v p t).2 := by
  intro n
  induction n with
  | zero => intro v p s t h _ _; exact ⟨rfl, h⟩
  | succ n ih =>
    intro v p s t h p0 hp
    rw [t_X8_layBy_66_s, t_X9_layBy_64_s]
    by_cases a : p < c4
    · rw [if_pos a, if_pos a, holds_if h.1 hx]
      have hz := (INV_SOz h).2 x0
      by_cases b : c3 < 0
      · have pz : p = 0 := by omega
        have ew : iwr (c3 + 3 * p) = c3 := by
          rw [pz, show c3 + 3 * 0 = c3 by omega]
          exact iwr_of hc3
        rw [if_pos b, ew, if_neg (by omega)]
        exact ⟨rfl, h⟩
      · rw [if_neg b]
        by_cases d : t 13 x0 - 3 < iwr (c3 + 3 * p)
        · rw [if_neg (show ¬ (0 ≤ iwr (c3 + 3 * p) ∧ 0 ≤ (3 : Int) ∧ iwr (c3 + 3 * p) ≤ t 13 x0 ∧ 3 ≤ t 13 x0 - iwr (c3 + 3 * p)) by omega)]
          by_cases f : iwr (c3 + 3 * p) < c3
          · rw [if_pos f]; exact ⟨rfl, h⟩
          · rw [if_neg f, if_pos d]; exact ⟨rfl, h⟩
        · by_cases f : iwr (c3 + 3 * p) < c3
          · exfalso
            rcases hp with hp | hp
            · rw [hp, show c3 + 3 * 0 = c3 by omega, iwr_of hc3] at f
              omega
            · rw [iwr_of (by omega)] at f
              omega
          · rw [if_pos (show 0 ≤ iwr (c3 + 3 * p) ∧ 0 ≤ (3 : Int) ∧ iwr (c3 + 3 * p) ≤ t 13 x0 ∧ 3 ≤ t 13 x0 - iwr (c3 + 3 * p) by omega), if_neg f, if_neg d]
            obtain ⟨w, hw⟩ : ∃ w, w = iwr (c3 + 3 * p) := ⟨_, rfl⟩
            rw [← hw] at d f ⊢
            have hs := (sh_k h.1 hx).2.2
            rw [hs w (by omega) (by omega), hs (w + 1) (by omega) (by omega), hs (w + 2) (by omega) (by omega)]
            have e1 : 40 * x0 + (w + 1) = 40 * x0 + w + 1 := by omega
            have e2 : 40 * x0 + (w + 2) = 40 * x0 + w + 2 := by omega
            rw [e1, e2]
            simp only [gl]
            have i1 := (INV_gM h 14 (40 * x0 + w)).1 rfl
            have i2 := (INV_gM h 14 (40 * x0 + w + 1)).1 rfl
            have i3 := (INV_gM h 14 (40 * x0 + w + 2)).1 rfl
            obtain ⟨g1, g2⟩ := EQ_lay h i1 i2 i3
            obtain ⟨R, S, hRS⟩ : ∃ R S, f_X8_lay (t 14 (40 * x0 + w)) (t 14 (40 * x0 + w + 1)) (t 14 (40 * x0 + w + 2)) s = (R, S) := ⟨_, _, rfl⟩
            obtain ⟨R', S', hRS'⟩ : ∃ R S, f_X9_lay (t 14 (40 * x0 + w)) (t 14 (40 * x0 + w + 1)) (t 14 (40 * x0 + w + 2)) t = (R, S) := ⟨_, _, rfl⟩
            rw [hRS, hRS'] at g1 g2
            rw [hRS, hRS']
            simp only [gb]
            simp only at g1 g2
            subst g1
            have ev : (if R < 0 then v else v + 1) = v + (if R < 0 then (0 : Int) else 1) := by
              split <;> omega
            rw [ev]
            exact ih _ (p + 1) S S' g2 (by omega) (Or.inr ⟨by omega, by omega⟩)
    · rw [if_neg a, if_neg a]
      exact ⟨rfl, h⟩
theorem EQ_layBy {s t : gMem} (h : INV s t) {x0 x1 x2 x3 : Int} (hx2 : in32 x2) : (f_X8_layBy x0 x1 x2 x3 s).1 = (f_X9_layBy x0 x1 x2 x3 t).1 ∧ INV (f_X8_layBy x0 x1 x2 x3 s).2 (f_X9_layBy x0 x1 x2 x3 t).2 := by
  unfold f_X8_layBy f_X9_layBy
  rw [if_out, if_out, if_out, if_in, if_in, if_in]
  by_cases a : 0 ≤ x0 ∧ x0 < 4
  · have a' : 0 ≤ x0 ∧ x0 ≤ 3 := by omega
    rw [if_pos a, if_pos a']
    by_cases b : 0 ≤ x1 ∧ x1 < 3
    · rw [if_pos b, if_pos (show 0 ≤ x1 ∧ x1 ≤ 2 by omega)]
      by_cases c : 0 ≤ x3 ∧ x3 < 14
      · rw [if_pos c, if_pos (show 0 ≤ x3 ∧ x3 ≤ 13 by omega), miss_eq h.1 (INV_SOz h).1 a', (sh_k h.1 a').1]
        by_cases d : t 12 x0 = -1
        · rw [if_pos d, if_pos d]; exact ⟨rfl, h⟩
        · rw [if_neg d, if_neg d]
          by_cases f : t 12 x0 = x1
          · rw [if_pos f, if_pos f]
            exact layBy_loop a' hx2 (by omega) 14 0 0 s t h (by omega) (Or.inl rfl)
          · rw [if_neg f, if_neg f]; exact ⟨rfl, h⟩
      · rw [if_neg c, if_neg (show ¬ (0 ≤ x3 ∧ x3 ≤ 13) by omega)]; exact ⟨rfl, h⟩
    · rw [if_neg b, if_neg (show ¬ (0 ≤ x1 ∧ x1 ≤ 2) by omega)]; exact ⟨rfl, h⟩
  · rw [if_neg a, if_neg (show ¬ (0 ≤ x0 ∧ x0 ≤ 3) by omega)]; exact ⟨rfl, h⟩
def off01 (p : Int) (t T : gMem) : Prop := ∀ k i, ¬ ((k = 0 ∨ k = 1) ∧ i = p) → T k i = t k i
theorem off01_set {p k m : Int} {t b : gMem} (h : off01 p t b) : off01 p t (mset (mset b 0 p k) 1 p m) := fun c i hc => by
  by_cases h1 : c = 1
  · subst h1
    rw [mset_at, if_neg (fun z => hc ⟨Or.inr rfl, z⟩), mset_ne _ _ _ _ _ (by decide)]
    exact h 1 i hc
  · rw [mset_ne _ _ _ _ _ h1]
    by_cases h0 : c = 0
    · subst h0
      rw [mset_at, if_neg (fun z => hc ⟨Or.inl rfl, z⟩)]
      exact h 0 i hc
    · rw [mset_ne _ _ _ _ _ h0]
      exact h c i hc
theorem off01_back {p : Int} {t b : gMem} (h : off01 p t b) : mset (mset b 0 p (t 0 p)) 1 p (t 1 p) = t := by
  funext c i
  by_cases h1 : c = 1
  · subst h1
    rw [mset_at]
    by_cases e : i = p
    · rw [if_pos e, e]
    · rw [if_neg e, mset_ne _ _ _ _ _ (by decide)]; exact h 1 i (fun z => e z.2)
  · rw [mset_ne _ _ _ _ _ h1]
    by_cases h0 : c = 0
    · subst h0
      rw [mset_at]
      by_cases e : i = p
      · rw [if_pos e, e]
      · rw [if_neg e]; exact h 0 i (fun z => e z.2)
    · rw [mset_ne _ _ _ _ _ h0]
      exact h c i (fun z => by rcases z.1 with z | z <;> contradiction)
theorem kinds_loop {t : gMem} {x0 p c3 c5 c6 : Int} (hx : 0 ≤ x0 ∧ x0 ≤ 3) (hp : 0 ≤ p ∧ p ≤ 15) (h3 : 0 ≤ c3 ∧ c3 ≤ 1) (h5 : 0 ≤ c5 ∧ c5 ≤ 5) (h6 : 0 ≤ c6 ∧ c6 ≤ 9) : ∀ (n : Nat) (v i : Int) (b s T : gMem), XT s b → MT b T → off01 p t b → 0 ≤ i → 0 ≤ v ∧ v ≤ 65535 → ∃ (r u u' : Int) (b' s' T' : gMem), w_X8_kinds_72 x0 p c3 c5 c6 n v i s = (r, u, s') ∧ w_X9_kinds_59 x0 p c3 c5 c6 n v i T = (r, u', T') ∧ XT s' b' ∧ MT b' T' ∧ off01 p t b' := by
  intro n
  induction n with
  | zero => intro v i b s T hX hM hO _ _; exact ⟨v, i, i, b, s, T, rfl, rfl, hX, hM, hO⟩
  | succ n ih =>
    intro v i b s T hX hM hO i0 hv
    rw [w_X8_kinds_72_s, w_X9_kinds_59_s]
    simp only [gl]
    obtain ⟨lim, hlim⟩ : ∃ lim : Int, lim = (if c3 = 0 then 6 else 10) := ⟨_, rfl⟩
    rw [← hlim]
    by_cases c : i < lim
    · rw [if_pos c, if_pos c]
      have em : (if c3 = 1 then i else c6) = (if c3 = 0 then c6 else i) := by
        by_cases z : c3 = 0
        · rw [if_pos z, if_neg (by omega)]
        · rw [if_neg z, if_pos (by omega)]
      rw [em]
      obtain ⟨k, hk⟩ : ∃ k : Int, k = (if c3 = 0 then i else c5) := ⟨_, rfl⟩
      obtain ⟨m, hm⟩ : ∃ m : Int, m = (if c3 = 0 then c6 else i) := ⟨_, rfl⟩
      rw [← hk, ← hm]
      have hk2 : 0 ≤ k ∧ k ≤ 5 := by rw [hk]; split at hlim <;> simp_all <;> omega
      have hm2 : 0 ≤ m ∧ m ≤ 9 := by rw [hm]; split at hlim <;> simp_all <;> omega
      have hi : i ≤ 9 := by split at hlim <;> omega
      obtain ⟨s1, q1, q2, q3⟩ := X_lay1 hX hp hk2 hm2
      have M1 := MT_set (MT_set hM 0 p k (hM.2.set32 rfl (by omega))) 1 p m ((hM.2.set32 rfl (by omega)).set32 rfl (by omega))
      obtain ⟨s2, d1, d2, d3⟩ := X_falls q3 (p := p) (b := 0) hp (by omega)
      obtain ⟨T2, g1, g2, g3⟩ := M_falls q3 M1 (p := p) (b := 0) hp (by omega)
      rw [q1]
      simp only [gb]
      rw [d1, g1]
      simp only
      have hh := (sh_k (M1.RLa q3.1) hx).2.2 p hp.1 (by omega)
      have sp := shl_rg (p := i) (by omega)
      have io := ior_16 hv.1 hv.2 sp.1 sp.2
      by_cases f : (mset (mset T 0 p k) 1 p m) 14 (40 * x0 + p) = FA (mset (mset b 0 p k) 1 p m) p 0
      · rw [if_pos (hh.trans f), if_pos f]
        exact ih _ (i + 1) _ s2 T2 d3 g3 (off01_set hO) (by omega) io
      · rw [if_neg (fun z => f (hh.symm.trans z)), if_neg f, ior0 hv]
        exact ih v (i + 1) _ s2 T2 d3 g3 (off01_set hO) (by omega) hv
    · rw [if_neg c, if_neg c]
      exact ⟨v, i, i, b, s, T, rfl, rfl, hX, hM, hO⟩
theorem EQ_kinds {s t : gMem} (h : INV s t) {x0 x1 x2 : Int} (hx0 : in32 x0) (hx1 : in32 x1) (hx2 : in32 x2) : (f_X8_kinds x0 x1 x2 s).1 = (f_X9_kinds x0 x1 x2 t).1 ∧ INV (f_X8_kinds x0 x1 x2 s).2 (f_X9_kinds x0 x1 x2 t).2 := by
  obtain ⟨fx, hX'⟩ := XI_kinds h.2.1 hx0 hx1 hx2
  obtain ⟨fm, hM'⟩ := MI_kinds h.2.2.1 hx0 hx1 hx2
  obtain ⟨e, g⟩ := ref_eq h.1 (INV_SOz h).1 x0
  have key : (f_X8_kinds x0 x1 x2 s).1 = (f_X9_kinds x0 x1 x2 t).1 ∧ XT (f_X8_kinds x0 x1 x2 s).2 t ∧ MT t (f_X9_kinds x0 x1 x2 t).2 := by
    unfold f_X8_kinds f_X9_kinds
    simp only [gl]
    rw [e, if_out, if_out, if_pl, if_in]
    by_cases a : f_X9_sheetWrong x0 t = 0
    · rw [if_pos a, if_pos a]
      by_cases b : 0 ≤ x1 ∧ x1 < 16
      · have b' : 0 ≤ x1 ∧ x1 ≤ 15 := by omega
        rw [if_pos b, if_pos b']
        by_cases c : 0 ≤ x2 ∧ x2 < 2
        · rw [if_pos c, if_pos (show 0 ≤ x2 ∧ x2 ≤ 1 by omega)]
          obtain ⟨r1, r2⟩ := h.1.1 x1 b.1 b.2
          have k0 := h.2.2.1.1.2.2.1 x1
          have m0 := h.2.2.1.1.2.2.2.1 x1
          rw [r1, r2]
          obtain ⟨r, u, u', bb, s', T', q1, q2, q3, q4, q5⟩ := kinds_loop (t := t) (x0 := x0) (c3 := x2) (g a).1 b' (by omega) k0 m0 11 0 0 t s t (INV_XT h) (MT.rf (INV_gM h)) (fun _ _ _ => rfl) (by omega) (by omega)
          obtain ⟨s2, d1, d2, d3⟩ := X_lay1 q3 b' k0 m0
          have M1 := MT_set (MT_set q4 0 x1 (t 0 x1) (q4.2.set32 rfl (by omega))) 1 x1 (t 1 x1) ((q4.2.set32 rfl (by omega)).set32 rfl (by omega))
          rw [off01_back q5] at d3 M1
          rw [q1, q2]
          simp only [gl3]
          rw [d1]
          exact ⟨rfl, d3, M1⟩
        · rw [if_neg c, if_neg (show ¬ (0 ≤ x2 ∧ x2 ≤ 1) by omega)]; exact ⟨rfl, INV_XT h, MT.rf (INV_gM h)⟩
      · rw [if_neg b, if_neg (show ¬ (0 ≤ x1 ∧ x1 ≤ 15) by omega)]; exact ⟨rfl, INV_XT h, MT.rf (INV_gM h)⟩
    · rw [if_neg a, if_neg a]; exact ⟨rfl, INV_XT h, MT.rf (INV_gM h)⟩
  exact ⟨key.1, INV_end key.2.1 key.2.2 hX' hM'⟩
