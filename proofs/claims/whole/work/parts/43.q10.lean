/-! both sides' answers: stop -/
theorem stop_loop {t0 : gMem} {c1 c2 w now : Int} (hQ0 : MQ4 t0) (hw : w = t0 2 2) : ∀ (n : Nat) (p b l be mo : Int) (s t : gMem), XT s t0 → KM s → WY s → LEA s → MT t0 t → MQ4 t → PK s b l → (b = -1 → be = -1 ∧ mo = 0) → (¬ b = -1 → (l < now → be = b ∧ mo = now - l) ∧ (now ≤ l → be = -1 ∧ mo = 0)) → 0 ≤ p → p ≤ 16 → 16 - p < n → (p = 0 ∨ s 68 0 = 1) → ∃ (s' t' : gMem) (b' l' be' mo' : Int), w_X8_stop_27 c1 c2 n p s = (16, s') ∧ w_X9_stop_27 c1 now n be mo p t = (be', mo', 16, t') ∧ XT s' t0 ∧ PK s' b' l' ∧ (p = 16 ∨ s' 68 0 = 1) ∧ (p = 0 ∨ s' 68 0 = 1) ∧ (¬ b' = -1 → (l' < now → be' = b' ∧ mo' = now - l') ∧ (now ≤ l' → be' = -1 ∧ mo' = 0)) ∧ t' 0 = t0 0 := by
  intro n
  induction n with
  | zero => intro p b l be mo s t _ _ _ _ _ _ _ _ _ h1 h2 h3; exfalso; omega
  | succ n ih =>
    intro p b l be mo s t hX hK hY hL hM hQ hP g1 g2 h1 h2 h3 h4
    rw [w_X8_stop_27_s, w_X9_stop_27_s]
    by_cases c : p < 16
    · rw [if_pos c, if_pos c]
      obtain ⟨i1, i2, i3, i4, i5⟩ := hX.2.2.1
      obtain ⟨r1, r2⟩ := hX.1.1 p h1 c
      have kp := i3 p
      have mp := i4 p
      obtain ⟨t1, ht1⟩ : ∃ t1, t1 = mset t0 0 p 4 := ⟨_, rfl⟩
      have f1 : fr [0] t0 t1 := by rw [ht1]; exact (fr.rf _ _).set (by decide)
      have t10 : ∀ q, t1 0 q = if q = p then 4 else t0 0 q := fun q => by rw [ht1, mset_at]
      have I1 : IM t1 := ⟨by rw [ht1]; exact i1.set32 rfl (by omega), VS_frm i2 (frK f1 (by decide)), by rw [ht1]; exact KN_set i3 (by omega), MO_frm i4 (frK f1 (by decide)), TD_frm i5 (frK f1 (by decide))⟩
      have Q1 : MQ4 t1 := ⟨OR_frm hQ0.1 (frK f1 (by decide)), BE_frm hQ0.2.1 (frK f1 (by decide)), FI_frm hQ0.2.2.1 (frK f1 (by decide)), MN_frm hQ0.2.2.2 (frK f1 (by decide))⟩
      obtain ⟨s1, e1, x1, X1⟩ := X_become hX (p := p) (k := 4) (m := s 41 p) (t1 := t1) (by omega) (by omega) (by omega) t10 (fun q => by
        rw [f1 1 (by decide)]
        by_cases z : q = p
        · rw [if_pos z, z]; exact r2.symm
        · rw [if_neg z]) (fun k hk k0 k1 => f1 k (by simp; exact k0)) I1
      have K1 : KM s1 := KM_fr hK (frK x1 (by decide))
      have Y1 : WY s1 := WY_fr hY (frK x1 (by decide))
      obtain ⟨s2, e2, X2, x2⟩ := X_plan X1 K1 Y1 Q1
      obtain ⟨T, hT⟩ : ∃ T, T = mset t 0 p 4 := ⟨_, rfl⟩
      have fT : fr [0] t T := by rw [hT]; exact (fr.rf _ _).set (by decide)
      have MT1 : MT t1 T := by
        refine ⟨fun k hk => ?_, by rw [hT]; exact hM.2.set32 rfl (by omega)⟩
        by_cases z : k = 0
        · subst z
          rw [hT, ht1]
          funext q
          rw [mset_at, mset_at, hM.1 0 (by decide)]
        · rw [fT k (by simp; exact z), f1 k (by simp; exact z)]
          exact hM.1 k hk
      have QT : MQ4 T := ⟨OR_frm hQ.1 (frK fT (by decide)), BE_frm hQ.2.1 (frK fT (by decide)), FI_frm hQ.2.2.1 (frK fT (by decide)), MN_frm hQ.2.2.2 (frK fT (by decide))⟩
      obtain ⟨t2, e3, M2, Q2, f2⟩ := M_plan X1 K1 Y1 MT1 Q1 QT
      rw [e1, ← hT]
      simp only [gb, gl]
      rw [e2, e3]
      simp only
      obtain ⟨v, hv⟩ : ∃ v, v = MV t1 (t1 2 2) (t1 2 0) := ⟨_, rfl⟩
      rw [← hv]
      have td1 := I1.2.2.2.2 0
      have td2 := I1.2.2.2.2 2
      have hvr : 0 ≤ v ∧ v ≤ 1000000000000 := by rw [hv]; exact MV_rg I1 Q1 (by omega) (by omega)
      have x12 : fr [32, 36, 37, 38, 39, 40, 41, 42, 64] s s2 := (x1.mono (by decide)).call (by decide) x2
      have hP1 : PK s2 b l := by
        unfold PK
        rw [x12 68 (by decide), x12 69 (by decide), x12 70 (by decide)]
        exact hP
      obtain ⟨s3, e4, X3, L3, x3, P3⟩ := X_cons X2 (LEA_fr hL (frK x12 (by decide))) (k := p) (v := v) (by omega) hvr hP1 (by omega)
      rw [e4]
      simp only
      have s68 : s3 68 0 = 1 := by
        rcases P3 with ⟨-, q, -⟩ | ⟨q, -⟩
        · exfalso
          by_cases z : b = -1
          · rw [if_pos z] at q; omega
          · rw [if_neg z] at q
            by_cases z2 : v < l
            · rw [if_pos z2] at q; omega
            · rw [if_neg z2] at q; exact z q
        · exact q
      have r3 := (X3.1.1.1 p h1 c).2
      rw [f1 1 (by decide)] at r3
      obtain ⟨s4, e5, x4, X4⟩ := X_become X3.1 (p := p) (k := s 40 p) (m := s3 41 p) (t1 := t0) (by omega) (by omega) (by omega) (fun q => by
        rw [t10]
        by_cases z : q = p
        · rw [if_pos z, z]; exact r1.symm
        · rw [if_neg z, if_neg z]) (fun q => by
        rw [f1 1 (by decide)]
        by_cases z : q = p
        · rw [if_pos z, z]; exact r3.symm
        · rw [if_neg z]) (fun k hk k0 k1 => (f1 k (by simp; exact k0)).symm) ⟨i1, i2, i3, i4, i5⟩
      rw [e5]
      simp only
      have P4 : PK s4 (if b = -1 then p else if v < l then p else b) (if b = -1 then v else if v < l then v else l) := by
        have e68 : s4 68 = s3 68 := x4 68 (by decide)
        have e69 : s4 69 = s3 69 := x4 69 (by decide)
        have e70 : s4 70 = s3 70 := x4 70 (by decide)
        unfold PK at P3 ⊢
        rw [e68, e69, e70]
        exact P3
      obtain ⟨T2, hT2⟩ : ∃ T2, T2 = mset t2 0 p (t 0 p) := ⟨_, rfl⟩
      have fT2 : fr [0] t2 T2 := by rw [hT2]; exact (fr.rf _ _).set (by decide)
      have MT2 : MT t0 T2 := by
        refine ⟨fun k hk => ?_, by rw [hT2]; exact M2.2.set32 rfl ((hM.2 0 p).1 rfl)⟩
        by_cases z : k = 0
        · subst z
          rw [hT2]
          funext q
          rw [mset_at, M2.1 0 (by decide), t10, hM.1 0 (by decide)]
          by_cases z : q = p
          · rw [if_pos z, z]
          · rw [if_neg z, if_neg z]
        · rw [fT2 k (by simp; exact z), M2.1 k hk]
          exact f1 k (by simp; exact z)
      have QT2 : MQ4 T2 := ⟨OR_frm Q2.1 (frK fT2 (by decide)), BE_frm Q2.2.1 (frK fT2 (by decide)), FI_frm Q2.2.2.1 (frK fT2 (by decide)), MN_frm Q2.2.2.2 (frK fT2 (by decide))⟩
      have xall : fr [32, 36, 37, 38, 39, 40, 41, 42, 64, 68, 69, 70] s s4 := ((x12.mono (by decide)).call (by decide) x3).call (by decide) x4
      have WY4 : WY s4 := WY_fr (WY_fr X2.2.2.1 (frK x3 (by decide))) (frK x4 (by decide))
      have KM4 : KM s4 := KM_fr (KM_fr X2.2.1 (frK x3 (by decide))) (frK x4 (by decide))
      rw [← hT2]
      obtain ⟨b2, hb2⟩ : ∃ z, z = (if b = -1 then p else if v < l then p else b) := ⟨_, rfl⟩
      obtain ⟨l2, hl2⟩ : ∃ z, z = (if b = -1 then v else if v < l then v else l) := ⟨_, rfl⟩
      rw [← hb2, ← hl2] at P4
      obtain ⟨be2, hbe2⟩ : ∃ z, z = (if mo < now - v then p else be) := ⟨_, rfl⟩
      obtain ⟨mo2, hmo2⟩ : ∃ z, z = (if mo < now - v then now - v else mo) := ⟨_, rfl⟩
      rw [← hbe2, ← hmo2]
      have hcase : ¬ b2 = -1 ∧ (l2 < now → be2 = b2 ∧ mo2 = now - l2) ∧ (now ≤ l2 → be2 = -1 ∧ mo2 = 0) := by
        by_cases z : b = -1
        · rw [if_pos z] at hb2 hl2
          obtain ⟨y1, y2⟩ := g1 z
          by_cases z2 : mo < now - v
          · rw [if_pos z2] at hbe2 hmo2
            exact ⟨by omega, fun _ => ⟨by omega, by omega⟩, fun q => by omega⟩
          · rw [if_neg z2] at hbe2 hmo2
            exact ⟨by omega, fun q => by omega, fun q => ⟨by omega, by omega⟩⟩
        · rw [if_neg z] at hb2 hl2
          obtain ⟨y1, y2⟩ := g2 z
          by_cases z3 : v < l
          · rw [if_pos z3] at hb2 hl2
            by_cases z2 : mo < now - v
            · rw [if_pos z2] at hbe2 hmo2
              exact ⟨by omega, fun _ => ⟨by omega, by omega⟩, fun q => by
                by_cases z4 : l < now
                · have := y1 z4; omega
                · have := y2 (by omega); omega⟩
            · rw [if_neg z2] at hbe2 hmo2
              by_cases z4 : l < now
              · have := y1 z4
                exact ⟨by omega, fun q => by omega, fun q => by omega⟩
              · have := y2 (by omega)
                exact ⟨by omega, fun q => by omega, fun q => ⟨by omega, by omega⟩⟩
          · rw [if_neg z3] at hb2 hl2
            by_cases z2 : mo < now - v
            · rw [if_pos z2] at hbe2 hmo2
              by_cases z4 : l < now
              · have := y1 z4
                exact ⟨by omega, fun q => by omega, fun q => by omega⟩
              · have := y2 (by omega)
                exact ⟨by omega, fun q => by omega, fun q => by omega⟩
            · rw [if_neg z2] at hbe2 hmo2
              by_cases z4 : l < now
              · have := y1 z4
                exact ⟨by omega, fun q => ⟨by omega, by omega⟩, fun q => by omega⟩
              · have := y2 (by omega)
                exact ⟨by omega, fun q => by omega, fun q => ⟨by omega, by omega⟩⟩
      have s468 : s4 68 0 = 1 := by rw [x4 68 (by decide)]; exact s68
      obtain ⟨s', t', b', l', be', mo', q1, q2, q3, q4, q5, q6, q7, q8⟩ := ih (p + 1) b2 l2 be2 mo2 s4 T2 X4 KM4 WY4 (LEA_fr L3 (frK x4 (by decide))) MT2 QT2 P4 (fun z => absurd z hcase.1) (fun _ => hcase.2) (by omega) (by omega) (by omega) (Or.inr s468)
      have s68' : s' 68 0 = 1 := q6.resolve_left (by omega)
      exact ⟨s', t', b', l', be', mo', q1, q2, q3, q4, Or.inr s68', Or.inr s68', q7, q8⟩
    · have e : p = 16 := by omega
      subst e
      rw [if_neg c, if_neg c]
      exact ⟨s, t, b, l, be, mo, rfl, rfl, hX, hP, Or.inl rfl, h4, g2, hM.1 0 (by decide)⟩
theorem EQ_stop {s t : gMem} (h : INV s t) {x0 : Int} (hx0 : in32 x0) : (f_X8_stop x0 s).1 = (f_X9_stop x0 t).1 ∧ INV (f_X8_stop x0 s).2 (f_X9_stop x0 t).2 := by
  obtain ⟨fx, hX'⟩ := XI_stop h.2.1 hx0
  obtain ⟨fm, hM'⟩ := MI_stop h.2.2.1 hx0
  have key : (f_X8_stop x0 s).1 = (f_X9_stop x0 t).1 ∧ XT (f_X8_stop x0 s).2 t ∧ (f_X9_stop x0 t).2 0 = t 0 := by
    unfold f_X8_stop f_X9_stop
    rw [if_out, if_in]
    by_cases a : 0 ≤ x0 ∧ x0 < 2
    · rw [if_pos a, if_pos (show 0 ≤ x0 ∧ x0 ≤ 1 by omega)]
      obtain ⟨s1, e1, X1, f1⟩ := X_plan (INV_XT h) (INV_KM h) (INV_WY h) (INV_MQ h)
      obtain ⟨t1, e2, M1, Q1, -⟩ := M_plan (INV_XT h) (INV_KM h) (INV_WY h) (MT.rf (INV_gM h)) (INV_MQ h) (INV_MQ h)
      obtain ⟨s2, e3, X2, L2, f2, z1, z2, z3⟩ := X_pbeg X1 (LEA_fr (INV_LEA h) (frK f1 (by decide)))
      obtain ⟨s', t', b', l', be', mo', q1, q2, q3, q4, q5, q6, q7, q8⟩ := stop_loop (c1 := x0) (c2 := MV t (t 2 2) (t 2 0)) (now := MV t (t 2 2) (t 2 0)) (INV_MQ h) rfl 17 0 (-1) 0 (-1) 0 s2 t1 X2.1 X2.2.1 X2.2.2.1 L2 M1 Q1 (Or.inl ⟨z1, rfl, z2⟩) (fun _ => ⟨rfl, rfl⟩) (fun z => absurd rfl z) (by omega) (by omega) (by omega) (Or.inl rfl)
      rw [e1, e2]
      simp only [gb]
      rw [e3]
      simp only [gl2, gl4]
      rw [q1, q2]
      simp only
      have s68 : s' 68 0 = 1 := q5.resolve_left (by omega)
      rcases q4 with ⟨z, -⟩ | ⟨-, y2, y3, y4⟩
      · exfalso; omega
      · obtain ⟨w1, w2⟩ := q7 y2
        rw [y3, y4]
        by_cases z : l' < MV t (t 2 2) (t 2 0)
        · rw [if_pos z]
          obtain ⟨w3, w4⟩ := w1 z
          by_cases e : x0 = 0
          · rw [if_pos e, if_pos e]; exact ⟨w3.symm, q3, q8⟩
          · rw [if_neg e, if_neg e]; exact ⟨w4.symm, q3, q8⟩
        · rw [if_neg z]
          obtain ⟨w3, w4⟩ := w2 (by omega)
          by_cases e : x0 = 0
          · rw [if_pos e, if_pos e]; exact ⟨w3.symm, q3, q8⟩
          · rw [if_neg e, if_neg e]; exact ⟨w4.symm, q3, q8⟩
    · rw [if_neg a, if_neg (show ¬ (0 ≤ x0 ∧ x0 ≤ 1) by omega)]; exact ⟨rfl, INV_XT h, rfl⟩
  refine ⟨key.1, ?_⟩
  have hm : MT t (f_X9_stop x0 t).2 := ⟨fun k hk => by
    by_cases z : k = 0
    · subst z; exact key.2.2
    · exact fm k (by revert k; decide), hM'.1.1⟩
  exact ⟨hm.RLa key.2.1.1, hX', hM', CFf_tr (INV_XT h) hm key.2.1.2.2.2.1, CFc_tr (INV_XT h) hm key.2.1.2.2.2.2.1, CFt_tr (INV_XT h) hm key.2.1.2.2.2.2.2⟩
