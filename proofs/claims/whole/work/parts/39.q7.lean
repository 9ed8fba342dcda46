/-! the mean of a plan: one value of both sides -/
theorem fill_M (x : Int) : ∀ (n : Nat) (v : Int) (t : gMem), 16 - v < n → 0 ≤ v → fr [34] t (w_X9_meanOf_11 x n v t).2 ∧ ∀ q, (w_X9_meanOf_11 x n v t).2 34 q = if v ≤ q ∧ q < 16 then -1 else t 34 q := by
  intro n
  induction n with
  | zero =>
    intro v t h h0
    refine ⟨fr.rf _ _, fun q => ?_⟩
    rw [if_neg (by omega)]; rfl
  | succ n ih =>
    intro v t h h0
    rw [w_X9_meanOf_11_s]
    by_cases c : v < 16
    · rw [if_pos c]
      simp only [gl]
      obtain ⟨b1, b2⟩ := ih (v + 1) (mset t 34 v (-1)) (by omega) (by omega)
      refine ⟨((fr.rf _ t).set (by decide)).call (fun _ hk => hk) b1, fun q => ?_⟩
      rw [b2 q, mset_at]
      by_cases e : q = v
      · rw [if_pos e, if_neg (show ¬ (v + 1 ≤ q ∧ q < 16) by omega), if_pos (show v ≤ q ∧ q < 16 by omega)]
      · rw [if_neg e]
        by_cases z : v ≤ q ∧ q < 16
        · rw [if_pos z, if_pos (show v + 1 ≤ q ∧ q < 16 by omega)]
        · rw [if_neg z, if_neg (show ¬ (v + 1 ≤ q ∧ q < 16) by omega)]
    · rw [if_neg c]
      refine ⟨fr.rf _ _, fun q => ?_⟩
      rw [if_neg (by omega)]
def sfold (t0 : gMem) (w : Int) : List (Int × Int) → Int → Int
  | [], v => v
  | q :: L, v => sfold t0 w L (f_X9_most (v + smv t0 w q.1 q.2))
def sadd (t0 : gMem) (w : Int) (L : List (Int × Int)) (v : Int) : Int := L.foldl (fun s q => s + smv t0 w q.1 q.2) v
theorem sadd_0 {t0 : gMem} (h : IM t0) (w : Int) : ∀ (L : List (Int × Int)) (v : Int), lok L → sadd t0 w L v = v + sadd t0 w L 0 ∧ 0 ≤ sadd t0 w L 0
  | [], v, _ => ⟨by show v = v + 0; omega, by show (0 : Int) ≤ 0; omega⟩
  | q :: L, v, hl => by
    have hq := hl q List.mem_cons_self
    have hl2 : lok L := fun z hz => hl z (List.mem_cons_of_mem _ hz)
    have hs := smv_rg h (w := w) hq.1 hq.2.2
    have e1 : sadd t0 w (q :: L) v = sadd t0 w L (v + smv t0 w q.1 q.2) := rfl
    have e2 : sadd t0 w (q :: L) 0 = sadd t0 w L (0 + smv t0 w q.1 q.2) := rfl
    obtain ⟨a1, a2⟩ := sadd_0 h w L (v + smv t0 w q.1 q.2) hl2
    obtain ⟨b1, b2⟩ := sadd_0 h w L (0 + smv t0 w q.1 q.2) hl2
    rw [e1, e2, a1, b1]
    constructor <;> omega
theorem sfold_e {t0 : gMem} (h : IM t0) (w : Int) : ∀ (L : List (Int × Int)) (v : Int), lok L → v ≤ 1000000000000 → sfold t0 w L v = f_X9_most (sadd t0 w L v)
  | [], v, _, hv => by
    show v = f_X9_most v
    have := most_c v
    omega
  | q :: L, v, hl, hv => by
    have hl2 : lok L := fun z hz => hl z (List.mem_cons_of_mem _ hz)
    have m1 := most_c (v + smv t0 w q.1 q.2)
    have e0 : sfold t0 w (q :: L) v = sfold t0 w L (f_X9_most (v + smv t0 w q.1 q.2)) := rfl
    have e1 : sadd t0 w (q :: L) v = sadd t0 w L (v + smv t0 w q.1 q.2) := rfl
    rw [e0, e1, sfold_e h w L _ hl2 (by omega), (sadd_0 h w L (f_X9_most (v + smv t0 w q.1 q.2)) hl2).1, (sadd_0 h w L (v + smv t0 w q.1 q.2) hl2).1]
    have hp := (sadd_0 h w L 0 hl2).2
    have m2 := most_c (f_X9_most (v + smv t0 w q.1 q.2) + sadd t0 w L 0)
    have m3 := most_c (v + smv t0 w q.1 q.2 + sadd t0 w L 0)
    omega
theorem rsm_sadd {t0 : gMem} (w x : Int) : rsm t0 w x 17 0 = sadd t0 w (stl (t0 0) x 17 0) 0 := by
  have hs := scan_stl (t0 0) x (fun n v (st : Int) => st + rsm t0 w x n v) (fun st a b => st + smv t0 w a b) (fun _ => True)
    (fun n v st hv => by
      show st + rsm t0 w x (n + 1) v = st
      have e : rsm t0 w x (n + 1) v = 0 := by
        show (if v < 16 then _ else _) = _
        rw [if_neg (by omega)]
      omega)
    (fun n v st _ v0 v1 hb => by
      show st + rsm t0 w x (n + 1) v = st + rsm t0 w x n (v + 1)
      have e : rsm t0 w x (n + 1) v = 0 + rsm t0 w x n (v + 1) := by
        show (if v < 16 then _ else _) = _
        rw [if_pos (by omega), if_pos ((rsm_b t0 v x).mpr hb)]
      omega)
    (fun n v st _ v0 v1 hb => by
      show st + rsm t0 w x (n + 1) v = st + smv t0 w v (la (t0 0) x v) + rsm t0 w x n (v + 1)
      have e : rsm t0 w x (n + 1) v = smv t0 w v (la (t0 0) x v) + rsm t0 w x n (v + 1) := by
        show (if v < 16 then _ else _) = _
        rw [if_pos (by omega), if_neg (fun q => (rsm_b t0 v x).mp q hb)]
      omega)
    (fun _ _ _ _ _ _ => trivial) 16 17 17 0 0 trivial (by omega) (BDY_0 _ _) (by omega) (by omega) (by omega) (by omega)
  have e : (0 : Int) + rsm t0 w x 17 0 = rsm t0 w x 17 0 := by omega
  rw [← e]
  exact hs
theorem stl_mem (kd : Int → Int) (x : Int) {q : Int} (hB : BGN kd x q) (hq : q < 16) : ∀ (n : Nat) (p : Int), 0 ≤ p → BDY kd x p → p ≤ q → 16 - p < n → (q, la kd x q) ∈ stl kd x n p := by
  intro n
  induction n with
  | zero => intro p _ _ _ _; exfalso; omega
  | succ n ih =>
    intro p p0 hb h1 h2
    unfold stl
    rw [if_pos (by omega)]
    by_cases c : f_X9_isIn x p = 0
    · rw [if_pos c]
      by_cases e : q = p
      · rw [e]; exact List.mem_cons_self
      · obtain ⟨l1, l2, l3, l4, l5⟩ := la_p kd x p0 (by omega)
        refine List.mem_cons_of_mem _ (ih (la kd x p + 1) (by omega) ?_ ?_ (by omega))
        · have e : la kd x p + 1 - 1 = la kd x p := by omega
          unfold BDY
          rw [e]
          rcases l5 with l5 | l5 | l5 | l5
          · rcases l4 with l4 | l4
            · rw [l4]; exact Or.inr (Or.inr (Or.inl l5))
            · exact absurd l5 l4
          · exact Or.inr (Or.inr (Or.inr (fun z => by omega)))
          · exact Or.inr (Or.inr (Or.inr (fun _ => Or.inl l5)))
          · exact Or.inr (Or.inr (Or.inr (fun _ => Or.inr l5)))
        · by_cases z : la kd x p + 1 ≤ q
          · exact z
          · exfalso
            obtain ⟨r1, r2⟩ := l3 q (by omega) (by omega)
            have nb := (in0 _ _).mp c
            rcases hB.2 with hz | hz | hz | hz
            · omega
            · by_cases e2 : q - 1 = p
              · rw [e2] at hz; exact nb hz
              · exact (l3 (q - 1) (by omega) (by omega)).1 hz
            · by_cases e2 : q - 1 = p
              · rw [e2] at hz
                rcases l4 with l4 | l4
                · omega
                · exact l4 hz
              · exact (l3 (q - 1) (by omega) (by omega)).2 hz
            · exact r2 hz
    · rw [if_neg c]
      have hbv : bitS x p := Classical.byContradiction fun z => c ((in0 _ _).mpr z)
      have hne : ¬ q = p := fun e => hB.1 (by rw [e]; exact hbv)
      exact ih (p + 1) (by omega) (Or.inr (Or.inl (by rw [show p + 1 - 1 = p by omega]; exact hbv))) (by omega) (by omega)
theorem stl_pw (kd : Int → Int) (x : Int) : ∀ (n : Nat) (p : Int), 0 ≤ p → (stl kd x n p).Pairwise (fun a b => a.2 < b.1) := by
  intro n
  induction n with
  | zero => intro p _; exact List.Pairwise.nil
  | succ n ih =>
    intro p p0
    unfold stl
    by_cases c : p < 16
    · rw [if_pos c]
      have hl := la_p kd x p0 (by omega)
      by_cases d : f_X9_isIn x p = 0
      · rw [if_pos d]
        refine List.Pairwise.cons (fun q hq => ?_) (ih _ (by omega))
        have := (stl_ok kd x n _ (by omega) q hq).1
        show la kd x p < q.1
        omega
      · rw [if_neg d]; exact ih _ (by omega)
    · rw [if_neg c]; exact List.Pairwise.nil
theorem stl_tot (kd : Int → Int) (x : Int) : ∀ (n : Nat) (p : Int), 0 ≤ p → p ≤ 16 → tot (stl kd x n p) ≤ 16 - p := by
  intro n
  induction n with
  | zero => intro p _ h; show (0 : Int) ≤ 16 - p; omega
  | succ n ih =>
    intro p p0 h
    unfold stl
    by_cases c : p < 16
    · rw [if_pos c]
      have hl := la_p kd x p0 (by omega)
      by_cases d : f_X9_isIn x p = 0
      · rw [if_pos d]
        have := ih (la kd x p + 1) (by omega) (by omega)
        show la kd x p - p + 1 + tot (stl kd x n (la kd x p + 1)) ≤ 16 - p
        omega
      · rw [if_neg d]
        have := ih (p + 1) (by omega) (by omega)
        omega
    · rw [if_neg c]; show (0 : Int) ≤ 16 - p; omega
theorem M_37 {s0 t0 : gMem} {w x : Int} (hX : XT s0 t0) : ∀ (B A : List (Int × Int)) (n : Nat) (v : Int) (t : gMem), MT t0 t → ORD w (A ++ B) t → lok (A ++ B) → tot (A ++ B) ≤ 16 → B.Pairwise (fun a b => a.2 < b.1) → B.length < n → ∃ (t' : gMem) (u : Int), w_X9_meanOf_37 x n v (A.length : Int) t = (sfold t0 w B v, u, t') ∧ fr [25, 26, 34] t t' ∧ MT t0 t' ∧ (∀ q ∈ B, ∀ p, q.1 ≤ p → p ≤ q.2 → t' 34 p = smv t0 w q.1 q.2) ∧ ∀ p, (∀ q ∈ B, ¬ (q.1 ≤ p ∧ p ≤ q.2)) → t' 34 p = t 34 p
  | [], A, n, v, t, hM, hO, hl, ht, hp, hn => by
    obtain ⟨n, rfl⟩ : ∃ k, n = k + 1 := ⟨n - 1, by simp at hn; omega⟩
    have h31 := hO.2.1
    rw [List.append_nil] at h31
    rw [w_X9_meanOf_37_s, if_neg (by omega)]
    exact ⟨t, _, rfl, fr.rf _ _, hM, fun q hq => (by cases hq), fun p _ => rfl⟩
  | q :: B, A, n, v, t, hM, hO, hl, ht, hp, hn => by
    obtain ⟨n, rfl⟩ : ∃ k, n = k + 1 := ⟨n - 1, by simp at hn; omega⟩
    have h31 := hO.2.1
    rw [List.length_append, List.length_cons] at h31
    rw [w_X9_meanOf_37_s, if_pos (by omega)]
    have hk : (A ++ q :: B)[A.length]? = some q := by
      rw [List.getElem?_append_right (Nat.le_refl _), Nat.sub_self]
      rfl
    obtain ⟨t1, e1, f1, M1, n1, n2⟩ := M_smean hX hM hO hl ht hk
    rw [e1]
    simp only [gb]
    have eA : A ++ q :: B = (A ++ [q]) ++ B := by simp
    have hO1 : ORD w ((A ++ [q]) ++ B) t1 := by
      rw [← eA]
      obtain ⟨o1, o2, o3, o4⟩ := hO
      refine ⟨by rw [f1 30 (by decide)]; exact o1, by rw [f1 31 (by decide)]; exact o2, fun k hk => by rw [f1 29 (by decide)]; exact o3 k hk, fun i i0 i1 => by rw [f1 27 (by decide), f1 28 (by decide)]; exact o4 i i0 i1⟩
    rw [eA] at hl ht
    have hp2 := List.pairwise_cons.mp hp
    obtain ⟨t', u, e2, f2, M2, m1, m2⟩ := M_37 (x := x) hX B (A ++ [q]) n (f_X9_most (v + smv t0 w q.1 q.2)) t1 M1 hO1 hl ht hp2.2 (by simp at hn; omega)
    have eL : ((A ++ [q]).length : Int) = (A.length : Int) + 1 := by simp
    rw [eL] at e2
    refine ⟨t', u, e2, f1.call (fun _ hk => hk) f2, M2, fun z hz p p0 p1 => ?_, fun p hz => ?_⟩
    · rcases List.mem_cons.mp hz with rfl | hz
      · rw [m2 p (fun z2 hz2 c => by have := hp2.1 z2 hz2; omega)]
        exact n1 p p0 p1
      · exact m1 z hz p p0 p1
    · rw [m2 p (fun z2 hz2 => hz z2 (List.mem_cons_of_mem _ hz2))]
      exact n2 p (hz q List.mem_cons_self)
def MQ4 (t : gMem) : Prop := OR t ∧ BE t ∧ FI t ∧ MN t
def MV (t0 : gMem) (w x : Int) : Int := (f_X9_meanOf x w t0).1
theorem mean_two {s t0 t : gMem} {w x : Int} (hX : XM s t0 w) (hM : MT t0 t) (hQ : MQ4 t) (hx : in32 x) (hw : 0 ≤ w ∧ w ≤ 2) : ∃ (R : Int) (s' t' : gMem), f_X2_meanBy x s = (R, s') ∧ f_X9_meanOf x w t = (R, t') ∧ XM s' t0 w ∧ fr [32, 36, 37, 38, 39, 42] s s' ∧ MT t0 t' ∧ fr [25, 26, 27, 28, 29, 30, 31, 32, 33, 34] t t' := by
  have hI := hX.1.2.2.1
  obtain ⟨i1, i2, i3, i4, i5⟩ := hM.IM hI
  obtain ⟨T1, e1, f1, hO, -⟩ := orders_M x w t
  have g1 := (f_X9_orders_p x w t hx (by omega) hM.2 hQ.1 hQ.2.1 hQ.2.2.1 hw 0 T1 e1).2.1
  have M1 : MT t0 T1 := hM.fr f1 g1 (by decide)
  obtain ⟨b1, b2⟩ := fill_M x 17 0 T1 (by omega) (by omega)
  obtain ⟨T2, hT2⟩ : ∃ T, T = (w_X9_meanOf_11 x 17 0 T1).2 := ⟨_, rfl⟩
  rw [← hT2] at b1 b2
  have M2 : MT t0 T2 := M1.fr b1 (fun k i => by
    by_cases e : k = 34
    · subst e
      refine ⟨fun z => absurd z (by decide), fun _ => ?_⟩
      rw [b2 i]
      by_cases z : 0 ≤ i ∧ i < 16
      · rw [if_pos z]; omega
      · rw [if_neg z]; exact (M1.2 34 i).2 rfl
    · rw [b1 k (by simp; exact e)]
      exact M1.2 k i) (by decide)
  rw [hM.1 0 (by decide)] at hO
  have hl := stl_lok (t0 0) x 17 (p := 0) (by omega)
  have ht := stl_tot (t0 0) x 17 0 (by omega) (by omega)
  have hlen := (tot_nn hl).2
  have hO2 : ORD w ([] ++ stl (t0 0) x 17 0) T2 := by
    obtain ⟨o1, o2, o3, o4⟩ := hO
    refine ⟨by rw [b1 30 (by decide)]; exact o1, by rw [b1 31 (by decide)]; exact o2, fun k hk => by rw [b1 29 (by decide)]; exact o3 k hk, fun i i0 i1 => by rw [b1 27 (by decide), b1 28 (by decide)]; exact o4 i i0 i1⟩
  obtain ⟨T3, u3, e3, f3, M3, n1, n2⟩ := M_37 (x := x) hX.1 (stl (t0 0) x 17 0) [] 17 0 T2 M2 hO2 (by rw [List.nil_append]; exact hl) (by rw [List.nil_append]; omega) (stl_pw _ _ _ _ (by omega)) (by omega)
  have hsf := sfold_e hI w (stl (t0 0) x 17 0) 0 hl (by omega)
  have hrs := rsm_sadd (t0 := t0) w x
  have hJ : JN t0 w x 17 0 0 0 0 (sfold t0 w (stl (t0 0) x 17 0) 0) 0 (T3 34) := by
    refine ⟨⟨by omega, by omega, by omega, Or.inl rfl, fun q q0 q1 => by omega⟩, ⟨by omega, by omega, by omega, fun _ => rfl, fun _ => rfl⟩, fun q q0 q1 => by omega, fun q q0 q1 => by omega, ⟨by omega, by omega⟩, fun q q0 q1 => ⟨fun z => ?_, fun z v v0 v1 => ?_⟩, ⟨by omega, by omega, ?_⟩, fun q => by omega, fun _ => by omega, fun q => by omega, BDY_0 _ _⟩
    · rw [n2 q (fun r hr c => ?_), b2 q, if_pos (by omega)]
      obtain ⟨r1, r2, r3, r4, r5⟩ := stl_ok (t0 0) x 17 0 (by omega) r hr
      by_cases e : q = r.1
      · rw [e] at z; exact r5 z
      · exact (r4 q (by omega) (by omega)).1 z
    · exact n1 (q, la (t0 0) x q) (stl_mem (t0 0) x z (by omega) 17 0 (by omega) (BDY_0 _ _) (by omega) (by omega)) v v0 v1
    · rw [hsf, hrs]
      congr 1
      omega
  obtain ⟨R, s', t', u, u2, q1, q2, q3, q4, q5, q6⟩ := mean_joint (x := x) hX.1 17 0 0 0 0 (sfold t0 w (stl (t0 0) x 17 0) 0) 0 s T3 hX M3 hJ (by omega)
  refine ⟨R, s', t', ?_, ?_, q3, q4, q5, ((f1.mono (by decide)).call (by decide) (b1.call (fun _ hk => hk) (fr.rf _ _))).call (by decide) (f3.call (fun _ hk => hk) q6)⟩
  · unfold f_X2_meanBy
    simp only [gl5]
    rw [q1]
  · unfold f_X9_meanOf
    rw [e1]
    simp only [gb, gl2, gl3]
    rw [← hT2]
    have e3' : w_X9_meanOf_37 x 17 0 0 T2 = (sfold t0 w (stl (t0 0) x 17 0) 0, u3, T3) := e3
    rw [e3']
    simp only
    rw [q2]
theorem X_from {s t0 : gMem} {w : Int} (h : XT s t0) (hK : KM s) (hY : WY s) (hw : 0 ≤ w ∧ w ≤ 2) : ∃ s', f_X2_from w s = (0, s') ∧ fr [42, 64] s s' ∧ XM s' t0 w := by
  have hq := f_X2_from_p w s (by omega) h.2.1.1 hK hY (by omega) (f_X2_from w s).1 (f_X2_from w s).2 rfl
  refine ⟨(f_X2_from w s).2, rfl, hq.1, ?_⟩
  obtain ⟨hR, ⟨i1, i2, i3, i4, i5, i6, i7, i8, i9, i10, i11, i12, i13⟩, hM, c1, c2, c3⟩ := id h
  refine ⟨XT_fr h hq.1 (by decide) hq.2.1 (KF_fr i11 (frK hq.1 (by decide))) (KC_fr i12 (frK hq.1 (by decide))) (KT_fr i13 (frK hq.1 (by decide))) (CFf_fr c1 (hq.1 37 (by decide))) (CFc_fr c2 (hq.1 38 (by decide))) (CFt_fr c3 (hq.1 39 (by decide))), hq.2.2.2.1, hq.2.2.2.2, ?_, fun f l a b c => Or.inl ?_⟩
  · show mfill (mset s 64 0 w) 42 256 (-1) 64 0 = w
    rw [mfill_ne _ _ _ _ _ (by decide), mset_eq]
  · show mfill (mset s 64 0 w) 42 256 (-1) 42 (f * 16 + l) < 0
    rw [mfill_at, if_pos (by omega)]
    omega
theorem X_mean {s t0 : gMem} {w x : Int} (h : XM s t0 w) (hQ : MQ4 t0) (hx : in32 x) (hw : 0 ≤ w ∧ w ≤ 2) : ∃ s', f_X2_meanBy x s = (MV t0 w x, s') ∧ XM s' t0 w ∧ fr [32, 36, 37, 38, 39, 42] s s' := by
  obtain ⟨R, s', t', e1, e2, a1, a2, a3, a4⟩ := mean_two h (MT.rf h.1.2.2.1.1) hQ hx hw
  have e : MV t0 w x = R := by unfold MV; rw [e2]
  exact ⟨s', by rw [e]; exact e1, a1, a2⟩
theorem M_mean {s t0 t : gMem} {w x : Int} (h : XT s t0) (hK : KM s) (hY : WY s) (hM : MT t0 t) (hQ0 : MQ4 t0) (hQ : MQ4 t) (hx : in32 x) (hw : 0 ≤ w ∧ w ≤ 2) : ∃ t', f_X9_meanOf x w t = (MV t0 w x, t') ∧ MT t0 t' ∧ MQ4 t' ∧ fr [25, 26, 27, 28, 29, 30, 31, 32, 33, 34] t t' := by
  obtain ⟨s1, -, -, X1⟩ := X_from h hK hY hw
  obtain ⟨R, s', t', e1, e2, a1, a2, a3, a4⟩ := mean_two X1 hM hQ hx hw
  obtain ⟨s2, e3, -, -⟩ := X_mean X1 hQ0 hx hw
  have e : R = MV t0 w x := by
    have := e1.symm.trans e3
    exact (Prod.mk.inj this).1
  obtain ⟨i1, i2, i3, i4, i5⟩ := hM.IM h.2.2.1
  have hq := f_X9_meanOf_p x w t hx (by omega) i1 i2 i3 i4 hQ.1 hQ.2.1 hQ.2.2.1 hQ.2.2.2 hw R t' e2
  exact ⟨t', by rw [← e]; exact e2, a3, ⟨hq.2.2.2.1, hq.2.2.2.2.1, hq.2.2.2.2.2.1, hq.2.2.2.2.2.2.1⟩, a4⟩
