/-! the mean of a plan: both sides, place by place -/
theorem joins0 (p : Int) (t : gMem) : f_X9_joins p t = 0 ↔ ¬ (0 ≤ p ∧ p ≤ 15 ∧ ¬ t 0 p = 4 ∧ 0 ≤ t 34 p) := by
  unfold f_X9_joins f_X9_isPlace
  by_cases a : f_X9_in p 0 15 = 0
  · rw [if_pos a]
    have a' := (inr0 _ _ _).mp a
    exact ⟨fun _ q => by omega, fun _ => rfl⟩
  · rw [if_neg a]
    have a' : ¬ (p < 0 ∨ 15 < p) := fun q => a ((inr0 _ _ _).mpr q)
    rw [wth (by omega) (by omega)]
    by_cases b : f_X9_doesStop p t = 0
    · rw [if_pos b]
      have b' := (dst0 _ _).mp b
      by_cases c : t 34 p < 0
      · rw [if_pos c]; exact ⟨fun _ q => by omega, fun _ => rfl⟩
      · rw [if_neg c]; exact ⟨fun q => absurd q (by decide), fun q => absurd ⟨by omega, by omega, b', by omega⟩ q⟩
    · rw [if_neg b]
      exact ⟨fun _ q => b ((dst0 _ _).mpr q.2.2.1), fun _ => rfl⟩
theorem run_M {g c : Int} {t : gMem} {L : Int} (hs : ¬ t 0 g = 4) (h1 : ∀ j, 1 ≤ j → j ≤ L → ¬ f_X9_joins (g + c * j) t = 0) (h2 : f_X9_joins (g + c * (L + 1)) t = 0) : ∀ (n : Nat) (v : Int), 0 ≤ v → v ≤ L → L - v < n → w_X9_runFrom_2 g c t n v = L := by
  intro n
  induction n with
  | zero => intro v _ _ _; exfalso; omega
  | succ n ih =>
    intro v v0 v1 v2
    rw [w_X9_runFrom_2_s, if_pos ((dst0 _ _).mpr hs)]
    by_cases e : v = L
    · subst e; rw [if_pos h2]
    · rw [if_neg (h1 (v + 1) (by omega) (by omega))]
      exact ih (v + 1) (by omega) (by omega) (by omega)
theorem run_S {g c : Int} {t : gMem} (hs : t 0 g = 4) : f_X9_runFrom g c t = 0 := by
  show w_X9_runFrom_2 g c t 17 0 = 0
  rw [w_X9_runFrom_2_s, if_neg (fun q => (dst0 _ _).mp q hs)]
theorem note_M {g r a v : Int} : ∀ (n : Nat) (i : Int) (t : gMem), g + r + 1 - i < n → fr [34] t (w_X9_closes_132 g r a v n i t).2 ∧ ∀ q, (w_X9_closes_132 g r a v n i t).2 34 q = if i ≤ q ∧ q ≤ g + r then v else t 34 q := by
  intro n
  induction n with
  | zero =>
    intro i t h
    refine ⟨fr.rf _ _, fun q => ?_⟩
    rw [if_neg (by omega)]; rfl
  | succ n ih =>
    intro i t h
    rw [w_X9_closes_132_s]
    by_cases c : g + r < i
    · rw [if_pos c]
      refine ⟨fr.rf _ _, fun q => ?_⟩
      rw [if_neg (by omega)]
    · rw [if_neg c]
      simp only [gl]
      obtain ⟨b1, b2⟩ := ih (i + 1) (mset t 34 i v) (by omega)
      refine ⟨((fr.rf _ t).set (by decide)).call (fun _ hk => hk) b1, fun q => ?_⟩
      rw [b2 q, mset_at]
      by_cases e : q = i
      · rw [if_pos e, if_neg (show ¬ (i + 1 ≤ q ∧ q ≤ g + r) by omega), if_pos (show i ≤ q ∧ q ≤ g + r by omega)]
      · rw [if_neg e]
        by_cases z : i ≤ q ∧ q ≤ g + r
        · rw [if_pos z, if_pos (by omega)]
        · rw [if_neg z, if_neg (by omega)]
/-- a gap is closed: left and right places joined to it, with their means -/
theorem M_clo {s0 t0 t : gMem} {g lf rt jl jr : Int} (hX : XT s0 t0) (hM : MT t0 t) (hg : 0 ≤ g ∧ g ≤ 15) (h0 : 0 ≤ lf ∧ 0 ≤ rt) (h1 : lf ≤ g ∧ g + rt ≤ 15) (hL : f_X9_runFrom g (-1) t = lf) (hR : f_X9_runFrom g 1 t = rt)
    (hj : jl = if 0 < lf then t 34 (g - 1) else 0) (hk : jr = if 0 < rt then t 34 (g + 1) else 0) (h2 : 0 ≤ jl + jr) : ∃ t', f_X9_closes g t = (clv t0 g (jl + jr) (lf + rt), t') ∧ fr [25, 26, 34] t t' ∧ MT t0 t' ∧ ∀ q, t' 34 q = if g - lf ≤ q ∧ q ≤ g + rt then f_X9_most (jl + jr + clv t0 g (jl + jr) (lf + rt)) else t 34 q := by
  have e1 : (if 0 < lf then (t 34 (f_X9_within (g - 1) 0 15)) else 0) = jl := by
    rw [hj]
    by_cases c : 0 < lf
    · rw [if_pos c, if_pos c, wth (by omega) (by omega)]
    · rw [if_neg c, if_neg c]
  have e2 : (if 0 < rt then (t 34 (f_X9_within (g + 1) 0 15)) else 0) = jr := by
    rw [hk]
    by_cases c : 0 < rt
    · rw [if_pos c, if_pos c, wth (by omega) (by omega)]
    · rw [if_neg c, if_neg c]
  obtain ⟨t1, a1, f1, M1⟩ := M_falls hX hM hg (b := lf + rt) (by omega)
  obtain ⟨t2, a2, f2, M2⟩ := M_takes hX M1 hg
  obtain ⟨t3, a3, f3, M3⟩ := M_closes hX M2 hg (b := lf + rt) (by omega)
  have f123 := (f1.call (fun _ hk => hk) f2).call (fun _ hk => hk) f3
  obtain ⟨b1, b2⟩ := note_M (g := g) (r := rt) (a := clv t0 g (jl + jr) (lf + rt)) (v := f_X9_most (jl + jr + clv t0 g (jl + jr) (lf + rt))) 17 (g - lf) t3 (by omega)
  have ee : f_X9_closes g t = (clv t0 g (jl + jr) (lf + rt), (w_X9_closes_132 g rt (clv t0 g (jl + jr) (lf + rt)) (f_X9_most (jl + jr + clv t0 g (jl + jr) (lf + rt))) 17 (g - lf) t3).2) := by
    unfold f_X9_closes
    simp only [gl, gl2]
    rw [hL, hR, e1, e2, a1]
    simp only [gb]
    rw [a2]
    simp only
    rw [a3]
    rfl
  refine ⟨_, ee, (f123.mono (by decide)).call (by decide) b1, ?_, fun q => ?_⟩
  · refine M3.fr b1 ?_ (by decide)
    have hc := clv_rg hX.2.2.1 (p := g) (x := jl + jr) (b := lf + rt) hg (by omega) h2
    have hm := most_c (jl + jr + clv t0 g (jl + jr) (lf + rt))
    intro k' i
    by_cases e : k' = 34
    · subst e
      refine ⟨fun z => absurd z (by decide), fun _ => ?_⟩
      rw [b2 i]
      by_cases z : g - lf ≤ i ∧ i ≤ g + rt
      · rw [if_pos z]; omega
      · rw [if_neg z]; exact (M3.2 34 i).2 rfl
    · rw [b1 k' (by simp; exact e)]
      exact M3.2 k' i
  · rw [b2 q, f123 34 (by decide)]
def rsm (t0 : gMem) (w x : Int) : Nat → Int → Int
  | 0, _ => 0
  | n + 1, p => if p < 16 then (if f_X2_begins p x (fun _ => t0 0) = 0 then 0 else smv t0 w p (la (t0 0) x p)) + rsm t0 w x n (p + 1) else 0
theorem rsm_b (t0 : gMem) (p x : Int) : f_X2_begins p x (fun _ => t0 0) = 0 ↔ ¬ BGN (t0 0) x p := X_bg0 x p (fun _ => t0 0)
theorem rsm_nn {t0 : gMem} (h : IM t0) (w x : Int) : ∀ (n : Nat) (p : Int), 0 ≤ p → 0 ≤ rsm t0 w x n p := by
  intro n
  induction n with
  | zero => intro p _; exact Int.le_refl 0
  | succ n ih =>
    intro p p0
    unfold rsm
    have h1 := ih (p + 1) (by omega)
    by_cases c : p < 16
    · rw [if_pos c]
      obtain ⟨l1, l2, -⟩ := la_p (t0 0) x p0 (by omega)
      have h2 := smv_rg h (w := w) p0 l2
      by_cases d : f_X2_begins p x (fun _ => t0 0) = 0
      · rw [if_pos d]; omega
      · rw [if_neg d]; omega
    · rw [if_neg c]; exact Int.le_refl 0
/-- all that both sides hold as they come to place p -/
def JN (t0 : gMem) (w x : Int) (n : Nat) (p TX jo sz TM r : Int) (m : Int → Int) : Prop :=
  (0 ≤ r ∧ r ≤ p ∧ p ≤ 16 ∧ (r = 0 ∨ t0 0 (r - 1) = 4) ∧ ∀ q, r ≤ q → q < p → ¬ t0 0 q = 4) ∧ (0 ≤ sz ∧ p ≤ r + sz ∧ r + sz ≤ 16 ∧ (sz = 0 → jo = 0) ∧ (r = p → sz = 0)) ∧ (∀ q, p ≤ q → q < r + sz → ¬ bitS x q ∧ ¬ t0 0 q = 4) ∧ (∀ q, r ≤ q → q < r + sz → m q = jo) ∧ (0 ≤ jo ∧ jo ≤ 1000000000000) ∧ (∀ q, r + sz ≤ q → q < 16 → (bitS x q → m q = -1) ∧ (BGN (t0 0) x q → ∀ z, q ≤ z → z ≤ la (t0 0) x q → m z = smv t0 w q (la (t0 0) x q))) ∧ (0 ≤ TX ∧ TX ≤ 1000000000000 ∧ TM = f_X9_most (TX + rsm t0 w x n p)) ∧ (p < r + sz → BGN (t0 0) x p → jo ≤ TX + smv t0 w p (la (t0 0) x p)) ∧ (¬ (p < r + sz ∧ BGN (t0 0) x p) → jo ≤ TX) ∧ (r < p → p < 16 → BGN (t0 0) x p → ¬ t0 0 p = 4 → r + sz = la (t0 0) x p + 1) ∧ BDY (t0 0) x (r + sz)
theorem BGN_in {kd : Int → Int} {x p : Int} (h : bitS x p) : ¬ BGN kd x p := fun q => q.1 h
set_option maxHeartbeats 8000000 in
theorem mean_joint {sb t0 : gMem} {w x : Int} (hB : XT sb t0) : ∀ (n : Nat) (p TX jo sz TM r : Int) (s t : gMem), XM s t0 w → MT t0 t → JN t0 w x n p TX jo sz TM r (t 34) → 16 - p < n → ∃ (R : Int) (s' t' : gMem) (u : Int × Int × Int) (u2 : Int), w_X2_meanBy_11 x n TX jo sz p s = (R, u.1, u.2.1, u.2.2, s') ∧ w_X9_meanOf_67 x n TM p t = (R, u2, t') ∧ XM s' t0 w ∧ fr [32, 36, 37, 38, 39, 42] s s' ∧ MT t0 t' ∧ fr [25, 26, 34] t t' := by
  intro n
  induction n with
  | zero => intro p TX jo sz TM r s t _ _ hJ h; have := hJ.1.2.2.1; exfalso; omega
  | succ n ih =>
    intro p TX jo sz TM r s t hX hM hJ hn
    obtain ⟨⟨a1, a2, a3, a4, a5⟩, ⟨b1, b2, b3, b4, b5⟩, c1, d1, ⟨e1, e2⟩, f1, ⟨g1, g2, g3⟩, i1, i2, j1, k1⟩ := hJ
    have hI := hB.2.2.1
    have hpl := hX.1.1.1
    rw [w_X2_meanBy_11_s, w_X9_meanOf_67_s]
    by_cases hp : p < 16
    · rw [if_pos hp, if_pos hp]
      have hp0 : 0 ≤ p ∧ p ≤ 15 := by omega
      obtain ⟨l1, l2, l3, l4, l5⟩ := la_p (t0 0) x hp0.1 hp0.2
      have hrs := rsm_nn hI w x n (p + 1) (by omega)
      have hst : f_X4_stops p s = 0 ↔ ¬ t0 0 p = 4 := by rw [sto0, (hpl p hp0.1 hp).1]
      by_cases hs : t0 0 p = 4
      · rw [if_neg (fun q => hst.mp q hs)]
        have hE : r + sz = p := by
          by_cases z : p < r + sz
          · exact absurd hs (c1 p (by omega) z).2
          · omega
        have hla : la (t0 0) x p = p := l4.resolve_right (fun q => q hs)
        by_cases hb : f_X8_has x p = 0
        · have hb' := (has0 _ _).mp hb
          rw [if_pos hb, if_pos (show f_X9_isIn x p = 0 from hb)]
          have hBG : BGN (t0 0) x p := ⟨hb', Or.inr (Or.inr (Or.inr hs))⟩
          obtain ⟨s1, x1, fx, X1⟩ := X_smean hX hp0.1 (Int.le_refl p) hp0.2
          rw [x1]
          simp only [gb, gl2]
          have hsv := smv_rg hI (w := w) hp0.1 hp0.2
          have er : rsm t0 w x (n + 1) p = smv t0 w p p + rsm t0 w x n (p + 1) := by
            show (if p < 16 then _ else _) = _
            rw [if_pos hp, if_neg (fun q => (rsm_b t0 p x).mp q hBG), hla]
          have m1 := most_c (TX + smv t0 w p p)
          have m2 := most_c (TX + rsm t0 w x (n + 1) p)
          have m3 := most_c (f_X2_capped (TX + smv t0 w p p) + rsm t0 w x n (p + 1))
          rw [cap_most] at m3 ⊢
          obtain ⟨R, s', t', u, u2, q1, q2, q3, q4, q5, q6⟩ := ih (p + 1) (f_X9_most (TX + smv t0 w p p)) 0 0 TM (p + 1) s1 t X1 hM
            ⟨⟨by omega, by omega, by omega, Or.inr (by rw [show p + 1 - 1 = p by omega]; exact hs), fun q q0 q1 => by omega⟩, ⟨by omega, by omega, by omega, fun _ => rfl, fun _ => rfl⟩, fun q q0 q1 => by omega, fun q q0 q1 => by omega, ⟨by omega, by omega⟩, fun q q0 q1 => f1 q (by omega) q1, ⟨by omega, by omega, by omega⟩, fun q => by omega, fun _ => by omega, fun q => by omega, Or.inr (Or.inr (Or.inl (by rw [show p + 1 + 0 - 1 = p by omega]; exact hs)))⟩ (by omega)
          exact ⟨R, s', t', u, u2, q1, q2, q3, (fx.mono (by decide)).call (fun _ hk => hk) q4, q5, q6⟩
        · have hb' : bitS x p := Classical.byContradiction fun q => hb ((has0 _ _).mpr q)
          rw [if_neg hb, if_neg (show ¬ f_X9_isIn x p = 0 from hb)]
          obtain ⟨s1, x1, fx, X1⟩ := X_closing hX (p := p) (x := 0) (b := 0) hp0 (by omega)
          obtain ⟨t1, y1, fy, M1, z1⟩ := M_clo (lf := 0) (rt := 0) (jl := 0) (jr := 0) hB hM hp0 (by omega) (by omega) (run_S (by rw [hM.1 0 (by decide)]; exact hs)) (run_S (by rw [hM.1 0 (by decide)]; exact hs)) (by rw [if_neg (by omega)]) (by rw [if_neg (by omega)]) (by omega)
          have ez : (0 : Int) + 0 = 0 := by omega
          rw [ez] at y1 z1
          rw [x1, y1]
          simp only [gb, gl2]
          have hcv := clv_rg hI (p := p) (x := 0) (b := 0) hp0 (by omega) (by omega)
          have er : rsm t0 w x (n + 1) p = rsm t0 w x n (p + 1) := by
            show (if p < 16 then _ else _) = _
            rw [if_pos hp, if_pos ((rsm_b t0 p x).mpr (BGN_in hb'))]
            omega
          have m1 := most_c (TX + clv t0 p 0 0)
          have m2 := most_c (TX + rsm t0 w x (n + 1) p)
          have m3 := most_c (f_X2_capped (TX + clv t0 p 0 0) + rsm t0 w x n (p + 1))
          have m4 := most_c (TM + clv t0 p 0 0)
          rw [cap_most] at m3 ⊢
          obtain ⟨R, s', t', u, u2, q1, q2, q3, q4, q5, q6⟩ := ih (p + 1) (f_X9_most (TX + clv t0 p 0 0)) 0 0 (f_X9_most (TM + clv t0 p 0 0)) (p + 1) s1 t1 X1 M1
            ⟨⟨by omega, by omega, by omega, Or.inr (by rw [show p + 1 - 1 = p by omega]; exact hs), fun q q0 q1 => by omega⟩, ⟨by omega, by omega, by omega, fun _ => rfl, fun _ => rfl⟩, fun q q0 q1 => by omega, fun q q0 q1 => by omega, ⟨by omega, by omega⟩, fun q q0 q1 => by
              obtain ⟨h1, h2⟩ := f1 q (by omega) q1
              refine ⟨fun z => ?_, fun z v v0 v1 => ?_⟩
              · rw [z1 q, if_neg (by omega)]; exact h1 z
              · rw [z1 v, if_neg (by omega)]; exact h2 z v v0 v1, ⟨by omega, by omega, by omega⟩, fun q => by omega, fun _ => by omega, fun q => by omega, Or.inr (Or.inr (Or.inl (by rw [show p + 1 + 0 - 1 = p by omega]; exact hs)))⟩ (by omega)
          exact ⟨R, s', t', u, u2, q1, q2, q3, (fx.mono (by decide)).call (fun _ hk => hk) q4, q5, fy.call (fun _ hk => hk) q6⟩
      · rw [if_pos (hst.mpr hs)]
        by_cases hb : f_X8_has x p = 0
        · have hb' := (has0 _ _).mp hb
          rw [if_pos hb, if_pos (show f_X9_isIn x p = 0 from hb)]
          simp only [gl2]
          by_cases hg : BGN (t0 0) x p
          · rw [if_neg (fun q => (X_bgR hpl hp0.1 hp0.2).mp q hg), X_la hpl x hp0.1 hp0.2]
            obtain ⟨s1, x1, fx, X1⟩ := X_smean hX hp0.1 l1 l2
            rw [x1]
            simp only [gb, gj, gl]
            have hsv := smv_rg hI (w := w) hp0.1 l2
            have er : rsm t0 w x (n + 1) p = smv t0 w p (la (t0 0) x p) + rsm t0 w x n (p + 1) := by
              show (if p < 16 then _ else _) = _
              rw [if_pos hp, if_neg (fun q => (rsm_b t0 p x).mp q hg)]
            have m1 := most_c (TX + smv t0 w p (la (t0 0) x p))
            have m2 := most_c (TX + rsm t0 w x (n + 1) p)
            have m3 := most_c (f_X9_most (TX + smv t0 w p (la (t0 0) x p)) + rsm t0 w x n (p + 1))
            rw [cap_most]
            have nx : ¬ (p + 1 < la (t0 0) x p + 1 ∧ BGN (t0 0) x (p + 1)) := fun q => by
              obtain ⟨z1, z2⟩ := l3 (p + 1) (by omega) (by omega)
              rcases q.2.2 with z | z | z | z
              · omega
              · rw [show p + 1 - 1 = p by omega] at z; exact hb' z
              · rw [show p + 1 - 1 = p by omega] at z; exact hs z
              · exact z2 z
            have bd : BDY (t0 0) x (la (t0 0) x p + 1) := by
              rcases l5 with l5 | l5 | l5 | l5
              · exact absurd l5 hs
              · exact Or.inr (Or.inr (Or.inr (fun z => by omega)))
              · exact Or.inr (Or.inr (Or.inr (fun _ => Or.inl l5)))
              · exact Or.inr (Or.inr (Or.inr (fun _ => Or.inr l5)))
            have nB : p + 1 < 16 → BGN (t0 0) x (p + 1) → ¬ t0 0 (p + 1) = 4 → False := fun q0 q1 q2 => by
              rcases q1.2 with z | z | z | z
              · omega
              · rw [show p + 1 - 1 = p by omega] at z; exact hb' z
              · rw [show p + 1 - 1 = p by omega] at z; exact hs z
              · exact q2 z
            by_cases hr : r = p
            · have hz := b5 hr
              have hst2 : p = 0 ∨ t0 0 (p - 1) = 4 := by rw [← hr]; exact a4
              have ebr : ∀ (A B : Int × Int × Int × Int × gMem), (if p = 0 then A else (if f_X4_stops (p - 1) s1 = 0 then B else A)) = A := fun A B => by
                by_cases z : p = 0
                · rw [if_pos z]
                · have z2 := hst2.resolve_left z
                  have z3 : ¬ f_X4_stops (p - 1) s1 = 0 := fun q => by
                    have q2 := (sto0 _ _).mp q
                    rw [(X1.1.1.1 (p - 1) (by omega) (by omega)).1] at q2
                    exact q2 z2
                  rw [if_neg z, if_neg z3]
              rw [ebr]
              have E2 : r + (la (t0 0) x p - p + 1) = la (t0 0) x p + 1 := by omega
              obtain ⟨R, s', t', u, u2, q1, q2, q3, q4, q5, q6⟩ := ih (p + 1) (f_X9_most (TX + smv t0 w p (la (t0 0) x p))) (smv t0 w p (la (t0 0) x p)) (la (t0 0) x p - p + 1) TM r s1 t X1 hM
                ⟨⟨by omega, by omega, by omega, a4, fun q q0 q1 => by
                    by_cases e : q = p
                    · rw [e]; exact hs
                    · exact a5 q q0 (by omega)⟩, ⟨by omega, by omega, by omega, fun q => by omega, fun q => by omega⟩, fun q q0 q1 => l3 q (by omega) (by omega), fun q q0 q1 => (f1 p (by omega) hp).2 hg q (by omega) (by omega), ⟨by omega, by omega⟩, fun q q0 q1 => f1 q (by omega) q1, ⟨by omega, by omega, by omega⟩, fun q q1 => absurd ⟨by omega, q1⟩ nx, fun _ => by omega, fun _ q1 q2 q3 => absurd q3 (fun z => nB q1 q2 z), by rw [E2]; exact bd⟩ (by omega)
              exact ⟨R, s', t', u, u2, q1, q2, q3, (fx.mono (by decide)).call (fun _ hk => hk) q4, q5, q6⟩
            · have hE := j1 (by omega) hp hg hs
              have hgp : ¬ p = 0 ∧ ¬ t0 0 (p - 1) = 4 := ⟨by omega, a5 (p - 1) (by omega) (by omega)⟩
              have ebr : ∀ (A B : Int × Int × Int × Int × gMem), (if p = 0 then A else (if f_X4_stops (p - 1) s1 = 0 then B else A)) = B := fun A B => by
                have z3 : f_X4_stops (p - 1) s1 = 0 := (sto0 _ _).mpr (by rw [(X1.1.1.1 (p - 1) (by omega) (by omega)).1]; exact hgp.2)
                rw [if_neg hgp.1, if_pos z3]
              rw [ebr]
              have i1' := i1 (by omega) hg
              obtain ⟨R, s', t', u, u2, q1, q2, q3, q4, q5, q6⟩ := ih (p + 1) (f_X9_most (TX + smv t0 w p (la (t0 0) x p))) jo sz TM r s1 t X1 hM
                ⟨⟨by omega, by omega, by omega, a4, fun q q0 q1 => by
                    by_cases e : q = p
                    · rw [e]; exact hs
                    · exact a5 q q0 (by omega)⟩, ⟨by omega, by omega, by omega, b4, fun q => by omega⟩, fun q q0 q1 => c1 q (by omega) q1, d1, ⟨by omega, by omega⟩, f1, ⟨by omega, by omega, by omega⟩, fun q q1 => absurd ⟨by omega, q1⟩ nx, fun _ => by omega, fun _ q1 q2 q3 => absurd q3 (fun z => nB q1 q2 z), k1⟩ (by omega)
              exact ⟨R, s', t', u, u2, q1, q2, q3, (fx.mono (by decide)).call (fun _ hk => hk) q4, q5, q6⟩
          · rw [if_pos ((X_bgR hpl hp0.1 hp0.2).mpr hg)]
            have er : rsm t0 w x (n + 1) p = rsm t0 w x n (p + 1) := by
              show (if p < 16 then _ else _) = _
              rw [if_pos hp, if_pos ((rsm_b t0 p x).mpr hg)]
              omega
            have hpE : p < r + sz := by
              by_cases z : p < r + sz
              · exact z
              · have e : r + sz = p := by omega
                rw [e] at k1
                exact absurd ⟨hb', by
                  rcases k1 with z | z | z | z
                  · exact Or.inl z
                  · exact Or.inr (Or.inl z)
                  · exact Or.inr (Or.inr (Or.inl z))
                  · rcases z hp with z | z
                    · exact absurd z hb'
                    · exact absurd z hs⟩ hg
            have nB : p + 1 < 16 → BGN (t0 0) x (p + 1) → ¬ t0 0 (p + 1) = 4 → False := fun q0 q1 q2 => by
              rcases q1.2 with z | z | z | z
              · omega
              · rw [show p + 1 - 1 = p by omega] at z; exact hb' z
              · rw [show p + 1 - 1 = p by omega] at z; exact hs z
              · exact q2 z
            have i2' := i2 (fun q => hg q.2)
            obtain ⟨R, s', t', u, u2, q1, q2, q3, q4, q5, q6⟩ := ih (p + 1) TX jo sz TM r s t hX hM
              ⟨⟨by omega, by omega, by omega, a4, fun q q0 q1 => by
                  by_cases e : q = p
                  · rw [e]; exact hs
                  · exact a5 q q0 (by omega)⟩, ⟨by omega, by omega, by omega, b4, fun q => by omega⟩, fun q q0 q1 => c1 q (by omega) q1, d1, ⟨by omega, by omega⟩, f1, ⟨by omega, by omega, by rw [g3, er]⟩, fun q q1 => by
                    obtain ⟨z1, z2⟩ := c1 (p + 1) (by omega) q
                    exact absurd z2 (fun z => nB (by omega) q1 z), fun _ => i2', fun _ q1 q2 q3 => absurd q3 (fun z => nB q1 q2 z), k1⟩ (by omega)
            exact ⟨R, s', t', u, u2, q1, q2, q3, q4, q5, q6⟩
        · have hb' : bitS x p := Classical.byContradiction fun q => hb ((has0 _ _).mpr q)
          rw [if_neg hb, if_neg (show ¬ f_X9_isIn x p = 0 from hb)]
          have hE : r + sz = p := by
            by_cases z : p < r + sz
            · exact absurd hb' (c1 p (by omega) z).1
            · omega
          have er : rsm t0 w x (n + 1) p = rsm t0 w x n (p + 1) := by
            show (if p < 16 then _ else _) = _
            rw [if_pos hp, if_pos ((rsm_b t0 p x).mpr (BGN_in hb'))]
            omega
          have m34 : ∀ q, t 34 q = t 34 q := fun _ => rfl
          have hM0 : t 0 = t0 0 := hM.1 0 (by decide)
          have hleft : f_X9_runFrom p (-1) t = sz := by
            refine run_M (by rw [hM0]; exact hs) (fun j j0 j1 => ?_) ?_ 17 0 (by omega) (by omega) (by omega)
            · intro q
              refine (joins0 _ _).mp q ⟨by omega, by omega, by rw [hM0]; exact a5 _ (by omega) (by omega), ?_⟩
              rw [d1 (p + -1 * j) (by omega) (by omega)]
              omega
            · refine (joins0 _ _).mpr (fun q => ?_)
              rcases a4 with a4 | a4
              · omega
              · refine q.2.2.1 ?_
                rw [hM0, show p + -1 * (sz + 1) = r - 1 by omega]
                exact a4
          -- to the right
          have hleft2 : sz ≤ p := by omega
          have hjl : jo = if 0 < sz then t 34 (p - 1) else 0 := by
            by_cases z : 0 < sz
            · rw [if_pos z]; exact (d1 (p - 1) (by omega) (by omega)).symm
            · rw [if_neg z]; exact b4 (by omega)
          have i2' := i2 (fun q => by omega)
          have main : ∀ (la2 sm : Int), p ≤ la2 → la2 ≤ 15 → 0 ≤ sm → sm ≤ rsm t0 w x n (p + 1) → (sm ≤ 1000000000000) → (∀ q, p + 1 ≤ q → q < la2 + 1 → ¬ bitS x q ∧ ¬ t0 0 q = 4) → (la2 = 15 ∨ bitS x (la2 + 1) ∨ t0 0 (la2 + 1) = 4) → (∀ z, p < z → z ≤ la2 → t 34 z = sm) → (la2 = p → sm = 0) → (p < la2 → la2 = la (t0 0) x (p + 1) ∧ sm = smv t0 w (p + 1) (la (t0 0) x (p + 1))) → ∀ s1, XM s1 t0 w → fr [32, 36, 37, 38, 39, 42] s s1 → ∃ (R : Int) (s' t' : gMem) (u : Int × Int × Int) (u2 : Int), (gb (f_X2_closing p (f_X2_capped (jo + sm)) (sz + la2 - p) s1) (fun r60 s61 => w_X2_meanBy_11 x n (f_X2_capped (TX + r60)) (f_X2_capped (f_X2_capped (jo + sm) + r60)) (sz + (la2 - p + 1)) (p + 1) s61)) = (R, u.1, u.2.1, u.2.2, s') ∧ gl2 (gb (f_X9_closes p t) (fun r114 s115 => (f_X9_most (TM + r114), s115))) (fun v106 s107 => w_X9_meanOf_67 x n v106 (p + 1) s107) = (R, u2, t') ∧ XM s' t0 w ∧ fr [32, 36, 37, 38, 39, 42] s s' ∧ MT t0 t' ∧ fr [25, 26, 34] t t' := by
            intro la2 sm y1 y2 y3 y4 y5 y6 y7 y8 y9 y10 s1 X1 fx1
            have hright : f_X9_runFrom p 1 t = la2 - p := by
              refine run_M (by rw [hM0]; exact hs) (fun j j0 j1 => ?_) ?_ 17 0 (by omega) (by omega) (by omega)
              · intro q
                refine (joins0 _ _).mp q ⟨by omega, by omega, by rw [hM0]; exact (y6 _ (by omega) (by omega)).2, ?_⟩
                rw [y8 (p + 1 * j) (by omega) (by omega)]
                exact y3
              · refine (joins0 _ _).mpr (fun q => ?_)
                have e : p + 1 * (la2 - p + 1) = la2 + 1 := by omega
                rw [e] at q
                rcases y7 with y7 | y7 | y7
                · omega
                · have := (f1 (la2 + 1) (by omega) (by omega)).1 y7
                  omega
                · exact q.2.2.1 (by rw [hM0]; exact y7)
            have hjr : sm = if 0 < la2 - p then t 34 (p + 1) else 0 := by
              by_cases z : 0 < la2 - p
              · rw [if_pos z]; exact (y8 (p + 1) (by omega) (by omega)).symm
              · rw [if_neg z]; exact y9 (by omega)
            obtain ⟨t1, w1, fy, M1, z1⟩ := M_clo (lf := sz) (rt := la2 - p) (jl := jo) (jr := sm) hB hM hp0 (by omega) (by omega) hleft hright hjl hjr (by omega)
            have eb : sz + (la2 - p) = sz + la2 - p := by omega
            rw [eb] at w1 z1
            have hcm := most_c (jo + sm)
            obtain ⟨s2, x2, fx2, X2⟩ := X_closing X1 (p := p) (x := f_X2_capped (jo + sm)) (b := sz + la2 - p) hp0 (by omega)
            rw [x2, w1]
            simp only [gb, gl2]
            have hcM := clv_rg hI (p := p) (x := jo + sm) (b := sz + la2 - p) hp0 (by omega) (by omega)
            have hcX := clv_rg hI (p := p) (x := f_X2_capped (jo + sm)) (b := sz + la2 - p) hp0 (by omega) (by rw [cap_most]; omega)
            obtain ⟨cX, ecX⟩ : ∃ c, c = clv t0 p (f_X2_capped (jo + sm)) (sz + la2 - p) := ⟨_, rfl⟩
            obtain ⟨cM, ecM⟩ : ∃ c, c = clv t0 p (jo + sm) (sz + la2 - p) := ⟨_, rfl⟩
            have hsame : jo + sm ≤ 1000000000000 → cX = cM := fun z => by
              rw [ecX, ecM, cap_most]
              have e : f_X9_most (jo + sm) = jo + sm := by omega
              rw [e]
            rw [← ecX] at hcX ⊢
            rw [← ecM] at hcM z1 ⊢
            rw [cap_most, cap_most, cap_most]
            have m1 := most_c (TX + cX)
            have m2 := most_c (TX + rsm t0 w x (n + 1) p)
            have m3 := most_c (f_X9_most (TX + cX) + rsm t0 w x n (p + 1))
            have m4 := most_c (TM + cM)
            have m5 := most_c (f_X9_most (jo + sm) + cX)
            have m6 := most_c (jo + sm + cM)
            have hjj : f_X9_most (jo + sm + cM) = f_X9_most (f_X9_most (jo + sm) + cX) := by
              by_cases z : jo + sm ≤ 1000000000000
              · have := hsame z; omega
              · omega
            have hTM : f_X9_most (TM + cM) = f_X9_most (f_X9_most (TX + cX) + rsm t0 w x n (p + 1)) := by
              by_cases z : jo + sm ≤ 1000000000000
              · have := hsame z; omega
              · omega
            have E2 : r + (sz + (la2 - p + 1)) = la2 + 1 := by omega
            obtain ⟨R, s', t', u, u2, q1, q2, q3, q4, q5, q6⟩ := ih (p + 1) (f_X9_most (TX + cX)) (f_X9_most (f_X9_most (jo + sm) + cX)) (sz + (la2 - p + 1)) (f_X9_most (TM + cM)) r s2 t1 X2 M1
              ⟨⟨by omega, by omega, by omega, a4, fun q q0 q1 => by
                  by_cases e : q = p
                  · rw [e]; exact hs
                  · exact a5 q q0 (by omega)⟩, ⟨by omega, by omega, by omega, fun q => by omega, fun q => by omega⟩, fun q q0 q1 => y6 q q0 (by omega), fun q q0 q1 => by rw [z1 q, if_pos (by omega)]; exact hjj, ⟨by omega, by omega⟩, fun q q0 q1 => by
                    obtain ⟨h1, h2⟩ := f1 q (by omega) q1
                    refine ⟨fun z => ?_, fun z v v0 v1 => ?_⟩
                    · rw [z1 q, if_neg (by omega)]; exact h1 z
                    · rw [z1 v, if_neg (by omega)]; exact h2 z v v0 v1, ⟨by omega, by omega, hTM⟩, fun q q1 => by
                      obtain ⟨e5, e6⟩ := y10 (by omega)
                      rw [← e6]
                      omega, fun q => by
                      by_cases z : p < la2
                      · obtain ⟨z2, z3⟩ := y6 (p + 1) (by omega) (by omega)
                        exact absurd ⟨by omega, ⟨z2, Or.inr (Or.inl (by rw [show p + 1 - 1 = p by omega]; exact hb'))⟩⟩ q
                      · have := y9 (by omega)
                        omega, fun _ q1 q2 q3 => by
                      by_cases z : p < la2
                      · obtain ⟨e5, e6⟩ := y10 z
                        rw [E2, e5]
                      · have e5 : la2 = p := by omega
                        rw [e5] at y7
                        rcases y7 with y7 | y7 | y7
                        · omega
                        · exact absurd y7 q2.1
                        · exact absurd y7 q3, by
                      rw [E2]
                      rcases y7 with y7 | y7 | y7
                      · exact Or.inr (Or.inr (Or.inr (fun z => by omega)))
                      · exact Or.inr (Or.inr (Or.inr (fun _ => Or.inl y7)))
                      · exact Or.inr (Or.inr (Or.inr (fun _ => Or.inr y7)))⟩ (by omega)
            exact ⟨R, s', t', u, u2, q1, q2, q3, (fx1.call (fun _ hk => hk) (fx2.mono (by decide))).call (fun _ hk => hk) q4, q5, fy.call (fun _ hk => hk) q6⟩
          have hrest : ∀ (q : bitS x (p + 1) ∨ t0 0 (p + 1) = 4 ∨ p = 15), ∃ (R : Int) (s' t' : gMem) (u : Int × Int × Int) (u2 : Int), (gb (f_X2_stretchMean (p + 1) p s) (fun r50 s51 => (gb (f_X2_closing p (f_X2_capped (jo + r50)) ((sz + p) - p) s51) (fun r60 s61 => gl (f_X2_capped ((f_X2_capped (jo + r50)) + r60)) (fun v73 => (w_X2_meanBy_11 x n (f_X2_capped (TX + r60)) v73 (sz + ((p - p) + 1)) (p + 1) s61)))))) = (R, u.1, u.2.1, u.2.2, s') ∧ gl2 (gb (f_X9_closes p t) (fun r114 s115 => (f_X9_most (TM + r114), s115))) (fun v106 s107 => w_X9_meanOf_67 x n v106 (p + 1) s107) = (R, u2, t') ∧ XM s' t0 w ∧ fr [32, 36, 37, 38, 39, 42] s s' ∧ MT t0 t' ∧ fr [25, 26, 34] t t' := by
            intro q
            rw [X_smean0 s (by omega)]
            simp only [gb, gl]
            exact main p 0 (by omega) (by omega) (by omega) (by omega) (by omega) (fun q q0 q1 => by omega) (by
              rcases q with q | q | q
              · exact Or.inr (Or.inl q)
              · exact Or.inr (Or.inr q)
              · exact Or.inl q) (fun z z0 z1 => by omega) (fun _ => rfl) (fun z => by omega) s hX (fr.rf _ _)
          simp only [gj]
          by_cases z1 : p + 1 < 16
          · rw [if_pos z1]
            by_cases z2 : f_X8_has x (p + 1) = 0
            · rw [if_pos z2]
              have z2' := (has0 _ _).mp z2
              by_cases z3 : f_X4_stops (p + 1) s = 0
              · rw [if_pos z3]
                have z3' : ¬ t0 0 (p + 1) = 4 := by
                  have := (sto0 _ _).mp z3
                  rwa [(hpl (p + 1) (by omega) z1).1] at this
                rw [X_la hpl x (by omega) (by omega)]
                obtain ⟨n1, n2, n3, n4, n5⟩ := la_p (t0 0) x (p := p + 1) (by omega) (by omega)
                obtain ⟨s1, x1, fx, X1⟩ := X_smean hX (f := p + 1) (l := la (t0 0) x (p + 1)) (by omega) n1 n2
                rw [x1]
                simp only [gb, gl]
                have hBG : BGN (t0 0) x (p + 1) := ⟨z2', Or.inr (Or.inl (by rw [show p + 1 - 1 = p by omega]; exact hb'))⟩
                have hsv := smv_rg hI (w := w) (f := p + 1) (by omega) n2
                have hrn : smv t0 w (p + 1) (la (t0 0) x (p + 1)) ≤ rsm t0 w x n (p + 1) := by
                  obtain ⟨n', rfl⟩ : ∃ k, n = k + 1 := ⟨n - 1, by omega⟩
                  have e : rsm t0 w x (n' + 1) (p + 1) = smv t0 w (p + 1) (la (t0 0) x (p + 1)) + rsm t0 w x n' (p + 1 + 1) := by
                    show (if p + 1 < 16 then _ else _) = _
                    rw [if_pos z1, if_neg (fun q => (rsm_b t0 (p + 1) x).mp q hBG)]
                  have := rsm_nn hI w x n' (p + 1 + 1) (by omega)
                  omega
                have hlast : la (t0 0) x (p + 1) = 15 ∨ bitS x (la (t0 0) x (p + 1) + 1) ∨ t0 0 (la (t0 0) x (p + 1) + 1) = 4 := n5.resolve_left z3'
                exact main (la (t0 0) x (p + 1)) (smv t0 w (p + 1) (la (t0 0) x (p + 1))) (by omega) n2 hsv.1 hrn hsv.2 (fun q q0 q1 => by
                  by_cases e : q = p + 1
                  · rw [e]; exact ⟨z2', z3'⟩
                  · exact n3 q (by omega) (by omega)) hlast (fun z v0 v1 => (f1 (p + 1) (by omega) z1).2 hBG z (by omega) v1) (fun q => by omega) (fun _ => ⟨rfl, rfl⟩) s1 X1 (fx.mono (by decide))
              · rw [if_neg z3]
                refine hrest (Or.inr (Or.inl (Classical.byContradiction fun q => z3 ((sto0 _ _).mpr ?_))))
                rw [(hpl (p + 1) (by omega) z1).1]; exact q
            · rw [if_neg z2]
              exact hrest (Or.inl (Classical.byContradiction fun q => z2 ((has0 _ _).mpr q)))
          · rw [if_neg z1]
            exact hrest (Or.inr (Or.inr (by omega)))
    · rw [if_neg hp, if_neg hp]
      have er : rsm t0 w x (n + 1) p = 0 := by
        show (if p < 16 then _ else _) = _
        rw [if_neg hp]
      have m2 := most_c (TX + rsm t0 w x (n + 1) p)
      refine ⟨TX, s, t, (jo, sz, p), p, rfl, ?_, hX, fr.rf _ _, hM, fr.rf _ _⟩
      have : TM = TX := by omega
      rw [this]
