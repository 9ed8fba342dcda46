/-! the order of all places on both sides; likely -/
theorem gc_g {x p : Int} (h : 0 ≤ p) (hb : bitS x p) : gc x (p + 1) = gc x p + 1 := gc_bit h hb
theorem gc_n {x p : Int} (h : 0 ≤ p) (hb : ¬ bitS x p) : gc x (p + 1) = gc x p := gc_no h hb
theorem gc_surj (x : Int) : ∀ (n : Nat) (k : Int), 0 ≤ k → k < gc x (n : Int) → ∃ q : Int, 0 ≤ q ∧ q < n ∧ bitS x q ∧ gc x q = k := by
  intro n
  induction n with
  | zero =>
    intro k h0 h1
    have e : gc x ((0 : Nat) : Int) = 0 := rfl
    omega
  | succ n ih =>
    intro k h0 h1
    by_cases c : k < gc x (n : Int)
    · obtain ⟨q, q0, q1, q2, q3⟩ := ih k h0 c
      exact ⟨q, q0, by omega, q2, q3⟩
    · have e : ((n + 1 : Nat) : Int) = (n : Int) + 1 := by omega
      rw [e] at h1
      by_cases b : bitS x (n : Int)
      · rw [gc_g (by omega) b] at h1
        exact ⟨n, by omega, by omega, b, by omega⟩
      · rw [gc_n (by omega) b] at h1
        omega
theorem stl_gc (kd : Int → Int) (x : Int) : ∀ (n : Nat) (p : Int), 0 ≤ p → p ≤ 16 → 16 - p < n → tot (stl kd x n p) + gc x 16 = 16 - p + gc x p := by
  intro n
  induction n with
  | zero => intro p _ _ _; exfalso; omega
  | succ n ih =>
    intro p p0 h h2
    unfold stl
    by_cases c : p < 16
    · rw [if_pos c]
      obtain ⟨l1, l2, l3, -⟩ := la_p kd x p0 (by omega)
      by_cases d : f_X9_isIn x p = 0
      · rw [if_pos d]
        have h3 := ih (la kd x p + 1) (by omega) (by omega) (by omega)
        have h4 := gc_run (x := x) p0 (la kd x p + 1 - p).toNat (fun j h5 h6 => by
          by_cases e : j = p
          · rw [e]; exact (in0 _ _).mp d
          · exact (l3 j (by omega) (by omega)).1)
        have e : p + (((la kd x p + 1 - p).toNat : Nat) : Int) = la kd x p + 1 := by omega
        rw [e] at h4
        show la kd x p - p + 1 + tot (stl kd x n (la kd x p + 1)) + gc x 16 = 16 - p + gc x p
        omega
      · rw [if_neg d]
        have h3 := ih (p + 1) (by omega) (by omega) (by omega)
        have h4 := gc_g (x := x) p0 (Classical.byContradiction fun q => d ((in0 _ _).mpr q))
        omega
    · rw [if_neg c]
      have e : p = 16 := by omega
      subst e
      show (0 : Int) + gc x 16 = 16 - 16 + gc x 16
      omega
theorem AR_loop {w f l x : Int} : ∀ (n : Nat) (m i : Int) (s : gMem), s 64 0 = w → 0 ≤ i → i ≤ l - f + 1 → l - f + 1 - i < n → (w_X2_arrange_30 x f l n m i s).1 = m + (l - f + 1 - i) ∧ fr [43, 44] s (w_X2_arrange_30 x f l n m i s).2.2 ∧ ∀ j, (w_X2_arrange_30 x f l n m i s).2.2 43 j = (if m ≤ j ∧ j < m + (l - f + 1 - i) then up w f l (i + (j - m)) else s 43 j) ∧ (w_X2_arrange_30 x f l n m i s).2.2 44 j = (if m ≤ j ∧ j < m + (l - f + 1 - i) then i + (j - m) else s 44 j) := by
  intro n
  induction n with
  | zero => intro m i s _ _ _ h; exfalso; omega
  | succ n ih =>
    intro m i s hw i0 i1 h
    rw [w_X2_arrange_30_s]
    by_cases c : l - f < i
    · rw [if_pos c]
      have e : i = l - f + 1 := by omega
      refine ⟨(show m = m + (l - f + 1 - i) by omega), fr.rf _ _, fun j => ?_⟩
      rw [if_neg (by omega), if_neg (by omega)]
      exact ⟨rfl, rfl⟩
    · rw [if_neg c]
      simp only [gl]
      have eu : f_X2_upAfter f l i s = up w f l i := by rw [← hw]; rfl
      rw [eu]
      obtain ⟨T, hT⟩ : ∃ T, T = mset (mset s 43 m (up w f l i)) 44 m i := ⟨_, rfl⟩
      rw [← hT]
      have fT : fr [43, 44] s T := by rw [hT]; exact ((fr.rf _ s).set (by decide)).set (by decide)
      have T43 : ∀ j, T 43 j = if j = m then up w f l i else s 43 j := fun j => by rw [hT, mset_ne _ _ _ _ _ (by decide), mset_at]
      have T44 : ∀ j, T 44 j = if j = m then i else s 44 j := fun j => by rw [hT, mset_at, mset_ne _ _ _ _ _ (by decide)]
      obtain ⟨a1, a2, a3⟩ := ih (m + 1) (i + 1) T (by rw [fT 64 (by decide)]; exact hw) (by omega) (by omega) (by omega)
      refine ⟨by rw [a1]; omega, fT.call (fun _ hk => hk) a2, fun j => ?_⟩
      obtain ⟨b1, b2⟩ := a3 j
      rw [b1, b2, T43, T44]
      by_cases e : j = m
      · have q1 : ¬ (m + 1 ≤ j ∧ j < m + 1 + (l - f + 1 - (i + 1))) := by omega
        have q2 : m ≤ j ∧ j < m + (l - f + 1 - i) := by omega
        have e2 : i + (j - m) = i := by omega
        rw [if_neg q1, if_neg q1, if_pos e, if_pos e, if_pos q2, if_pos q2, e2]
        exact ⟨rfl, rfl⟩
      · rw [if_neg e, if_neg e]
        by_cases z : m ≤ j ∧ j < m + (l - f + 1 - i)
        · have e2 : i + 1 + (j - (m + 1)) = i + (j - m) := by omega
          have q1 : m + 1 ≤ j ∧ j < m + 1 + (l - f + 1 - (i + 1)) := by omega
          rw [if_pos q1, if_pos q1, if_pos z, if_pos z, e2]
          exact ⟨rfl, rfl⟩
        · have q1 : ¬ (m + 1 ≤ j ∧ j < m + 1 + (l - f + 1 - (i + 1))) := by omega
          rw [if_neg q1, if_neg q1, if_neg z, if_neg z]
          exact ⟨rfl, rfl⟩
def XORD (w : Int) (L : List (Int × Int)) (st : Int × gMem) : Prop := st.1 = tot L ∧ st.2 64 0 = w ∧ ∀ i : Int, 0 ≤ i → i < tot L → st.2 43 i = (ordv w L i).1 ∧ st.2 44 i = (ordv w L i).2
def stA (x : Int) (st : Int × gMem) (a l : Int) : Int × gMem := ((w_X2_arrange_30 x a l 17 st.1 0 st.2).1, (w_X2_arrange_30 x a l 17 st.1 0 st.2).2.2)
theorem XORD_step {w x f l : Int} {L : List (Int × Int)} {st : Int × gMem} (h : XORD w L st) (hl : lok L) (h1 : f ≤ l) (h2 : l - f ≤ 15) : XORD w (L ++ [(f, l)]) (stA x st f l) ∧ fr [43, 44] st.2 (stA x st f l).2 := by
  obtain ⟨o1, o2, o3⟩ := h
  obtain ⟨a1, a2, a3⟩ := AR_loop (w := w) (f := f) (l := l) (x := x) 17 st.1 0 st.2 o2 (by omega) (by omega) (by omega)
  have ht := tot_nn hl
  have e1 : tot (L ++ [(f, l)]) = tot L + (l - f + 1) := by rw [tot_app]; simp [tot]
  refine ⟨⟨?_, ?_, fun i i0 i1 => ?_⟩, a2⟩
  · show (w_X2_arrange_30 x f l 17 st.1 0 st.2).1 = _
    rw [a1, e1, o1]; omega
  · show (w_X2_arrange_30 x f l 17 st.1 0 st.2).2.2 64 0 = w
    rw [a2 64 (by decide)]; exact o2
  · rw [e1] at i1
    obtain ⟨b1, b2⟩ := a3 i
    show (w_X2_arrange_30 x f l 17 st.1 0 st.2).2.2 43 i = _ ∧ (w_X2_arrange_30 x f l 17 st.1 0 st.2).2.2 44 i = _
    rw [ordv_app w (f, l) L i hl i0 i1, b1, b2, o1]
    by_cases c : i < tot L
    · rw [if_pos c, if_neg (by omega), if_neg (by omega)]
      exact o3 i i0 c
    · rw [if_neg c, if_pos (by omega), if_pos (by omega)]
      have e3 : 0 + (i - tot L) = i - tot L := by omega
      rw [e3]
      exact ⟨rfl, rfl⟩
theorem XORD_fold (w x : Int) : ∀ (M L : List (Int × Int)) (st : Int × gMem), XORD w L st → lok L → lok M → XORD w (L ++ M) (M.foldl (fun s q => stA x s q.1 q.2) st) ∧ fr [43, 44] st.2 (M.foldl (fun s q => stA x s q.1 q.2) st).2
  | [], L, st, h, _, _ => by
    rw [List.append_nil]
    exact ⟨h, fr.rf _ _⟩
  | q :: M, L, st, h, hl, hm => by
    obtain ⟨q0, q1, q2⟩ := hm q List.mem_cons_self
    obtain ⟨h2, f2⟩ := XORD_step (x := x) h hl q1 (by omega : q.2 - q.1 ≤ 15)
    have hl2 : lok (L ++ [q]) := fun z hz => by
      rcases List.mem_append.mp hz with hz | hz
      · exact hl z hz
      · rw [List.mem_singleton.mp hz]; exact ⟨q0, q1, q2⟩
    obtain ⟨b1, b2⟩ := XORD_fold w x M (L ++ [q]) _ h2 hl2 (fun z hz => hm z (List.mem_cons_of_mem _ hz))
    rw [List.append_assoc] at b1
    exact ⟨b1, f2.call (fun _ hk => hk) b2⟩
theorem AG_loop {x : Int} : ∀ (n : Nat) (m p : Int) (s : gMem), 0 ≤ p → p ≤ 16 → 16 - p < n → 0 ≤ m → fr [43, 44] s (w_X2_arrange_79 x n m p s).2.2 ∧ (∀ i, i < m → (w_X2_arrange_79 x n m p s).2.2 43 i = s 43 i ∧ (w_X2_arrange_79 x n m p s).2.2 44 i = s 44 i) ∧ ∀ q, p ≤ q → q < 16 → bitS x q → (w_X2_arrange_79 x n m p s).2.2 43 (m + gc x q - gc x p) = q ∧ (w_X2_arrange_79 x n m p s).2.2 44 (m + gc x q - gc x p) = 0 := by
  intro n
  induction n with
  | zero => intro m p s _ _ h _; exfalso; omega
  | succ n ih =>
    intro m p s p0 p1 h m0
    rw [w_X2_arrange_79_s]
    by_cases c : p < 16
    · rw [if_pos c]
      simp only [gl, gl2]
      by_cases d : f_X8_has x p = 0
      · rw [if_pos d]
        have hb := (has0 _ _).mp d
        obtain ⟨a1, a2, a3⟩ := ih m (p + 1) s (by omega) (by omega) (by omega) m0
        refine ⟨a1, a2, fun q q0 q1 qb => ?_⟩
        have hne : ¬ q = p := fun e => hb (by rw [← e]; exact qb)
        have := a3 q (by omega) q1 qb
        rw [gc_n p0 hb] at this
        exact this
      · rw [if_neg d]
        have hb : bitS x p := Classical.byContradiction fun z => d ((has0 _ _).mpr z)
        simp only
        obtain ⟨T, hT⟩ : ∃ T, T = mset (mset s 43 m p) 44 m 0 := ⟨_, rfl⟩
        rw [← hT]
        have fT : fr [43, 44] s T := by rw [hT]; exact ((fr.rf _ s).set (by decide)).set (by decide)
        have T43 : ∀ j, T 43 j = if j = m then p else s 43 j := fun j => by rw [hT, mset_ne _ _ _ _ _ (by decide), mset_at]
        have T44 : ∀ j, T 44 j = if j = m then 0 else s 44 j := fun j => by rw [hT, mset_at, mset_ne _ _ _ _ _ (by decide)]
        obtain ⟨a1, a2, a3⟩ := ih (m + 1) (p + 1) T (by omega) (by omega) (by omega) (by omega)
        refine ⟨fT.call (fun _ hk => hk) a1, fun i i1 => ?_, fun q q0 q1 qb => ?_⟩
        · obtain ⟨b1, b2⟩ := a2 i (by omega)
          rw [b1, b2, T43, T44, if_neg (by omega), if_neg (by omega)]
          exact ⟨rfl, rfl⟩
        · by_cases e : q = p
          · subst e
            have e1 : m + gc x q - gc x q = m := by omega
            rw [e1]
            obtain ⟨b1, b2⟩ := a2 m (by omega)
            rw [b1, b2, T43, T44, if_pos rfl, if_pos rfl]
            exact ⟨rfl, rfl⟩
          · have := a3 q (by omega) q1 qb
            rw [gc_g p0 hb] at this
            have e1 : m + 1 + gc x q - (gc x p + 1) = m + gc x q - gc x p := by omega
            rw [e1] at this
            exact this
    · have e : p = 16 := by omega
      rw [if_neg c]
      exact ⟨fr.rf _ _, fun i _ => ⟨rfl, rfl⟩, fun q q0 q1 => by omega⟩
/-- all sixteen places in their order: stretches, then gaps -/
def AF (f g : Int → Int) (w x : Int) (L : List (Int × Int)) : Prop := (∀ i, 0 ≤ i → i < tot L → f i = (ordv w L i).1 ∧ g i = (ordv w L i).2) ∧ ∀ q, 0 ≤ q → q < 16 → bitS x q → f (tot L + gc x q) = q ∧ g (tot L + gc x q) = 0
theorem X_arrange {s t0 : gMem} {w x : Int} (hR : RLpl s t0) (hw : s 64 0 = w) : ∃ s', f_X2_arrange x s = (0, s') ∧ fr [43, 44] s s' ∧ AF (s' 43) (s' 44) w x (stl (t0 0) x 17 0) := by
  have hs := scan_stl (t0 0) x (fun n v (st : Int × gMem) => ((w_X2_arrange_4 x n st.1 v st.2).1, (w_X2_arrange_4 x n st.1 v st.2).2.2)) (stA x) (fun st => RLpl st.2 t0)
    (fun n v st hv => by
      show ((w_X2_arrange_4 x (n + 1) st.1 v st.2).1, (w_X2_arrange_4 x (n + 1) st.1 v st.2).2.2) = st
      rw [w_X2_arrange_4_s, if_neg (by omega)])
    (fun n v st hI v0 v1 hb => by
      show ((w_X2_arrange_4 x (n + 1) st.1 v st.2).1, (w_X2_arrange_4 x (n + 1) st.1 v st.2).2.2) = ((w_X2_arrange_4 x n st.1 (v + 1) st.2).1, (w_X2_arrange_4 x n st.1 (v + 1) st.2).2.2)
      rw [w_X2_arrange_4_s, if_pos (by omega)]
      simp only [gj]
      rw [if_pos ((X_bgR hI v0 v1).mpr hb)])
    (fun n v st hI v0 v1 hb => by
      show ((w_X2_arrange_4 x (n + 1) st.1 v st.2).1, (w_X2_arrange_4 x (n + 1) st.1 v st.2).2.2) = ((w_X2_arrange_4 x n (stA x st v (la (t0 0) x v)).1 (v + 1) (stA x st v (la (t0 0) x v)).2).1, (w_X2_arrange_4 x n (stA x st v (la (t0 0) x v)).1 (v + 1) (stA x st v (la (t0 0) x v)).2).2.2)
      rw [w_X2_arrange_4_s, if_pos (by omega)]
      simp only [gj, gl3]
      rw [if_neg (fun q => (X_bgR hI v0 v1).mp q hb), X_la hI x v0 v1]
      rfl)
    (fun st v hI v0 v1 hb => by
      obtain ⟨l1, l2, -⟩ := la_p (t0 0) x v0 v1
      have hf : fr [43, 44] st.2 (stA x st v (la (t0 0) x v)).2 := (AR_loop (w := st.2 64 0) (f := v) (l := la (t0 0) x v) (x := x) 17 st.1 0 st.2 rfl (by omega) (by omega) (by omega)).2.1
      exact RLpl_fr hI (frK hf (by decide)) (fun _ _ => rfl))
    16 17 17 0 (0, s) hR (by omega) (BDY_0 _ _) (by omega) (by omega) (by omega) (by omega)
  have hl := stl_lok (t0 0) x 17 (p := 0) (by omega)
  obtain ⟨b1, b2⟩ := XORD_fold w x (stl (t0 0) x 17 0) [] (0, s) ⟨rfl, hw, fun i i0 i1 => absurd i1 (by simp [tot]; omega)⟩ (fun z hz => by cases hz) hl
  rw [← hs] at b1 b2
  obtain ⟨c1, c2, c3⟩ := b1
  obtain ⟨M, hM⟩ : ∃ M, M = (w_X2_arrange_4 x 17 0 0 s).1 := ⟨_, rfl⟩
  obtain ⟨S, hS⟩ : ∃ S, S = (w_X2_arrange_4 x 17 0 0 s).2.2 := ⟨_, rfl⟩
  have c1' : M = tot (stl (t0 0) x 17 0) := by rw [hM]; exact c1
  have c3' : ∀ i : Int, 0 ≤ i → i < tot (stl (t0 0) x 17 0) → S 43 i = (ordv w (stl (t0 0) x 17 0) i).1 ∧ S 44 i = (ordv w (stl (t0 0) x 17 0) i).2 := by rw [hS]; exact c3
  have b2' : fr [43, 44] s S := by rw [hS]; exact b2
  have ht := tot_nn hl
  obtain ⟨d1, d2, d3⟩ := AG_loop (x := x) 17 M 0 S (by omega) (by omega) (by omega) (by omega)
  refine ⟨(w_X2_arrange_79 x 17 M 0 S).2.2, ?_, b2'.call (fun _ hk => hk) d1, fun i i0 i1 => ?_, fun q q0 q1 qb => ?_⟩
  · unfold f_X2_arrange
    simp only [gl3]
    rw [← hM, ← hS]
  · obtain ⟨e1, e2⟩ := d2 i (by omega)
    rw [e1, e2]
    exact c3' i i0 i1
  · have := d3 q q0 q1 qb
    have e0 : gc x 0 = 0 := rfl
    rw [e0, c1', Int.sub_zero] at this
    rw [c1']
    exact this
def lkr (t0 : gMem) (f g : Int → Int) (e : Int) : Nat → Int → Int → Int
  | 0, v, _ => v
  | n + 1, v, i => if i < e then lkr t0 f g e n ((v * (100 - FA t0 (f i) (g i))) / 100) (i + 1) else v
theorem X_lkr {t0 : gMem} : ∀ (n : Nat) (v i : Int) (s : gMem), XT s t0 → (∀ j, 0 ≤ s 43 j ∧ s 43 j ≤ 15) → (∀ j, 0 ≤ s 44 j ∧ s 44 j ≤ 16) → ∃ (u : Int) (s' : gMem), w_X2_atOnce_12 n v i s = (lkr t0 (s 43) (s 44) 16 n v i, u, s') ∧ fr [32, 36, 37] s s' ∧ XT s' t0 := by
  intro n
  induction n with
  | zero => intro v i s hX _ _; exact ⟨i, s, rfl, fr.rf _ _, hX⟩
  | succ n ih =>
    intro v i s hX h1 h2
    rw [w_X2_atOnce_12_s]
    unfold lkr
    by_cases c : i < 16
    · rw [if_pos c, if_pos c]
      obtain ⟨s1, e1, f1, X1⟩ := X_falls hX (h1 i) (h2 i)
      rw [e1]
      simp only [gb, gl]
      have e43 : s1 43 = s 43 := f1 43 (by decide)
      have e44 : s1 44 = s 44 := f1 44 (by decide)
      obtain ⟨u, s', q1, q2, q3⟩ := ih ((v * (100 - FA t0 (s 43 i) (s 44 i))) / 100) (i + 1) s1 X1 (by rw [e43]; exact h1) (by rw [e44]; exact h2)
      rw [e43, e44] at q1
      exact ⟨u, s', q1, f1.call (fun _ hk => hk) q2, q3⟩
    · rw [if_neg c, if_neg c]
      exact ⟨i, s, rfl, fr.rf _ _, hX⟩
theorem M_lkr {s0 t0 : gMem} {x e : Int} (hB : XT s0 t0) : ∀ (n : Nat) (v i : Int) (t : gMem), MT t0 t → t 30 0 = e → (∀ j, 0 ≤ t 27 j ∧ t 27 j ≤ 15) → (∀ j, 0 ≤ t 28 j ∧ t 28 j ≤ 16) → ∃ (u : Int) (t' : gMem), w_X9_likely_36 x n v i t = (lkr t0 (t 27) (t 28) e n v i, u, t') ∧ fr [25, 26] t t' ∧ MT t0 t' := by
  intro n
  induction n with
  | zero => intro v i t hM _ _ _; exact ⟨i, t, rfl, fr.rf _ _, hM⟩
  | succ n ih =>
    intro v i t hM he h1 h2
    rw [w_X9_likely_36_s, he]
    unfold lkr
    by_cases c : i < e
    · rw [if_pos c, if_pos c]
      obtain ⟨t1, e1, f1, M1⟩ := M_falls hB hM (h1 i) (h2 i)
      rw [e1]
      simp only [gb, gl]
      have e27 : t1 27 = t 27 := f1 27 (by decide)
      have e28 : t1 28 = t 28 := f1 28 (by decide)
      obtain ⟨u, t', q1, q2, q3⟩ := ih ((v * (100 - FA t0 (t 27 i) (t 28 i))) / 100) (i + 1) t1 M1 (by rw [f1 30 (by decide)]; exact he) (by rw [e27]; exact h1) (by rw [e28]; exact h2)
      rw [e27, e28] at q1
      exact ⟨u, t', q1, f1.call (fun _ hk => hk) q2, q3⟩
    · rw [if_neg c, if_neg c]
      exact ⟨i, t, rfl, fr.rf _ _, hM⟩
theorem lkr_cg {t0 : gMem} {f g f' g' : Int → Int} {e : Int} (h : ∀ i, 0 ≤ i → i < e → f i = f' i ∧ g i = g' i) : ∀ (n : Nat) (v i : Int), 0 ≤ i → lkr t0 f g e n v i = lkr t0 f' g' e n v i := by
  intro n
  induction n with
  | zero => intro v i _; rfl
  | succ n ih =>
    intro v i i0
    unfold lkr
    by_cases c : i < e
    · obtain ⟨a, b⟩ := h i i0 c
      rw [if_pos c, if_pos c, a, b, ih _ _ (by omega)]
    · rw [if_neg c, if_neg c]
theorem lkr_sp {t0 : gMem} {f g : Int → Int} {e : Int} (he : e ≤ 16) : ∀ (n m k : Nat) (v i : Int), 0 ≤ i → i ≤ e → e - i < n → 16 - i < m → 16 - e < k → lkr t0 f g 16 m v i = lkr t0 f g 16 k (lkr t0 f g e n v i) e := by
  intro n
  induction n with
  | zero => intro m k v i _ _ h; exfalso; omega
  | succ n ih =>
    intro m k v i i0 i1 h1 h2 h3
    obtain ⟨m, rfl⟩ : ∃ j, m = j + 1 := ⟨m - 1, by omega⟩
    by_cases c : i < e
    · have e1 : lkr t0 f g 16 (m + 1) v i = lkr t0 f g 16 m ((v * (100 - FA t0 (f i) (g i))) / 100) (i + 1) := by
        show (if i < 16 then _ else _) = _
        rw [if_pos (by omega)]
      have e2 : lkr t0 f g e (n + 1) v i = lkr t0 f g e n ((v * (100 - FA t0 (f i) (g i))) / 100) (i + 1) := by
        show (if i < e then _ else _) = _
        rw [if_pos c]
      rw [e1, e2]
      exact ih m k _ (i + 1) (by omega) (by omega) (by omega) (by omega) h3
    · have e0 : i = e := by omega
      subst e0
      have e2 : lkr t0 f g i (n + 1) v i = v := by
        show (if i < i then _ else _) = _
        rw [if_neg (by omega)]
      rw [e2]
      -- fuel does not matter
      have fuel : ∀ (a b : Nat) (v i : Int), 16 - i < a → 16 - i < b → i ≤ 16 → lkr t0 f g 16 a v i = lkr t0 f g 16 b v i := by
        intro a
        induction a with
        | zero => intro b v i h h' h''; exfalso; omega
        | succ a iha =>
          intro b v i h h' h''
          obtain ⟨b, rfl⟩ : ∃ j, b = j + 1 := ⟨b - 1, by omega⟩
          unfold lkr
          by_cases z : i < 16
          · rw [if_pos z, if_pos z]; exact iha b _ _ (by omega) (by omega) (by omega)
          · rw [if_neg z, if_neg z]
      exact fuel (m + 1) k v i h2 h3 (by omega)
theorem gap_two {s0 t0 : gMem} {x T : Int} {f g : Int → Int} (hB : XT s0 t0) (hT : T + gc x 16 = 16) (hf : ∀ q, 0 ≤ q → q < 16 → bitS x q → f (T + gc x q) = q ∧ g (T + gc x q) = 0) : ∀ (n m : Nat) (v p : Int) (t : gMem), MT t0 t → 0 ≤ p → p ≤ 16 → 16 - p < n → 16 - (T + gc x p) < m → ∃ (u : Int) (t' : gMem), w_X9_likely_84 x n v p t = (lkr t0 f g 16 m v (T + gc x p), u, t') ∧ fr [25, 26] t t' ∧ MT t0 t' := by
  intro n
  induction n with
  | zero => intro m v p t _ _ _ h; exfalso; omega
  | succ n ih =>
    intro m v p t hM p0 p1 h1 h2
    rw [w_X9_likely_84_s]
    by_cases c : p < 16
    · rw [if_pos c]
      simp only [gl2]
      by_cases d : f_X9_isIn x p = 0
      · rw [if_pos d]
        obtain ⟨u, t', q1, q2, q3⟩ := ih m v (p + 1) t hM (by omega) (by omega) (by omega) (by rw [gc_n p0 ((in0 _ _).mp d)]; exact h2)
        rw [gc_n p0 ((in0 _ _).mp d)] at q1
        exact ⟨u, t', q1, q2, q3⟩
      · rw [if_neg d]
        have hb : bitS x p := Classical.byContradiction fun z => d ((in0 _ _).mpr z)
        have hm := gc_mono x (p := p + 1) (q := 16) (by omega) (by omega)
        have hg := gc_g p0 hb
        obtain ⟨m, rfl⟩ : ∃ j, m = j + 1 := ⟨m - 1, by omega⟩
        obtain ⟨e1, e2⟩ := hf p p0 c hb
        obtain ⟨t1, q1, f1, M1⟩ := M_falls hB hM (p := p) (b := 0) (by omega) (by omega)
        rw [q1]
        simp only [gb]
        have e3 : lkr t0 f g 16 (m + 1) v (T + gc x p) = lkr t0 f g 16 m ((v * (100 - FA t0 p 0)) / 100) (T + gc x p + 1) := by
          show (if T + gc x p < 16 then _ else _) = _
          rw [if_pos (by omega), e1, e2]
        obtain ⟨u, t', r1, r2, r3⟩ := ih m ((v * (100 - FA t0 p 0)) / 100) (p + 1) t1 M1 (by omega) (by omega) (by omega) (by omega)
        rw [hg] at r1
        have e4 : T + (gc x p + 1) = T + gc x p + 1 := by omega
        rw [e4] at r1
        rw [e3]
        exact ⟨u, t', r1, f1.call (fun _ hk => hk) r2, r3⟩
    · have e : p = 16 := by omega
      subst e
      rw [if_neg c]
      have e3 : lkr t0 f g 16 m v (T + gc x 16) = v := by
        cases m with
        | zero => rfl
        | succ m =>
          show (if T + gc x 16 < 16 then _ else _) = _
          rw [if_neg (by omega)]
      rw [e3]
      exact ⟨_, t, rfl, fr.rf _ _, hM⟩
theorem XT_43 {s s' t0 : gMem} (h : XT s t0) (hf : fr [43, 44] s s') (hg : gMR lgX s') : XT s' t0 := by
  obtain ⟨hR, ⟨i1, i2, i3, i4, i5, i6, i7, i8, i9, i10, i11, i12, i13⟩, hM, c1, c2, c3⟩ := id h
  exact XT_fr h hf (by decide) hg (KF_fr i11 (frK hf (by decide))) (KC_fr i12 (frK hf (by decide))) (KT_fr i13 (frK hf (by decide))) (CFf_fr c1 (hf 37 (by decide))) (CFc_fr c2 (hf 38 (by decide))) (CFt_fr c3 (hf 39 (by decide)))
theorem INV_OR {s t : gMem} (h : INV s t) : ORx s := h.2.1.2.2.2.2.2.1
theorem INV_BE {s t : gMem} (h : INV s t) : BEx s := h.2.1.2.2.2.2.2.2.1
/-- from an end on, in order -/
theorem X_order {s t : gMem} {w x : Int} (h : INV s t) (hw : 0 ≤ w ∧ w ≤ 2) (hx : in32 x) : ∃ s1 s2, f_X2_from w s = (0, s1) ∧ f_X2_arrange x s1 = (0, s2) ∧ XT s2 t ∧ ORx s2 ∧ BEx s2 ∧ fr [42, 43, 44, 64] s s2 ∧ fr [42, 64] s s1 ∧ AF (s2 43) (s2 44) w x (stl (t 0) x 17 0) := by
  obtain ⟨s1, e1, f1, X1⟩ := INV_from h hw
  obtain ⟨s2, e2, f2, hA⟩ := X_arrange (w := w) (x := x) X1.1.1.1 X1.2.2.2.1
  have hq := f_X2_arrange_p x s1 hx X1.1.2.1.1 (ORx_fr (INV_OR h) (frK f1 (by decide))) (BEx_fr (INV_BE h) (frK f1 (by decide))) X1.2.2.1 0 s2 e2
  exact ⟨s1, s2, e1, e2, XT_43 X1.1 f2 hq.2.1, hq.2.2.2.1, hq.2.2.2.2, (f1.mono (by decide)).call (by decide) f2, f1, hA⟩
theorem EQ_likely {s t : gMem} (h : INV s t) {x0 x1 : Int} (hx0 : in32 x0) (hx1 : in32 x1) : (f_X8_likely x0 x1 s).1 = (f_X9_likely x0 x1 t).1 ∧ INV (f_X8_likely x0 x1 s).2 (f_X9_likely x0 x1 t).2 := by
  obtain ⟨fx, hX'⟩ := XI_likely h.2.1 hx0 hx1
  obtain ⟨fm, hM'⟩ := MI_likely h.2.2.1 hx0 hx1
  have key : (f_X8_likely x0 x1 s).1 = (f_X9_likely x0 x1 t).1 ∧ XT (f_X8_likely x0 x1 s).2 t := by
    unfold f_X8_likely f_X9_likely
    rw [if_out, if_out, if_in, if_in]
    by_cases a : 0 ≤ x0 ∧ x0 < 65536
    · rw [if_pos a, if_pos (show 0 ≤ x0 ∧ x0 ≤ 65535 by omega)]
      by_cases b : 0 ≤ x1 ∧ x1 < 3
      · rw [if_pos b, if_pos (show 0 ≤ x1 ∧ x1 ≤ 2 by omega)]
        obtain ⟨s1, s2, e1, e2, X2, O2, B2, f2, -, hA⟩ := X_order h (w := x1) (by omega) hx0
        obtain ⟨u, s3, e3, f3, X3⟩ := X_lkr 17 1000000000 0 s2 X2 O2 B2
        obtain ⟨T1, m1, g1, hO, -⟩ := orders_M x0 x1 t
        have hq := f_X9_orders_p x0 x1 t hx0 hx1 (INV_gM h) (INV_MQ h).1 (INV_MQ h).2.1 (INV_MQ h).2.2.1 (by omega) 0 T1 m1
        have M1 : MT t T1 := (MT.rf (INV_gM h)).fr g1 hq.2.1 (by decide)
        have hl := stl_lok (t 0) x0 17 (p := 0) (by omega)
        have ht := tot_nn hl
        have hgc := stl_gc (t 0) x0 17 0 (by omega) (by omega) (by omega)
        have g0 : gc x0 0 = 0 := rfl
        have gn := gc_nn x0 16
        obtain ⟨u2, T2, m2, g2, M2⟩ := M_lkr (x := x0) (INV_XT h) 17 1000000000 0 T1 M1 hO.1 hq.2.2.2.1 hq.2.2.2.2.1
        obtain ⟨u3, T3, m3, g3, M3⟩ := gap_two (x := x0) (T := tot (stl (t 0) x0 17 0)) (f := s2 43) (g := s2 44) (INV_XT h) (by omega) hA.2 17 17 (lkr t (T1 27) (T1 28) (tot (stl (t 0) x0 17 0)) 17 1000000000 0) 0 T2 M2 (by omega) (by omega) (by omega) (by omega)
        rw [g0, Int.add_zero] at m3
        unfold f_X2_atOnce
        rw [e1]
        simp only [gb]
        rw [e2, m1]
        simp only [gl3]
        rw [e3, m2]
        simp only
        rw [m3]
        refine ⟨?_, X3⟩
        have ec : lkr t (T1 27) (T1 28) (tot (stl (t 0) x0 17 0)) 17 1000000000 0 = lkr t (s2 43) (s2 44) (tot (stl (t 0) x0 17 0)) 17 1000000000 0 := lkr_cg (fun i i0 i1 => by
          obtain ⟨y1, y2⟩ := hO.2.2.2 i i0 i1
          obtain ⟨y3, y4⟩ := hA.1 i i0 i1
          rw [y1, y2, y3, y4]
          exact ⟨rfl, rfl⟩) 17 _ 0 (by omega)
        rw [ec]
        exact lkr_sp (by omega) 17 17 17 1000000000 0 (by omega) (by omega) (by omega) (by omega) (by omega)
      · rw [if_neg b, if_neg (show ¬ (0 ≤ x1 ∧ x1 ≤ 2) by omega)]; exact ⟨rfl, INV_XT h⟩
    · rw [if_neg a, if_neg (show ¬ (0 ≤ x0 ∧ x0 ≤ 65535) by omega)]; exact ⟨rfl, INV_XT h⟩
  exact ⟨key.1, INV_scr h fx fm (by decide) (by decide) hX' hM' key.2⟩
