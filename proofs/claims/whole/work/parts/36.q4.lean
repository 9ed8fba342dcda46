/-! the order of places; stretch -/
def tot : List (Int × Int) → Int
  | [] => 0
  | q :: L => (q.2 - q.1 + 1) + tot L
def lok (L : List (Int × Int)) : Prop := ∀ q ∈ L, 0 ≤ q.1 ∧ q.1 ≤ q.2 ∧ q.2 ≤ 15
theorem stl_lok (kd : Int → Int) (x : Int) (n : Nat) {p : Int} (h : 0 ≤ p) : lok (stl kd x n p) := fun q hq => by
  obtain ⟨a, b, c, -, -⟩ := stl_ok kd x n p h q hq
  exact ⟨by omega, b, c⟩
theorem tot_nn : ∀ {L : List (Int × Int)}, lok L → 0 ≤ tot L ∧ (L.length : Int) ≤ tot L
  | [], _ => ⟨by simp [tot], by simp [tot]⟩
  | q :: L, h => by
    have h1 := h q List.mem_cons_self
    have h2 := tot_nn (L := L) (fun r hr => h r (List.mem_cons_of_mem _ hr))
    simp only [tot, List.length_cons]
    omega
theorem tot_app : ∀ (L M : List (Int × Int)), tot (L ++ M) = tot L + tot M
  | [], M => by simp [tot]
  | q :: L, M => by simp only [List.cons_append, tot, tot_app L M]; omega
def ordv (w : Int) : List (Int × Int) → Int → Int × Int
  | [], _ => (0, 0)
  | q :: L, i => if i < q.2 - q.1 + 1 then (up w q.1 q.2 i, i) else ordv w L (i - (q.2 - q.1 + 1))
theorem ordv_app (w : Int) (q : Int × Int) : ∀ (L : List (Int × Int)) (i : Int), lok L → 0 ≤ i → i < tot L + (q.2 - q.1 + 1) → ordv w (L ++ [q]) i = if i < tot L then ordv w L i else (up w q.1 q.2 (i - tot L), i - tot L)
  | [], i, _, h0, h1 => by
    have e0 : tot ([] : List (Int × Int)) = 0 := rfl
    have e1 : ordv w ([] ++ [q]) i = if i < q.2 - q.1 + 1 then (up w q.1 q.2 i, i) else (0, 0) := rfl
    rw [e0] at h1
    rw [e1, if_pos (by omega), e0, if_neg (by omega), Int.sub_zero]
  | r :: L, i, hl, h0, h1 => by
    have hr := hl r List.mem_cons_self
    have hl2 : lok L := fun z hz => hl z (List.mem_cons_of_mem _ hz)
    have ht := tot_nn hl2
    have et : tot (r :: L) = (r.2 - r.1 + 1) + tot L := rfl
    have e1 : ordv w ((r :: L) ++ [q]) i = if i < r.2 - r.1 + 1 then (up w r.1 r.2 i, i) else ordv w (L ++ [q]) (i - (r.2 - r.1 + 1)) := rfl
    have e2 : ordv w (r :: L) i = if i < r.2 - r.1 + 1 then (up w r.1 r.2 i, i) else ordv w L (i - (r.2 - r.1 + 1)) := rfl
    rw [et] at h1
    rw [e1, e2, et]
    by_cases c : i < r.2 - r.1 + 1
    · rw [if_pos c, if_pos (show i < r.2 - r.1 + 1 + tot L by omega), if_pos c]
    · rw [if_neg c, if_neg c, ordv_app w q L (i - (r.2 - r.1 + 1)) hl2 (by omega) (by omega)]
      by_cases c2 : i - (r.2 - r.1 + 1) < tot L
      · rw [if_pos c2, if_pos (show i < r.2 - r.1 + 1 + tot L by omega)]
      · rw [if_neg c2, if_neg (show ¬ i < r.2 - r.1 + 1 + tot L by omega)]
        have e : i - (r.2 - r.1 + 1) - tot L = i - (r.2 - r.1 + 1 + tot L) := by omega
        rw [e]
theorem ordv_at (w : Int) : ∀ (L : List (Int × Int)) (k : Nat) (q : Int × Int) (j : Int), lok L → L[k]? = some q → 0 ≤ j → j ≤ q.2 - q.1 → ordv w L (tot (L.take k) + j) = (up w q.1 q.2 j, j) ∧ 0 ≤ tot (L.take k) ∧ tot (L.take k) + (q.2 - q.1 + 1) ≤ tot L ∧ (k + 1 < L.length → tot (L.take (k + 1)) = tot (L.take k) + (q.2 - q.1 + 1)) ∧ (k + 1 = L.length → tot L = tot (L.take k) + (q.2 - q.1 + 1))
  | [], k, q, j, _, h, _, _ => by simp at h
  | r :: L, 0, q, j, hl, h, h0, h1 => by
    simp only [List.getElem?_cons_zero, Option.some.injEq] at h
    subst h
    have hl2 : lok L := fun z hz => hl z (List.mem_cons_of_mem _ hz)
    have ht := tot_nn hl2
    simp only [List.take_zero, tot, ordv, List.take_succ_cons, List.length_cons]
    have e : (0 : Int) + j = j := by omega
    rw [e, if_pos (by omega)]
    refine ⟨rfl, by omega, by omega, fun _ => by omega, fun z => ?_⟩
    have e2 : L = [] := List.eq_nil_of_length_eq_zero (by omega)
    subst e2
    simp [tot]
  | r :: L, k + 1, q, j, hl, h, h0, h1 => by
    have hr := hl r List.mem_cons_self
    have hl2 : lok L := fun z hz => hl z (List.mem_cons_of_mem _ hz)
    simp only [List.getElem?_cons_succ] at h
    obtain ⟨a1, a2, a3, a4, a5⟩ := ordv_at w L k q j hl2 h h0 h1
    simp only [List.take_succ_cons, tot, ordv, List.length_cons]
    have e : r.2 - r.1 + 1 + tot (L.take k) + j - (r.2 - r.1 + 1) = tot (L.take k) + j := by omega
    rw [if_neg (by omega), e]
    exact ⟨a1, by omega, by omega, fun z => by have := a4 (by omega); omega, fun z => by have := a5 (by omega); omega⟩
/-- the reference's order, behind the stretches L -/
def ORD (w : Int) (L : List (Int × Int)) (t : gMem) : Prop := t 30 0 = tot L ∧ t 31 0 = L.length ∧ (∀ k : Nat, k < L.length → t 29 k = tot (L.take k)) ∧ ∀ i : Int, 0 ≤ i → i < tot L → t 27 i = (ordv w L i).1 ∧ t 28 i = (ordv w L i).2
theorem ORD_step {w f l : Int} {L : List (Int × Int)} {t : gMem} (h : ORD w L t) (hl : lok L) (h1 : f ≤ l) (h2 : l - f ≤ 15) : ORD w (L ++ [(f, l)]) (f_X9_putsStretch f l w t).2 := by
  obtain ⟨T, hT, hf, a30, a31, a32, a33, a29, a27⟩ := ps_M f l w t h1 h2
  rw [← hT]
  obtain ⟨o1, o2, o3, o4⟩ := h
  have ht := tot_nn hl
  have e1 : tot (L ++ [(f, l)]) = tot L + (l - f + 1) := by rw [tot_app]; simp [tot]
  refine ⟨by rw [e1]; omega, by rw [List.length_append]; simp; omega, fun k hk => ?_, fun i i0 i1 => ?_⟩
  · rw [a29, o2]
    rw [List.length_append] at hk
    simp at hk
    by_cases c : k = L.length
    · subst c
      rw [if_pos rfl, List.take_left' rfl, o1]
    · rw [if_neg (by omega), List.take_append_of_le_length (by omega)]
      exact o3 k (by omega)
  · rw [e1] at i1
    rw [ordv_app w (f, l) L i hl i0 i1, (a27 i).1, (a27 i).2, o1]
    by_cases c : i < tot L
    · rw [if_pos c, if_neg (by omega), if_neg (by omega)]
      exact o4 i i0 c
    · rw [if_neg c, if_pos (by omega), if_pos (by omega)]
      exact ⟨rfl, rfl⟩
def mstep (r : Int × Int × Int) (a b : Int) : Int × Int × Int := (if r.1 < b - a + 1 then b - a + 1 else r.1, if r.1 < b - a + 1 then a else r.2.1, r.2.2 + 1)
theorem ORD_fold (w : Int) : ∀ (M L : List (Int × Int)) (t : gMem), ORD w L t → lok L → lok M → ORD w (L ++ M) (M.foldl (fun t q => (f_X9_putsStretch q.1 q.2 w t).2) t) ∧ fr [27, 28, 29, 30, 31, 32, 33] t (M.foldl (fun t q => (f_X9_putsStretch q.1 q.2 w t).2) t) ∧ ((M.foldl (fun t q => (f_X9_putsStretch q.1 q.2 w t).2) t) 32 0, (M.foldl (fun t q => (f_X9_putsStretch q.1 q.2 w t).2) t) 33 0, (M.foldl (fun t q => (f_X9_putsStretch q.1 q.2 w t).2) t) 31 0) = M.foldl (fun r q => mstep r q.1 q.2) (t 32 0, t 33 0, t 31 0)
  | [], L, t, h, _, _ => by
    rw [List.append_nil]
    exact ⟨h, fr.rf _ _, rfl⟩
  | q :: M, L, t, h, hl, hm => by
    obtain ⟨q0, q1, q2⟩ := hm q List.mem_cons_self
    obtain ⟨T, hT, hf, a30, a31, a32, a33, a29, a27⟩ := ps_M q.1 q.2 w t q1 (by omega)
    have h2 := ORD_step h hl q1 (by omega : q.2 - q.1 ≤ 15)
    have hl2 : lok (L ++ [q]) := fun z hz => by
      rcases List.mem_append.mp hz with hz | hz
      · exact hl z hz
      · rw [List.mem_singleton.mp hz]; exact ⟨q0, q1, q2⟩
    obtain ⟨b1, b2, b3⟩ := ORD_fold w M (L ++ [q]) _ h2 hl2 (fun z hz => hm z (List.mem_cons_of_mem _ hz))
    simp only [List.foldl_cons]
    rw [List.append_assoc] at b1
    rw [← hT] at b1 b2 b3 ⊢
    refine ⟨b1, hf.call (fun _ hk => hk) b2, ?_⟩
    rw [b3, a32, a33, a31]
    rfl
theorem M_orders_loop (x w : Int) : ∀ (n : Nat) (v : Int) (t : gMem), 0 ≤ v → (w_X9_orders_22 x w n v t).2 = (stl (t 0) x n v).foldl (fun t q => (f_X9_putsStretch q.1 q.2 w t).2) t := by
  intro n
  induction n with
  | zero => intro v t _; rfl
  | succ n ih =>
    intro v t h0
    rw [w_X9_orders_22_s]
    unfold stl
    by_cases c : v < 16
    · rw [if_pos c, if_pos c]
      simp only [gl, gb]
      rw [M_la x w t h0]
      obtain ⟨l1, l2, l3, l4, l5⟩ := la_p (t 0) x h0 (by omega)
      by_cases c2 : f_X9_isIn x v = 0
      · rw [if_pos c2, if_pos c2, ih _ _ (by omega), List.foldl_cons]
        obtain ⟨T, hT, hf, -⟩ := ps_M v (la (t 0) x v) w t l1 (by omega)
        rw [← hT, hf 0 (by decide)]
      · rw [if_neg c2, if_neg c2, ih _ _ (by omega)]
    · rw [if_neg c, if_neg c]
      rfl
theorem orders_M (x w : Int) (t : gMem) : ∃ T, f_X9_orders x w t = (0, T) ∧ fr [27, 28, 29, 30, 31, 32, 33] t T ∧ ORD w (stl (t 0) x 17 0) T ∧ (T 32 0, T 33 0, T 31 0) = (stl (t 0) x 17 0).foldl (fun r q => mstep r q.1 q.2) (0, -1, 0) := by
  obtain ⟨U, hU⟩ : ∃ U, U = mset (mset (mset (mset t 30 0 0) 31 0 0) 32 0 0) 33 0 (-1) := ⟨_, rfl⟩
  have e0 : f_X9_orders x w t = (0, (w_X9_orders_22 x w 17 0 U).2) := by rw [hU]; rfl
  have fU : fr [30, 31, 32, 33] t U := by rw [hU]; exact ((((fr.rf _ t).set (by decide)).set (by decide)).set (by decide)).set (by decide)
  have u30 : U 30 0 = 0 := by rw [hU]; simp [mset]
  have u31 : U 31 0 = 0 := by rw [hU]; simp [mset]
  have u32 : U 32 0 = 0 := by rw [hU]; simp [mset]
  have u33 : U 33 0 = -1 := by rw [hU]; simp [mset]
  have hO : ORD w [] U := ⟨by rw [u30]; rfl, by rw [u31]; rfl, fun k hk => absurd hk (by simp), fun i i0 i1 => absurd i1 (by simp [tot]; omega)⟩
  obtain ⟨b1, b2, b3⟩ := ORD_fold w (stl (t 0) x 17 0) [] U hO (fun z hz => by cases hz) (stl_lok _ _ _ (by omega))
  refine ⟨_, e0, ?_, ?_, ?_⟩
  · rw [M_orders_loop x w 17 0 U (by omega), fU 0 (by decide)]
    exact (fU.mono (by decide)).call (fun _ hk => hk) b2
  · rw [M_orders_loop x w 17 0 U (by omega), fU 0 (by decide)]
    exact b1
  · rw [M_orders_loop x w 17 0 U (by omega), fU 0 (by decide), b3, u32, u33, u31]
theorem X_bg0 (x p : Int) (s : gMem) : f_X2_begins p x s = 0 ↔ ¬ BGN (s 40) x p := by
  unfold f_X2_begins BGN
  simp only [gj]
  by_cases a : f_X8_has x p = 0
  · rw [if_pos a]
    have a' := (has0 _ _).mp a
    by_cases b : p = 0
    · rw [if_pos b]
      exact ⟨fun q => absurd q (by decide), fun q => absurd ⟨a', Or.inl b⟩ q⟩
    · rw [if_neg b]
      by_cases c : f_X8_has x (p - 1) = 0
      · rw [if_pos c]
        have c' := (has0 _ _).mp c
        by_cases d : f_X4_stops (p - 1) s = 0
        · rw [if_pos d]
          have d' := (sto0 _ _).mp d
          by_cases e : f_X4_stops p s = 0
          · rw [if_pos e]
            have e' := (sto0 _ _).mp e
            refine ⟨fun _ q => ?_, fun _ => rfl⟩
            rcases q.2 with q | q | q | q
            · exact b q
            · exact c' q
            · exact d' q
            · exact e' q
          · rw [if_neg e]
            exact ⟨fun q => absurd q (by decide), fun q => absurd ⟨a', Or.inr (Or.inr (Or.inr (Classical.byContradiction fun z => e ((sto0 _ _).mpr z))))⟩ q⟩
        · rw [if_neg d]
          exact ⟨fun q => absurd q (by decide), fun q => absurd ⟨a', Or.inr (Or.inr (Or.inl (Classical.byContradiction fun z => d ((sto0 _ _).mpr z))))⟩ q⟩
      · rw [if_neg c]
        exact ⟨fun q => absurd q (by decide), fun q => absurd ⟨a', Or.inr (Or.inl (Classical.byContradiction fun z => c ((has0 _ _).mpr z)))⟩ q⟩
  · rw [if_neg a]
    exact ⟨fun _ q => a ((has0 _ _).mpr q.1), fun _ => rfl⟩
theorem X_bgR {s t0 : gMem} (h : RLpl s t0) {x p : Int} (h0 : 0 ≤ p) (h1 : p ≤ 15) : f_X2_begins p x s = 0 ↔ ¬ BGN (t0 0) x p := by
  rw [X_bg0, BGN_cg x (fun q a b => (h q a b).1) h0 h1]
def stX (s : gMem) (a l : Int) : gMem := if (mset s 67 0 (s 67 0 + 1)) 65 0 < l - a + 1 then mset (mset (mset s 67 0 (s 67 0 + 1)) 65 0 (l - a + 1)) 66 0 a else mset s 67 0 (s 67 0 + 1)
theorem stX_p (s : gMem) (a l : Int) : fr [65, 66, 67] s (stX s a l) ∧ ((stX s a l) 65 0, (stX s a l) 66 0, (stX s a l) 67 0) = mstep (s 65 0, s 66 0, s 67 0) a l := by
  unfold stX mstep
  have e : (mset s 67 0 (s 67 0 + 1)) 65 0 = s 65 0 := by simp [mset]
  rw [e]
  by_cases c : s 65 0 < l - a + 1
  · rw [if_pos c]
    refine ⟨(((fr.rf _ s).set (by decide)).set (by decide)).set (by decide), ?_⟩
    simp only [if_pos c]
    simp [mset]
  · rw [if_neg c]
    refine ⟨(fr.rf _ s).set (by decide), ?_⟩
    simp only [if_neg c]
    simp [mset]
theorem stX_fold : ∀ (L : List (Int × Int)) (s : gMem), fr [65, 66, 67] s (L.foldl (fun s q => stX s q.1 q.2) s) ∧ ((L.foldl (fun s q => stX s q.1 q.2) s) 65 0, (L.foldl (fun s q => stX s q.1 q.2) s) 66 0, (L.foldl (fun s q => stX s q.1 q.2) s) 67 0) = L.foldl (fun r q => mstep r q.1 q.2) (s 65 0, s 66 0, s 67 0)
  | [], s => ⟨fr.rf _ _, rfl⟩
  | q :: L, s => by
    obtain ⟨a1, a2⟩ := stX_p s q.1 q.2
    obtain ⟨b1, b2⟩ := stX_fold L (stX s q.1 q.2)
    simp only [List.foldl_cons]
    exact ⟨a1.call (fun _ hk => hk) b1, by rw [b2, a2]⟩
theorem BDY_0 (kd : Int → Int) (x : Int) : BDY kd x 0 := Or.inl rfl
theorem measure_X {s t0 : gMem} (h : RLpl s t0) (x : Int) : ∃ S, f_X2_measure x s = (0, S) ∧ fr [65, 66, 67] s S ∧ (S 65 0, S 66 0, S 67 0) = (stl (t0 0) x 17 0).foldl (fun r q => mstep r q.1 q.2) (0, -1, 0) := by
  obtain ⟨U, hU⟩ : ∃ U, U = mset (mset (mset s 65 0 0) 66 0 (-1)) 67 0 0 := ⟨_, rfl⟩
  have e0 : f_X2_measure x s = (0, (w_X2_measure_17 x 17 0 U).2) := by rw [hU]; rfl
  have fU : fr [65, 66, 67] s U := by rw [hU]; exact (((fr.rf _ s).set (by decide)).set (by decide)).set (by decide)
  have hR : RLpl U t0 := RLpl_fr h (frK fU (by decide)) (fun _ _ => rfl)
  have hs := scan_stl (t0 0) x (fun n v st => (w_X2_measure_17 x n v st).2) stX (fun st => RLpl st t0)
    (fun n v st hv => by
      show (w_X2_measure_17 x (n + 1) v st).2 = st
      rw [w_X2_measure_17_s, if_neg (by omega)])
    (fun n v st hI v0 v1 hb => by
      show (w_X2_measure_17 x (n + 1) v st).2 = (w_X2_measure_17 x n (v + 1) st).2
      rw [w_X2_measure_17_s, if_pos (by omega), if_pos ((X_bgR hI v0 v1).mpr hb)])
    (fun n v st hI v0 v1 hb => by
      show (w_X2_measure_17 x (n + 1) v st).2 = (w_X2_measure_17 x n (v + 1) (stX st v (la (t0 0) x v))).2
      rw [w_X2_measure_17_s, if_pos (by omega), if_neg (fun q => (X_bgR hI v0 v1).mp q hb), X_la hI x v0 v1]
      simp only [gl]
      unfold stX
      by_cases c : (mset st 67 0 (st 67 0 + 1)) 65 0 < la (t0 0) x v - v + 1
      · rw [if_pos c, if_pos c]
      · rw [if_neg c, if_neg c])
    (fun st v hI v0 v1 hb => RLpl_fr hI (frK (stX_p st v _).1 (by decide)) (fun _ _ => rfl))
    16 17 17 0 U hR (by omega) (BDY_0 _ _) (by omega) (by omega) (by omega) (by omega)
  obtain ⟨b1, b2⟩ := stX_fold (stl (t0 0) x 17 0) U
  have u65 : U 65 0 = 0 := by rw [hU]; simp [mset]
  have u66 : U 66 0 = -1 := by rw [hU]; simp [mset]
  have u67 : U 67 0 = 0 := by rw [hU]; simp [mset]
  rw [u65, u66, u67] at b2
  refine ⟨_, e0, ?_, ?_⟩
  · rw [show (w_X2_measure_17 x 17 0 U).2 = _ from hs]
    exact fU.call (fun _ hk => hk) b1
  · rw [show (w_X2_measure_17 x 17 0 U).2 = _ from hs]
    exact b2
theorem out0 (x m : Int) : f_X8_outside x m = 0 ↔ 0 ≤ x ∧ x < m := by
  unfold f_X8_outside
  simp only [gj]
  by_cases a : x < 0
  · rw [if_pos a]; exact ⟨fun q => absurd q (by decide), fun q => by omega⟩
  · rw [if_neg a]
    by_cases b : x < m
    · rw [if_pos b]; exact ⟨fun _ => ⟨by omega, b⟩, fun _ => rfl⟩
    · rw [if_neg b]; exact ⟨fun q => absurd q (by decide), fun q => by omega⟩
theorem inr0 (x a b : Int) : f_X9_in x a b = 0 ↔ x < a ∨ b < x := by
  unfold f_X9_in
  by_cases h : x < a
  · rw [if_pos h]; exact ⟨fun _ => Or.inl h, fun _ => rfl⟩
  · rw [if_neg h]
    by_cases h2 : b < x
    · rw [if_pos h2]; exact ⟨fun _ => Or.inr h2, fun _ => rfl⟩
    · rw [if_neg h2]; exact ⟨fun q => absurd q (by decide), fun q => by omega⟩
theorem eq_stretch {s t : gMem} (h : RLpl s t) (x w : Int) : (f_X8_stretch x w s).1 = (f_X9_stretch x w t).1 := by
  unfold f_X8_stretch f_X9_stretch
  obtain ⟨T, eT, -, -, mT⟩ := orders_M x 0 t
  obtain ⟨S, eS, -, mS⟩ := measure_X h x
  rw [eT, eS]
  simp only [gb]
  rw [← mS] at mT
  obtain ⟨q1, q2⟩ := Prod.mk.inj mT
  obtain ⟨q2, q3⟩ := Prod.mk.inj q2
  by_cases a : f_X8_outside x 65536 = 0
  · have a' := (out0 _ _).mp a
    have n : ¬ f_X9_in x 0 65535 = 0 := fun q => by have := (inr0 _ _ _).mp q; omega
    rw [if_pos a, if_neg n]
    by_cases b : f_X9_in w 0 2 = 0
    · have b' := (inr0 _ _ _).mp b
      rw [if_pos b, if_neg (by omega), if_neg (by omega), if_neg (by omega)]
    · have b' : ¬ (w < 0 ∨ 2 < w) := fun q => b ((inr0 _ _ _).mpr q)
      rw [if_neg b]
      by_cases c0 : w = 0
      · rw [if_pos c0, if_pos c0]; exact q1.symm
      · rw [if_neg c0, if_neg c0]
        by_cases c1 : w = 1
        · rw [if_pos c1, if_pos c1]; exact q2.symm
        · rw [if_neg c1, if_neg c1, if_pos (by omega)]; exact q3.symm
  · have a' : ¬ (0 ≤ x ∧ x < 65536) := fun q => a ((out0 _ _).mpr q)
    have n : f_X9_in x 0 65535 = 0 := (inr0 _ _ _).mpr (by omega)
    rw [if_neg a, if_pos n]
