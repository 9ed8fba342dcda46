/-! stretches: both sides by one list -/
theorem in0 (x p : Int) : f_X9_isIn x p = 0 ↔ ¬ bitS x p := by
  unfold f_X9_isIn bitS
  split
  · rename_i h; exact ⟨fun q => absurd q (by decide), fun q => absurd h q⟩
  · rename_i h; exact ⟨fun _ => h, fun _ => rfl⟩
theorem has_in (x p : Int) : f_X8_has x p = f_X9_isIn x p := rfl
theorem has0 (x p : Int) : f_X8_has x p = 0 ↔ ¬ bitS x p := in0 x p
theorem sto0 (p : Int) (s : gMem) : f_X4_stops p s = 0 ↔ ¬ s 40 p = 4 := by
  unfold f_X4_stops
  split
  · rename_i h; exact ⟨fun q => absurd q (by decide), fun q => absurd h q⟩
  · rename_i h; exact ⟨fun _ => h, fun _ => rfl⟩
theorem dst0 (p : Int) (s : gMem) : f_X9_doesStop p s = 0 ↔ ¬ s 0 p = 4 := by
  unfold f_X9_doesStop
  split
  · rename_i h; exact ⟨fun q => absurd q (by decide), fun q => absurd h q⟩
  · rename_i h; exact ⟨fun _ => h, fun _ => rfl⟩
def lo (kd : Int → Int) (x : Int) : Nat → Int → Int
  | 0, v => v
  | n + 1, v => if v + 1 < 16 then (if f_X9_isIn x (v + 1) = 0 then (if kd (v + 1) = 4 then v else lo kd x n (v + 1)) else v) else v
def la (kd : Int → Int) (x p : Int) : Int := if kd p = 4 then p else lo kd x 17 p
theorem lo_p (kd : Int → Int) (x : Int) : ∀ (n : Nat) (v : Int), 0 ≤ v → v ≤ 15 → 15 - v < n → v ≤ lo kd x n v ∧ lo kd x n v ≤ 15 ∧ RUN kd x v (lo kd x n v) ∧ (lo kd x n v = 15 ∨ bitS x (lo kd x n v + 1) ∨ kd (lo kd x n v + 1) = 4) := by
  intro n
  induction n with
  | zero => intro v h0 h1 h2; exfalso; omega
  | succ n ih =>
    intro v h0 h1 h2
    unfold lo
    by_cases c1 : v + 1 < 16
    · rw [if_pos c1]
      by_cases c2 : f_X9_isIn x (v + 1) = 0
      · rw [if_pos c2]
        by_cases c3 : kd (v + 1) = 4
        · rw [if_pos c3]
          exact ⟨by omega, by omega, RUN_0 _ _ _, Or.inr (Or.inr c3)⟩
        · rw [if_neg c3]
          obtain ⟨a1, a2, a3, a4⟩ := ih (v + 1) (by omega) (by omega) (by omega)
          exact ⟨by omega, a2, RUN_c a3 ((in0 _ _).mp c2) c3, a4⟩
      · rw [if_neg c2]
        refine ⟨by omega, by omega, RUN_0 _ _ _, Or.inr (Or.inl ?_)⟩
        exact Classical.byContradiction fun q => c2 ((in0 _ _).mpr q)
    · rw [if_neg c1]
      exact ⟨by omega, by omega, RUN_0 _ _ _, Or.inl (by omega)⟩
theorem la_p (kd : Int → Int) (x : Int) {p : Int} (h0 : 0 ≤ p) (h1 : p ≤ 15) : p ≤ la kd x p ∧ la kd x p ≤ 15 ∧ RUN kd x p (la kd x p) ∧ (la kd x p = p ∨ ¬ kd p = 4) ∧ (kd p = 4 ∨ la kd x p = 15 ∨ bitS x (la kd x p + 1) ∨ kd (la kd x p + 1) = 4) := by
  unfold la
  by_cases c : kd p = 4
  · rw [if_pos c]; exact ⟨by omega, h1, RUN_0 _ _ _, Or.inl rfl, Or.inl c⟩
  · rw [if_neg c]
    obtain ⟨a1, a2, a3, a4⟩ := lo_p kd x 17 p h0 h1 (by omega)
    exact ⟨a1, a2, a3, Or.inr c, Or.inr a4⟩
theorem lo_cg {kd kd' : Int → Int} (x : Int) (h : ∀ q, 0 ≤ q → q < 16 → kd q = kd' q) : ∀ (n : Nat) (v : Int), 0 ≤ v → lo kd x n v = lo kd' x n v := by
  intro n
  induction n with
  | zero => intro v _; rfl
  | succ n ih =>
    intro v h0
    unfold lo
    by_cases c1 : v + 1 < 16
    · rw [if_pos c1, if_pos c1, h (v + 1) (by omega) c1, ih (v + 1) (by omega)]
    · rw [if_neg c1, if_neg c1]
theorem la_cg {kd kd' : Int → Int} (x : Int) (h : ∀ q, 0 ≤ q → q < 16 → kd q = kd' q) {p : Int} (h0 : 0 ≤ p) (h1 : p ≤ 15) : la kd x p = la kd' x p := by
  unfold la
  rw [h p h0 (by omega), lo_cg x h 17 p h0]
theorem BGN_cg {kd kd' : Int → Int} (x : Int) (h : ∀ q, 0 ≤ q → q < 16 → kd q = kd' q) {p : Int} (h0 : 0 ≤ p) (h1 : p ≤ 15) : BGN kd x p ↔ BGN kd' x p := by
  unfold BGN
  rw [h p h0 (by omega)]
  by_cases e : p = 0
  · simp [e]
  · rw [h (p - 1) (by omega) (by omega)]
theorem X_lo (x : Int) (s : gMem) : ∀ (n : Nat) (v : Int), w_X2_lastOf_13 x s n v = lo (s 40) x n v := by
  intro n
  induction n with
  | zero => intro v; rfl
  | succ n ih =>
    intro v
    rw [w_X2_lastOf_13_s]
    unfold lo
    rw [has_in, ih]
    by_cases c : s 40 (v + 1) = 4
    · rw [if_pos c, if_neg (fun q => (sto0 _ _).mp q c)]
    · rw [if_neg c, if_pos ((sto0 _ _).mpr c)]
theorem X_la0 (x p : Int) (s : gMem) : f_X2_lastOf p x s = la (s 40) x p := by
  rw [f_X2_lastOf_e]
  unfold la
  by_cases c : s 40 p = 4
  · rw [if_pos c, if_neg (fun q => (sto0 _ _).mp q c)]
  · rw [if_neg c, if_pos ((sto0 _ _).mpr c)]
    exact X_lo x s 17 p
theorem X_la {s t0 : gMem} (h : RLpl s t0) (x : Int) {p : Int} (h0 : 0 ≤ p) (h1 : p ≤ 15) : f_X2_lastOf p x s = la (t0 0) x p := by
  rw [X_la0]
  exact la_cg x (fun q a b => (h q a b).1) h0 h1
theorem X_bg {s t0 : gMem} (h : RLpl s t0) (hm : gMR lgX s) {x p : Int} (hx : in32 x) (h0 : 0 ≤ p) (h1 : p ≤ 15) : f_X2_begins p x s = 0 ↔ ¬ BGN (t0 0) x p := by
  have hq := (f_X2_begins_p p x s (by omega) hx hm ⟨h0, h1⟩).2
  rw [← BGN_cg x (fun q a b => (h q a b).1) h0 h1]
  rcases hq with ⟨a, b⟩ | ⟨a, b⟩
  · rw [a]; exact ⟨fun q => absurd q (by decide), fun q => absurd b q⟩
  · rw [a]; exact ⟨fun _ => b, fun _ => rfl⟩
theorem M_lo (x p : Int) (t : gMem) : ∀ (n : Nat) (v : Int), 0 ≤ v → w_X9_orders_31 x 0 p t n v = if t 0 p = 4 then v else lo (t 0) x n v := by
  intro n
  induction n with
  | zero =>
    intro v _
    by_cases c : t 0 p = 4
    · rw [if_pos c]; rfl
    · rw [if_neg c]; rfl
  | succ n ih =>
    intro v h0
    rw [w_X9_orders_31_s]
    by_cases c : t 0 p = 4
    · rw [if_pos c, if_neg (fun q => (dst0 _ _).mp q c)]
    · rw [if_neg c, if_pos ((dst0 _ _).mpr c)]
      unfold lo
      by_cases c1 : v + 1 < 16
      · rw [if_pos c1, if_pos c1]
        have e : f_X9_within (v + 1) 0 15 = v + 1 := by
          unfold f_X9_within
          rw [if_neg (by omega), if_neg (by omega)]
        rw [e]
        by_cases c2 : f_X9_isIn x (v + 1) = 0
        · rw [if_pos c2, if_pos c2]
          by_cases c3 : t 0 (v + 1) = 4
          · rw [if_pos c3, if_neg (fun q => (dst0 _ _).mp q c3)]
          · rw [if_neg c3, if_pos ((dst0 _ _).mpr c3), ih (v + 1) (by omega), if_neg c]
        · rw [if_neg c2, if_neg c2]
      · rw [if_neg c1, if_neg c1]
theorem M_lo2 (x y p : Int) (t : gMem) : ∀ (n : Nat) (v : Int), w_X9_orders_31 x y p t n v = w_X9_orders_31 x 0 p t n v := by
  intro n
  induction n with
  | zero => intro v; rfl
  | succ n ih => intro v; rw [w_X9_orders_31_s, w_X9_orders_31_s, ih]
theorem M_la (x y : Int) (t : gMem) {p : Int} (h0 : 0 ≤ p) : w_X9_orders_31 x y p t 17 p = la (t 0) x p := by
  rw [M_lo2, M_lo x p t 17 p h0]
  rfl
/-- the stretches from a place on, each by its first and last place -/
def stl (kd : Int → Int) (x : Int) : Nat → Int → List (Int × Int)
  | 0, _ => []
  | n + 1, p => if p < 16 then (if f_X9_isIn x p = 0 then (p, la kd x p) :: stl kd x n (la kd x p + 1) else stl kd x n (p + 1)) else []
theorem stl_ok (kd : Int → Int) (x : Int) : ∀ (n : Nat) (p : Int), 0 ≤ p → ∀ q ∈ stl kd x n p, p ≤ q.1 ∧ q.1 ≤ q.2 ∧ q.2 ≤ 15 ∧ RUN kd x q.1 q.2 ∧ ¬ bitS x q.1 := by
  intro n
  induction n with
  | zero => intro p _ q hq; cases hq
  | succ n ih =>
    intro p h0 q hq
    unfold stl at hq
    by_cases c : p < 16
    · rw [if_pos c] at hq
      have hl := la_p kd x h0 (by omega)
      by_cases c2 : f_X9_isIn x p = 0
      · rw [if_pos c2] at hq
        rcases List.mem_cons.mp hq with rfl | hq
        · exact ⟨by simp, hl.1, hl.2.1, hl.2.2.1, (in0 _ _).mp c2⟩
        · obtain ⟨a, b⟩ := ih _ (by omega) q hq
          exact ⟨by omega, b⟩
      · rw [if_neg c2] at hq
        obtain ⟨a, b⟩ := ih _ (by omega) q hq
        exact ⟨by omega, b⟩
    · rw [if_neg c] at hq
      cases hq
/-- a place at which what is left may begin -/
def BDY (kd : Int → Int) (x v : Int) : Prop := v = 0 ∨ bitS x (v - 1) ∨ kd (v - 1) = 4 ∨ (v < 16 → bitS x v ∨ kd v = 4)
theorem scan_stl {σ : Type} (kd : Int → Int) (x : Int) (F : Nat → Int → σ → σ) (step : σ → Int → Int → σ) (Inv : σ → Prop)
    (h0 : ∀ (n : Nat) (v : Int) (st : σ), 16 ≤ v → F (n + 1) v st = st)
    (h1 : ∀ (n : Nat) (v : Int) (st : σ), Inv st → 0 ≤ v → v ≤ 15 → ¬ BGN kd x v → F (n + 1) v st = F n (v + 1) st)
    (h2 : ∀ (n : Nat) (v : Int) (st : σ), Inv st → 0 ≤ v → v ≤ 15 → BGN kd x v → F (n + 1) v st = F n (v + 1) (step st v (la kd x v)))
    (h3 : ∀ (st : σ) (v : Int), Inv st → 0 ≤ v → v ≤ 15 → BGN kd x v → Inv (step st v (la kd x v))) :
    ∀ (m n N : Nat) (v : Int) (st : σ), Inv st → 0 ≤ v → BDY kd x v → 16 - v ≤ m → 16 - v < n → 0 < n → 16 - v < N → F n v st = (stl kd x N v).foldl (fun s q => step s q.1 q.2) st := by
  intro m
  induction m with
  | zero =>
    intro n N v st hI v0 hb a1 a2 a3 a4
    obtain ⟨n, rfl⟩ : ∃ k, n = k + 1 := ⟨n - 1, by omega⟩
    rw [h0 n v st (by omega)]
    cases N with
    | zero => rfl
    | succ N => unfold stl; rw [if_neg (by omega)]; rfl
  | succ m ih =>
    intro n N v st hI v0 hb a1 a2 a3 a4
    obtain ⟨n, rfl⟩ : ∃ k, n = k + 1 := ⟨n - 1, by omega⟩
    by_cases c : v < 16
    · obtain ⟨N, rfl⟩ : ∃ k, N = k + 1 := ⟨N - 1, by omega⟩
      unfold stl
      rw [if_pos c]
      by_cases c2 : f_X9_isIn x v = 0
      · rw [if_pos c2]
        have nb := (in0 _ _).mp c2
        have hB : BGN kd x v := ⟨nb, by
          rcases hb with hb | hb | hb | hb
          · exact Or.inl hb
          · exact Or.inr (Or.inl hb)
          · exact Or.inr (Or.inr (Or.inl hb))
          · rcases hb c with hb | hb
            · exact absurd hb nb
            · exact Or.inr (Or.inr (Or.inr hb))⟩
        obtain ⟨l1, l2, l3, l4, l5⟩ := la_p kd x v0 (by omega)
        rw [h2 n v st hI v0 (by omega) hB]
        have hI2 := h3 st v hI v0 (by omega) hB
        have skip : ∀ (d : Nat) (q : Int) (n : Nat), v < q → q + d = la kd x v + 1 → d ≤ n → F n q (step st v (la kd x v)) = F (n - d) (la kd x v + 1) (step st v (la kd x v)) := by
          intro d
          induction d with
          | zero =>
            intro q n _ hq _
            have e : q = la kd x v + 1 := by omega
            rw [e]; rfl
          | succ d ihd =>
            intro q n hv hq hn
            obtain ⟨n, rfl⟩ : ∃ k, n = k + 1 := ⟨n - 1, by omega⟩
            obtain ⟨r1, r2⟩ := l3 q hv (by omega)
            have nB : ¬ BGN kd x q := fun hz => by
              rcases hz.2 with hz | hz | hz | hz
              · omega
              · by_cases e : q - 1 = v
                · rw [e] at hz; exact nb hz
                · exact (l3 (q - 1) (by omega) (by omega)).1 hz
              · by_cases e : q - 1 = v
                · rw [e] at hz
                  rcases l4 with l4 | l4
                  · omega
                  · exact l4 hz
                · exact (l3 (q - 1) (by omega) (by omega)).2 hz
              · exact r2 hz
            rw [h1 n q _ hI2 (by omega) (by omega) nB, ihd (q + 1) n (by omega) (by omega) (by omega)]
            congr 1
            omega
        rw [skip (la kd x v - v).toNat (v + 1) n (by omega) (by omega) (by omega)]
        have hb2 : BDY kd x (la kd x v + 1) := by
          have e : la kd x v + 1 - 1 = la kd x v := by omega
          unfold BDY
          rw [e]
          rcases l5 with l5 | l5 | l5 | l5
          · rcases l4 with l4 | l4
            · rw [l4]; exact Or.inr (Or.inr (Or.inl l5))
            · exact absurd l5 l4
          · exact Or.inr (Or.inr (Or.inr (fun z => by omega)))
          · exact Or.inr (Or.inr (Or.inr (fun _ => Or.inl l5)))
          · exact Or.inr (Or.inr (Or.inr (fun _ => Or.inr l5)))
        rw [ih _ N (la kd x v + 1) _ hI2 (by omega) hb2 (by omega) (by omega) (by omega) (by omega)]
        rfl
      · rw [if_neg c2]
        have hbv : bitS x v := Classical.byContradiction fun q => c2 ((in0 _ _).mpr q)
        rw [h1 n v st hI v0 (by omega) (fun z => z.1 hbv)]
        exact ih n N (v + 1) st hI (by omega) (Or.inr (Or.inl (by rw [show v + 1 - 1 = v by omega]; exact hbv))) (by omega) (by omega) (by omega) (by omega)
    · rw [h0 n v st (by omega)]
      cases N with
      | zero => rfl
      | succ N => unfold stl; rw [if_neg c]; rfl
/-- the reference puts a stretch -/
def up (w f l i : Int) : Int := if w = 0 then f + i else if w = 1 then l - i else if i % 2 = 1 then (f + l) / 2 + (i + 1) / 2 else (f + l) / 2 - i / 2
theorem up_rg {w f l i : Int} (h0 : 0 ≤ i) (h1 : i ≤ l - f) : f ≤ up w f l i ∧ up w f l i ≤ l := by
  unfold up
  repeat' split
  all_goals omega
theorem ps_loop (f l w n0 : Int) : ∀ (n : Nat) (v : Int) (t : gMem), 0 ≤ v → v ≤ n0 → n0 - v < n → fr [27, 28, 30] t (w_X9_putsStretch_83 f l w n0 ((f + l) / 2) n v t).2 ∧ (w_X9_putsStretch_83 f l w n0 ((f + l) / 2) n v t).2 30 0 = t 30 0 + (n0 - v) ∧ ∀ j : Int, (w_X9_putsStretch_83 f l w n0 ((f + l) / 2) n v t).2 27 j = (if t 30 0 ≤ j ∧ j < t 30 0 + (n0 - v) then up w f l (v + (j - t 30 0)) else t 27 j) ∧ (w_X9_putsStretch_83 f l w n0 ((f + l) / 2) n v t).2 28 j = (if t 30 0 ≤ j ∧ j < t 30 0 + (n0 - v) then v + (j - t 30 0) else t 28 j) := by
  intro n
  induction n with
  | zero => intro v t h0 h1 h2; exfalso; omega
  | succ n ih =>
    intro v t h0 h1 h2
    rw [w_X9_putsStretch_83_s]
    by_cases c : v < n0
    · rw [if_pos c]
      obtain ⟨U, hU⟩ : ∃ U, U = (if w = 0 then (f + v) else (if w = 1 then (l - v) else (if (v % 2) = 1 then ((f + l) / 2 + ((v + 1) / 2)) else ((f + l) / 2 - (v / 2))))) := ⟨_, rfl⟩
      have hU2 : U = up w f l v := hU
      rw [← hU]
      simp only [gl, gb, f_X9_puts_]
      obtain ⟨T, hT⟩ : ∃ T, T = mset (mset (mset t 27 (t 30 0) U) 28 ((mset t 27 (t 30 0) U) 30 0) v) 30 0 ((mset (mset t 27 (t 30 0) U) 28 ((mset t 27 (t 30 0) U) 30 0) v) 30 0 + 1) := ⟨_, rfl⟩
      rw [← hT]
      have T30 : T 30 0 = t 30 0 + 1 := by rw [hT]; simp [mset]
      have T27 : ∀ j : Int, T 27 j = if j = t 30 0 then U else t 27 j := fun j => by rw [hT]; simp [mset]
      have T28 : ∀ j : Int, T 28 j = if j = t 30 0 then v else t 28 j := fun j => by rw [hT]; simp [mset]
      have fT : fr [27, 28, 30] t T := by rw [hT]; exact (((fr.rf _ t).set (by decide)).set (by decide)).set (by decide)
      obtain ⟨a1, a2, a3⟩ := ih (v + 1) T (by omega) (by omega) (by omega)
      refine ⟨fT.call (fun k hk => hk) a1, by omega, fun j => ?_⟩
      obtain ⟨b1, b2⟩ := a3 j
      rw [b1, b2, T30, T27, T28]
      by_cases e : j = t 30 0
      · have q1 : ¬ (t 30 0 + 1 ≤ j ∧ j < t 30 0 + 1 + (n0 - (v + 1))) := by omega
        have q2 : t 30 0 ≤ j ∧ j < t 30 0 + (n0 - v) := by omega
        have q3 : v + (j - t 30 0) = v := by omega
        rw [if_neg q1, if_neg q1, if_pos q2, if_pos q2, if_pos e, if_pos e, q3, hU2]
        exact ⟨rfl, rfl⟩
      · rw [if_neg e, if_neg e]
        by_cases q : t 30 0 ≤ j ∧ j < t 30 0 + (n0 - v)
        · have q1 : t 30 0 + 1 ≤ j ∧ j < t 30 0 + 1 + (n0 - (v + 1)) := by omega
          have q3 : v + 1 + (j - (t 30 0 + 1)) = v + (j - t 30 0) := by omega
          rw [if_pos q1, if_pos q1, if_pos q, if_pos q, q3]
          exact ⟨rfl, rfl⟩
        · have q1 : ¬ (t 30 0 + 1 ≤ j ∧ j < t 30 0 + 1 + (n0 - (v + 1))) := by omega
          rw [if_neg q1, if_neg q1, if_neg q, if_neg q]
          exact ⟨rfl, rfl⟩
    · rw [if_neg c]
      have e : v = n0 := by omega
      subst e
      refine ⟨fr.rf _ _, (show t 30 0 = t 30 0 + (v - v) by omega), fun j => ?_⟩
      have q1 : ¬ (t 30 0 ≤ j ∧ j < t 30 0 + (v - v)) := by omega
      rw [if_neg q1, if_neg q1]
      exact ⟨rfl, rfl⟩
theorem ps_M (f l w : Int) (t : gMem) (h : f ≤ l) (h2 : l - f ≤ 15) : ∃ T, T = (f_X9_putsStretch f l w t).2 ∧ fr [27, 28, 29, 30, 31, 32, 33] t T ∧ T 30 0 = t 30 0 + (l - f + 1) ∧ T 31 0 = t 31 0 + 1 ∧ T 32 0 = (if t 32 0 < l - f + 1 then l - f + 1 else t 32 0) ∧ T 33 0 = (if t 32 0 < l - f + 1 then f else t 33 0) ∧ (∀ j, T 29 j = if j = t 31 0 then t 30 0 else t 29 j) ∧ ∀ j : Int, T 27 j = (if t 30 0 ≤ j ∧ j < t 30 0 + (l - f + 1) then up w f l (j - t 30 0) else t 27 j) ∧ T 28 j = (if t 30 0 ≤ j ∧ j < t 30 0 + (l - f + 1) then (j - t 30 0) else t 28 j) := by
  refine ⟨_, rfl, ?_⟩
  unfold f_X9_putsStretch
  simp only [gl, gl2]
  obtain ⟨T, hT⟩ : ∃ T, T = mset (mset (mset (mset t 29 (t 31 0) (t 30 0)) 31 0 ((mset t 29 (t 31 0) (t 30 0)) 31 0 + 1)) 33 0 (if (mset (mset t 29 (t 31 0) (t 30 0)) 31 0 ((mset t 29 (t 31 0) (t 30 0)) 31 0 + 1)) 32 0 < l - f + 1 then f else (mset (mset t 29 (t 31 0) (t 30 0)) 31 0 ((mset t 29 (t 31 0) (t 30 0)) 31 0 + 1)) 33 0)) 32 0 (if (mset (mset (mset t 29 (t 31 0) (t 30 0)) 31 0 ((mset t 29 (t 31 0) (t 30 0)) 31 0 + 1)) 33 0 (if (mset (mset t 29 (t 31 0) (t 30 0)) 31 0 ((mset t 29 (t 31 0) (t 30 0)) 31 0 + 1)) 32 0 < l - f + 1 then f else (mset (mset t 29 (t 31 0) (t 30 0)) 31 0 ((mset t 29 (t 31 0) (t 30 0)) 31 0 + 1)) 33 0)) 32 0 < l - f + 1 then l - f + 1 else (mset (mset (mset t 29 (t 31 0) (t 30 0)) 31 0 ((mset t 29 (t 31 0) (t 30 0)) 31 0 + 1)) 33 0 (if (mset (mset t 29 (t 31 0) (t 30 0)) 31 0 ((mset t 29 (t 31 0) (t 30 0)) 31 0 + 1)) 32 0 < l - f + 1 then f else (mset (mset t 29 (t 31 0) (t 30 0)) 31 0 ((mset t 29 (t 31 0) (t 30 0)) 31 0 + 1)) 33 0)) 32 0) := ⟨_, rfl⟩
  rw [← hT]
  have fT : fr [29, 31, 32, 33] t T := by rw [hT]; exact ((((fr.rf _ t).set (by decide)).set (by decide)).set (by decide)).set (by decide)
  have T31 : T 31 0 = t 31 0 + 1 := by rw [hT]; simp [mset]
  have T32 : T 32 0 = (if t 32 0 < l - f + 1 then l - f + 1 else t 32 0) := by rw [hT]; simp [mset]
  have T33 : T 33 0 = (if t 32 0 < l - f + 1 then f else t 33 0) := by rw [hT]; simp [mset]
  have T29 : ∀ j, T 29 j = if j = t 31 0 then t 30 0 else t 29 j := fun j => by rw [hT]; simp [mset]
  have T30 : T 30 0 = t 30 0 := by rw [fT 30 (by decide)]
  have T27 : T 27 = t 27 := fT 27 (by decide)
  have T28 : T 28 = t 28 := fT 28 (by decide)
  obtain ⟨a1, a2, a3⟩ := ps_loop f l w (l - f + 1) 17 0 T (by omega) (by omega) (by omega)
  refine ⟨(fT.mono (by decide)).call (by decide) a1, by omega, by rw [a1 31 (by decide)]; exact T31, by rw [a1 32 (by decide)]; exact T32, by rw [a1 33 (by decide)]; exact T33, fun j => by rw [a1 29 (by decide)]; exact T29 j, fun j => ?_⟩
  obtain ⟨b1, b2⟩ := a3 j
  have e1 : l - f + 1 - 0 = l - f + 1 := by omega
  have e2 : 0 + (j - t 30 0) = j - t 30 0 := by omega
  rw [T30, e1, e2, T27] at b1
  rw [T30, e1, e2, T28] at b2
  exact ⟨b1, b2⟩
