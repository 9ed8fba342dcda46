/-! tokens of a text: the words -/
theorem xlen_fin : ∀ i : Fin 12, 0 ≤ xlen (i.val : Int) ∧ xlen (i.val : Int) ≤ 6 := by decide +kernel
theorem xlen_w {i : Int} (h : 0 ≤ i ∧ i < 12) : 0 ≤ xlen i ∧ xlen i ≤ 6 := by
  have z := xlen_fin ⟨i.toNat, by omega⟩
  have e : ((i.toNat : Nat) : Int) = i := by omega
  simp only [e] at z
  exact z
def MWX (s : gMem) (i : Int) : Prop := xlen i = s 54 0 - s 56 0 ∧ ∀ k, 0 ≤ k → k < xlen i → s 33 (s 56 0 + k) = xch i k
theorem stands_l (s : gMem) (i : Int) : ∀ (n : Nat) (v : Int), 0 ≤ v → v ≤ xlen i → xlen i - v < n → (t_X3_stands_20 i s n v = 0 ↔ ¬ ∀ k, v ≤ k → k < xlen i → s 33 (s 56 0 + k) = xch i k) := by
  intro n
  induction n with
  | zero => intro v _ _ h; exfalso; omega
  | succ n ih =>
    intro v v0 v1 h
    rw [t_X3_stands_20_s]
    by_cases c : v < xlen i
    · rw [if_pos c]
      by_cases d : s 33 (s 56 0 + v) = xch i v
      · rw [if_pos d, ih (v + 1) (by omega) (by omega) (by omega)]
        constructor
        · intro z q
          exact z (fun k k0 k1 => q k (by omega) k1)
        · intro z q
          refine z (fun k k0 k1 => ?_)
          by_cases e : k = v
          · rw [e]; exact d
          · exact q k (by omega) k1
      · rw [if_neg d]
        exact ⟨fun _ q => d (q v (by omega) c), fun _ => rfl⟩
    · rw [if_neg c]
      exact ⟨fun z => by omega, fun z => absurd (fun k k0 k1 => by omega) z⟩
theorem stands_p {s : gMem} {i : Int} (hi : 0 ≤ i ∧ i < 12) : f_X3_stands i s = 0 ↔ ¬ MWX s i := by
  have hl := xlen_w hi
  unfold f_X3_stands MWX
  by_cases c : xlen i = s 54 0 - s 56 0
  · rw [if_pos c, stands_l s i 7 0 (by omega) (by omega) (by omega)]
    exact ⟨fun z q => z q.2, fun z q => z ⟨c, q⟩⟩
  · rw [if_neg c]
    exact ⟨fun _ q => c q.1, fun _ => rfl⟩
theorem word_id {i : Int} (h : 0 ≤ i ∧ i < 12) : f_X3_word i = i := by
  have z : ∀ a : Fin 12, f_X3_word (a.val : Int) = (a.val : Int) := by decide +kernel
  have q := z ⟨i.toNat, by omega⟩
  have e : ((i.toNat : Nat) : Int) = i := by omega
  simp only [e] at q
  exact q
/-- the class's number of the reference's word -/
def ordW (i : Int) : Int := if i < 3 then i else if i < 9 then i + 3 else i - 6
theorem ordW_rg {i : Int} (h : 0 ≤ i ∧ i < 12) : 0 ≤ ordW i ∧ ordW i < 12 := by
  unfold ordW
  split
  · omega
  · split <;> omega
/-- the reference's words -/
def IW (t : gMem) : Prop := ∀ i k : Int, 0 ≤ i → i < 12 → 0 ≤ k → k < 8 → t 20 (8 * i + k) = if k < xlen (ordW i) then xch (ordW i) k else 32
def MWM (t : gMem) (a b i : Int) : Prop := b - a ≤ 8 ∧ ∀ k, 0 ≤ k → k < 8 → t 20 (8 * i + k) = if a + k < b then t 3 (a + k) else 32
theorem wf26 (a b i : Int) (t : gMem) : ∀ (n : Nat) (f v : Int), 0 ≤ v → v ≤ 8 → 8 - v < n → ((w_X9_wordFrom_26 a b i t n f v).1 = 0 ↔ ¬ (¬ f = 0 ∧ ∀ k, v ≤ k → k < 8 → t 20 (8 * i + k) = if a + k < b then t 3 (a + k) else 32)) := by
  intro n
  induction n with
  | zero => intro f v _ _ h; exfalso; omega
  | succ n ih =>
    intro f v v0 v1 h
    rw [w_X9_wordFrom_26_s]
    by_cases c : v < 8
    · rw [if_pos c]
      by_cases d : f = 0
      · rw [if_pos d]
        exact ⟨fun _ q => q.1 d, fun _ => d⟩
      · rw [if_neg d, gl_v, gl_v, ih _ (v + 1) (by omega) (by omega) (by omega)]
        by_cases e : t 20 (8 * i + v) = if a + v < b then t 3 (a + v) else 32
        · rw [if_pos e]
          constructor
          · intro z q
            exact z ⟨by decide, fun k k0 k1 => q.2 k (by omega) k1⟩
          · intro z q
            refine z ⟨d, fun k k0 k1 => ?_⟩
            by_cases y : k = v
            · rw [y]; exact e
            · exact q.2 k (by omega) k1
        · rw [if_neg e]
          exact ⟨fun _ q => e (q.2 v (by omega) c), fun _ q => q.1 rfl⟩
    · rw [if_neg c]
      constructor
      · intro z q
        exact q.1 z
      · intro z
        exact Classical.byContradiction fun q => z ⟨q, fun k k0 k1 => by omega⟩
theorem wf_p (a b : Int) (t : gMem) : ∀ (n : Nat) (v : Int), 0 ≤ v → v ≤ 12 → 12 - v < n → ((t_X9_wordFrom_2 a b t n v = 12 ∧ ∀ i, v ≤ i → i < 12 → ¬ MWM t a b i) ∨ (v ≤ t_X9_wordFrom_2 a b t n v ∧ t_X9_wordFrom_2 a b t n v < 12 ∧ MWM t a b (t_X9_wordFrom_2 a b t n v))) := by
  intro n
  induction n with
  | zero => intro v _ _ h; exfalso; omega
  | succ n ih =>
    intro v v0 v1 h
    rw [t_X9_wordFrom_2_s]
    by_cases c : v < 12
    · rw [if_pos c, gl_v, gl2_v]
      have z := wf26 a b v t 9 (if 8 < b - a then 0 else 1) 0 (by omega) (by omega) (by omega)
      have hf : ¬ (if 8 < b - a then (0 : Int) else 1) = 0 ↔ b - a ≤ 8 := by
        by_cases y : 8 < b - a
        · rw [if_pos y]; exact ⟨fun q => absurd rfl q, fun q => by omega⟩
        · rw [if_neg y]; exact ⟨fun _ => by omega, fun _ => by decide⟩
      rw [hf] at z
      by_cases d : (w_X9_wordFrom_26 a b v t 9 (if 8 < b - a then 0 else 1) 0).1 = 0
      · rw [if_pos d]
        have nm : ¬ MWM t a b v := z.mp d
        rcases ih (v + 1) (by omega) (by omega) (by omega) with ⟨q1, q2⟩ | ⟨q1, q2, q3⟩
        · refine Or.inl ⟨q1, fun i i0 i1 => ?_⟩
          by_cases e : i = v
          · rw [e]; exact nm
          · exact q2 i (by omega) i1
        · exact Or.inr ⟨by omega, q2, q3⟩
      · rw [if_neg d]
        refine Or.inr ⟨by omega, c, ?_⟩
        exact Classical.byContradiction fun q => d (z.mpr q)
    · rw [if_neg c]
      exact Or.inl ⟨rfl, fun i i0 i1 => by omega⟩
theorem mw_two {s t : gMem} (h : TPR s t) (hW : IW t) (h56 : s 56 0 = t 17 0) (h17 : 0 ≤ t 17 0 ∧ t 17 0 ≤ t 16 0) (hl : ∀ i, t 17 0 ≤ i → i < t 16 0 → 97 ≤ t 3 i ∧ t 3 i ≤ 122) {i : Int} (hi : 0 ≤ i ∧ i < 12) : MWM t (t 17 0) (t 16 0) i ↔ MWX s (ordW i) := by
  obtain ⟨h1, h2, h3, h4⟩ := h
  have hx := xlen_w (ordW_rg hi)
  unfold MWM MWX
  rw [h1, h56]
  constructor
  · rintro ⟨a1, a2⟩
    have b1 : ∀ k, 0 ≤ k → k < 8 → (if k < xlen (ordW i) then xch (ordW i) k else 32) = if t 17 0 + k < t 16 0 then t 3 (t 17 0 + k) else 32 := fun k k0 k1 => by
      rw [← hW i k hi.1 hi.2 k0 k1]; exact a2 k k0 k1
    have le : ∀ k, 0 ≤ k → k < xlen (ordW i) → 97 ≤ xch (ordW i) k := fun k k0 k1 => by
      have z : ∀ a : Fin 12, ∀ b : Fin 6, (b.val : Int) < xlen (a.val : Int) → 97 ≤ xch (a.val : Int) (b.val : Int) := by decide +kernel
      have q := z ⟨(ordW i).toNat, by have := ordW_rg hi; omega⟩ ⟨k.toNat, by omega⟩
      have e1 : (((ordW i).toNat : Nat) : Int) = ordW i := by have := ordW_rg hi; omega
      have e2 : ((k.toNat : Nat) : Int) = k := by omega
      simp only [e1, e2] at q
      exact q k1
    have eq : xlen (ordW i) = t 16 0 - t 17 0 := by
      by_cases c : xlen (ordW i) < t 16 0 - t 17 0
      · exfalso
        have q := b1 (xlen (ordW i)) (by omega) (by omega)
        rw [if_neg (by omega), if_pos (by omega)] at q
        have := hl (t 17 0 + xlen (ordW i)) (by omega) (by omega)
        omega
      · by_cases d : t 16 0 - t 17 0 < xlen (ordW i)
        · exfalso
          have q := b1 (t 16 0 - t 17 0) (by omega) (by omega)
          rw [if_pos d, if_neg (by omega)] at q
          have := le (t 16 0 - t 17 0) (by omega) d
          omega
        · omega
    refine ⟨eq, fun k k0 k1 => ?_⟩
    have q := b1 k k0 (by omega)
    rw [if_pos k1, if_pos (by omega)] at q
    rw [h4 _ (by omega) (by omega)]
    exact q.symm
  · rintro ⟨a1, a2⟩
    refine ⟨by omega, fun k k0 k1 => ?_⟩
    rw [hW i k hi.1 hi.2 k0 k1]
    by_cases c : k < xlen (ordW i)
    · rw [if_pos c, if_pos (by omega), ← a2 k k0 c]
      exact h4 _ (by omega) (by omega)
    · rw [if_neg c, if_neg (by omega)]
