section
/-! the two fresh memories agree -/
theorem xm_z : ∀ k : Nat, k ∉ [19, 26, 37, 38, 39, 51, 90, 91, 92, 93] → ∀ i, xm0 k i = 0 := by
  intro k hk i
  simp only [List.mem_cons, List.not_mem_nil, or_false, not_or] at hk
  obtain ⟨a1, a2, a3, a4, a5, a6, a7, a8, a9, a10⟩ := hk
  unfold xm0
  rw [if_neg a1, if_neg a2, if_neg a3, if_neg a4, if_neg a5, if_neg a6, if_neg a7, if_neg a8, if_neg a9, if_neg a10]
theorem tm_z : ∀ k : Nat, k ∉ [3, 4, 12, 15, 20] → ∀ i, tm0 k i = 0 := by
  intro k hk i
  simp only [List.mem_cons, List.not_mem_nil, or_false, not_or] at hk
  obtain ⟨a1, a2, a3, a4, a5⟩ := hk
  unfold tm0
  rw [if_neg a1, if_neg a2, if_neg a3, if_neg a4, if_neg a5]
theorem row_e : rowm0 = mfill (mfill (mfill zm 37 272 (-1)) 38 272 (-1)) 39 16 (-1) := rfl
theorem row_37 (i : Int) : xm0 37 i = if 0 ≤ i ∧ i < 272 then -1 else 0 := by
  show rowm0 37 i = _
  rw [row_e, mfill_ne _ _ _ _ _ (by decide), mfill_ne _ _ _ _ _ (by decide), mfill_at]
  rfl
theorem row_38 (i : Int) : xm0 38 i = if 0 ≤ i ∧ i < 272 then -1 else 0 := by
  show rowm0 38 i = _
  rw [row_e, mfill_ne _ _ _ _ _ (by decide), mfill_at, mfill_ne _ _ _ _ _ (by decide)]
  rfl
theorem row_39 (i : Int) : xm0 39 i = if 0 ≤ i ∧ i < 16 then -1 else 0 := by
  show rowm0 39 i = _
  rw [row_e, mfill_at, mfill_ne _ _ _ _ _ (by decide), mfill_ne _ _ _ _ _ (by decide)]
  rfl
theorem xsm_rg {L : List Int} {lo hi : Int} (h : ∀ i : Nat, i < L.length → lo ≤ L.getD i 0 ∧ L.getD i 0 ≤ hi) (h0 : lo ≤ 0 ∧ 0 ≤ hi) (k : Nat) (i : Int) : lo ≤ xsm L k i ∧ xsm L k i ≤ hi := by
  unfold xsm
  split
  · by_cases q : i.toNat < L.length
    · exact h _ q
    · rw [List.getD_eq_getElem?_getD, List.getElem?_eq_none (by omega)]
      exact h0
  · exact h0
theorem xm_19 (i : Int) : xm0 19 i = xsm xL19 3 i := rfl
theorem xm_26 (i : Int) : xm0 26 i = xsm xL26 4 i := rfl
theorem xL19_rg : ∀ i : Nat, i < xL19.length → (-15 : Int) ≤ xL19.getD i 0 ∧ xL19.getD i 0 ≤ 9999 := by decide +kernel
theorem xL26_rg : ∀ i : Nat, i < xL26.length → (0 : Int) ≤ xL26.getD i 0 ∧ xL26.getD i 0 ≤ 160 := by decide +kernel
theorem neg4_rg : ∀ i : Nat, i < neg4.length → (-1 : Int) ≤ neg4.getD i 0 ∧ neg4.getD i 0 ≤ 2 := by decide +kernel
theorem xm0_R : gMR lgX xm0 := by
  have z : ∀ k i, -15 ≤ xm0 k i ∧ xm0 k i ≤ 9999 := by
    intro k i
    by_cases h : k ∉ [19, 26, 37, 38, 39, 51, 90, 91, 92, 93]
    · rw [xm_z k h]; omega
    · have h2 : k ∈ [19, 26, 37, 38, 39, 51, 90, 91, 92, 93] := Decidable.not_not.mp h
      simp only [List.mem_cons, List.not_mem_nil, or_false] at h2
      rcases h2 with rfl | rfl | rfl | rfl | rfl | rfl | rfl | rfl | rfl | rfl
      · exact xsm_rg xL19_rg (by omega) _ _
      · have := xsm_rg xL26_rg (by omega) 4 i
        rw [xm_26]; omega
      · rw [row_37]; split <;> omega
      · rw [row_38]; split <;> omega
      · rw [row_39]; split <;> omega
      · show -15 ≤ (1 : Int) ∧ (1 : Int) ≤ 9999; omega
      · show -15 ≤ (-1 : Int) ∧ (-1 : Int) ≤ 9999; omega
      · show -15 ≤ (-1 : Int) ∧ (-1 : Int) ≤ 9999; omega
      · show -15 ≤ (-1 : Int) ∧ (-1 : Int) ≤ 9999; omega
      · show -15 ≤ (-1 : Int) ∧ (-1 : Int) ≤ 9999; omega
  exact fun k i => ⟨fun _ => by have := z k i; omega, fun _ => by have := z k i; omega⟩
theorem xm_rg {k : Nat} {lo hi : Int} (hk : k ∉ [19, 26, 37, 38, 39, 51, 90, 91, 92, 93]) (h0 : lo ≤ 0 ∧ 0 ≤ hi) (i : Int) : lo ≤ xm0 k i ∧ xm0 k i ≤ hi := by
  rw [xm_z k hk]
  exact h0
theorem xm0_CD : CD xm0 := by
  intro t ht i
  by_cases h : t = 0
  · subst h
    exact xsm_rg xL19_rg (by omega) _ _
  · exact xm_rg (by simp only [List.mem_cons, List.not_mem_nil, or_false, not_or]; omega) (by omega) i
theorem xm0_BG : BG xm0 := by
  intro t ht i
  by_cases h : t = 0
  · subst h
    exact xsm_rg xL26_rg (by omega) _ _
  · exact xm_rg (by simp only [List.mem_cons, List.not_mem_nil, or_false, not_or]; omega) (by omega) i
theorem xm0_IX : IX xm0 := by
  refine ⟨xm0_R, xm0_CD, xm0_BG, xm_rg (by decide) (by omega), xm_rg (by decide) (by omega), xm_rg (by decide) (by omega), xm_rg (by decide) (by omega), xm_rg (by decide) (by omega), xm_rg (by decide) (by omega), xm_rg (by decide) (by omega), fun i => ?_, fun i => ?_, fun i => ?_⟩
  · rw [row_37]; split <;> omega
  · rw [row_38]; split <;> omega
  · rw [row_39]; split <;> omega
theorem xm0_XI : XI xm0 := by
  refine ⟨xm0_IX, fun i => ⟨by show (1 : Int) ≤ 1; omega, by show (1 : Int) ≤ 6; omega⟩, xm_rg (by decide) (by omega), xm_rg (by decide) (by omega), xm_rg (by decide) (by omega), xm_rg (by decide) (by omega), xm_rg (by decide) (by omega), xm_rg (by decide) (by omega), xm_rg (by decide) (by omega), xm_rg (by decide) (by omega), xm_rg (by decide) (by omega), xm_rg (by decide) (by omega), xm_rg (by decide) (by omega), xm_rg (by decide) (by omega), fun t ht i => ?_, fun t ht i => ?_, xm_rg (by decide) (by omega), xm_rg (by decide) (by omega), xm_rg (by decide) (by omega), xm_rg (by decide) (by omega), xm_rg (by decide) (by omega), ?_⟩
  · have h2 : t = 0 ∨ t = 1 ∨ t = 2 ∨ t = 3 := by omega
    rcases h2 with rfl | rfl | rfl | rfl
    · show -1 ≤ (-1 : Int) ∧ (-1 : Int) ≤ 2; omega
    · show -1 ≤ (-1 : Int) ∧ (-1 : Int) ≤ 2; omega
    · show -1 ≤ (-1 : Int) ∧ (-1 : Int) ≤ 2; omega
    · show -1 ≤ (-1 : Int) ∧ (-1 : Int) ≤ 2; omega
  · exact xm_rg (by simp only [List.mem_cons, List.not_mem_nil, or_false, not_or]; omega) (by omega) i
  · unfold TKW
    rw [xm_z 55 (by decide), xm_z 57 (by decide), xm_z 52 (by decide), xm_z 56 (by decide)]
    omega
/-- what is known of the memory behind the law's text -/
def TFq (T : gMem) : Prop := (fr [4, 5, 6, 7, 16, 17, 18, 19, 21, 22, 23, 24] tm0 T) ∧ (gMR lgM T) ∧ (VS0 T) ∧ (0 ≤ T 4 0 ∧ T 4 0 ≤ 160)
theorem TF_k {T : gMem} (q : TFq T) {k : Nat} (h : k ∉ [4, 5, 6, 7, 16, 17, 18, 19, 21, 22, 23, 24]) : T k = tm0 k := q.1 k h
theorem TF_z {T : gMem} (q : TFq T) {k : Nat} (h : k ∉ [3, 4, 5, 6, 7, 12, 15, 16, 17, 18, 19, 20, 21, 22, 23, 24]) (i : Int) : T k i = 0 := by
  simp only [List.mem_cons, List.not_mem_nil, or_false, not_or] at h
  rw [TF_k q (by simp only [List.mem_cons, List.not_mem_nil, or_false, not_or]; omega)]
  exact tm_z k (by simp only [List.mem_cons, List.not_mem_nil, or_false, not_or]; omega) i
theorem TF_rg {T : gMem} (q : TFq T) {k : Nat} {lo hi : Int} (h : k ∉ [3, 4, 5, 6, 7, 12, 15, 16, 17, 18, 19, 20, 21, 22, 23, 24]) (h0 : lo ≤ 0 ∧ 0 ≤ hi) (i : Int) : lo ≤ T k i ∧ T k i ≤ hi := by
  rw [TF_z q h]
  exact h0
/-- what the law's text leaves -/
def TFv (T : gMem) : Prop := T 4 0 = 0 ∧ T 7 0 = 1 ∧ T 6 0 = 0 ∧ T 6 1 = 1 ∧ T 6 2 = 2 ∧ T 6 3 = 3 ∧ T 5 0 = 100002 ∧ T 5 1 = 100003 ∧ T 5 2 = 100010
theorem TF_MI {T : gMem} (q : TFq T) (v : TFv T) : MI T := by
  obtain ⟨v1, v2, v3, v4, v5, v6, v7, v8, v9⟩ := v
  obtain ⟨p1, p2, p4, p5⟩ := id q
  have h8 : T 8 0 = 0 := TF_z q (by decide) 0
  refine ⟨⟨p2, ⟨by omega, by omega, by omega, by omega, p4.2.2.2.2⟩, TF_rg q (by decide) (by omega), TF_rg q (by decide) (by omega), fun i => ?_⟩, TF_rg q (by decide) (by omega), TF_rg q (by decide) (by omega), TF_rg q (by decide) (by omega), TF_rg q (by decide) (by omega), fun i => ?_, TF_rg q (by decide) (by omega), fun i => ?_, Or.inl (TF_z q (by decide) 0), p5⟩
  · rw [TF_z q (by decide)]; omega
  · rw [TF_k q (by decide)]
    exact xsm_rg neg4_rg (by omega) _ _
  · rw [TF_z q (by decide)]; omega
theorem TF_RL {T : gMem} (q : TFq T) (v : TFv T) : RLa xm0 T := by
  obtain ⟨v1, v2, v3, v4, v5, v6, v7, v8, v9⟩ := v
  refine ⟨fun p h1 h2 => ?_, ?_, ?_, ?_, fun k h1 h2 => ?_, ?_, fun k hk => ?_⟩
  · rw [xm_z 40 (by decide), xm_z 41 (by decide), TF_z q (by decide), TF_z q (by decide)]; exact ⟨rfl, rfl⟩
  · unfold RLto
    rw [xm_z 59 (by decide), xm_z 60 (by decide), xm_z 61 (by decide), xm_z 62 (by decide), TF_z q (by decide), TF_z q (by decide), TF_z q (by decide), TF_z q (by decide)]
    exact ⟨rfl, rfl, rfl, rfl⟩
  · refine ⟨?_, ?_⟩
    · rw [xm_z 63 (by decide), TF_z q (by decide)]
    · rw [v2]; rfl
  · refine ⟨?_, fun i h1 h2 => ?_⟩
    · rw [xm_z 52 (by decide), v1]
    · rw [v1] at h2; omega
  · rw [v2] at h2
    have hk : k = 0 := by omega
    subst hk
    refine ⟨fun j j1 j2 => ?_, fun i i1 i2 => ?_⟩
    · have e : j = 0 ∨ j = 1 ∨ j = 2 ∨ j = 3 := by omega
      rcases e with rfl | rfl | rfl | rfl
      · exact (show xm0 26 0 = 0 by decide).trans v3.symm
      · exact (show xm0 26 1 = 1 by decide).trans v4.symm
      · exact (show xm0 26 2 = 2 by decide).trans v5.symm
      · exact (show xm0 26 3 = 3 by decide).trans v6.symm
    · have e3 : T 6 (4 * ((0 : Nat) : Int) + 3) = 3 := v6
      rw [e3] at i2
      have e : i = 0 ∨ i = 1 ∨ i = 2 := by omega
      rcases e with rfl | rfl | rfl
      · show xm0 19 0 = mcd (T 5 0)
        rw [v7]; decide
      · show xm0 19 1 = mcd (T 5 1)
        rw [v8]; decide
      · show xm0 19 2 = mcd (T 5 2)
        rw [v9]; decide
  · unfold RLim
    rw [xm_z 50 (by decide), xm_z 79 (by decide), xm_z 75 (by decide), xm_z 76 (by decide), xm_z 77 (by decide), xm_z 78 (by decide), TF_z q (by decide), TF_z q (by decide), TF_z q (by decide), TF_z q (by decide), TF_z q (by decide), TF_z q (by decide)]
    refine ⟨rfl, rfl, fun p h1 h2 => ?_, rfl, rfl, rfl, rfl⟩
    rw [xm_z 45 (by decide), xm_z 46 (by decide), TF_z q (by decide), TF_z q (by decide)]
    exact ⟨rfl, rfl⟩
  · refine ⟨?_, ?_, fun i h1 h2 => ?_⟩
    · rw [TF_k q (by decide)]
      have h2 : k = 0 ∨ k = 1 ∨ k = 2 ∨ k = 3 := by omega
      rcases h2 with rfl | rfl | rfl | rfl <;> decide
    · rw [xm_z (94 + k) (by simp only [List.mem_cons, List.not_mem_nil, or_false, not_or]; omega), TF_z q (by decide)]
    · rw [xm_z (14 + k) (by simp only [List.mem_cons, List.not_mem_nil, or_false, not_or]; omega), TF_z q (by decide)]
theorem TF_INV {T : gMem} (q : TFq T) (v : TFv T) : INV xm0 T := by
  refine ⟨TF_RL q v, xm0_XI, TF_MI q v, fun p b h1 h2 h3 h4 => Or.inl ?_, fun p b h1 h2 h3 h4 => Or.inl ?_, fun p h1 h2 => Or.inl ?_⟩
  · rw [row_37, if_pos (by omega)]; decide
  · rw [row_38, if_pos (by omega)]; decide
  · rw [row_39, if_pos (by omega)]; decide
theorem wordL_k : ∀ i : Nat, i < 12 → ∀ k : Nat, k < 8 → wordL.getD (8 * i + k) 0 = if (k : Int) < xlen (ordW (i : Int)) then xch (ordW (i : Int)) (k : Int) else 32 := by decide +kernel
theorem TF_IW {T : gMem} (q : TFq T) : IW T := by
  intro i k h1 h2 h3 h4
  rw [TF_k q (by decide)]
  obtain ⟨i', rfl⟩ : ∃ n : Nat, i = n := ⟨i.toNat, by omega⟩
  obtain ⟨k', rfl⟩ : ∃ n : Nat, k = n := ⟨k.toNat, by omega⟩
  rw [← wordL_k i' (by omega) k' (by omega)]
  show xsm wordL 96 _ = _
  unfold xsm
  rw [if_pos (by omega)]
  congr 1
theorem TF_q : TFq (f_X9_text tm0).2 := by
  have h := f_X9_text_p0 tm0 tm0_R tm0_VS ⟨by decide, by decide⟩ (f_X9_text tm0).1 (f_X9_text tm0).2 (Prod.eta _).symm
  exact ⟨h.1, h.2.1, h.2.2.2.1, h.2.2.2.2⟩
end
